theorem nums_l {T : Nat → Int} {n : Nat} {S : ab_M} {cl r k : Nat} {a : Nat → Int} {p : Nat} {f : Int × Nat} (h : pa_n1 T n (pa_lo cl k) (pa_hi S cl k (a 0)) (pa_ag S cl k (a 0)) p = .inl f) : pa_nums T n S cl (r + 1) k a p = .inl f := by rw [nums_s, h]
theorem nums_r {T : Nat → Int} {n : Nat} {S : ab_M} {cl r k : Nat} {a : Nat → Int} {p : Nat} {z : Int × Nat} (h : pa_n1 T n (pa_lo cl k) (pa_hi S cl k (a 0)) (pa_ag S cl k (a 0)) p = .inr z) : pa_nums T n S cl (r + 1) k a p = pa_nums T n S cl r (k + 1) (pu_u a k z.1) z.2 := by rw [nums_s, h]
theorem dg_dig {T : Nat → Int} {n b : Nat} (hb : b < n) (hd : pb_dig T b) : b < pa_dg T n b := by
  have e := dg_e T n b
  rw [if_pos ⟨hb, hd⟩] at e
  have := (dg_rg T n (b + 1)).1
  omega
theorem dg_no {T : Nat → Int} {n b : Nat} (h : ¬ (b < n ∧ pb_dig T b)) : pa_dg T n b = b := by
  rw [dg_e, if_neg (show ¬ (b < n ∧ (48 ≤ T b ∧ T b ≤ 57)) from h)]
theorem s114 {d t : Nat} {M : ab_M} (hd : 1 ≤ d) (hS : pu_str t M) (f : Int) : ab_ev d 114 [.inr (.inr 103), .inl f] M (some (.inl 0)) (ab_w M 103 24 f) ∧ pu_str t (ab_w M 103 24 f) := ⟨ev_wp (b114_0 hd hS ⟨rfl, rfl⟩), str_w hS rfl⟩
theorem s116 {d t n p : Nat} {T : Nat → Int} {M : ab_M} (hd : 2 ≤ d) (hS : pu_str t M) (hpn : p ≤ n) (hl : pb_la T n (pa_sk T n p) M) (lo hi : Int) (hh : hi < 1000000) :
    ∃ M' r, ab_ev d 116 [.inr (.inr 103), .inl lo, .inl hi] M (some (.inl r)) M' ∧ pu_str t M' ∧ (∀ c f : Nat, ¬ (c = 103 ∧ f = 24) → M' c f = M c f) ∧
      ((r = 0 ∧ ∃ c, M' 103 24 = c ∧ ∀ ag, pa_n1 T n lo hi ag p = .inl (c, pa_sk T n p)) ∨ (r = 1 ∧ M' = M ∧ ∃ (v : Int) (e : Nat), M 103 22 = v ∧ M 103 20 = (e : Int) ∧ (lo ≤ v ∧ v ≤ hi) ∧ e ≤ n ∧ p < e ∧ ∀ ag, pa_n1 T n lo hi ag p = if ag v = true then .inl (4, pa_sk T n p) else .inr (v, e))) := by
  obtain ⟨b, eb⟩ : ∃ b : Nat, pa_sk T n p = b := ⟨_, rfl⟩
  have sg := sk_rg T n p
  rw [eb] at hl sg ⊢
  obtain ⟨l1, l2, l3, l4, l5⟩ := hl
  have dr := dg_rg T n b
  have bad : ∀ c : Int, (∀ ag, pa_n1 T n lo hi ag p = .inl (c, b)) → (∃ M' r, some (Sum.inl 0) = some (Sum.inl r : ab_V) ∧ M' = ab_w M 103 24 c ∧ pu_str t M' ∧ (∀ c f : Nat, ¬ (c = 103 ∧ f = 24) → M' c f = M c f) ∧ ((r = 0 ∧ ∃ c, M' 103 24 = c ∧ ∀ ag, pa_n1 T n lo hi ag p = .inl (c, b)))) := fun c h => ⟨ab_w M 103 24 c, 0, rfl, rfl, str_w hS rfl, fun c f q => w_ne q, rfl, c, ab_w_eq _ _ _ _, h⟩
  have w : ab_wp d 116 0 (ab_ent [.inr (.inr 103), .inl lo, .inl hi] (ab_mx 116)) [] M (fun r' M' => ∃ r, r' = some (.inl r) ∧ pu_str t M' ∧ (∀ c f : Nat, ¬ (c = 103 ∧ f = 24) → M' c f = M c f) ∧
      ((r = 0 ∧ ∃ c, M' 103 24 = c ∧ ∀ ag, pa_n1 T n lo hi ag p = .inl (c, b)) ∨ (r = 1 ∧ M' = M ∧ ∃ (v : Int) (e : Nat), M 103 22 = v ∧ M 103 20 = (e : Int) ∧ (lo ≤ v ∧ v ≤ hi) ∧ e ≤ n ∧ p < e ∧ ∀ ag, pa_n1 T n lo hi ag p = if ag v = true then .inl (4, b) else .inr (v, e)))) := by
    by_cases c : b < n ∧ pb_dig T b
    · obtain ⟨k1, k2, k3⟩ := l4 c.1 c.2
      have gt := dg_dig c.1 c.2
      refine b116_0 (by omega) hS ⟨fun q => absurd k1 q, fun _ => ⟨_, _, s107 (by omega) hS _ lo hi, hS, fun q => ?_, fun q => ?_⟩⟩
      · have q : lo ≤ M 103 22 ∧ M 103 22 ≤ hi := by
          apply Classical.byContradiction
          intro z
          rw [if_neg z] at q
          exact q rfl
        have n3 : ¬ 3 < pa_dg T n b - b := by
          intro z
          rw [if_pos z] at k2
          omega
        rw [if_neg n3] at k2
        refine ⟨1, rfl, hS, fun _ _ _ => rfl, Or.inr ⟨rfl, rfl, _, _, rfl, k3, q, dr.2 (by omega), by omega, fun ag => ?_⟩⟩
        unfold pa_n1
        rw [eb, if_neg (by omega), if_neg (by omega), ← k2]
      · have q : ¬ (lo ≤ M 103 22 ∧ M 103 22 ≤ hi) := by
          intro z
          rw [if_pos z] at q
          exact absurd q (by decide)
        obtain ⟨e1, e2⟩ := s114 (d := d - 1) (by omega) hS 2
        refine ⟨_, _, e1, e2, fun _ => ⟨0, rfl, e2, fun c f q => w_ne q, Or.inl ⟨rfl, 2, ab_w_eq _ _ _ _, fun ag => ?_⟩⟩, fun z => absurd rfl z⟩
        unfold pa_n1
        rw [eb, if_neg (by omega)]
        by_cases n3 : 3 < pa_dg T n b - b
        · rw [if_pos (Or.inl n3)]
        · rw [if_neg n3] at k2
          rw [if_pos (by omega)]
    · have e0 := dg_no c
      have ntok : M 103 21 ≠ 2 := by
        by_cases cn : b = n
        · have := l3 cn
          omega
        · have := (l5 (by omega) (fun z => c ⟨by omega, z⟩)).1
          omega
      obtain ⟨e1, e2⟩ := s114 (d := d - 1) (by omega) hS 1
      refine b116_0 (by omega) hS ⟨fun _ => ⟨_, _, e1, e2, Or.inl rfl, 0, rfl, e2, fun c f q => w_ne q, Or.inl ⟨rfl, 1, ab_w_eq _ _ _ _, fun ag => ?_⟩⟩, fun q => absurd q ntok⟩
      unfold pa_n1
      rw [eb, if_pos e0]
  obtain ⟨r', M', e, r, rfl, h1, h2, h3⟩ := wp_ev w
  exact ⟨M', r, e, h1, h2, h3⟩
theorem tx_f {T : Nat → Int} {n : Nat} {M M' : ab_M} (h : pb_tx T n M) (e1 : M' 103 1 = M 103 1) (e2 : ∀ i, M' 104 i = M 104 i) : pb_tx T n M' := ⟨h.1, e1.trans h.2.1, fun i hi => by rw [e2]; exact h.2.2 i hi⟩
theorem s117 {d t n e : Nat} {T : Nat → Int} {M : ab_M} (hd : 3 ≤ d) (hS : pu_str t M) (ht : pb_tx T n M) (he : M 103 20 = (e : Int)) (hen : e ≤ n) : ∃ M', ab_ev d 117 [.inr (.inr 103)] M (some (.inl (M 103 22))) M' ∧ pu_str t M' ∧ pb_fr M M' ∧ pb_la T n (pa_sk T n e) M' := by
  obtain ⟨M', e1, h1, h2, h3⟩ := s113 (d := d - 1) (by omega) hS ht he hen
  exact ⟨M', ev_wp (b117_0 (by omega) hS ⟨M', e1, h1, rfl, rfl⟩), h1, h2, h3⟩
theorem s115 {d t n b : Nat} {T : Nat → Int} {M : ab_M} (hd : 3 ≤ d) (hS : pu_str t M) (ht : pb_tx T n M) (hl : pb_la T n b M) (c : Int) (hc : c = 59 ∨ c = 116) :
    ∃ M' r, ab_ev d 115 [.inr (.inr 103), .inl c] M (some (.inl r)) M' ∧ pu_str t M' ∧ (∀ k f : Nat, ¬ (k = 103 ∧ 20 ≤ f ∧ f ≤ 24) → M' k f = M k f) ∧ ((r = 1 ∧ b < n ∧ T b = c ∧ pb_la T n (pa_sk T n (b + 1)) M') ∨ (r = 0 ∧ ¬ (b < n ∧ T b = c) ∧ M' 103 24 = 1 ∧ M' 103 23 = (b : Int))) := by
  obtain ⟨l1, l2, l3, l4, l5⟩ := id hl
  obtain ⟨e1, e2⟩ := s114 (d := d - 1) (by omega) hS 1
  have bad : ¬ (b < n ∧ T b = c) → (∀ k f : Nat, ¬ (k = 103 ∧ 20 ≤ f ∧ f ≤ 24) → ab_w M 103 24 1 k f = M k f) ∧ (((0 : Int) = 1 ∧ b < n ∧ T b = c ∧ pb_la T n (pa_sk T n (b + 1)) (ab_w M 103 24 1)) ∨ ((0 : Int) = 0 ∧ ¬ (b < n ∧ T b = c) ∧ ab_w M 103 24 1 103 24 = 1 ∧ ab_w M 103 24 1 103 23 = (b : Int))) := fun q => ⟨fun k f z => w_ne (by omega), Or.inr ⟨rfl, q, ab_w_eq _ _ _ _, by rw [w_ne (by omega)]; exact l1⟩⟩
  have w : ab_wp d 115 0 (ab_ent [.inr (.inr 103), .inl c] (ab_mx 115)) [] M (fun r' M' => ∃ r, r' = some (.inl r) ∧ pu_str t M' ∧ (∀ k f : Nat, ¬ (k = 103 ∧ 20 ≤ f ∧ f ≤ 24) → M' k f = M k f) ∧ ((r = 1 ∧ b < n ∧ T b = c ∧ pb_la T n (pa_sk T n (b + 1)) M') ∨ (r = 0 ∧ ¬ (b < n ∧ T b = c) ∧ M' 103 24 = 1 ∧ M' 103 23 = (b : Int)))) := by
    by_cases cb : b < n ∧ ¬ pb_dig T b
    · obtain ⟨k1, k2, k3⟩ := l5 cb.1 cb.2
      refine b115_0 (by omega) hS ⟨fun q => absurd k1 q, fun _ => ⟨fun q => ?_, fun q => ⟨_, _, e1, e2, Or.inl rfl, 0, rfl, e2, bad (fun z => q (by omega))⟩⟩⟩
      obtain ⟨M', g1, g2, g3, g4⟩ := s113 (d := d - 1) (by omega) hS ht (p := b + 1) (by rw [k3, Int.natCast_succ]) (by omega)
      exact ⟨M', g1, g2, 1, rfl, g2, fun k f z => g3 k f (by omega), Or.inl ⟨rfl, cb.1, by omega, g4⟩⟩
    · have ntok : M 103 21 ≠ 1 := by
        by_cases cn : b = n
        · have := l3 cn
          omega
        · have := (l4 (by omega) (by
            apply Classical.byContradiction
            intro z
            exact cb ⟨by omega, z⟩)).1
          omega
      refine b115_0 (by omega) hS ⟨fun _ => ⟨_, _, e1, e2, Or.inl rfl, 0, rfl, e2, bad (fun z => cb ⟨z.1, fun y => ?_⟩)⟩, fun q => absurd q ntok⟩
      have := y.1
      have := y.2
      have := z.2
      omega
  obtain ⟨r', M', e, r, rfl, h1, h2, h3⟩ := wp_ev w
  exact ⟨M', r, e, h1, h2, h3⟩
def pb_rm (S M : ab_M) : Prop :=
  (M 103 25 = S 0 0 ∧ (S 0 7 = 1 → M 103 26 = S 0 1) ∧ M 103 28 = S 0 5 ∧ M 103 30 = S 0 2 ∧ M 103 32 = S 0 3 ∧ M 103 34 = S 0 6 ∧ M 103 36 = S 0 4)
  ∧ (∀ k : Nat, k < 49 → M 115 k = if S 1 k = -1 then 0 else S 1 k)
  ∧ (∀ p : Nat, (p : Int) < S 0 2 → M 116 (2 * p) = S 2 p ∧ M 116 (2 * p + 1) = S 3 p)
  ∧ (∀ i : Nat, (i : Int) < S 0 3 → M 117 (5 * i) = S 4 (5 * i) ∧ M 117 (5 * i + 1) = S 4 (5 * i + 1) ∧ M 117 (5 * i + 2) = S 4 (5 * i + 2) ∧ M 117 (5 * i + 3) = S 4 (5 * i + 3) ∧ M 117 (5 * i + 4) = S 4 (5 * i + 4))
  ∧ (∀ k : Nat, k < 36 → M 118 k = S 5 k)
  ∧ (∀ o : Nat, (o : Int) < S 0 4 → M 119 o = S 6 o)
theorem rm_fr {S M M' : ab_M} (h : pb_rm S M) (e : ∀ f : Nat, 25 ≤ f → M' 103 f = M 103 f) (e2 : ∀ c f : Nat, 115 ≤ c → c ≤ 119 → M' c f = M c f) : pb_rm S M' := by
  obtain ⟨h0, h1, h2, h3, h4, h5⟩ := h
  refine ⟨?_, fun k hk => ?_, fun p hp => ?_, fun i hi => ?_, fun k hk => ?_, fun o ho => ?_⟩
  · rw [e 25 (by omega), e 26 (by omega), e 28 (by omega), e 30 (by omega), e 32 (by omega), e 34 (by omega), e 36 (by omega)]
    exact h0
  · rw [e2 _ _ (by omega) (by omega)]; exact h1 k hk
  · rw [e2 _ _ (by omega) (by omega), e2 _ _ (by omega) (by omega)]; exact h2 p hp
  · rw [e2 _ _ (by omega) (by omega), e2 _ _ (by omega) (by omega), e2 _ _ (by omega) (by omega), e2 _ _ (by omega) (by omega), e2 _ _ (by omega) (by omega)]; exact h3 i hi
  · rw [e2 _ _ (by omega) (by omega)]; exact h4 k hk
  · rw [e2 _ _ (by omega) (by omega)]; exact h5 o ho
/-- nothing but what reading changes -/
def pb_fm (M M' : ab_M) : Prop := ∀ c f : Nat, ¬ (c = 103 ∧ 20 ≤ f ∧ f ≤ 36) → ¬ (115 ≤ c ∧ c ≤ 119) → M' c f = M c f
def pb_o (T : Nat → Int) (n : Nat) (z : (Int × Nat) ⊕ (ab_M × Nat)) (r : Int) (M' : ab_M) : Prop := match z with
  | .inl e => r = 0 ∧ M' 103 24 = e.1 ∧ M' 103 23 = ((e.2 : Nat) : Int)
  | .inr y => r = 1 ∧ pb_rm y.1 M' ∧ pb_la T n y.2 M'
