def pa_fm (u : Nat) (M0 M : ab_M) : Prop := ∀ c f : Nat, ¬ (c = 1 ∧ (f = 1 ∨ f = 2)) → c ≠ 3 → c ≠ 4 → ¬ (u ≤ c ∧ c ≤ u + 31) → M c f = M0 c f
def pa_cn (S M : ab_M) (kk : Nat) : Prop := M 3 0 = S 0 7 ∧ M 3 1 = S 0 5 ∧ M 3 2 = S 0 2 ∧ M 3 3 = S 0 3 ∧ (0 ≤ M 3 4 ∧ M 3 4 ≤ (kk : Int)) ∧ M 3 5 = S 0 6 ∧ M 3 6 = S 0 4
theorem cn_tk {S M M' : ab_M} {kk cl : Nat} {a : Nat → Int} (h : pa_cn S M kk) (hc : cl ≤ 6) (hf : ¬ pa_fl S cl = true) (e : ∀ j : Nat, M' 3 j = if j = cl then M 3 cl + 1 else M 3 j) : pa_cn (pa_tk S cl a) M' (kk + 1) := by
  obtain ⟨c0, c1, c2, c3, c4, c5, c6⟩ := h
  have e0 := e 0
  have e1 := e 1
  have e2 := e 2
  have e3 := e 3
  have e4 := e 4
  have e5 := e 5
  have e6 := e 6
  have cs : cl = 0 ∨ cl = 1 ∨ cl = 2 ∨ cl = 3 ∨ cl = 4 ∨ cl = 5 ∨ cl = 6 := by omega
  rcases cs with rfl | rfl | rfl | rfl | rfl | rfl | rfl
  · have f : S 0 7 = 0 := by
      apply Classical.byContradiction
      intro q
      exact hf (decide_eq_true q)
    rw [tk_0]
    unfold pa_cn
    simp (discharger := omega) only [w_ne, ab_w_eq]
    simp at e0 e1 e2 e3 e4 e5 e6
    omega
  · rw [tk_1]
    unfold pa_cn
    simp (discharger := omega) only [w_ne, ab_w_eq]
    simp at e0 e1 e2 e3 e4 e5 e6
    omega
  · rw [tk_2]
    unfold pa_cn
    simp (discharger := omega) only [w_ne, ab_w_eq]
    simp at e0 e1 e2 e3 e4 e5 e6
    omega
  · rw [tk_3]
    unfold pa_cn
    simp (discharger := omega) only [w_ne, ab_w_eq]
    simp at e0 e1 e2 e3 e4 e5 e6
    omega
  · rw [tk_4]
    unfold pa_cn
    simp (discharger := omega) only [w_ne]
    simp at e0 e1 e2 e3 e4 e5 e6
    omega
  · rw [tk_5]
    unfold pa_cn
    simp (discharger := omega) only [w_ne, ab_w_eq]
    simp at e0 e1 e2 e3 e4 e5 e6
    omega
  · rw [tk_6]
    unfold pa_cn
    simp (discharger := omega) only [w_ne, ab_w_eq]
    simp at e0 e1 e2 e3 e4 e5 e6
    omega
theorem cn_fl {S M : ab_M} {kk cl : Nat} (h : pa_cn S M kk) (hk : kk < 250) (hc : cl ≤ 6) (ho : pa_ok S) : (M 3 cl < (ab_stt 1002).getD cl 0 ↔ ¬ pa_fl S cl = true) ∧ (0 ≤ M 3 cl ∧ M 3 cl ≤ 250) := by
  obtain ⟨c0, c1, c2, c3, c4, c5, c6⟩ := h
  obtain ⟨o0, o2, o3, o4, o5, o6, o7, _⟩ := ho
  have cs : cl = 0 ∨ cl = 1 ∨ cl = 2 ∨ cl = 3 ∨ cl = 4 ∨ cl = 5 ∨ cl = 6 := by omega
  rcases cs with rfl | rfl | rfl | rfl | rfl | rfl | rfl
  · refine ⟨?_, by omega⟩
    show M 3 0 < 1 ↔ ¬ decide (S 0 7 ≠ 0) = true
    rw [decide_eq_true_eq]; omega
  · refine ⟨?_, by omega⟩
    show M 3 1 < 10 ↔ ¬ decide (10 ≤ S 0 5) = true
    rw [decide_eq_true_eq]; omega
  · refine ⟨?_, by omega⟩
    show M 3 2 < 6 ↔ ¬ decide (6 ≤ S 0 2) = true
    rw [decide_eq_true_eq]; omega
  · refine ⟨?_, by omega⟩
    show M 3 3 < 6 ↔ ¬ decide (6 ≤ S 0 3) = true
    rw [decide_eq_true_eq]; omega
  · refine ⟨?_, by omega⟩
    show M 3 4 < 250 ↔ ¬ false = true
    simp; omega
  · refine ⟨?_, by omega⟩
    show M 3 5 < 12 ↔ ¬ decide (12 ≤ S 0 6) = true
    rw [decide_eq_true_eq]; omega
  · refine ⟨?_, by omega⟩
    show M 3 6 < 4 ↔ ¬ decide (4 ≤ S 0 4) = true
    rw [decide_eq_true_eq]; omega
def pa_o28 (u kk : Nat) (z : (Int × Nat) ⊕ (ab_M × Nat)) (M M' : ab_M) : Prop := pa_fm u M M' ∧ (match z with
  | .inl e => M' 1 2 = e.1 ∧ M' 1 1 = ((e.2 : Nat) : Int)
  | .inr y => M' 1 2 = 0 ∧ M' 1 1 = ((y.2 : Nat) : Int) ∧ pa_rc u y.1 M' ∧ pa_cn y.1 M' (kk + 1))
theorem s29 {d t u n : Nat} {T : Nat → Int} {S M M1 : ab_M} {a : Nat → Int} {cl kk p : Nat} (hd : 4 ≤ d) (hS : pu_str t M1) (hu : pu_T u) (ht : pa_tx T n M1) (hr : pa_rc u S M1) (h : pa_ok S) (hc : cl ≤ 6) (hf : ¬ pa_fl S cl = true) (hv : ∀ j, j < pa_nn cl → pa_lo cl j ≤ a j ∧ a j ≤ pa_hi S cl j (a 0) ∧ pa_ag S cl j (a 0) (a j) = false) (hm : ∀ j, j < pa_nn cl → M1 4 j = a j)
    (hcn : pa_cn S M kk) (e3 : ∀ j : Nat, M1 3 j = if j = cl then M 3 cl + 1 else M 3 j) (fr : pa_fm u M M1) (hp : M1 1 1 = (p : Int)) (hpn : p ≤ n) (h12 : M1 1 2 = 0) :
    ∃ M', ab_ev d 29 [.inr (.inr 1), .inr (.inr u), .inl (cl : Int)] M1 none M' ∧ pu_str t M' ∧ pa_o28 u kk (if pa_sk T n p < n ∧ T (pa_sk T n p) = 59 then .inr (pa_tk S cl a, pa_sk T n (pa_sk T n p + 1)) else .inl (1, pa_sk T n p)) M M' := by
  have hu' : u = 5 ∨ u = 37 := hu
  obtain ⟨n5, h0, hT⟩ := id ht
  obtain ⟨F, eF⟩ : ∃ F : Nat, pa_sk T n p = F := ⟨_, rfl⟩
  have sg := sk_rg T n p
  rw [eF] at sg ⊢
  have w27 := s27e (d := d - 1) (by omega) hS ht hp hpn
  rw [eF] at w27
  have s2 : pu_str t (ab_w M1 1 1 (F : Int)) := str_w hS rfl
  have r10 : ab_w M1 1 1 (F : Int) 1 0 = (n : Int) := by rw [w_ne (by omega)]; exact h0
  have w : ab_wp d 29 0 (ab_ent [.inr (.inr 1), .inr (.inr u), .inl (cl : Int)] (ab_mx 29)) [] M1 (fun r M' => r = none ∧ pu_str t M' ∧ pa_o28 u kk (if F < n ∧ T F = 59 then .inr (pa_tk S cl a, pa_sk T n (F + 1)) else .inl (1, F)) M M') := by
    have bad : ¬ (F < n ∧ T F = 59) → pu_str t (ab_w (ab_w M1 1 1 (F : Int)) 1 2 1) ∧ pa_o28 u kk (if F < n ∧ T F = 59 then .inr (pa_tk S cl a, pa_sk T n (F + 1)) else .inl (1, F)) M (ab_w (ab_w M1 1 1 (F : Int)) 1 2 1) := by
      intro q
      rw [if_neg q]
      refine ⟨str_w s2 rfl, fun c f a1 a2 a3 a4 => ?_, ?_, ?_⟩
      · rw [w_ne (by omega), w_ne (by omega)]; exact fr c f a1 a2 a3 a4
      · show ab_w _ 1 2 1 1 2 = 1
        rw [ab_w_eq]
      · show ab_w _ 1 2 1 1 1 = _
        rw [w_ne (by omega), ab_w_eq]
    refine b29_0 (by omega) hS hu ⟨_, w27, s2, ?_⟩
    rw [ab_w_eq, r10]
    refine ⟨fun q => ⟨rfl, bad (by omega)⟩, fun q => ?_⟩
    have TF := hT F (by omega)
    have r2 : ab_w M1 1 1 (F : Int) 2 F = T F := by rw [w_ne (by omega)]; exact TF.1
    rw [Int.toNat_natCast, r2]
    refine ⟨by omega, fun z => ⟨by omega, ?_⟩, fun z => ⟨rfl, bad (fun y => z y.2)⟩⟩
    rw [w_w]
    have s3 : pu_str t (ab_w M1 1 1 ((F : Int) + 1)) := str_w hS rfl
    have rc3 : pa_rc u S (ab_w M1 1 1 ((F : Int) + 1)) := rc_fr hr (fun k f a b => w_ne (by omega))
    obtain ⟨M4, e4, s4, rc4, f4⟩ := s35 (d := d - 1) (by omega) s3 hu rc3 h hc hf hv (fun j hj => by rw [w_ne (by omega)]; exact hm j hj)
    have t4 : pa_tx T n M4 := tx_w ht (by rw [f4 1 0 (by omega), w_ne (by omega)]) (fun j => by rw [f4 2 j (by omega), w_ne (by omega)])
    have m4 : M4 1 1 = ((F + 1 : Nat) : Int) := by rw [f4 1 1 (by omega), ab_w_eq, Int.natCast_succ]
    refine ⟨M4, e4, s4, _, s27e (by omega) s4 t4 m4 (by omega), str_w s4 rfl, rfl, str_w s4 rfl, ?_⟩
    rw [if_pos ⟨by omega, z⟩]
    refine ⟨fun c f a1 a2 a3 a4 => ?_, ?_, ?_, rc_fr rc4 (fun k f a b => w_ne (by omega)), cn_tk hcn hc hf (fun j => ?_)⟩
    · rw [w_ne (by omega), f4 c f a4, w_ne (by omega)]; exact fr c f a1 a2 a3 a4
    · show ab_w M4 1 1 _ 1 2 = 0
      rw [w_ne (by omega), f4 1 2 (by omega), w_ne (by omega)]; exact h12
    · show ab_w M4 1 1 _ 1 1 = _
      rw [ab_w_eq]
    · rw [w_ne (by omega), f4 3 j (by omega), w_ne (by omega)]; exact e3 j
  obtain ⟨r, M', e, rfl, h1, h2⟩ := wp_ev w
  exact ⟨M', e, h1, h2⟩
theorem nn_stt (cl : Nat) (hc : cl ≤ 6) : (ab_stt 1001).getD cl 0 = ((pa_nn cl : Nat) : Int) := by
  have cs : cl = 0 ∨ cl = 1 ∨ cl = 2 ∨ cl = 3 ∨ cl = 4 ∨ cl = 5 ∨ cl = 6 := by omega
  rcases cs with rfl | rfl | rfl | rfl | rfl | rfl | rfl <;> rfl
theorem s28 {d t u n : Nat} {T : Nat → Int} {S M : ab_M} {kk i : Nat} (hd : 8 ≤ d) (hS : pu_str t M) (hu : pu_T u) (ht : pa_tx T n M) (hr : pa_rc u S M) (ho : pa_ok S) (hcn : pa_cn S M kk) (hkk : kk < 250) (hi : M 1 1 = (i : Int)) (hin : i < n) (h12 : M 1 2 = 0) :
    ∃ M', ab_ev d 28 [.inr (.inr 1), .inr (.inr u)] M none M' ∧ pu_str t M' ∧ pa_o28 u kk (pa_stp T n S i) M M' := by
  have hu' : u = 5 ∨ u = 37 := hu
  obtain ⟨n5, h0, hT⟩ := id ht
  have Ti := hT i hin
  have ir := ix_rg (T i)
  have o7 := ho.2.2.2.2.2.2.1
  have fault : ∀ c : Int, pa_stp T n S i = .inl (c, i) → pu_str t (ab_w M 1 2 c) ∧ pa_o28 u kk (pa_stp T n S i) M (ab_w M 1 2 c) := by
    intro c e
    rw [e]
    refine ⟨str_w hS rfl, fun c' f a1 a2 a3 a4 => w_ne (by omega), ?_, ?_⟩
    · show ab_w M 1 2 c 1 2 = c
      rw [ab_w_eq]
    · show ab_w M 1 2 c 1 1 = _
      rw [w_ne (by omega)]; exact hi
  have go : ∀ cl : Nat, (pa_ix (T i)).toNat = cl → pa_ix (T i) = (cl : Int) → cl ≤ 6 → (cl ≠ 0 → S 0 7 = 1) → ¬ pa_fl S cl = true → ab_wp d 28 80 [some (.inr (.inr 1)), some (.inr (.inr u)), some (.inl (cl : Int)), some (.inl 0)] [] (ab_w (ab_w M 3 cl (M 3 cl + 1)) 1 1 ((i : Int) + 1)) (fun r M' => r = none ∧ pu_str t M' ∧ pa_o28 u kk (pa_stp T n S i) M M') := by
    intro cl ecl ecl2 hc h7 hf
    have est : pa_stp T n S i = match pa_nums T n S cl (pa_nn cl) 0 (fun _ => 0) (i + 1) with
        | .inl f => .inl f
        | .inr z => if pa_sk T n z.2 < n ∧ T (pa_sk T n z.2) = 59 then .inr (pa_tk S cl z.1, pa_sk T n (pa_sk T n z.2 + 1)) else .inl (1, pa_sk T n z.2) := by
      unfold pa_stp
      rw [if_neg (by
        rintro (q | q)
        · omega
        · have := h7 (by omega)
          omega), ecl]
      unfold pa_cl
      rw [if_neg hf]
      rfl
    have nst := nn_stt cl hc
    have key : ∀ (r k p : Nat) (a : Nat → Int) (M1 : ab_M), k + r = pa_nn cl → pu_str t M1 → (∀ c f : Nat, ¬ (c = 1 ∧ (f = 1 ∨ f = 2)) → c ≠ 4 → M1 c f = ab_w M 3 cl (M 3 cl + 1) c f) → M1 1 1 = (p : Int) → p ≤ n → M1 1 2 = 0 → (∀ j, j < k → M1 4 j = a j) → (k ≠ 0 → 0 ≤ a 0 ∧ a 0 ≤ pa_hi S cl 0 0) → pa_nums T n S cl r k a p = pa_nums T n S cl (pa_nn cl) 0 (fun _ => 0) (i + 1) →
        ab_wp d 28 80 [some (.inr (.inr 1)), some (.inr (.inr u)), some (.inl (cl : Int)), some (.inl (k : Int))] [] M1 (fun r M' => r = none ∧ pu_str t M' ∧ pa_o28 u kk (pa_stp T n S i) M M') := by
      intro r
      induction r with
      | zero =>
        intro k p a M1 hk s1 fr m1 hpn m12 hm ha0 en
        have en : pa_nums T n S cl (pa_nn cl) 0 (fun _ => 0) (i + 1) = .inr (a, p) := en.symm
        have nm := nums_inr _ _ _ _ _ en
        have t1 : pa_tx T n M1 := tx_w ht (by rw [fr 1 0 (by omega) (by omega), w_ne (by omega)]) (fun j => by rw [fr 2 j (by omega) (by omega), w_ne (by omega)])
        have rc1 : pa_rc u S M1 := rc_fr hr (fun k f a b => by rw [fr k f (by omega) (by omega), w_ne (by omega)])
        obtain ⟨M', e', s', o'⟩ := s29 (d := d - 1) (M := M) (kk := kk) (by omega) s1 hu t1 rc1 ho hc hf (fun j hj => nm.2.1 j (Nat.zero_le _) (by omega)) (fun j hj => hm j (by omega)) hcn (fun j => by
          rw [fr 3 j (by omega) (by omega)]
          unfold ab_w
          simp only [true_and]) (fun c f a1 a2 a3 a4 => by rw [fr c f a1 a3, w_ne (by omega)]) m1 hpn m12
        refine b28_80 (by omega) s1 hu ?_
        rw [Int.toNat_natCast, nst]
        refine ⟨by omega, fun _ => ⟨fun q => absurd m12 q, fun _ => ⟨M', e', s', rfl, s', ?_⟩⟩, fun q => by omega⟩
        rw [est, en]
        exact o'
      | succ r ih =>
        intro k p a M1 hk s1 fr m1 hpn m12 hm ha0 en
        have t1 : pa_tx T n M1 := tx_w ht (by rw [fr 1 0 (by omega) (by omega), w_ne (by omega)]) (fun j => by rw [fr 2 j (by omega) (by omega), w_ne (by omega)])
        have rc1 : pa_rc u S M1 := rc_fr hr (fun k f a b => by rw [fr k f (by omega) (by omega), w_ne (by omega)])
        obtain ⟨M3, e3, s3, o3⟩ := s31 (d := d - 1) (by omega) s1 hu t1 rc1 ho hc (k := k) (by omega) (a := a) (fun k0 => ⟨hm 0 (by omega), ha0 k0⟩) m1 hpn m12
        have nn4 : pa_nn cl ≤ 4 := by
          have cs : cl = 0 ∨ cl = 1 ∨ cl = 2 ∨ cl = 3 ∨ cl = 4 ∨ cl = 5 ∨ cl = 6 := by omega
          rcases cs with rfl | rfl | rfl | rfl | rfl | rfl | rfl <;> decide
        refine b28_80 (by omega) s1 hu ?_
        rw [Int.toNat_natCast, nst]
        refine ⟨by omega, fun q => by omega, fun _ => ⟨fun q => absurd m12 q, fun _ => ⟨M3, e3, s3, by omega, ?_⟩⟩⟩
        rw [nums_s] at en
        have fr3 : ∀ c f : Nat, ¬ (c = 1 ∧ (f = 1 ∨ f = 2)) → c ≠ 4 → M3 c f = ab_w M 3 cl (M 3 cl + 1) c f := fun c f a1 a2 => by
          rw [o3.1 c f a1 (by omega)]; exact fr c f a1 a2
        cases q : pa_n1 T n (pa_lo cl k) (pa_hi S cl k (a 0)) (pa_ag S cl k (a 0)) p with
        | inl e =>
          rw [q] at en o3
          have en : pa_nums T n S cl (pa_nn cl) 0 (fun _ => 0) (i + 1) = .inl e := en.symm
          obtain ⟨_, b1, b2⟩ := o3
          have ne := n1_inl q
          have res : pa_o28 u kk (pa_stp T n S i) M M3 := by
            rw [est, en]
            refine ⟨fun c f a1 a2 a3 a4 => ?_, b1, b2⟩
            rw [fr3 c f a1 a3, w_ne (by omega)]
          refine b28_80 (by omega) s3 hu ?_
          rw [Int.toNat_natCast, nst]
          exact ⟨by omega, fun _ => ⟨fun _ => ⟨rfl, s3, res⟩, fun z => by omega⟩, fun _ => ⟨fun _ => ⟨fun _ => ⟨rfl, s3, res⟩, fun z => by omega⟩, fun z => by omega⟩⟩
        | inr y =>
          rw [q] at en o3
          obtain ⟨f3, b1, b2, b3⟩ := o3
          have iv := n1_inr q
          have g := ih (k + 1) y.2 (pu_u a k y.1) M3 (by omega) s3 fr3 b2 (iv.2.2.2.2 hpn) b1 (fun j hj => by
            unfold pu_u
            by_cases c : j = k
            · rw [if_pos c, c]; exact b3
            · rw [if_neg c, f3 4 j (by omega) (by omega)]; exact hm j (by omega)) (fun _ => by
            unfold pu_u
            by_cases c : 0 = k
            · rw [if_pos c]
              have l := lo_pos cl k
              have hh := iv.2.1
              rw [← c, hi_0 S cl (a 0) 0] at hh
              exact ⟨by have := iv.1; omega, hh⟩
            · rw [if_neg c]; exact ha0 (by omega)) en
          rw [Int.natCast_succ] at g
          exact g
    have g := key (pa_nn cl) 0 (i + 1) (fun _ => 0) (ab_w (ab_w M 3 cl (M 3 cl + 1)) 1 1 ((i : Int) + 1)) (by omega) (str_w (str_a hS rfl) rfl) (fun c f a1 a2 => w_ne (by omega)) (by rw [ab_w_eq, Int.natCast_succ]) (by omega) (by rw [w_ne (by omega), w_ne (by omega)]; exact h12) (fun j hj => by omega) (fun z => absurd rfl z) rfl
    exact g
  have w : ab_wp d 28 0 (ab_ent [.inr (.inr 1), .inr (.inr u)] (ab_mx 28)) [] M (fun r M' => r = none ∧ pu_str t M' ∧ pa_o28 u kk (pa_stp T n S i) M M') := by
    refine b28_0 (by omega) hS hu ?_
    rw [hi, Int.toNat_natCast, Ti.1]
    refine ⟨by omega, _, _, s186 (by omega) hS Ti.2, hS, fun q => ⟨rfl, fault 1 ?_⟩, fun q => ?_⟩
    · unfold pa_stp
      rw [if_pos (Or.inl (by omega))]
    · obtain ⟨cl, ecl⟩ : ∃ cl : Nat, pa_ix (T i) = (cl : Int) := ⟨(pa_ix (T i)).toNat, by omega⟩
      have etn : (pa_ix (T i)).toNat = cl := by omega
      have cf := cn_fl (cl := cl) hcn hkk (by omega) ho
      have both : (pa_ix (T i) ≠ 0 → S 0 7 = 1) → ((0 ≤ pa_ix (T i) ∧ pa_ix (T i) < 7) ∧ (M 3 (pa_ix (T i)).toNat < (ab_stt 1002).getD (pa_ix (T i)).toNat 0 → ab_rg (M 3 (pa_ix (T i)).toNat + 1) ∧ ab_rg (M 1 1 + 1) ∧ ab_wp d 28 80 [some (.inr (.inr 1)), some (.inr (.inr u)), some (.inl (pa_ix (T i))), some (.inl 0)] [] (ab_w (ab_w M 3 (pa_ix (T i)).toNat (M 3 (pa_ix (T i)).toNat + 1)) 1 1 (M 1 1 + 1)) (fun r M' => r = none ∧ pu_str t M' ∧ pa_o28 u kk (pa_stp T n S i) M M')) ∧ ((ab_stt 1002).getD (pa_ix (T i)).toNat 0 ≤ M 3 (pa_ix (T i)).toNat → none = (none : Option ab_V) ∧ pu_str t (ab_w M 1 2 3) ∧ pa_o28 u kk (pa_stp T n S i) M (ab_w M 1 2 3))) := by
        intro h7
        rw [etn, ecl, hi]
        refine ⟨by omega, fun z => ⟨by omega, by omega, go cl etn ecl (by omega) (fun c0 => h7 (by omega)) (cf.1.1 z)⟩, fun z => ⟨rfl, fault 3 ?_⟩⟩
        have full : pa_fl S cl = true := by
          apply Classical.byContradiction
          intro y
          have := cf.1.2 y
          omega
        unfold pa_stp
        rw [if_neg (by
          rintro (y | y)
          · omega
          · have := h7 y.1
            omega), etn]
        unfold pa_cl
        rw [if_pos full]
      refine ⟨fun z => both (fun y => absurd z y), fun z => ⟨fun y => both (fun _ => ?_), fun y => ⟨rfl, fault 1 ?_⟩⟩⟩
      · rw [hcn.1] at y
        omega
      · unfold pa_stp
        rw [if_pos (Or.inr ⟨z, by rw [← hcn.1]; exact y⟩)]
  obtain ⟨r, M', e, rfl, h1, h2⟩ := wp_ev w
  exact ⟨M', e, h1, h2⟩
