/-! reading: the model -/
def pb_tx (T : Nat → Int) (n : Nat) (M : ab_M) : Prop := n ≤ 250 ∧ M 103 1 = (n : Int) ∧ (∀ i : Nat, i < n → M 104 i = T i ∧ 0 ≤ T i ∧ T i ≤ 255)
def pb_dig (T : Nat → Int) (b : Nat) : Prop := 48 ≤ T b ∧ T b ≤ 57
/-- the sign or number that is looked at, at b -/
def pb_la (T : Nat → Int) (n b : Nat) (M : ab_M) : Prop := M 103 23 = (b : Int) ∧ b ≤ n ∧ (b = n → M 103 21 = 3) ∧ (b < n → pb_dig T b → M 103 21 = 2 ∧ M 103 22 = (if 3 < pa_dg T n b - b then 1000000 else pa_pv T b (pa_dg T n b - b)) ∧ M 103 20 = ((pa_dg T n b : Nat) : Int)) ∧ (b < n → ¬ pb_dig T b → M 103 21 = 1 ∧ M 103 22 = T b ∧ M 103 20 = (b : Int) + 1)
/-- nothing but the place that is read, and the sign -/
def pb_fr (M M' : ab_M) : Prop := ∀ c f : Nat, ¬ (c = 103 ∧ 20 ≤ f ∧ f ≤ 23) → M' c f = M c f
theorem s113 {d t n : Nat} {T : Nat → Int} {M : ab_M} {p : Nat} (hd : 2 ≤ d) (hS : pu_str t M) (ht : pb_tx T n M) (hp : M 103 20 = (p : Int)) (hpn : p ≤ n) : ∃ M', ab_ev d 113 [.inr (.inr 103)] M none M' ∧ pu_str t M' ∧ pb_fr M M' ∧ pb_la T n (pa_sk T n p) M' := by
  obtain ⟨n5, h0, hT⟩ := id ht
  have nr20 : pu_nr 103 20 = true := rfl
  have nr21 : pu_nr 103 21 = true := rfl
  have nr22 : pu_nr 103 22 = true := rfl
  have nr23 : pu_nr 103 23 = true := rfl
  have digits : ∀ (b : Nat) (r i : Nat) (x : Int) (M1 : ab_M), i + r = n → b ≤ i → pu_str t M1 → pb_fr M M1 → M1 103 20 = (i : Int) → M1 103 23 = (b : Int) → M1 103 22 = x → (0 ≤ x ∧ x ≤ 99999) → (i - b ≤ 3 → x = pa_pv T b (i - b)) → M1 103 21 = (if b = i then (if b = n then 3 else 0) else 2) → (∀ j, j < i - b → 48 ≤ T (b + j) ∧ T (b + j) ≤ 57) → pa_dg T n i = pa_dg T n b →
      ab_wp d 113 71 [some (.inr (.inr 103))] [] M1 (fun r M' => r = none ∧ pu_str t M' ∧ pb_fr M M' ∧ pb_la T n b M') := by
    intro b r
    have stop : ∀ (i : Nat) (x : Int) (M1 : ab_M), i ≤ n → b ≤ i → pu_str t M1 → pb_fr M M1 → M1 103 20 = (i : Int) → M1 103 23 = (b : Int) → M1 103 22 = x → (i - b ≤ 3 → x = pa_pv T b (i - b)) → M1 103 21 = (if b = i then (if b = n then 3 else 0) else 2) → (∀ j, j < i - b → 48 ≤ T (b + j) ∧ T (b + j) ≤ 57) → pa_dg T n b = i → (i < n → ¬ pb_dig T i) →
        ((M1 103 21 ≠ 2 → ab_wp d 113 190 [some (.inr (.inr 103))] [] M1 (fun r M' => r = none ∧ pu_str t M' ∧ pb_fr M M' ∧ pb_la T n b M')) ∧ (M1 103 21 = 2 → ab_rg (M1 103 20 - M1 103 23) ∧ (M1 103 20 - M1 103 23 ≤ 3 → ab_wp d 113 190 [some (.inr (.inr 103))] [] M1 (fun r M' => r = none ∧ pu_str t M' ∧ pb_fr M M' ∧ pb_la T n b M')) ∧ (3 < M1 103 20 - M1 103 23 → ab_wp d 113 190 [some (.inr (.inr 103))] [] (ab_w M1 103 22 1000000) (fun r M' => r = none ∧ pu_str t M' ∧ pb_fr M M' ∧ pb_la T n b M')))) := by
      intro i x M1 hin hbi s1 fr m20 m23 m22 hx m21 hdig hdg hnd
      have bdig : b < i → pb_dig T b := fun q => by
        have := hdig 0 (by omega)
        rw [Nat.add_zero] at this
        exact this
      refine ⟨fun q => ?_, fun q => ⟨by omega, fun z => ?_, fun z => ?_⟩⟩
      · have ebi : b = i := by
          apply Classical.byContradiction
          intro z
          rw [if_neg z] at m21
          exact q m21
        rw [if_pos ebi] at m21
        by_cases cn : b = n
        · rw [if_pos cn] at m21
          refine b113_190 (by omega) s1 ⟨fun _ => ⟨rfl, s1, fr, m23, by omega, fun _ => m21, fun y => by omega, fun y => by omega⟩, fun y => by omega⟩
        · rw [if_neg cn] at m21
          have Ti := hT i (by omega)
          have r4 : M1 104 i = T i := (fr 104 i (by omega)).trans Ti.1
          have nd := hnd (by omega)
          refine b113_190 (by omega) s1 ⟨fun y => absurd m21 y, fun _ => ?_⟩
          rw [m20, Int.toNat_natCast, r4]
          refine ⟨by omega, by omega, rfl, str_w (str_w (str_w s1 nr21) nr22) nr20, fun c f y => by rw [w_ne (by omega), w_ne (by omega), w_ne (by omega)]; exact fr c f y, ?_, by omega, fun y => absurd y cn, fun _ y => ?_, fun _ _ => ⟨?_, ?_, ?_⟩⟩
          · rw [w_ne (by omega), w_ne (by omega), w_ne (by omega)]; exact m23
          · rw [ebi] at y; exact absurd y nd
          · rw [w_ne (by omega), w_ne (by omega), ab_w_eq]
          · rw [w_ne (by omega), ab_w_eq, ebi]
          · rw [ab_w_eq, ebi]
      · have nbi : b ≠ i := by
          intro z
          rw [if_pos z] at m21
          split at m21 <;> omega
        have dgb := bdig (by omega)
        refine b113_190 (by omega) s1 ⟨fun _ => ⟨rfl, s1, fr, m23, by omega, fun y => by omega, fun _ _ => ⟨q, ?_, by rw [hdg]; exact m20⟩, fun _ y => absurd dgb y⟩, fun y => by omega⟩
        rw [hdg, if_neg (by omega), m22]
        exact hx (by omega)
      · have nbi : b ≠ i := by
          intro z
          rw [if_pos z] at m21
          split at m21 <;> omega
        have dgb := bdig (by omega)
        have s2 : pu_str t (ab_w M1 103 22 1000000) := str_w s1 nr22
        refine b113_190 (by omega) s2 ?_
        rw [w_ne (show ¬ (103 = 103 ∧ 21 = 22) by omega)]
        refine ⟨fun _ => ⟨rfl, s2, fun c f y => by rw [w_ne (by omega)]; exact fr c f y, by rw [w_ne (by omega)]; exact m23, by omega, fun y => by omega, fun _ _ => ⟨by rw [w_ne (by omega)]; exact q, ?_, by rw [w_ne (by omega), hdg]; exact m20⟩, fun _ y => absurd dgb y⟩, fun y => by omega⟩
        rw [ab_w_eq, hdg, if_pos (by omega)]
    induction r with
    | zero =>
      intro i x M1 hi hbi s1 fr m20 m23 m22 hx0 hx m21 hdig hdg
      have r1 : M1 103 1 = (n : Int) := (fr 103 1 (by omega)).trans h0
      have ed : pa_dg T n i = i := by rw [dg_e, if_neg (by omega)]
      exact b113_71 (by omega) s1 ⟨fun _ => stop i x M1 (by omega) hbi s1 fr m20 m23 m22 hx m21 hdig (by omega) (fun q => by omega), fun q => by omega⟩
    | succ r ih =>
      intro i x M1 hi hbi s1 fr m20 m23 m22 hx0 hx m21 hdig hdg
      have r1 : M1 103 1 = (n : Int) := (fr 103 1 (by omega)).trans h0
      have Ti := hT i (by omega)
      have r4 : M1 104 i = T i := (fr 104 i (by omega)).trans Ti.1
      have w107 := s107 (d := d - 1) (by omega) s1 (T i) 48 57
      refine b113_71 (by omega) s1 ⟨fun q => by omega, fun _ => ?_⟩
      rw [m20, Int.toNat_natCast, r4]
      by_cases c : 48 ≤ T i ∧ T i ≤ 57
      · rw [if_pos c] at w107
        have ed : pa_dg T n i = pa_dg T n (i + 1) := by
          have := dg_e T n i
          rw [if_pos ⟨by omega, c⟩] at this
          exact this
        have hd2 : ∀ j, j < i + 1 - b → 48 ≤ T (b + j) ∧ T (b + j) ≤ 57 := by
          intro j hj
          by_cases e : j = i - b
          · rw [e, show b + (i - b) = i from by omega]; exact c
          · exact hdig j (by omega)
        have nxt : ∀ v : Int, (0 ≤ v ∧ v ≤ 99999 + 9 * 0) → (i + 1 - b ≤ 3 → v = pa_pv T b (i + 1 - b)) → ab_wp d 113 142 [some (.inr (.inr 103))] [.inl v, .inr (.inr 103)] M1 (fun r M' => r = none ∧ pu_str t M' ∧ pb_fr M M' ∧ pb_la T n b M') := by
          intro v hv hv2
          refine b113_142 (by omega) s1 ?_
          rw [m20]
          refine ⟨by omega, ih (i + 1) v _ (by omega) (by omega) (str_w (str_w (str_w s1 nr22) nr21) nr20) (fun c f y => by rw [w_ne (by omega), w_ne (by omega), w_ne (by omega)]; exact fr c f y) (by rw [ab_w_eq, Int.natCast_succ]) (by rw [w_ne (by omega), w_ne (by omega), w_ne (by omega)]; exact m23) (by rw [w_ne (by omega), w_ne (by omega), ab_w_eq]) (by omega) hv2 (by rw [w_ne (by omega), ab_w_eq, if_neg (by omega)]) hd2 (by omega)⟩
        refine ⟨by omega, (1 : Int), M1, w107, s1, fun q => absurd q (by decide), fun _ => ?_⟩
        rw [m20, Int.toNat_natCast, r4, m22]
        refine ⟨fun q => ⟨by omega, by omega, by omega, by omega, nxt _ (by omega) (fun q2 => ?_)⟩, fun q => nxt _ (by omega) (fun q2 => ?_)⟩
        · have e1 := hx (by omega)
          rw [show i + 1 - b = (i - b) + 1 from by omega, pv_s, show b + (i - b) = i from by omega, ← e1]
          omega
        · have e1 := hx (by omega)
          have := pv_rg (T := T) (f := b) (i - b) hdig (by omega)
          omega
      · rw [if_neg c] at w107
        have ed : pa_dg T n i = i := by rw [dg_e, if_neg (fun z => c z.2)]
        refine ⟨by omega, (0 : Int), M1, w107, s1, fun _ => stop i x M1 (by omega) hbi s1 fr m20 m23 m22 hx m21 hdig (by omega) (fun _ z => c z), fun q => absurd rfl q⟩
  have blanks : ∀ (k i : Nat) (M1 : ab_M), i + k = n → pu_str t M1 → pb_fr M M1 → M1 103 20 = (i : Int) → pa_sk T n i = pa_sk T n p → ab_wp d 113 0 [some (.inr (.inr 103))] [] M1 (fun r M' => r = none ∧ pu_str t M' ∧ pb_fr M M' ∧ pb_la T n (pa_sk T n p) M') := by
    intro k
    have start : ∀ (i : Nat) (M1 : ab_M), i ≤ n → pu_str t M1 → pb_fr M M1 → M1 103 20 = (i : Int) → pa_sk T n p = i → ((M1 103 20 ≠ M1 103 1 → ab_wp d 113 63 [some (.inr (.inr 103))] [.inl 0, .inr (.inr 103)] (ab_w M1 103 23 (M1 103 20)) (fun r M' => r = none ∧ pu_str t M' ∧ pb_fr M M' ∧ pb_la T n (pa_sk T n p) M')) ∧ (M1 103 20 = M1 103 1 → ab_wp d 113 63 [some (.inr (.inr 103))] [.inl 3, .inr (.inr 103)] (ab_w M1 103 23 (M1 103 20)) (fun r M' => r = none ∧ pu_str t M' ∧ pb_fr M M' ∧ pb_la T n (pa_sk T n p) M'))) := by
      intro i M1 hin s1 fr m20 e
      have r1 : M1 103 1 = (n : Int) := (fr 103 1 (by omega)).trans h0
      have s2 : pu_str t (ab_w M1 103 23 (M1 103 20)) := str_w s1 nr23
      have mid : ∀ tk : Int, tk = (if i = n then 3 else 0) → ab_wp d 113 63 [some (.inr (.inr 103))] [.inl tk, .inr (.inr 103)] (ab_w M1 103 23 (M1 103 20)) (fun r M' => r = none ∧ pu_str t M' ∧ pb_fr M M' ∧ pb_la T n (pa_sk T n p) M') := by
        intro tk etk
        rw [e]
        refine b113_63 (by omega) s2 (digits i (n - i) i 0 _ (by omega) (Nat.le_refl _) (str_w (str_w s2 nr21) nr22) (fun c f y => by rw [w_ne (by omega), w_ne (by omega), w_ne (by omega)]; exact fr c f y) (by rw [w_ne (by omega), w_ne (by omega), w_ne (by omega)]; exact m20) (by rw [w_ne (by omega), w_ne (by omega), ab_w_eq]; exact m20) (ab_w_eq _ _ _ _) (by omega) (fun _ => by rw [Nat.sub_self]; rfl) ?_ (fun j hj => by omega) rfl)
        rw [w_ne (by omega), ab_w_eq, if_pos rfl, etk]
      rw [m20, r1] at *
      exact ⟨fun q => mid 0 (by rw [if_neg (by omega)]), fun q => mid 3 (by rw [if_pos (by omega)])⟩
    induction k with
    | zero =>
      intro i M1 hi s1 fr m20 e
      have r1 : M1 103 1 = (n : Int) := (fr 103 1 (by omega)).trans h0
      have es : pa_sk T n i = i := by rw [sk_e, if_neg (by omega)]
      exact b113_0 (by omega) s1 ⟨fun _ => start i M1 (by omega) s1 fr m20 (by omega), fun q => by omega⟩
    | succ k ih =>
      intro i M1 hi s1 fr m20 e
      have r1 : M1 103 1 = (n : Int) := (fr 103 1 (by omega)).trans h0
      have Ti := hT i (by omega)
      have r4 : M1 104 (M1 103 20).toNat = T i := by rw [m20, Int.toNat_natCast, fr 104 i (by omega)]; exact Ti.1
      refine b113_0 (by omega) s1 ⟨fun q => by omega, fun _ => ⟨by omega, fun q => ?_, fun q => ⟨by omega, ?_⟩⟩⟩
      · rw [r4] at q
        have es : pa_sk T n i = i := by rw [sk_e, if_neg (fun z => q z.2)]
        exact start i M1 (by omega) s1 fr m20 (by omega)
      · rw [r4] at q
        have es : pa_sk T n i = pa_sk T n (i + 1) := by
          have := sk_e T n i
          rw [if_pos ⟨by omega, q⟩] at this
          exact this
        exact ih (i + 1) _ (by omega) (str_w s1 nr20) (fun c f y => by rw [w_ne (by omega)]; exact fr c f y) (by rw [ab_w_eq, m20, Int.natCast_succ]) (by omega)
  obtain ⟨r, M', e, rfl, h1, h2, h3⟩ := wp_ev (d := d) (m := 113) (as := [.inr (.inr 103)]) (M := M) (blanks (n - p) p M (by omega) hS (fun _ _ _ => rfl) hp rfl)
  exact ⟨M', e, h1, h2, h3⟩
