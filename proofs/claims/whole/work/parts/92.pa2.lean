theorem hi_0 (S : ab_M) (cl : Nat) (x y : Int) : pa_hi S cl 0 x = pa_hi S cl 0 y := by
  unfold pa_hi
  by_cases c : cl = 0
  · rw [if_pos c, if_pos c, if_pos rfl, if_pos rfl]
  · rw [if_neg c, if_neg c]
theorem ag_0 (S : ab_M) (cl : Nat) (x y v : Int) : pa_ag S cl 0 x v = pa_ag S cl 0 y v := by
  unfold pa_ag
  by_cases c : cl = 4
  · rw [if_pos c, if_pos c]
  · rw [if_neg c, if_neg c, if_pos (by decide), if_pos (by decide)]
theorem nums_s (T : Nat → Int) (n : Nat) (S : ab_M) (cl r k : Nat) (a : Nat → Int) (p : Nat) : pa_nums T n S cl (r + 1) k a p = match pa_n1 T n (pa_lo cl k) (pa_hi S cl k (a 0)) (pa_ag S cl k (a 0)) p with
    | .inl f => .inl f
    | .inr z => pa_nums T n S cl r (k + 1) (pu_u a k z.1) z.2 := rfl
theorem nums_inr {T : Nat → Int} {n : Nat} {S : ab_M} {cl : Nat} : ∀ r k a p z, pa_nums T n S cl r k a p = .inr z → (∀ j, j < k → z.1 j = a j) ∧ (∀ j, k ≤ j → j < k + r → pa_lo cl j ≤ z.1 j ∧ z.1 j ≤ pa_hi S cl j (z.1 0) ∧ pa_ag S cl j (z.1 0) (z.1 j) = false) ∧ p ≤ z.2 ∧ (p ≤ n → z.2 ≤ n) := by
  intro r
  induction r with
  | zero =>
    intro k a p z h
    cases h
    exact ⟨fun _ _ => rfl, fun j h1 h2 => by omega, Nat.le_refl _, fun q => q⟩
  | succ r ih =>
    intro k a p z h
    rw [nums_s] at h
    cases e : pa_n1 T n (pa_lo cl k) (pa_hi S cl k (a 0)) (pa_ag S cl k (a 0)) p with
    | inl f => rw [e] at h; cases h
    | inr y =>
      rw [e] at h
      have i := ih (k + 1) _ _ z h
      have v := n1_inr e
      refine ⟨fun j hj => ?_, fun j h1 h2 => ?_, by omega, fun q => i.2.2.2 (v.2.2.2.2 q)⟩
      · have := i.1 j (by omega)
        unfold pu_u at this
        rw [if_neg (by omega)] at this
        exact this
      · by_cases c : j = k
        · subst c
          have zj : z.1 j = y.1 := by
            have := i.1 j (by omega)
            unfold pu_u at this
            rw [if_pos rfl] at this
            exact this
          by_cases c0 : j = 0
          · subst c0
            rw [zj]
            refine ⟨v.1, ?_, ?_⟩
            · have := v.2.1
              rw [hi_0 S cl (a 0) y.1] at this
              exact this
            · have := v.2.2.1
              rw [ag_0 S cl (a 0) y.1] at this
              exact this
          · have z0 : z.1 0 = a 0 := by
              have := i.1 0 (by omega)
              unfold pu_u at this
              rw [if_neg (by omega)] at this
              exact this
            rw [zj, z0]
            exact ⟨v.1, v.2.1, v.2.2.1⟩
        · exact i.2.1 j (by omega) (by omega)
theorem w_ne {S : ab_M} {k f c g : Nat} {v : Int} (h : ¬ (c = k ∧ g = f)) : ab_w S k f v c g = S c g := by
  unfold ab_w
  rw [if_neg h]
theorem tk_ok {S : ab_M} {cl : Nat} {a : Nat → Int} (h : pa_ok S) (hc : cl ≤ 6) (ht : cl ≠ 0 → S 0 7 = 1) (hf : ¬ pa_fl S cl = true) (hv : ∀ j, j < pa_nn cl → pa_lo cl j ≤ a j ∧ a j ≤ pa_hi S cl j (a 0) ∧ pa_ag S cl j (a 0) (a j) = false) : pa_ok (pa_tk S cl a) := by
  obtain ⟨o0, o2, o3, o4, o5, o6, o7, oz, oo, ow, op, od, oe, oq, ox⟩ := id h
  have cs : cl = 0 ∨ cl = 1 ∨ cl = 2 ∨ cl = 3 ∨ cl = 4 ∨ cl = 5 ∨ cl = 6 := by omega
  rcases cs with rfl | rfl | rfl | rfl | rfl | rfl | rfl
  · have f : S 0 7 = 0 := by
      apply Classical.byContradiction
      intro q
      exact hf (decide_eq_true q)
    obtain ⟨z1, z2, z3, z4, z5⟩ := oz f
    have v0 := hv 0 (by decide)
    have v1 := hv 1 (by decide)
    have l0 : 1 ≤ a 0 ∧ a 0 ≤ 7 := ⟨v0.1, v0.2.1⟩
    have l1 : 0 ≤ a 1 ∧ a 1 ≤ a 0 - 1 := ⟨v1.1, v1.2.1⟩
    show pa_ok (ab_w (ab_w (ab_w S 0 0 (a 0)) 0 1 (a 1)) 0 7 1)
    unfold pa_ok
    simp (discharger := omega) only [w_ne, ab_w_eq]
    refine ⟨by omega, o2, o3, o4, o5, o6, Or.inr trivial, fun q => by omega, fun _ => by omega, fun x y hx hy => ?_, fun p hp => by omega, fun i hi => by omega, oe, oq, ox⟩
    have := ow x y hx hy
    omega
  · have v0 := hv 0 (by decide)
    have v1 := hv 1 (by decide)
    have v2 := hv 2 (by decide)
    have l0 : 0 ≤ a 0 ∧ a 0 ≤ S 0 0 - 1 := ⟨v0.1, v0.2.1⟩
    have l1 : 0 ≤ a 1 ∧ a 1 ≤ S 0 0 - 1 := ⟨v1.1, v1.2.1⟩
    have l2 : 1 ≤ a 2 ∧ a 2 ≤ 30 := ⟨v2.1, v2.2.1⟩
    have f : S 0 5 < 10 := by
      apply Classical.byContradiction
      intro q
      exact hf (decide_eq_true (show 10 ≤ S 0 5 by omega))
    have g : a 1 ≠ a 0 := by
      have := v1.2.2
      intro q
      have e : pa_ag S 1 1 (a 0) (a 1) = (decide (a 1 = a 0) || decide (S 1 (7 * (a 0).toNat + (a 1).toNat) ≠ -1)) := rfl
      rw [e, decide_eq_true q] at this
      cases this
    show pa_ok (ab_w (ab_w (ab_w S 1 (7 * (a 0).toNat + (a 1).toNat) (a 2)) 1 (7 * (a 1).toNat + (a 0).toNat) (a 2)) 0 5 (S 0 5 + 1))
    unfold pa_ok
    have r1 : ∀ x y : Nat, ab_w (ab_w (ab_w S 1 (7 * (a 0).toNat + (a 1).toNat) (a 2)) 1 (7 * (a 1).toNat + (a 0).toNat) (a 2)) 0 5 (S 0 5 + 1) 1 (7 * x + y) = if 7 * x + y = 7 * (a 1).toNat + (a 0).toNat then a 2 else if 7 * x + y = 7 * (a 0).toNat + (a 1).toNat then a 2 else S 1 (7 * x + y) := by
      intro x y
      rw [w_ne (by omega)]
      unfold ab_w
      simp only [true_and]
    refine ⟨?_, ?_, ?_, ?_, ?_, ?_, ?_, ?_, ?_, fun x y hx hy => ?_, ?_, ?_, ?_, ?_, ?_⟩
    all_goals first
      | (simp (discharger := omega) only [w_ne, ab_w_eq]; assumption)
      | (simp (discharger := omega) only [w_ne, ab_w_eq]; omega)
      | skip
    · rw [r1]
      simp (discharger := omega) only [w_ne]
      have := ow x y hx hy
      by_cases c1 : 7 * x + y = 7 * (a 1).toNat + (a 0).toNat
      · rw [if_pos c1]; omega
      · rw [if_neg c1]
        by_cases c2 : 7 * x + y = 7 * (a 0).toNat + (a 1).toNat
        · rw [if_pos c2]; omega
        · rw [if_neg c2]; exact this
  · have v0 := hv 0 (by decide)
    have v1 := hv 1 (by decide)
    have l0 : 0 ≤ a 0 ∧ a 0 ≤ S 0 0 - 1 := ⟨v0.1, v0.2.1⟩
    have l1 : 0 ≤ a 1 ∧ a 1 ≤ 99 := ⟨v1.1, v1.2.1⟩
    have f : S 0 2 < 6 := by
      apply Classical.byContradiction
      intro q
      exact hf (decide_eq_true (show 6 ≤ S 0 2 by omega))
    have t7 := ht (by decide)
    show pa_ok (ab_w (ab_w (ab_w S 2 (S 0 2).toNat (a 0)) 3 (S 0 2).toNat (a 1)) 0 2 (S 0 2 + 1))
    unfold pa_ok
    simp (discharger := omega) only [w_ne, ab_w_eq]
    refine ⟨o0, by omega, o3, o4, o5, o6, o7, fun q => by omega, oo, ow, fun p hp => ?_, fun i hi => ?_, oe, fun x y hx hy => ?_, ox⟩
    · by_cases c : p = (S 0 2).toNat
      · subst c
        simp (discharger := omega) only [w_ne, ab_w_eq]
        omega
      · simp (discharger := omega) only [w_ne]
        exact op p (by omega)
    · have := od i hi
      omega
    · have := oq x y hx hy
      exact ⟨this.1, this.2.1, fun q => this.2.2 (by omega)⟩
  · have v0 := hv 0 (by decide)
    have v1 := hv 1 (by decide)
    have v2 := hv 2 (by decide)
    have v3 := hv 3 (by decide)
    have l0 : 0 ≤ a 0 ∧ a 0 ≤ S 0 2 - 1 := ⟨v0.1, v0.2.1⟩
    have l1 : 1 ≤ a 1 ∧ a 1 ≤ 30 := ⟨v1.1, v1.2.1⟩
    have l2 : 1 ≤ a 2 ∧ a 2 ≤ 999 := ⟨v2.1, v2.2.1⟩
    have l3 : 0 ≤ a 3 ∧ a 3 ≤ 99 := ⟨v3.1, v3.2.1⟩
    have f : S 0 3 < 6 := by
      apply Classical.byContradiction
      intro q
      exact hf (decide_eq_true (show 6 ≤ S 0 3 by omega))
    have t7 := ht (by decide)
    show pa_ok (ab_w (ab_w (ab_w (ab_w (ab_w (ab_w S 4 (5 * (S 0 3).toNat) (a 0)) 4 (5 * (S 0 3).toNat + 1) (a 1)) 4 (5 * (S 0 3).toNat + 2) (a 2)) 4 (5 * (S 0 3).toNat + 3) (a 3)) 4 (5 * (S 0 3).toNat + 4) (-1)) 0 3 (S 0 3 + 1))
    unfold pa_ok
    simp (discharger := omega) only [w_ne, ab_w_eq]
    refine ⟨o0, o2, by omega, o4, o5, o6, o7, fun q => by omega, oo, ow, op, fun i hi => ?_, fun i hi => ?_, oq, ox⟩
    · by_cases c : i = (S 0 3).toNat
      · subst c
        simp (discharger := omega) only [w_ne, ab_w_eq]
        omega
      · simp (discharger := omega) only [w_ne]
        exact od i (by omega)
    · simp (discharger := omega) only [w_ne]
      exact oe i (by omega)
  · have v0 := hv 0 (by decide)
    have v1 := hv 1 (by decide)
    have l0 : 0 ≤ a 0 ∧ a 0 ≤ S 0 3 - 1 := ⟨v0.1, v0.2.1⟩
    have l1 : 0 ≤ a 1 ∧ a 1 ≤ 99 := ⟨v1.1, v1.2.1⟩
    show pa_ok (ab_w S 4 (5 * (a 0).toNat + 4) (a 1))
    unfold pa_ok
    simp (discharger := omega) only [w_ne]
    refine ⟨o0, o2, o3, o4, o5, o6, o7, oz, oo, ow, op, fun i hi => ?_, fun i hi => ?_, oq, ox⟩
    · have := od i hi
      by_cases c : i = (a 0).toNat
      · subst c
        rw [ab_w_eq]
        omega
      · rw [w_ne (by omega)]
        exact this
    · rw [w_ne (by omega)]
      exact oe i hi
  · have v0 := hv 0 (by decide)
    have v1 := hv 1 (by decide)
    have v2 := hv 2 (by decide)
    have l0 : 0 ≤ a 0 ∧ a 0 ≤ S 0 2 - 1 := ⟨v0.1, v0.2.1⟩
    have l1 : 0 ≤ a 1 ∧ a 1 ≤ S 0 2 - 1 := ⟨v1.1, v1.2.1⟩
    have l2 : 0 ≤ a 2 ∧ a 2 ≤ 10 := ⟨v2.1, v2.2.1⟩
    have f : S 0 6 < 12 := by
      apply Classical.byContradiction
      intro q
      exact hf (decide_eq_true (show 12 ≤ S 0 6 by omega))
    show pa_ok (ab_w (ab_w S 5 (6 * (a 0).toNat + (a 1).toNat) (a 2)) 0 6 (S 0 6 + 1))
    unfold pa_ok
    simp (discharger := omega) only [w_ne, ab_w_eq]
    refine ⟨o0, o2, o3, o4, o5, by omega, o7, oz, oo, ow, op, od, oe, fun x y hx hy => ?_, ox⟩
    have := oq x y hx hy
    by_cases c : 6 * x + y = 6 * (a 0).toNat + (a 1).toNat
    · rw [c, ab_w_eq]
      omega
    · rw [w_ne (by omega)]
      exact this
  · have v0 := hv 0 (by decide)
    have l0 : 1 ≤ a 0 ∧ a 0 ≤ 2 ^ (S 0 3).toNat - 1 := ⟨v0.1, v0.2.1⟩
    have p6 : (2 : Int) ^ (S 0 3).toNat ≤ 64 := by
      have e : ∀ i : Fin 7, (2 : Int) ^ i.val ≤ 64 := by decide
      exact e ⟨(S 0 3).toNat, by omega⟩
    have f : S 0 4 < 4 := by
      apply Classical.byContradiction
      intro q
      exact hf (decide_eq_true (show 4 ≤ S 0 4 by omega))
    have t7 := ht (by decide)
    show pa_ok (ab_w (ab_w S 6 (S 0 4).toNat (a 0)) 0 4 (S 0 4 + 1))
    unfold pa_ok
    simp (discharger := omega) only [w_ne, ab_w_eq]
    refine ⟨o0, o2, o3, by omega, o5, o6, o7, fun q => by omega, oo, ow, op, od, oe, oq, fun o ho => ?_⟩
    by_cases c : o = (S 0 4).toNat
    · subst c
      rw [ab_w_eq]
      omega
    · rw [w_ne (by omega)]
      exact ox o (by omega)
