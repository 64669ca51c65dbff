theorem R2_len : in_R2.length = 132 := by decide +kernel
theorem in_rv : ∀ k : Fin 132, ∀ f : Fin 50, 0 ≤ pu_rv k.val f.val → (in_R2.getD k.val []).getD f.val 0 = pu_rv k.val f.val := by decide +kernel
theorem rv_len : ∀ k : Fin 132, (pu_rvs.getD k.val []).length ≤ 50 := by decide +kernel
theorem rv_all : pu_rvs.length = 132 := by decide +kernel
theorem rv_out {k f : Nat} (h : 132 ≤ k ∨ 50 ≤ f) : pu_rv k f = -1 := by
  unfold pu_rv
  by_cases c : k < 132
  · have := rv_len ⟨k, c⟩
    dsimp only at this
    have hf : (pu_rvs.getD k [])[f]? = none := List.getElem?_eq_none (by omega)
    unfold List.getD
    unfold List.getD at hf
    rw [hf]; rfl
  · have hk : pu_rvs[k]? = none := List.getElem?_eq_none (by rw [rv_all]; omega)
    have : pu_rvs.getD k [] = [] := by
      unfold List.getD
      rw [hk]; rfl
    rw [this]; rfl
theorem in_r (B : ab_M) {k : Nat} (hk : k < 132) (f : Nat) : li_cv (2489, in_R2) B k f = (in_R2.getD k []).getD f 0 := cv_r (s := (2489, in_R2)) (by show in_R2.length ≤ 900; rw [R2_len]; decide) (by show k < in_R2.length; rw [R2_len]; exact hk) f
theorem in_str (B : ab_M) : pu_str 5 (li_cv (2489, in_R2) B) := by
  refine ⟨?_, fun k f h => ?_, Or.inl rfl, ?_, ?_, ?_⟩
  · rw [cv_n]
    show ((in_R2.length : Nat) : Int) = 132
    rw [R2_len]; rfl
  · by_cases c : k < 132 ∧ f < 50
    · rw [in_r B c.1]
      exact in_rv ⟨k, c.1⟩ ⟨f, c.2⟩ h
    · rw [rv_out (by omega)] at h
      exact absurd h (by decide)
  · rw [in_r B (by decide)]; decide +kernel
  · rw [in_r B (by decide)]; decide +kernel
  · rw [cv_9, if_neg (by decide), if_pos rfl]
theorem in_odd : ∀ a : Fin 6, ∀ b : Fin 6, (in_R2.getD (30 + a.val) []).getD b.val 0 = -1 := by decide +kernel
theorem in_70 : ∀ i : Fin 6, (in_R2.getD 70 []).getD i.val 0 = -1 ∧ (in_R2.getD 112 []).getD (4 + i.val) 0 = -1 := by decide +kernel
theorem in_inv (B : ab_M) : pu_inv 5 (li_cv (2489, in_R2) B) := by
  have r : ∀ (k f : Nat) (v : Int), k < 132 → (in_R2.getD k []).getD f 0 = v → li_cv (2489, in_R2) B k f = v := fun k f v hk h => (in_r B hk f).trans h
  have c0 := r 5 0 0 (by decide) (by decide +kernel)
  have c1 := r 5 1 (-1) (by decide) (by decide +kernel)
  have c2 := r 5 2 0 (by decide) (by decide +kernel)
  have c3 := r 5 3 0 (by decide) (by decide +kernel)
  have c4 := r 5 4 0 (by decide) (by decide +kernel)
  have m3 := r 103 3 0 (by decide) (by decide +kernel)
  have m9 := r 103 9 0 (by decide) (by decide +kernel)
  have m11 := r 103 11 0 (by decide) (by decide +kernel)
  have m14 := r 103 14 0 (by decide) (by decide +kernel)
  have m17 := r 103 17 0 (by decide) (by decide +kernel)
  have m19 := r 103 19 0 (by decide) (by decide +kernel)
  have m1 := r 103 1 0 (by decide) (by decide +kernel)
  have m2 := r 103 2 (-1) (by decide) (by decide +kernel)
  have s0 := r 69 0 0 (by decide) (by decide +kernel)
  have s1 := r 69 1 (-1) (by decide) (by decide +kernel)
  have s2 := r 69 2 (-1) (by decide) (by decide +kernel)
  have s3 := r 69 3 0 (by decide) (by decide +kernel)
  have n0 := r 112 0 0 (by decide) (by decide +kernel)
  have n2 := r 112 2 (-1) (by decide) (by decide +kernel)
  have n3 := r 112 3 0 (by decide) (by decide +kernel)
  have i1 := r 71 4 0 (by decide) (by decide +kernel)
  have i2 := r 73 4 0 (by decide) (by decide +kernel)
  have b0 := r 130 0 0 (by decide) (by decide +kernel)
  have b1 := r 130 1 0 (by decide) (by decide +kernel)
  have d0 := r 75 0 0 (by decide) (by decide +kernel)
  have e2 := r 90 2 0 (by decide) (by decide +kernel)
  have t0 := r 1 0 0 (by decide) (by decide +kernel)
  have f1 := r 0 1 (-1) (by decide) (by decide +kernel)
  have od : ∀ a b : Nat, a < 6 → b < 6 → li_cv (2489, in_R2) B (30 + a) b = -1 := fun a b ha hb => r _ _ _ (by omega) (in_odd ⟨a, ha⟩ ⟨b, hb⟩)
  have v70 : ∀ i : Nat, i < 6 → li_cv (2489, in_R2) B 70 i = -1 := fun i hi => r _ _ _ (by omega) (in_70 ⟨i, hi⟩).1
  have v112 : ∀ i : Nat, i < 6 → li_cv (2489, in_R2) B 112 (4 + i) = -1 := fun i hi => r _ _ _ (by omega) (in_70 ⟨i, hi⟩).2
  have st := in_str B
  generalize li_cv (2489, in_R2) B = M at *
  refine ⟨st, ?_, ?_, fun a b _ _ q => ?_, fun a b ha hb => ?_, ?_, ⟨?_, ?_, fun q => ?_⟩, ⟨?_, ?_, fun q => ?_⟩, ?_, ?_, ?_⟩
  · unfold pu_town
    rw [c0, c1, c2, c3, c4]
    exact ⟨by omega, by omega, by omega, by omega, fun _ => by omega, fun q => by omega, fun p hp => by omega, fun p hp => by omega, fun p hp => by omega⟩
  · unfold pu_mod
    rw [c0, c2, c3, c4]
    exact ⟨m3, m9, m11, m14, fun q => by omega, fun p hp => by omega, fun p hp => by omega, fun p hp => by omega⟩
  · rw [c0] at q; omega
  · rw [show 5 + 25 + a = 30 + a from rfl, od a b ha hb]
    exact ⟨by omega, by omega, fun q => by omega, fun _ => rfl⟩
  · unfold pu_sta
    rw [s0, s1, s2, s3, c0, c2]
    refine ⟨⟨n0, by omega, by omega⟩, fun q => by omega, fun _ => rfl, Or.inr ⟨n2, rfl⟩, ⟨n3, by omega, by omega⟩, fun i hi => ?_⟩
    rw [show 0 + 4 + i = 4 + i from by omega, show 69 + 1 = 70 from rfl, v112 i hi, v70 i hi]
    omega
  · rw [i1, b0]
  · exact Or.inl i1
  · omega
  · rw [i2, b1]
  · exact Or.inl i2
  · omega
  · unfold pu_dia
    rw [d0, m19]
    exact ⟨rfl, by omega, by omega, fun k hk => by omega⟩
  · unfold pu_tel
    rw [e2, m17]
    exact ⟨rfl, by omega, by omega, fun k hk => by omega⟩
  · unfold pu_txt
    rw [t0, m1, f1, m2]
    exact ⟨rfl, by omega, by omega, fun i hi => by omega, rfl⟩
theorem cv_M0 (L : Nat) (xs : Nat → Int32) : ab_M0 L xs = li_cv (0, []) (ab_M0 L xs) := by
  funext a b
  unfold li_cv
  by_cases c : a = 999
  · rw [if_pos c, c]
    unfold ab_M0
    rw [if_pos rfl]
    by_cases b0 : b = 0
    · rw [if_pos b0, if_neg (by omega)]; rfl
    · rw [if_neg b0]
      by_cases b1 : b = 1
      · rw [if_pos b1, if_neg (by omega)]
      · rw [if_neg b1]
  · rw [if_neg c]
    exact (if_neg (Nat.not_lt_zero a)).symm
theorem li_step {e : ab_E} {d m pc : Nat} {ls : ab_L} {st : List ab_V} {s : li_s} {u : li_St} {B : ab_M} {Q : Option ab_V → ab_M → Prop} (hat : ab_at m pc = some e) (hk : e.2.1 = 0) (hs : s.2.length ≤ 900) (hu : li_st e pc ls st s = some u) (h : ab_wp d m u.1 u.2.1 u.2.2.1 (li_cv u.2.2.2 B) Q) : ab_wp d m pc ls st (li_cv s B) Q := wp_st hat hk (lo_li B hs hu).1 h
set_option maxRecDepth 100000 in
set_option maxHeartbeats 4000000 in
theorem in_all {L : Nat} {xs : Nat → Int32} (hL : L ≤ 320) : ∃ n M', ab_run n 30 194 0 (ab_ent [.inr (.inr 1000)] 4) [] (ab_M0 L xs) = some (some (.inl 1), M') ∧ (M' 999 1).toNat ≤ 7302250 := by
  have w : ab_wp 30 194 0 (ab_ent [.inr (.inr 1000)] 4) [] (ab_M0 L xs) (fun r M' => r = some (.inl 1) ∧ M' 999 1 = 2489) := by
    rw [cv_M0]
    show ab_wp 30 194 0 [some (.inr (.inr 1000)), none, none, none] [] _ _
    refine li_step (u := (3, [some (.inr (.inr 1000)), none, none, none], [.inr (.inr 0)], (16, [li_row 0]))) rfl rfl (by decide) rfl ?_
    refine wp_sts 1 (pc' := 4) (ls' := [some (.inr (.inr 1000)), none, none, none]) (st' := [.inr (.inr 0), .inr (.inr 0)]) (M' := _) rfl ?_
    refine wp_call (q := (64, [.inr (.inr 0)], [.inr (.inr 0)])) (r := none) rfl rfl (by rw [li_args]; rfl) ⟨3000, (li_sound (ab_M0 L xs) _ _ _ _ _ _ _ _ (by decide) in_64).1⟩ ?_
    refine wp_sts 1 (pc' := 8) (ls' := [some (.inr (.inr 1000)), some (.inr (.inr 0)), none, none]) (st' := []) (M' := _) rfl ?_
    refine li_step (u := (11, [some (.inr (.inr 1000)), some (.inr (.inr 0)), none, none], [.inr (.inr 103)], li_mk (1222, in_R1))) rfl rfl (by decide +kernel) rfl ?_
    refine wp_sts 1 (pc' := 12) (ls' := [some (.inr (.inr 1000)), some (.inr (.inr 0)), none, none]) (st' := [.inr (.inr 103), .inr (.inr 103)]) (M' := _) rfl ?_
    refine wp_call (q := (106, [.inr (.inr 103)], [.inr (.inr 103)])) (r := none) rfl rfl (by rw [li_args]; rfl) ⟨3000, (li_sound (ab_M0 L xs) _ _ _ _ _ _ _ _ (by decide +kernel) in_106).1⟩ ?_
    refine wp_sts 3 (pc' := 18) (ls' := la_ls 0) (st' := []) (M' := _) rfl ?_
    have hx : ∀ j, ab_rg (li_cv (2489, in_R2) (ab_M0 L xs) 1000 j) := by
      intro j
      unfold li_cv
      rw [if_neg (by decide), if_neg (by show ¬ 1000 < in_R2.length; rw [R2_len]; decide)]
      unfold ab_M0
      rw [if_neg (by decide), if_pos rfl]
      by_cases c : j < L
      · rw [if_pos c]
        have h1 := Int32.le_toInt (xs j)
        have h2 := Int32.toInt_lt (xs j)
        omega
      · rw [if_neg c]; omega
    have h2 : li_cv (2489, in_R2) (ab_M0 L xs) 999 2 = (L : Int) := by
      rw [cv_9, if_neg (by decide), if_neg (by decide)]
      rfl
    exact la_loop hL (fun t M h => ⟨rfl, h.1.2.2.2.2.2⟩) 64 0 5 _ (by omega) (by omega) (by omega) (in_inv _) hx h2
  obtain ⟨n, ⟨r, M'⟩, hr, h1, h2⟩ := w
  dsimp only at h1 h2
  rw [h1] at hr
  exact ⟨n, M', hr, by rw [h2]; decide⟩
