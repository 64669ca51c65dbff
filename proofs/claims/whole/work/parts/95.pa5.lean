theorem row_na2 {u : Nat} (hu : pu_T u) {a : Nat} (ha : a < 7) : pu_na (u + 2 + a) = true := by
  have e : ∀ a : Fin 7, pu_na (5 + 2 + a.val) = true ∧ pu_na (37 + 2 + a.val) = true := by decide
  have hu' : u = 5 ∨ u = 37 := hu
  rcases hu' with rfl | rfl
  · exact (e ⟨a, ha⟩).1
  · exact (e ⟨a, ha⟩).2
theorem row_na25 {u : Nat} (hu : pu_T u) {a : Nat} (ha : a < 6) : pu_na (u + 25 + a) = true := by
  have e : ∀ a : Fin 6, pu_na (5 + 25 + a.val) = true ∧ pu_na (37 + 25 + a.val) = true := by decide
  have hu' : u = 5 ∨ u = 37 := hu
  rcases hu' with rfl | rfl
  · exact (e ⟨a, ha⟩).1
  · exact (e ⟨a, ha⟩).2
theorem s35 {d t u : Nat} {S M : ab_M} {cl : Nat} {a : Nat → Int} (hd : 2 ≤ d) (hS : pu_str t M) (hu : pu_T u) (hr : pa_rc u S M) (h : pa_ok S) (hc : cl ≤ 6) (hf : ¬ pa_fl S cl = true) (hv : ∀ j, j < pa_nn cl → pa_lo cl j ≤ a j ∧ a j ≤ pa_hi S cl j (a 0) ∧ pa_ag S cl j (a 0) (a j) = false) (hm : ∀ j, j < pa_nn cl → M 4 j = a j) :
    ∃ M', ab_ev d 35 [.inr (.inr 1), .inr (.inr u), .inl (cl : Int)] M none M' ∧ pu_str t M' ∧ pa_rc u (pa_tk S cl a) M' ∧ (∀ c f : Nat, ¬ (u ≤ c ∧ c ≤ u + 31) → M' c f = M c f) := by
  have hu' : u = 5 ∨ u = 37 := hu
  obtain ⟨o0, o2, o3, o4, o5, o6, o7, oz, oo, ow, op, od, oe, oq, ox⟩ := id h
  obtain ⟨⟨r0, r1, r2, r3, r4⟩, q1, q2, q3, q4, q5, q6⟩ := id hr
  have w : ab_wp d 35 0 (ab_ent [.inr (.inr 1), .inr (.inr u), .inl (cl : Int)] (ab_mx 35)) [] M (fun r M' => r = none ∧ pu_str t M' ∧ pa_rc u (pa_tk S cl a) M' ∧ (∀ c f : Nat, ¬ (u ≤ c ∧ c ≤ u + 31) → M' c f = M c f)) := by
    refine b35_0 (by omega) hS hu ?_
    have cs : cl = 0 ∨ cl = 1 ∨ cl = 2 ∨ cl = 3 ∨ cl = 4 ∨ cl = 5 ∨ cl = 6 := by omega
    rcases cs with rfl | rfl | rfl | rfl | rfl | rfl | rfl
    · have m0 := hm 0 (by decide)
      have m1 := hm 1 (by decide)
      refine ⟨fun q => by omega, fun _ => ?_, fun q => by omega, fun q => by omega, fun q => by omega, fun q => by omega, fun q => by omega⟩
      rw [w_ne (show ¬ (4 = u ∧ 1 = 0) by omega), m0, m1]
      refine ⟨rfl, str_w (str_w hS (fT (P := fun z => pu_nr z 0 = true) hu rfl rfl)) (fT (P := fun z => pu_nr z 1 = true) hu rfl rfl), ?_, fun c f q => by rw [w_ne (by omega), w_ne (by omega)]⟩
      show pa_rc u (ab_w (ab_w (ab_w S 0 0 (a 0)) 0 1 (a 1)) 0 7 1) _
      unfold pa_rc
      simp (discharger := omega) only [w_ne, ab_w_eq]
      exact ⟨⟨trivial, trivial, r2, r3, r4⟩, q1, q2, q3, q4, q5, q6⟩
    · have m0 := hm 0 (by decide)
      have m1 := hm 1 (by decide)
      have m2 := hm 2 (by decide)
      have v0 := hv 0 (by decide)
      have v1 := hv 1 (by decide)
      have l0 : 0 ≤ a 0 ∧ a 0 ≤ S 0 0 - 1 := ⟨v0.1, v0.2.1⟩
      have l1 : 0 ≤ a 1 ∧ a 1 ≤ S 0 0 - 1 := ⟨v1.1, v1.2.1⟩
      obtain ⟨x, ex⟩ : ∃ x : Nat, a 0 = (x : Int) := ⟨(a 0).toNat, by omega⟩
      obtain ⟨y, ey⟩ : ∃ y : Nat, a 1 = (y : Int) := ⟨(a 1).toNat, by omega⟩
      refine ⟨fun q => by omega, fun q => by omega, fun _ => ?_, fun q => by omega, fun q => by omega, fun q => by omega, fun q => by omega⟩
      rw [m0, m1, m2, w_ne (show ¬ (4 = u + 2 + (a 0).toNat ∧ 1 = (a 1).toNat) by omega), w_ne (show ¬ (4 = u + 2 + (a 0).toNat ∧ 0 = (a 1).toNat) by omega), w_ne (show ¬ (4 = u + 2 + (a 0).toNat ∧ 2 = (a 1).toNat) by omega), m0, m1, m2]
      refine ⟨by omega, by omega, by omega, by omega, rfl, str_a (str_a hS (row_na2 hu (by omega))) (row_na2 hu (by omega)), ?_, fun c f q => by rw [w_ne (by omega), w_ne (by omega)]⟩
      show pa_rc u (ab_w (ab_w (ab_w S 1 (7 * (a 0).toNat + (a 1).toNat) (a 2)) 1 (7 * (a 1).toNat + (a 0).toNat) (a 2)) 0 5 (S 0 5 + 1)) _
      rw [ex, ey, Int.toNat_natCast, Int.toNat_natCast]
      unfold pa_rc
      refine ⟨?_, fun b c hb hc => ?_, ?_, ?_, ?_, ?_, ?_⟩
      · simp (discharger := omega) only [w_ne]; exact ⟨r0, r1, r2, r3, r4⟩
      · have := q1 b c hb hc
        rw [w_ne (show ¬ (1 = 0 ∧ 7 * b + c = 5) by omega)]
        by_cases c1 : b = y ∧ c = x
        · rw [c1.1, c1.2, ab_w_eq, ab_w_eq]
        · rw [w_ne (show ¬ (u + 2 + b = u + 2 + y ∧ c = x) by omega), w_ne (show ¬ (1 = 1 ∧ 7 * b + c = 7 * y + x) by omega)]
          by_cases c2 : b = x ∧ c = y
          · rw [c2.1, c2.2, ab_w_eq, ab_w_eq]
          · rw [w_ne (show ¬ (u + 2 + b = u + 2 + x ∧ c = y) by omega), w_ne (show ¬ (1 = 1 ∧ 7 * b + c = 7 * x + y) by omega)]
            exact this
      · simp (discharger := omega) only [w_ne]; exact q2
      · simp (discharger := omega) only [w_ne]; exact q3
      · simp (discharger := omega) only [w_ne]; exact q4
      · intro b c hb hc
        have := q5 b c hb hc
        first | exact this | (simp (discharger := omega) only [w_ne]; exact this)
      · simp (discharger := omega) only [w_ne]; exact q6
    · have m0 := hm 0 (by decide)
      have m1 := hm 1 (by decide)
      have f : S 0 2 < 6 := by
        apply Classical.byContradiction
        intro q
        exact hf (decide_eq_true (show 6 ≤ S 0 2 by omega))
      refine ⟨fun q => by omega, fun q => by omega, fun q => by omega, fun _ => ?_, fun q => by omega, fun q => by omega, fun q => by omega⟩
      simp (discharger := omega) only [w_ne]
      rw [r2, m0, m1]
      refine ⟨by omega, by omega, by omega, trivial, str_w (str_a (str_a hS (fT (P := fun z => pu_na (z + 17) = true) hu rfl rfl)) (fT (P := fun z => pu_na (z + 18) = true) hu rfl rfl)) (fT (P := fun z => pu_nr z 2 = true) hu rfl rfl), ?_, fun c f q => by rw [w_ne (by omega), w_ne (by omega), w_ne (by omega)]⟩
      show pa_rc u (ab_w (ab_w (ab_w S 2 (S 0 2).toNat (a 0)) 3 (S 0 2).toNat (a 1)) 0 2 (S 0 2 + 1)) _
      unfold pa_rc
      simp (discharger := omega) only [w_ne, ab_w_eq]
      refine ⟨⟨r0, r1, trivial, r3, r4⟩, fun b c hb hc => ?_, fun p hp => ?_, q3, q4, fun b c hb hc => ?_, q6⟩
      · have := q1 b c hb hc
        first | exact this | (simp (discharger := omega) only [w_ne]; exact this)
      · by_cases c : p = (S 0 2).toNat
        · subst c
          simp (discharger := omega) only [w_ne, ab_w_eq]
          exact ⟨trivial, trivial⟩
        · simp (discharger := omega) only [w_ne]
          exact q2 p (by omega)
      · have := q5 b c hb hc
        first | exact this | (simp (discharger := omega) only [w_ne]; exact this)
    · have m0 := hm 0 (by decide)
      have m1 := hm 1 (by decide)
      have m2 := hm 2 (by decide)
      have m3 := hm 3 (by decide)
      have f : S 0 3 < 6 := by
        apply Classical.byContradiction
        intro q
        exact hf (decide_eq_true (show 6 ≤ S 0 3 by omega))
      refine ⟨fun q => by omega, fun q => by omega, fun q => by omega, fun q => by omega, fun _ => ?_, fun q => by omega, fun q => by omega⟩
      have s1 : pu_str t (ab_w (ab_w (ab_w (ab_w (ab_w M (u + 19) (S 0 3).toNat (a 0)) (u + 20) (S 0 3).toNat (a 1)) (u + 21) (S 0 3).toNat (a 2)) (u + 22) (S 0 3).toNat (a 3)) u 3 (S 0 3 + 1)) := str_w (str_a (str_a (str_a (str_a hS (fT (P := fun z => pu_na (z + 19) = true) hu rfl rfl)) (fT (P := fun z => pu_na (z + 20) = true) hu rfl rfl)) (fT (P := fun z => pu_na (z + 21) = true) hu rfl rfl)) (fT (P := fun z => pu_na (z + 22) = true) hu rfl rfl)) (fT (P := fun z => pu_nr z 3 = true) hu rfl rfl)
      refine ⟨ab_w (ab_w (ab_w (ab_w (ab_w M (u + 19) (S 0 3).toNat (a 0)) (u + 20) (S 0 3).toNat (a 1)) (u + 21) (S 0 3).toNat (a 2)) (u + 22) (S 0 3).toNat (a 3)) u 3 (S 0 3 + 1), ev_wp (b36_0 (by omega) hS hu ?_), s1, rfl, s1, ?_, fun c f q => by rw [w_ne (by omega), w_ne (by omega), w_ne (by omega), w_ne (by omega), w_ne (by omega)]⟩
      · simp (discharger := omega) only [w_ne]
        rw [r3, m0, m1, m2, m3]
        exact ⟨by omega, by omega, trivial, rfl⟩
      · show pa_rc u (ab_w (ab_w (ab_w (ab_w (ab_w (ab_w S 4 (5 * (S 0 3).toNat) (a 0)) 4 (5 * (S 0 3).toNat + 1) (a 1)) 4 (5 * (S 0 3).toNat + 2) (a 2)) 4 (5 * (S 0 3).toNat + 3) (a 3)) 4 (5 * (S 0 3).toNat + 4) (-1)) 0 3 (S 0 3 + 1)) _
        unfold pa_rc
        simp (discharger := omega) only [w_ne, ab_w_eq]
        refine ⟨⟨r0, r1, r2, trivial, r4⟩, fun b c hb hc => ?_, q2, fun i hi => ?_, fun i hi => ?_, fun b c hb hc => ?_, q6⟩
        · have := q1 b c hb hc
          first | exact this | (simp (discharger := omega) only [w_ne]; exact this)
        · by_cases c : i = (S 0 3).toNat
          · subst c
            simp (discharger := omega) only [w_ne, ab_w_eq]
            exact ⟨trivial, trivial, trivial, trivial⟩
          · simp (discharger := omega) only [w_ne]
            exact q3 i (by omega)
        · have := q4 i hi
          by_cases c : i = (S 0 3).toNat
          · rw [this, c, ab_w_eq]
            exact oe _ (by omega)
          · simp (discharger := omega) only [w_ne]
            exact this
        · have := q5 b c hb hc
          first | exact this | (simp (discharger := omega) only [w_ne]; exact this)
    · have m0 := hm 0 (by decide)
      have m1 := hm 1 (by decide)
      have v0 := hv 0 (by decide)
      have l0 : 0 ≤ a 0 ∧ a 0 ≤ S 0 3 - 1 := ⟨v0.1, v0.2.1⟩
      refine ⟨fun q => by omega, fun q => by omega, fun q => by omega, fun q => by omega, fun q => by omega, fun _ => ?_, fun q => by omega⟩
      rw [m0, m1]
      refine ⟨by omega, rfl, str_a hS (fT (P := fun z => pu_na (z + 23) = true) hu rfl rfl), ?_, fun c f q => w_ne (by omega)⟩
      show pa_rc u (ab_w S 4 (5 * (a 0).toNat + 4) (a 1)) _
      unfold pa_rc
      simp (discharger := omega) only [w_ne]
      refine ⟨⟨r0, r1, r2, r3, r4⟩, fun b c hb hc => ?_, q2, q3, fun i hi => ?_, fun b c hb hc => ?_, q6⟩
      · have := q1 b c hb hc
        first | exact this | (simp (discharger := omega) only [w_ne]; exact this)
      · have := q4 i hi
        by_cases c : i = (a 0).toNat
        · rw [c, ab_w_eq, ab_w_eq]
        · rw [w_ne (by omega), w_ne (by omega)]
          exact this
      · have := q5 b c hb hc
        first | exact this | (simp (discharger := omega) only [w_ne]; exact this)
    · have m0 := hm 0 (by decide)
      have m1 := hm 1 (by decide)
      have m2 := hm 2 (by decide)
      have v0 := hv 0 (by decide)
      have v1 := hv 1 (by decide)
      have l0 : 0 ≤ a 0 ∧ a 0 ≤ S 0 2 - 1 := ⟨v0.1, v0.2.1⟩
      have l1 : 0 ≤ a 1 ∧ a 1 ≤ S 0 2 - 1 := ⟨v1.1, v1.2.1⟩
      refine ⟨fun q => by omega, fun q => by omega, fun q => by omega, fun q => by omega, fun q => by omega, fun q => by omega, fun _ => ?_⟩
      rw [m0, m1, m2]
      refine ⟨by omega, by omega, rfl, str_a hS (row_na25 hu (by omega)), ?_, fun c f q => w_ne (by omega)⟩
      show pa_rc u (ab_w (ab_w S 5 (6 * (a 0).toNat + (a 1).toNat) (a 2)) 0 6 (S 0 6 + 1)) _
      unfold pa_rc
      refine ⟨?_, fun b c hb hc => ?_, ?_, ?_, ?_, fun b c hb hc => ?_, ?_⟩
      · simp (discharger := omega) only [w_ne]; exact ⟨r0, r1, r2, r3, r4⟩
      · have := q1 b c hb hc
        first | exact this | (simp (discharger := omega) only [w_ne]; exact this)
      · simp (discharger := omega) only [w_ne]; exact q2
      · simp (discharger := omega) only [w_ne]; exact q3
      · simp (discharger := omega) only [w_ne]; exact q4
      · have := q5 b c hb hc
        rw [w_ne (show ¬ (5 = 0 ∧ 6 * b + c = 6) by omega)]
        by_cases c1 : b = (a 0).toNat ∧ c = (a 1).toNat
        · rw [c1.1, c1.2, ab_w_eq, ab_w_eq]
        · rw [w_ne (show ¬ (u + 25 + b = u + 25 + (a 0).toNat ∧ c = (a 1).toNat) by omega), w_ne (show ¬ (5 = 5 ∧ 6 * b + c = 6 * (a 0).toNat + (a 1).toNat) by omega)]
          exact this
      · simp (discharger := omega) only [w_ne]; exact q6
    · have m0 := hm 0 (by decide)
      have f : S 0 4 < 4 := by
        apply Classical.byContradiction
        intro q
        exact hf (decide_eq_true (show 4 ≤ S 0 4 by omega))
      refine ⟨fun _ => ?_, fun q => by omega, fun q => by omega, fun q => by omega, fun q => by omega, fun q => by omega, fun q => by omega⟩
      simp (discharger := omega) only [w_ne]
      rw [r4, m0]
      refine ⟨by omega, by omega, trivial, str_w (str_a hS (fT (P := fun z => pu_na (z + 31) = true) hu rfl rfl)) (fT (P := fun z => pu_nr z 4 = true) hu rfl rfl), ?_, fun c f q => by rw [w_ne (by omega), w_ne (by omega)]⟩
      show pa_rc u (ab_w (ab_w S 6 (S 0 4).toNat (a 0)) 0 4 (S 0 4 + 1)) _
      unfold pa_rc
      simp (discharger := omega) only [w_ne, ab_w_eq]
      refine ⟨⟨r0, r1, r2, r3, trivial⟩, fun b c hb hc => ?_, q2, q3, q4, fun b c hb hc => ?_, fun o ho => ?_⟩
      · have := q1 b c hb hc
        first | exact this | (simp (discharger := omega) only [w_ne]; exact this)
      · have := q5 b c hb hc
        first | exact this | (simp (discharger := omega) only [w_ne]; exact this)
      · by_cases c : o = (S 0 4).toNat
        · subst c
          rw [ab_w_eq, ab_w_eq]
        · rw [w_ne (by omega), w_ne (by omega)]
          exact q6 o (by omega)
  obtain ⟨r, M', e, rfl, h1, h2, h3⟩ := wp_ev w
  exact ⟨M', e, h1, h2, h3⟩
