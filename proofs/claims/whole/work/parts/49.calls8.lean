/-! keep, goBack -/
theorem cpm_zero (M : ab_M) (s e a b : Nat) : ab_cpm M s e a b 0 = M := by
  funext x y
  unfold ab_cpm
  rw [if_neg (by omega)]
theorem cpm_succ {M : ab_M} {s e a b n : Nat} : ab_w (ab_cpm M s e a b n) e (b + n) (M s (a + n)) = ab_cpm M s e a b (n + 1) := by
  funext x y
  unfold ab_w ab_cpm
  by_cases q : x = e ∧ y = b + n
  · rw [if_pos q, if_pos (by omega), show a + (y - b) = a + n from by omega]
  · rw [if_neg q]
    by_cases z : x = e ∧ b ≤ y ∧ y < b + n
    · rw [if_pos z, if_pos (by omega)]
    · rw [if_neg z, if_neg (by omega)]
theorem cpm_src {M : ab_M} {s e a b n f : Nat} (h : s ≠ e) : ab_cpm M s e a b n s f = M s f := by
  unfold ab_cpm
  rw [if_neg (by omega)]
theorem s183 {t : Nat} {M : ab_M} (hS : pu_str t M) (x : Int) (hx : 0 ≤ x ∧ x < 2) : ab_ev 29 183 [.inr (.inr 103), .inl x] M (some (.inl 1)) (ab_w (ab_cpm M 112 131 0 (10 * x).toNat 10) 130 x.toNat 1) := by
  refine ev_wp (b183_0 (by omega) hS ⟨_, _, s107 (by omega) hS x 0 1, hS, fun _ => ?_, fun q => absurd (one_f q) (by omega)⟩)
  have w := loop_up (P := fun i => ab_wp 29 183 15 [some (.inr (.inr 103)), some (.inl x), some (.inl (i : Int))] [] (ab_cpm M 112 131 0 (10 * x).toNat i) (fun r' M'' => r' = some (.inl 1) ∧ M'' = ab_w (ab_cpm M 112 131 0 (10 * x).toNat 10) 130 x.toNat 1)) 10 ?_ ?_ 0 (by omega)
  · rw [cpm_zero] at w
    exact w
  · exact b183_15 (by omega) (str_c hS rfl) ⟨fun _ => ⟨by omega, rfl, rfl⟩, fun _ => by omega⟩
  · intro i hi ih
    refine b183_15 (by omega) (str_c hS rfl) ⟨fun _ => by omega, fun _ => ⟨by omega, by omega, by omega, by omega, by omega, ?_⟩⟩
    rw [Int.toNat_natCast, cpm_src (by decide), show (10 * x + (i : Int)).toNat = (10 * x).toNat + i from by omega, show M 112 i = M 112 (0 + i) from by rw [Nat.zero_add], cpm_succ]
    rw [Int.natCast_succ] at ih
    exact ih
theorem s184 {t : Nat} {M : ab_M} (hS : pu_str t M) (x : Int) (hx : 0 ≤ x ∧ x < 2) (hk : M 130 x.toNat ≠ 0) : ab_ev 29 184 [.inr (.inr 103), .inl x] M (some (.inl 1)) (ab_cpm M 131 112 (10 * x).toNat 0 10) := by
  refine ev_wp (b184_0 (by omega) hS ⟨_, _, s107 (by omega) hS x 0 1, hS, fun _ => ⟨hx, fun _ => ?_, fun q => absurd q hk⟩, fun q => absurd (one_f q) (by omega)⟩)
  have w := loop_up (P := fun i => ab_wp 29 184 27 [some (.inr (.inr 103)), some (.inl x), some (.inl (i : Int))] [] (ab_cpm M 131 112 (10 * x).toNat 0 i) (fun r' M'' => r' = some (.inl 1) ∧ M'' = ab_cpm M 131 112 (10 * x).toNat 0 10)) 10 ?_ ?_ 0 (by omega)
  · rw [cpm_zero] at w
    exact w
  · exact b184_27 (by omega) (str_c hS rfl) ⟨fun _ => ⟨rfl, rfl⟩, fun _ => by omega⟩
  · intro i hi ih
    refine b184_27 (by omega) (str_c hS rfl) ⟨fun _ => by omega, fun _ => ⟨by omega, by omega, by omega, by omega, by omega, ?_⟩⟩
    rw [Int.toNat_natCast, cpm_src (by decide), show (10 * x + (i : Int)).toNat = (10 * x).toNat + i from by omega]
    have e := cpm_succ (M := M) (s := 131) (e := 112) (a := (10 * x).toNat) (b := 0) (n := i)
    rw [Nat.zero_add] at e
    rw [e]
    rw [Int.natCast_succ] at ih
    exact ih
