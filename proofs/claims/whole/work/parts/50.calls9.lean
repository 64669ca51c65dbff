/-! keep -/
theorem rd_n {M : ab_M} {k f : Nat} {v : Int} {a b : Nat} (h : a ≠ k ∨ b ≠ f) : ab_w M k f v a b = M a b := by
  unfold ab_w
  rw [if_neg (by omega)]
theorem rd_cn {M : ab_M} {s e p q n a b : Nat} (h : a ≠ e ∨ b < q ∨ q + n ≤ b) : ab_cpm M s e p q n a b = M a b := by
  unfold ab_cpm
  rw [if_neg (by omega)]
theorem rd_ci {M : ab_M} {s e p q n a b : Nat} (h : a = e ∧ q ≤ b ∧ b < q + n) : ab_cpm M s e p q n a b = M s (p + (b - q)) := by
  unfold ab_cpm
  rw [if_pos h]
theorem keep0 {t : Nat} {M : ab_M} (h : pu_inv t M) : pu_both 95 183 [.inl 0] t M := by
  obtain ⟨hS, h1, h2, h3, h4, h5, h6, h7, h8, h9, h10⟩ := id h
  obtain ⟨a1, a2, a3, a4, a5, a6⟩ := now_of h5
  have ht : t = 5 ∨ t = 37 := hS.2.2.1
  have s0 : pu_str t (ab_cpm (ab_w (ab_w (ab_w (ab_w M 71 0 (M 69 0)) 71 1 (M 69 1)) 71 2 (M 69 2)) 71 3 (M 69 3)) 70 72 0 0 6) := str_c (str_w (str_w (str_w (str_w hS rfl) rfl) rfl) rfl) rfl
  have s1 : pu_str t (ab_w (ab_cpm (ab_w (ab_w (ab_w (ab_w M 71 0 (M 69 0)) 71 1 (M 69 1)) 71 2 (M 69 2)) 71 3 (M 69 3)) 70 72 0 0 6) 71 4 1) := str_w s0 rfl
  have s2 : pu_str t (ab_w (ab_cpm (ab_w (ab_cpm (ab_w (ab_w (ab_w (ab_w M 71 0 (M 69 0)) 71 1 (M 69 1)) 71 2 (M 69 2)) 71 3 (M 69 3)) 70 72 0 0 6) 71 4 1) 112 131 0 0 10) 130 0 1) := str_a (str_c s1 rfl) rfl
  refine ⟨1, t, (ab_w (ab_cpm (ab_w (ab_w (ab_w (ab_w M 71 0 (M 69 0)) 71 1 (M 69 1)) 71 2 (M 69 2)) 71 3 (M 69 3)) 70 72 0 0 6) 71 4 1), (ab_w (ab_cpm (ab_w (ab_cpm (ab_w (ab_w (ab_w (ab_w M 71 0 (M 69 0)) 71 1 (M 69 1)) 71 2 (M 69 2)) 71 3 (M 69 3)) 70 72 0 0 6) 71 4 1) 112 131 0 0 10) 130 0 1), ev_wp (b95_0 (by omega) hS ⟨fun q => by omega, fun _ => ⟨fun _ => ⟨fun q => by omega, fun _ => ⟨_, ev_wp (b43_0 (s := 71) (s2 := 69) (by omega) hS (Or.inr (Or.inl rfl)) (Or.inl rfl) ⟨by decide, rfl, rfl⟩), s0, rfl, rfl⟩⟩, fun q => by omega⟩⟩), s1, s183 s1 0 (by decide), ?_⟩
  refine inv_im0 h s2 ?_ ⟨rfl, Or.inr rfl, fun _ => ?_⟩
  · intro k f hk
    rw [rd_n (by omega), rd_cn (by omega), rd_n (by omega), rd_cn (by omega), rd_n (by omega), rd_n (by omega), rd_n (by omega), rd_n (by omega)]
  · have b3 : ∀ f, (ab_w (ab_cpm (ab_w (ab_cpm (ab_w (ab_w (ab_w (ab_w M 71 0 (M 69 0)) 71 1 (M 69 1)) 71 2 (M 69 2)) 71 3 (M 69 3)) 70 72 0 0 6) 71 4 1) 112 131 0 0 10) 130 0 1) t f = M t f := by
      intro f
      rw [rd_n (by omega), rd_cn (by omega), rd_n (by omega), rd_cn (by omega), rd_n (by omega), rd_n (by omega), rd_n (by omega), rd_n (by omega)]
    unfold pu_sta
    rw [b3, b3]
    refine ⟨a1, a2, a3, a4, a5, fun i hi => ?_⟩
    have f1 : (ab_w (ab_cpm (ab_w (ab_cpm (ab_w (ab_w (ab_w (ab_w M 71 0 (M 69 0)) 71 1 (M 69 1)) 71 2 (M 69 2)) 71 3 (M 69 3)) 70 72 0 0 6) 71 4 1) 112 131 0 0 10) 130 0 1) 131 (0 + 4 + i) = M 112 (4 + i) := by
      rw [rd_n (by omega), rd_ci (by omega), rd_n (by omega), rd_cn (by omega), rd_n (by omega), rd_n (by omega), rd_n (by omega), rd_n (by omega), show 0 + (0 + 4 + i - 0) = 4 + i from by omega]
    have f2 : (ab_w (ab_cpm (ab_w (ab_cpm (ab_w (ab_w (ab_w (ab_w M 71 0 (M 69 0)) 71 1 (M 69 1)) 71 2 (M 69 2)) 71 3 (M 69 3)) 70 72 0 0 6) 71 4 1) 112 131 0 0 10) 130 0 1) (71 + 1) i = M 70 i := by
      rw [rd_n (by omega), rd_cn (by omega), rd_n (by omega), rd_ci (by omega), rd_n (by omega), rd_n (by omega), rd_n (by omega), rd_n (by omega), show 0 + (i - 0) = i from by omega]
    rw [f1, f2]
    exact a6 i hi
theorem keep1 {t : Nat} {M : ab_M} (h : pu_inv t M) : pu_both 95 183 [.inl 1] t M := by
  obtain ⟨hS, h1, h2, h3, h4, h5, h6, h7, h8, h9, h10⟩ := id h
  obtain ⟨a1, a2, a3, a4, a5, a6⟩ := now_of h5
  have ht : t = 5 ∨ t = 37 := hS.2.2.1
  have s0 : pu_str t (ab_cpm (ab_w (ab_w (ab_w (ab_w M 73 0 (M 69 0)) 73 1 (M 69 1)) 73 2 (M 69 2)) 73 3 (M 69 3)) 70 74 0 0 6) := str_c (str_w (str_w (str_w (str_w hS rfl) rfl) rfl) rfl) rfl
  have s1 : pu_str t (ab_w (ab_cpm (ab_w (ab_w (ab_w (ab_w M 73 0 (M 69 0)) 73 1 (M 69 1)) 73 2 (M 69 2)) 73 3 (M 69 3)) 70 74 0 0 6) 73 4 1) := str_w s0 rfl
  have s2 : pu_str t (ab_w (ab_cpm (ab_w (ab_cpm (ab_w (ab_w (ab_w (ab_w M 73 0 (M 69 0)) 73 1 (M 69 1)) 73 2 (M 69 2)) 73 3 (M 69 3)) 70 74 0 0 6) 73 4 1) 112 131 0 10 10) 130 1 1) := str_a (str_c s1 rfl) rfl
  refine ⟨1, t, (ab_w (ab_cpm (ab_w (ab_w (ab_w (ab_w M 73 0 (M 69 0)) 73 1 (M 69 1)) 73 2 (M 69 2)) 73 3 (M 69 3)) 70 74 0 0 6) 73 4 1), (ab_w (ab_cpm (ab_w (ab_cpm (ab_w (ab_w (ab_w (ab_w M 73 0 (M 69 0)) 73 1 (M 69 1)) 73 2 (M 69 2)) 73 3 (M 69 3)) 70 74 0 0 6) 73 4 1) 112 131 0 10 10) 130 1 1), ev_wp (b95_0 (by omega) hS ⟨fun q => by omega, fun _ => ⟨fun _ => ⟨fun _ => ⟨_, ev_wp (b43_0 (s := 73) (s2 := 69) (by omega) hS (Or.inr (Or.inr rfl)) (Or.inl rfl) ⟨by decide, rfl, rfl⟩), s0, rfl, rfl⟩, fun q => by omega⟩, fun q => by omega⟩⟩), s1, s183 s1 1 (by decide), ?_⟩
  refine inv_im1 h s2 ?_ ⟨rfl, Or.inr rfl, fun _ => ?_⟩
  · intro k f hk
    rw [rd_n (by omega), rd_cn (by omega), rd_n (by omega), rd_cn (by omega), rd_n (by omega), rd_n (by omega), rd_n (by omega), rd_n (by omega)]
  · have b3 : ∀ f, (ab_w (ab_cpm (ab_w (ab_cpm (ab_w (ab_w (ab_w (ab_w M 73 0 (M 69 0)) 73 1 (M 69 1)) 73 2 (M 69 2)) 73 3 (M 69 3)) 70 74 0 0 6) 73 4 1) 112 131 0 10 10) 130 1 1) t f = M t f := by
      intro f
      rw [rd_n (by omega), rd_cn (by omega), rd_n (by omega), rd_cn (by omega), rd_n (by omega), rd_n (by omega), rd_n (by omega), rd_n (by omega)]
    unfold pu_sta
    rw [b3, b3]
    refine ⟨a1, a2, a3, a4, a5, fun i hi => ?_⟩
    have f1 : (ab_w (ab_cpm (ab_w (ab_cpm (ab_w (ab_w (ab_w (ab_w M 73 0 (M 69 0)) 73 1 (M 69 1)) 73 2 (M 69 2)) 73 3 (M 69 3)) 70 74 0 0 6) 73 4 1) 112 131 0 10 10) 130 1 1) 131 (10 + 4 + i) = M 112 (4 + i) := by
      rw [rd_n (by omega), rd_ci (by omega), rd_n (by omega), rd_cn (by omega), rd_n (by omega), rd_n (by omega), rd_n (by omega), rd_n (by omega), show 0 + (10 + 4 + i - 10) = 4 + i from by omega]
    have f2 : (ab_w (ab_cpm (ab_w (ab_cpm (ab_w (ab_w (ab_w (ab_w M 73 0 (M 69 0)) 73 1 (M 69 1)) 73 2 (M 69 2)) 73 3 (M 69 3)) 70 74 0 0 6) 73 4 1) 112 131 0 10 10) 130 1 1) (73 + 1) i = M 70 i := by
      rw [rd_n (by omega), rd_cn (by omega), rd_n (by omega), rd_ci (by omega), rd_n (by omega), rd_n (by omega), rd_n (by omega), rd_n (by omega), show 0 + (i - 0) = i from by omega]
    rw [f1, f2]
    exact a6 i hi
theorem c_keep {t : Nat} {M : ab_M} (h : pu_inv t M) (x : Int) : pu_both 95 183 [.inl x] t M := by
  by_cases c0 : x = 0
  · rw [c0]; exact keep0 h
  · by_cases c1 : x = 1
    · rw [c1]; exact keep1 h
    · exact ⟨-1000000001, t, M, M, ev_wp (b95_0 (by omega) h.1 ⟨fun _ => ⟨rfl, rfl⟩, fun _ => ⟨fun q => by omega, fun _ => ⟨rfl, rfl⟩⟩⟩), h.1, ev_wp (b183_0 (by omega) h.1 ⟨_, _, s107 (by omega) h.1 x 0 1, h.1, fun q => absurd (one_t q) (by omega), fun _ => ⟨rfl, rfl⟩⟩), h⟩
