/-! goBack -/
theorem back0 {t : Nat} {M : ab_M} (h : pu_inv t M) : pu_both 96 184 [.inl 0] t M := by
  obtain ⟨hS, h1, h2, h3, h4, h5, h6, h7, h8, h9, h10⟩ := id h
  obtain ⟨i1, i2, i3⟩ := h6
  have ht : t = 5 ∨ t = 37 := hS.2.2.1
  by_cases c : M 71 4 = 0
  · exact ⟨-1000000003, t, M, M, ev_wp (b96_0 (by omega) hS ⟨fun q => by omega, fun _ => ⟨fun _ => ⟨fun q => absurd rfl q, fun _ => ⟨fun q => absurd c q, fun _ => ⟨rfl, rfl⟩⟩⟩, fun q => by omega⟩⟩), hS, ev_wp (b184_0 (by omega) hS ⟨_, _, s107 (by omega) hS 0 0 1, hS, fun _ => ⟨by decide, fun q => absurd (show M 130 0 = 0 by omega) q, fun _ => ⟨rfl, rfl⟩⟩, fun q => absurd (one_f q) (by decide)⟩), h⟩
  · obtain ⟨a1, a2, a3, a4, a5, a6⟩ := i3 (by omega)
    have s1 : pu_str t (ab_cpm (ab_w (ab_w (ab_w (ab_w M 69 0 (M 71 0)) 69 1 (M 71 1)) 69 2 (M 71 2)) 69 3 (M 71 3)) 72 70 0 0 6) := str_c (str_w (str_w (str_w (str_w hS rfl) rfl) rfl) rfl) rfl
    have s2 : pu_str t (ab_cpm (ab_cpm (ab_w (ab_w (ab_w (ab_w M 69 0 (M 71 0)) 69 1 (M 71 1)) 69 2 (M 71 2)) 69 3 (M 71 3)) 72 70 0 0 6) 131 112 0 0 10) := str_c s1 rfl
    refine ⟨1, t, (ab_cpm (ab_w (ab_w (ab_w (ab_w M 69 0 (M 71 0)) 69 1 (M 71 1)) 69 2 (M 71 2)) 69 3 (M 71 3)) 72 70 0 0 6), (ab_cpm (ab_cpm (ab_w (ab_w (ab_w (ab_w M 69 0 (M 71 0)) 69 1 (M 71 1)) 69 2 (M 71 2)) 69 3 (M 71 3)) 72 70 0 0 6) 131 112 0 0 10), ev_wp (b96_0 (by omega) hS ⟨fun q => by omega, fun _ => ⟨fun _ => ⟨fun q => absurd rfl q, fun _ => ⟨fun _ => ⟨_, ev_wp (b43_0 (s := 69) (s2 := 71) (by omega) hS (Or.inl rfl) (Or.inr (Or.inl rfl)) ⟨by decide, rfl, rfl⟩), s1, rfl, rfl⟩, fun q => absurd q c⟩⟩, fun q => by omega⟩⟩), s1, s184 s1 0 (by decide) (by show M 130 0 ≠ 0; omega), ?_⟩
    refine inv_now h s2 ?_ ?_
    · intro k f hk
      rw [rd_cn (by omega), rd_cn (by omega), rd_n (by omega), rd_n (by omega), rd_n (by omega), rd_n (by omega)]
    · have b3 : ∀ f, (ab_cpm (ab_cpm (ab_w (ab_w (ab_w (ab_w M 69 0 (M 71 0)) 69 1 (M 71 1)) 69 2 (M 71 2)) 69 3 (M 71 3)) 72 70 0 0 6) 131 112 0 0 10) t f = M t f := by
        intro f
        rw [rd_cn (by omega), rd_cn (by omega), rd_n (by omega), rd_n (by omega), rd_n (by omega), rd_n (by omega)]
      unfold pu_sta
      rw [b3, b3]
      refine ⟨a1, a2, a3, a4, a5, fun i hi => ?_⟩
      have f1 : (ab_cpm (ab_cpm (ab_w (ab_w (ab_w (ab_w M 69 0 (M 71 0)) 69 1 (M 71 1)) 69 2 (M 71 2)) 69 3 (M 71 3)) 72 70 0 0 6) 131 112 0 0 10) 112 (0 + 4 + i) = M 131 (0 + 4 + i) := by
        rw [rd_ci (by omega), rd_cn (by omega), rd_n (by omega), rd_n (by omega), rd_n (by omega), rd_n (by omega), show 0 + (0 + 4 + i - 0) = 0 + 4 + i from by omega]
      have f2 : (ab_cpm (ab_cpm (ab_w (ab_w (ab_w (ab_w M 69 0 (M 71 0)) 69 1 (M 71 1)) 69 2 (M 71 2)) 69 3 (M 71 3)) 72 70 0 0 6) 131 112 0 0 10) (69 + 1) i = M (71 + 1) i := by
        rw [rd_cn (by omega), rd_ci (by omega), rd_n (by omega), rd_n (by omega), rd_n (by omega), rd_n (by omega), show 0 + (i - 0) = i from by omega]
      rw [f1, f2]
      exact a6 i hi
theorem back1 {t : Nat} {M : ab_M} (h : pu_inv t M) : pu_both 96 184 [.inl 1] t M := by
  obtain ⟨hS, h1, h2, h3, h4, h5, h6, h7, h8, h9, h10⟩ := id h
  obtain ⟨i1, i2, i3⟩ := h7
  have ht : t = 5 ∨ t = 37 := hS.2.2.1
  by_cases c : M 73 4 = 0
  · exact ⟨-1000000003, t, M, M, ev_wp (b96_0 (by omega) hS ⟨fun q => by omega, fun _ => ⟨fun _ => ⟨fun _ => ⟨fun q => absurd c q, fun _ => ⟨rfl, rfl⟩⟩, fun q => by omega⟩, fun q => by omega⟩⟩), hS, ev_wp (b184_0 (by omega) hS ⟨_, _, s107 (by omega) hS 1 0 1, hS, fun _ => ⟨by decide, fun q => absurd (show M 130 1 = 0 by omega) q, fun _ => ⟨rfl, rfl⟩⟩, fun q => absurd (one_f q) (by decide)⟩), h⟩
  · obtain ⟨a1, a2, a3, a4, a5, a6⟩ := i3 (by omega)
    have s1 : pu_str t (ab_cpm (ab_w (ab_w (ab_w (ab_w M 69 0 (M 73 0)) 69 1 (M 73 1)) 69 2 (M 73 2)) 69 3 (M 73 3)) 74 70 0 0 6) := str_c (str_w (str_w (str_w (str_w hS rfl) rfl) rfl) rfl) rfl
    have s2 : pu_str t (ab_cpm (ab_cpm (ab_w (ab_w (ab_w (ab_w M 69 0 (M 73 0)) 69 1 (M 73 1)) 69 2 (M 73 2)) 69 3 (M 73 3)) 74 70 0 0 6) 131 112 10 0 10) := str_c s1 rfl
    refine ⟨1, t, (ab_cpm (ab_w (ab_w (ab_w (ab_w M 69 0 (M 73 0)) 69 1 (M 73 1)) 69 2 (M 73 2)) 69 3 (M 73 3)) 74 70 0 0 6), (ab_cpm (ab_cpm (ab_w (ab_w (ab_w (ab_w M 69 0 (M 73 0)) 69 1 (M 73 1)) 69 2 (M 73 2)) 69 3 (M 73 3)) 74 70 0 0 6) 131 112 10 0 10), ev_wp (b96_0 (by omega) hS ⟨fun q => by omega, fun _ => ⟨fun _ => ⟨fun _ => ⟨fun _ => ⟨_, ev_wp (b43_0 (s := 69) (s2 := 73) (by omega) hS (Or.inl rfl) (Or.inr (Or.inr rfl)) ⟨by decide, rfl, rfl⟩), s1, rfl, rfl⟩, fun q => absurd q c⟩, fun q => by omega⟩, fun q => by omega⟩⟩), s1, s184 s1 1 (by decide) (by show M 130 1 ≠ 0; omega), ?_⟩
    refine inv_now h s2 ?_ ?_
    · intro k f hk
      rw [rd_cn (by omega), rd_cn (by omega), rd_n (by omega), rd_n (by omega), rd_n (by omega), rd_n (by omega)]
    · have b3 : ∀ f, (ab_cpm (ab_cpm (ab_w (ab_w (ab_w (ab_w M 69 0 (M 73 0)) 69 1 (M 73 1)) 69 2 (M 73 2)) 69 3 (M 73 3)) 74 70 0 0 6) 131 112 10 0 10) t f = M t f := by
        intro f
        rw [rd_cn (by omega), rd_cn (by omega), rd_n (by omega), rd_n (by omega), rd_n (by omega), rd_n (by omega)]
      unfold pu_sta
      rw [b3, b3]
      refine ⟨a1, a2, a3, a4, a5, fun i hi => ?_⟩
      have f1 : (ab_cpm (ab_cpm (ab_w (ab_w (ab_w (ab_w M 69 0 (M 73 0)) 69 1 (M 73 1)) 69 2 (M 73 2)) 69 3 (M 73 3)) 74 70 0 0 6) 131 112 10 0 10) 112 (0 + 4 + i) = M 131 (10 + 4 + i) := by
        rw [rd_ci (by omega), rd_cn (by omega), rd_n (by omega), rd_n (by omega), rd_n (by omega), rd_n (by omega), show 10 + (0 + 4 + i - 0) = 10 + 4 + i from by omega]
      have f2 : (ab_cpm (ab_cpm (ab_w (ab_w (ab_w (ab_w M 69 0 (M 73 0)) 69 1 (M 73 1)) 69 2 (M 73 2)) 69 3 (M 73 3)) 74 70 0 0 6) 131 112 10 0 10) (69 + 1) i = M (73 + 1) i := by
        rw [rd_cn (by omega), rd_ci (by omega), rd_n (by omega), rd_n (by omega), rd_n (by omega), rd_n (by omega), show 0 + (i - 0) = i from by omega]
      rw [f1, f2]
      exact a6 i hi
theorem c_goBack {t : Nat} {M : ab_M} (h : pu_inv t M) (x : Int) : pu_both 96 184 [.inl x] t M := by
  by_cases c0 : x = 0
  · rw [c0]; exact back0 h
  · by_cases c1 : x = 1
    · rw [c1]; exact back1 h
    · exact ⟨-1000000001, t, M, M, ev_wp (b96_0 (by omega) h.1 ⟨fun _ => ⟨rfl, rfl⟩, fun _ => ⟨fun q => by omega, fun _ => ⟨rfl, rfl⟩⟩⟩), h.1, ev_wp (b184_0 (by omega) h.1 ⟨_, _, s107 (by omega) h.1 x 0 1, h.1, fun q => absurd (one_t q) (by omega), fun _ => ⟨rfl, rfl⟩⟩), h⟩
