/-! the relation when a part of it changes -/
theorem inv_now {t : Nat} {M M' : ab_M} (h : pu_inv t M) (hs : pu_str t M') (g : ∀ (k f : Nat), ¬ (k = 69 ∨ k = 70 ∨ k = 112 ∨ pu_sc k f) → M' k f = M k f) (n_sta : pu_sta t M' 69 112 0) : pu_inv t M' := by
  obtain ⟨⟨_, _, ht, _⟩, h1, h2, h3, h4, h5, h6, h7, h8, h9, h10⟩ := h
  have ht' : t = 5 ∨ t = 37 := ht
  refine ⟨hs, ?_, ?_, ?_, ?_, n_sta, ?_, ?_, ?_, ?_, ?_⟩
  · unfold pu_town at h1 ⊢
    simp (discharger := omega) only [g]
    exact h1
  · unfold pu_mod at h2 ⊢
    simp (discharger := omega) only [g]
    exact h2
  · intro a b ha hb
    have := h3 a b ha hb
    simp (discharger := omega) only [g]
    exact this
  · intro a b ha hb
    have := h4 a b ha hb
    simp (discharger := omega) only [g]
    exact this
  · obtain ⟨b1, b2, b3⟩ := h6
    refine ⟨?_, ?_, fun q => ?_⟩
    · simp (discharger := omega) only [g]; exact b1
    · simp (discharger := omega) only [g]; exact b2
    · rw [g _ _ (by omega)] at q
      obtain ⟨a1, a2, a3, a4, a5, a6⟩ := b3 q
      refine ⟨?_, ?_, ?_, ?_, ?_, fun i hi => ?_⟩
      · simp (discharger := omega) only [g]; exact a1
      · simp (discharger := omega) only [g]; exact a2
      · simp (discharger := omega) only [g]; exact a3
      · simp (discharger := omega) only [g]; exact a4
      · simp (discharger := omega) only [g]; exact a5
      · have := a6 i hi
        simp (discharger := omega) only [g]
        exact this
  · obtain ⟨b1, b2, b3⟩ := h7
    refine ⟨?_, ?_, fun q => ?_⟩
    · simp (discharger := omega) only [g]; exact b1
    · simp (discharger := omega) only [g]; exact b2
    · rw [g _ _ (by omega)] at q
      obtain ⟨a1, a2, a3, a4, a5, a6⟩ := b3 q
      refine ⟨?_, ?_, ?_, ?_, ?_, fun i hi => ?_⟩
      · simp (discharger := omega) only [g]; exact a1
      · simp (discharger := omega) only [g]; exact a2
      · simp (discharger := omega) only [g]; exact a3
      · simp (discharger := omega) only [g]; exact a4
      · simp (discharger := omega) only [g]; exact a5
      · have := a6 i hi
        simp (discharger := omega) only [g]
        exact this
  · unfold pu_dia at h8 ⊢
    simp (discharger := omega) only [g]
    exact h8
  · unfold pu_tel at h9 ⊢
    simp (discharger := omega) only [g]
    exact h9
  · unfold pu_txt at h10 ⊢
    simp (discharger := omega) only [g]
    exact h10
theorem inv_im0 {t : Nat} {M M' : ab_M} (h : pu_inv t M) (hs : pu_str t M') (g : ∀ (k f : Nat), ¬ (k = 71 ∨ k = 72 ∨ (k = 130 ∧ f = 0) ∨ (k = 131 ∧ f < 10)) → M' k f = M k f) (n_im0 : pu_img t M' 71 0 0) : pu_inv t M' := by
  obtain ⟨⟨_, _, ht, _⟩, h1, h2, h3, h4, h5, h6, h7, h8, h9, h10⟩ := h
  have ht' : t = 5 ∨ t = 37 := ht
  refine ⟨hs, ?_, ?_, ?_, ?_, ?_, n_im0, ?_, ?_, ?_, ?_⟩
  · unfold pu_town at h1 ⊢
    simp (discharger := omega) only [g]
    exact h1
  · unfold pu_mod at h2 ⊢
    simp (discharger := omega) only [g]
    exact h2
  · intro a b ha hb
    have := h3 a b ha hb
    simp (discharger := omega) only [g]
    exact this
  · intro a b ha hb
    have := h4 a b ha hb
    simp (discharger := omega) only [g]
    exact this
  · unfold pu_sta at h5 ⊢
    simp (discharger := omega) only [g]
    exact h5
  · obtain ⟨b1, b2, b3⟩ := h7
    refine ⟨?_, ?_, fun q => ?_⟩
    · simp (discharger := omega) only [g]; exact b1
    · simp (discharger := omega) only [g]; exact b2
    · rw [g _ _ (by omega)] at q
      obtain ⟨a1, a2, a3, a4, a5, a6⟩ := b3 q
      refine ⟨?_, ?_, ?_, ?_, ?_, fun i hi => ?_⟩
      · simp (discharger := omega) only [g]; exact a1
      · simp (discharger := omega) only [g]; exact a2
      · simp (discharger := omega) only [g]; exact a3
      · simp (discharger := omega) only [g]; exact a4
      · simp (discharger := omega) only [g]; exact a5
      · have := a6 i hi
        simp (discharger := omega) only [g]
        exact this
  · unfold pu_dia at h8 ⊢
    simp (discharger := omega) only [g]
    exact h8
  · unfold pu_tel at h9 ⊢
    simp (discharger := omega) only [g]
    exact h9
  · unfold pu_txt at h10 ⊢
    simp (discharger := omega) only [g]
    exact h10
theorem inv_im1 {t : Nat} {M M' : ab_M} (h : pu_inv t M) (hs : pu_str t M') (g : ∀ (k f : Nat), ¬ (k = 73 ∨ k = 74 ∨ (k = 130 ∧ f = 1) ∨ (k = 131 ∧ 10 ≤ f)) → M' k f = M k f) (n_im1 : pu_img t M' 73 1 10) : pu_inv t M' := by
  obtain ⟨⟨_, _, ht, _⟩, h1, h2, h3, h4, h5, h6, h7, h8, h9, h10⟩ := h
  have ht' : t = 5 ∨ t = 37 := ht
  refine ⟨hs, ?_, ?_, ?_, ?_, ?_, ?_, n_im1, ?_, ?_, ?_⟩
  · unfold pu_town at h1 ⊢
    simp (discharger := omega) only [g]
    exact h1
  · unfold pu_mod at h2 ⊢
    simp (discharger := omega) only [g]
    exact h2
  · intro a b ha hb
    have := h3 a b ha hb
    simp (discharger := omega) only [g]
    exact this
  · intro a b ha hb
    have := h4 a b ha hb
    simp (discharger := omega) only [g]
    exact this
  · unfold pu_sta at h5 ⊢
    simp (discharger := omega) only [g]
    exact h5
  · obtain ⟨b1, b2, b3⟩ := h6
    refine ⟨?_, ?_, fun q => ?_⟩
    · simp (discharger := omega) only [g]; exact b1
    · simp (discharger := omega) only [g]; exact b2
    · rw [g _ _ (by omega)] at q
      obtain ⟨a1, a2, a3, a4, a5, a6⟩ := b3 q
      refine ⟨?_, ?_, ?_, ?_, ?_, fun i hi => ?_⟩
      · simp (discharger := omega) only [g]; exact a1
      · simp (discharger := omega) only [g]; exact a2
      · simp (discharger := omega) only [g]; exact a3
      · simp (discharger := omega) only [g]; exact a4
      · simp (discharger := omega) only [g]; exact a5
      · have := a6 i hi
        simp (discharger := omega) only [g]
        exact this
  · unfold pu_dia at h8 ⊢
    simp (discharger := omega) only [g]
    exact h8
  · unfold pu_tel at h9 ⊢
    simp (discharger := omega) only [g]
    exact h9
  · unfold pu_txt at h10 ⊢
    simp (discharger := omega) only [g]
    exact h10
theorem inv_dia {t : Nat} {M M' : ab_M} (h : pu_inv t M) (hs : pu_str t M') (g : ∀ (k f : Nat), ¬ (k = 75 ∨ k = 76 ∨ k = 77 ∨ k = 114 ∨ (k = 103 ∧ f = 19)) → M' k f = M k f) (n_dia : pu_dia t M') : pu_inv t M' := by
  obtain ⟨⟨_, _, ht, _⟩, h1, h2, h3, h4, h5, h6, h7, h8, h9, h10⟩ := h
  have ht' : t = 5 ∨ t = 37 := ht
  refine ⟨hs, ?_, ?_, ?_, ?_, ?_, ?_, ?_, n_dia, ?_, ?_⟩
  · unfold pu_town at h1 ⊢
    simp (discharger := omega) only [g]
    exact h1
  · unfold pu_mod at h2 ⊢
    simp (discharger := omega) only [g]
    exact h2
  · intro a b ha hb
    have := h3 a b ha hb
    simp (discharger := omega) only [g]
    exact this
  · intro a b ha hb
    have := h4 a b ha hb
    simp (discharger := omega) only [g]
    exact this
  · unfold pu_sta at h5 ⊢
    simp (discharger := omega) only [g]
    exact h5
  · obtain ⟨b1, b2, b3⟩ := h6
    refine ⟨?_, ?_, fun q => ?_⟩
    · simp (discharger := omega) only [g]; exact b1
    · simp (discharger := omega) only [g]; exact b2
    · rw [g _ _ (by omega)] at q
      obtain ⟨a1, a2, a3, a4, a5, a6⟩ := b3 q
      refine ⟨?_, ?_, ?_, ?_, ?_, fun i hi => ?_⟩
      · simp (discharger := omega) only [g]; exact a1
      · simp (discharger := omega) only [g]; exact a2
      · simp (discharger := omega) only [g]; exact a3
      · simp (discharger := omega) only [g]; exact a4
      · simp (discharger := omega) only [g]; exact a5
      · have := a6 i hi
        simp (discharger := omega) only [g]
        exact this
  · obtain ⟨b1, b2, b3⟩ := h7
    refine ⟨?_, ?_, fun q => ?_⟩
    · simp (discharger := omega) only [g]; exact b1
    · simp (discharger := omega) only [g]; exact b2
    · rw [g _ _ (by omega)] at q
      obtain ⟨a1, a2, a3, a4, a5, a6⟩ := b3 q
      refine ⟨?_, ?_, ?_, ?_, ?_, fun i hi => ?_⟩
      · simp (discharger := omega) only [g]; exact a1
      · simp (discharger := omega) only [g]; exact a2
      · simp (discharger := omega) only [g]; exact a3
      · simp (discharger := omega) only [g]; exact a4
      · simp (discharger := omega) only [g]; exact a5
      · have := a6 i hi
        simp (discharger := omega) only [g]
        exact this
  · unfold pu_tel at h9 ⊢
    simp (discharger := omega) only [g]
    exact h9
  · unfold pu_txt at h10 ⊢
    simp (discharger := omega) only [g]
    exact h10
theorem inv_tel {t : Nat} {M M' : ab_M} (h : pu_inv t M) (hs : pu_str t M') (g : ∀ (k f : Nat), ¬ ((k = 90 ∧ f = 2) ∨ k = 93 ∨ k = 94 ∨ k = 113 ∨ (k = 103 ∧ f = 17)) → M' k f = M k f) (n_tel : pu_tel t M') : pu_inv t M' := by
  obtain ⟨⟨_, _, ht, _⟩, h1, h2, h3, h4, h5, h6, h7, h8, h9, h10⟩ := h
  have ht' : t = 5 ∨ t = 37 := ht
  refine ⟨hs, ?_, ?_, ?_, ?_, ?_, ?_, ?_, ?_, n_tel, ?_⟩
  · unfold pu_town at h1 ⊢
    simp (discharger := omega) only [g]
    exact h1
  · unfold pu_mod at h2 ⊢
    simp (discharger := omega) only [g]
    exact h2
  · intro a b ha hb
    have := h3 a b ha hb
    simp (discharger := omega) only [g]
    exact this
  · intro a b ha hb
    have := h4 a b ha hb
    simp (discharger := omega) only [g]
    exact this
  · unfold pu_sta at h5 ⊢
    simp (discharger := omega) only [g]
    exact h5
  · obtain ⟨b1, b2, b3⟩ := h6
    refine ⟨?_, ?_, fun q => ?_⟩
    · simp (discharger := omega) only [g]; exact b1
    · simp (discharger := omega) only [g]; exact b2
    · rw [g _ _ (by omega)] at q
      obtain ⟨a1, a2, a3, a4, a5, a6⟩ := b3 q
      refine ⟨?_, ?_, ?_, ?_, ?_, fun i hi => ?_⟩
      · simp (discharger := omega) only [g]; exact a1
      · simp (discharger := omega) only [g]; exact a2
      · simp (discharger := omega) only [g]; exact a3
      · simp (discharger := omega) only [g]; exact a4
      · simp (discharger := omega) only [g]; exact a5
      · have := a6 i hi
        simp (discharger := omega) only [g]
        exact this
  · obtain ⟨b1, b2, b3⟩ := h7
    refine ⟨?_, ?_, fun q => ?_⟩
    · simp (discharger := omega) only [g]; exact b1
    · simp (discharger := omega) only [g]; exact b2
    · rw [g _ _ (by omega)] at q
      obtain ⟨a1, a2, a3, a4, a5, a6⟩ := b3 q
      refine ⟨?_, ?_, ?_, ?_, ?_, fun i hi => ?_⟩
      · simp (discharger := omega) only [g]; exact a1
      · simp (discharger := omega) only [g]; exact a2
      · simp (discharger := omega) only [g]; exact a3
      · simp (discharger := omega) only [g]; exact a4
      · simp (discharger := omega) only [g]; exact a5
      · have := a6 i hi
        simp (discharger := omega) only [g]
        exact this
  · unfold pu_dia at h8 ⊢
    simp (discharger := omega) only [g]
    exact h8
  · unfold pu_txt at h10 ⊢
    simp (discharger := omega) only [g]
    exact h10
theorem inv_tear {t : Nat} {M M' : ab_M} (h : pu_inv t M) (hs : pu_str t M') (g : ∀ (k f : Nat), ¬ (k = 75 ∨ (k = 90 ∧ f = 2) ∨ (k = 103 ∧ (f = 17 ∨ f = 19))) → M' k f = M k f) (n_dia : pu_dia t M') (n_tel : pu_tel t M') : pu_inv t M' := by
  obtain ⟨⟨_, _, ht, _⟩, h1, h2, h3, h4, h5, h6, h7, h8, h9, h10⟩ := h
  have ht' : t = 5 ∨ t = 37 := ht
  refine ⟨hs, ?_, ?_, ?_, ?_, ?_, ?_, ?_, n_dia, n_tel, ?_⟩
  · unfold pu_town at h1 ⊢
    simp (discharger := omega) only [g]
    exact h1
  · unfold pu_mod at h2 ⊢
    simp (discharger := omega) only [g]
    exact h2
  · intro a b ha hb
    have := h3 a b ha hb
    simp (discharger := omega) only [g]
    exact this
  · intro a b ha hb
    have := h4 a b ha hb
    simp (discharger := omega) only [g]
    exact this
  · unfold pu_sta at h5 ⊢
    simp (discharger := omega) only [g]
    exact h5
  · obtain ⟨b1, b2, b3⟩ := h6
    refine ⟨?_, ?_, fun q => ?_⟩
    · simp (discharger := omega) only [g]; exact b1
    · simp (discharger := omega) only [g]; exact b2
    · rw [g _ _ (by omega)] at q
      obtain ⟨a1, a2, a3, a4, a5, a6⟩ := b3 q
      refine ⟨?_, ?_, ?_, ?_, ?_, fun i hi => ?_⟩
      · simp (discharger := omega) only [g]; exact a1
      · simp (discharger := omega) only [g]; exact a2
      · simp (discharger := omega) only [g]; exact a3
      · simp (discharger := omega) only [g]; exact a4
      · simp (discharger := omega) only [g]; exact a5
      · have := a6 i hi
        simp (discharger := omega) only [g]
        exact this
  · obtain ⟨b1, b2, b3⟩ := h7
    refine ⟨?_, ?_, fun q => ?_⟩
    · simp (discharger := omega) only [g]; exact b1
    · simp (discharger := omega) only [g]; exact b2
    · rw [g _ _ (by omega)] at q
      obtain ⟨a1, a2, a3, a4, a5, a6⟩ := b3 q
      refine ⟨?_, ?_, ?_, ?_, ?_, fun i hi => ?_⟩
      · simp (discharger := omega) only [g]; exact a1
      · simp (discharger := omega) only [g]; exact a2
      · simp (discharger := omega) only [g]; exact a3
      · simp (discharger := omega) only [g]; exact a4
      · simp (discharger := omega) only [g]; exact a5
      · have := a6 i hi
        simp (discharger := omega) only [g]
        exact this
  · unfold pu_txt at h10 ⊢
    simp (discharger := omega) only [g]
    exact h10
theorem inv_txt {t : Nat} {M M' : ab_M} (h : pu_inv t M) (hs : pu_str t M') (g : ∀ (k f : Nat), ¬ ((k = 1 ∧ f < 3) ∨ k = 2 ∨ k = 104 ∨ (k = 103 ∧ (f = 1 ∨ f = 2)) ∨ (k = 0 ∧ f = 1)) → M' k f = M k f) (n_txt : pu_txt M') : pu_inv t M' := by
  obtain ⟨⟨_, _, ht, _⟩, h1, h2, h3, h4, h5, h6, h7, h8, h9, h10⟩ := h
  have ht' : t = 5 ∨ t = 37 := ht
  refine ⟨hs, ?_, ?_, ?_, ?_, ?_, ?_, ?_, ?_, ?_, n_txt⟩
  · unfold pu_town at h1 ⊢
    simp (discharger := omega) only [g]
    exact h1
  · unfold pu_mod at h2 ⊢
    simp (discharger := omega) only [g]
    exact h2
  · intro a b ha hb
    have := h3 a b ha hb
    simp (discharger := omega) only [g]
    exact this
  · intro a b ha hb
    have := h4 a b ha hb
    simp (discharger := omega) only [g]
    exact this
  · unfold pu_sta at h5 ⊢
    simp (discharger := omega) only [g]
    exact h5
  · obtain ⟨b1, b2, b3⟩ := h6
    refine ⟨?_, ?_, fun q => ?_⟩
    · simp (discharger := omega) only [g]; exact b1
    · simp (discharger := omega) only [g]; exact b2
    · rw [g _ _ (by omega)] at q
      obtain ⟨a1, a2, a3, a4, a5, a6⟩ := b3 q
      refine ⟨?_, ?_, ?_, ?_, ?_, fun i hi => ?_⟩
      · simp (discharger := omega) only [g]; exact a1
      · simp (discharger := omega) only [g]; exact a2
      · simp (discharger := omega) only [g]; exact a3
      · simp (discharger := omega) only [g]; exact a4
      · simp (discharger := omega) only [g]; exact a5
      · have := a6 i hi
        simp (discharger := omega) only [g]
        exact this
  · obtain ⟨b1, b2, b3⟩ := h7
    refine ⟨?_, ?_, fun q => ?_⟩
    · simp (discharger := omega) only [g]; exact b1
    · simp (discharger := omega) only [g]; exact b2
    · rw [g _ _ (by omega)] at q
      obtain ⟨a1, a2, a3, a4, a5, a6⟩ := b3 q
      refine ⟨?_, ?_, ?_, ?_, ?_, fun i hi => ?_⟩
      · simp (discharger := omega) only [g]; exact a1
      · simp (discharger := omega) only [g]; exact a2
      · simp (discharger := omega) only [g]; exact a3
      · simp (discharger := omega) only [g]; exact a4
      · simp (discharger := omega) only [g]; exact a5
      · have := a6 i hi
        simp (discharger := omega) only [g]
        exact this
  · unfold pu_dia at h8 ⊢
    simp (discharger := omega) only [g]
    exact h8
  · unfold pu_tel at h9 ⊢
    simp (discharger := omega) only [g]
    exact h9
theorem now_of {t : Nat} {M : ab_M} (h : pu_sta t M 69 112 0) : (M 112 0 = M 69 0 ∧ 0 ≤ M 69 0 ∧ M 69 0 ≤ 97000) ∧ (0 < M t 0 → M 112 1 = M 69 1 ∧ 0 ≤ M 69 1 ∧ M 69 1 < M t 0) ∧ (M t 0 = 0 → M 69 1 = -1)
  ∧ (M 112 2 = M 69 2 ∧ -1 ≤ M 69 2 ∧ M 69 2 < M t 2 ∨ (M 112 2 = -1 ∧ M 69 2 = -1)) ∧ (M 112 3 = M 69 3 ∧ 0 ≤ M 69 3 ∧ M 69 3 ≤ 2147483647) ∧ (∀ i : Nat, i < 6 → M 112 (4 + i) = M 70 i ∧ -1 ≤ M 70 i ∧ M 70 i ≤ 97000) := h
theorem of_now {t : Nat} {M : ab_M} (h : (M 112 0 = M 69 0 ∧ 0 ≤ M 69 0 ∧ M 69 0 ≤ 97000) ∧ (0 < M t 0 → M 112 1 = M 69 1 ∧ 0 ≤ M 69 1 ∧ M 69 1 < M t 0) ∧ (M t 0 = 0 → M 69 1 = -1)
  ∧ (M 112 2 = M 69 2 ∧ -1 ≤ M 69 2 ∧ M 69 2 < M t 2 ∨ (M 112 2 = -1 ∧ M 69 2 = -1)) ∧ (M 112 3 = M 69 3 ∧ 0 ≤ M 69 3 ∧ M 69 3 ≤ 2147483647) ∧ (∀ i : Nat, i < 6 → M 112 (4 + i) = M 70 i ∧ -1 ≤ M 70 i ∧ M 70 i ≤ 97000)) : pu_sta t M 69 112 0 := h
/-- one call of both -/
def pu_both (mc mm : Nat) (as : List ab_V) (t : Nat) (M : ab_M) : Prop := ∃ (r : Int) (t' : Nat) (M1 M2 : ab_M), ab_ev 29 mc (.inr (.inr 0) :: as) M (some (.inl r)) M1 ∧ pu_str t' M1 ∧ ab_ev 29 mm (.inr (.inr 103) :: as) M1 (some (.inl r)) M2 ∧ pu_inv t' M2
theorem c_fault {t : Nat} {M : ab_M} (h : pu_inv t M) : pu_both 67 127 [] t M := by
  refine ⟨M 0 1, t, M, M, ev_wp (b67_0 (by omega) h.1 ⟨rfl, rfl⟩), h.1, ev_wp (b127_0 (by omega) h.1 ⟨?_, rfl⟩), h⟩
  obtain ⟨_, _, _, _, _, _, _, _, _, _, hx⟩ := h
  rw [hx.2.2.2.2]
theorem c_drop {t : Nat} {M : ab_M} (h : pu_inv t M) : pu_both 76 144 [] t M := by
  obtain ⟨hS, h1, h2, h3, h4, h5, hr⟩ := id h
  obtain ⟨a1, a2, a3, a4, a5, a6⟩ := now_of h5
  have ht : t = 5 ∨ t = 37 := hS.2.2.1
  have s1 : pu_str t (ab_w M 69 2 (-1)) := str_w hS rfl
  have s2 : pu_str t (ab_w (ab_w M 69 2 (-1)) 112 2 (-1)) := str_a s1 rfl
  refine ⟨M 69 2, t, _, _, ev_wp (b76_0 (by omega) hS ⟨rfl, rfl⟩), s1, ev_wp (b144_0 (by omega) s1 ⟨?_, rfl⟩), ?_⟩
  · rw [show ab_w M 69 2 (-1) 112 2 = M 69 2 from (show M 112 2 = M 69 2 by omega)]
  · refine inv_now h s2 ?_ (of_now ?_)
    · intro k f hk
      unfold ab_w
      rw [if_neg (by omega), if_neg (by omega)]
    · unfold ab_w
      simp (discharger := omega) only [if_neg, if_pos]
      exact ⟨a1, a2, a3, Or.inr ⟨rfl, rfl⟩, a5, a6⟩
theorem c_seed {t : Nat} {M : ab_M} (h : pu_inv t M) (x : Int) (hx : ab_rg x) : pu_both 94 182 [.inl x] t M := by
  obtain ⟨hS, h1, h2, h3, h4, h5, hr⟩ := id h
  obtain ⟨a1, a2, a3, a4, a5, a6⟩ := now_of h5
  have ht : t = 5 ∨ t = 37 := hS.2.2.1
  by_cases c : 0 ≤ x
  · have s1 : pu_str t (ab_w M 69 3 x) := str_w hS rfl
    have s2 : pu_str t (ab_w (ab_w M 69 3 x) 112 3 x) := str_a s1 rfl
    refine ⟨M 69 3, t, _, _, ev_wp (b94_0 (by omega) hS ⟨fun _ => ⟨rfl, rfl⟩, fun q => by omega⟩), s1, ev_wp (b182_0 (by omega) s1 ⟨fun _ => ⟨?_, rfl⟩, fun q => by omega⟩), ?_⟩
    · rw [show ab_w M 69 3 x 112 3 = M 69 3 from a5.1]
    · refine inv_now h s2 ?_ (of_now ?_)
      · intro k f hk
        unfold ab_w
        rw [if_neg (by omega), if_neg (by omega)]
      · unfold ab_w
        simp (discharger := omega) only [if_neg, if_pos]
        exact ⟨a1, a2, a3, a4, ⟨rfl, c, hx.2⟩, a6⟩
  · exact ⟨-1000000002, t, M, M, ev_wp (b94_0 (by omega) hS ⟨fun q => by omega, fun _ => ⟨rfl, rfl⟩⟩), hS, ev_wp (b182_0 (by omega) hS ⟨fun q => by omega, fun _ => ⟨rfl, rfl⟩⟩), h⟩
theorem c_pass {t : Nat} {M : ab_M} (h : pu_inv t M) (x : Int) : pu_both 77 145 [.inl x] t M := by
  obtain ⟨hS, h1, h2, h3, h4, h5, hr⟩ := id h
  obtain ⟨a1, a2, a3, a4, a5, a6⟩ := now_of h5
  have ht : t = 5 ∨ t = 37 := hS.2.2.1
  by_cases c : 1 ≤ x ∧ x ≤ 999
  · by_cases c2 : M 69 0 ≤ 90000
    · have s1 : pu_str t (ab_w M 69 0 (M 69 0 + x)) := str_w hS rfl
      have s2 : pu_str t (ab_w (ab_w M 69 0 (M 69 0 + x)) 112 0 (M 69 0 + x)) := str_a s1 rfl
      refine ⟨M 69 0 + x, t, _, ab_w (ab_w M 69 0 (M 69 0 + x)) 112 0 (M 69 0 + x), ev_wp (b77_0 (by omega) hS ⟨fun q => by omega, fun _ => ⟨fun _ => ⟨fun _ => ⟨by omega, rfl, rfl⟩, fun q => by omega⟩, fun q => by omega⟩⟩), s1, ev_wp (b145_0 (by omega) s1 ⟨_, _, s107 (by omega) s1 x 1 999, s1, fun _ => ⟨fun _ => ⟨?_, ?_, ?_⟩, fun q => ?_⟩, fun q => ?_⟩), ?_⟩
      · show ab_rg (M 112 0 + x)
        omega
      · show some (Sum.inl (M 112 0 + x)) = some (Sum.inl (M 69 0 + x))
        rw [a1.1]
      · show ab_w (ab_w M 69 0 (M 69 0 + x)) 112 0 (M 112 0 + x) = _
        rw [a1.1]
      · replace q : 90000 < M 112 0 := q
        omega
      · rw [if_pos c] at q
        omega
      · refine inv_now h s2 ?_ (of_now ?_)
        · intro k f hk
          unfold ab_w
          rw [if_neg (by omega), if_neg (by omega)]
        · unfold ab_w
          simp (discharger := omega) only [if_neg, if_pos]
          exact ⟨⟨rfl, by omega, by omega⟩, a2, a3, a4, a5, a6⟩
    · refine ⟨-1000000004, t, M, M, ev_wp (b77_0 (by omega) hS ⟨fun q => by omega, fun _ => ⟨fun _ => ⟨fun q => by omega, fun _ => ⟨rfl, rfl⟩⟩, fun q => by omega⟩⟩), hS, ev_wp (b145_0 (by omega) hS ⟨_, _, s107 (by omega) hS x 1 999, hS, fun _ => ⟨fun q => by omega, fun q => ⟨rfl, rfl⟩⟩, fun q => ?_⟩), h⟩
      rw [if_pos c] at q
      omega
  · refine ⟨-1000000002, t, M, M, ev_wp (b77_0 (by omega) hS ⟨fun _ => ⟨rfl, rfl⟩, fun _ => ⟨fun q => by omega, fun _ => ⟨rfl, rfl⟩⟩⟩), hS, ev_wp (b145_0 (by omega) hS ⟨_, _, s107 (by omega) hS x 1 999, hS, fun q => ?_, fun _ => ⟨rfl, rfl⟩⟩), h⟩
    rw [if_neg c] at q
    omega

