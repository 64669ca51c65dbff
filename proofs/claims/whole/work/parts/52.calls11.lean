/-! what a town's text told: kept by all calls but town -/
def pu_dat (t : Nat) (M : ab_M) : Prop := pu_str t M ∧ pu_town t M ∧ pu_mod t M ∧ pu_grd t M ∧ pu_odd t M
theorem inv_dat {t : Nat} {M : ab_M} (h : pu_inv t M) : pu_dat t M := ⟨h.1, h.2.1, h.2.2.1, h.2.2.2.1, h.2.2.2.2.1⟩
/-- cells that calls but town may change -/
abbrev pu_dy (k f : Nat) : Prop := pu_sc k f ∨ (69 ≤ k ∧ k ≤ 77) ∨ (k = 90 ∧ f = 2) ∨ k = 93 ∨ k = 94 ∨ (112 ≤ k ∧ k ≤ 114) ∨ k = 130 ∨ k = 131 ∨ (k = 103 ∧ (f = 1 ∨ f = 2 ∨ f = 17 ∨ f = 19)) ∨ (k = 0 ∧ f = 1) ∨ (k = 1 ∧ f < 3) ∨ k = 2 ∨ k = 104
theorem dat_fr {t : Nat} {M M' : ab_M} (h : pu_dat t M) (hs : pu_str t M') (g : ∀ (k f : Nat), ¬ pu_dy k f → M' k f = M k f) : pu_dat t M' := by
  obtain ⟨⟨_, _, ht, _⟩, h1, h2, h3, h4⟩ := h
  have ht' : t = 5 ∨ t = 37 := ht
  refine ⟨hs, ?_, ?_, ?_, ?_⟩
  · unfold pu_town at h1 ⊢
    simp (discharger := omega) only [g]
    exact h1
  · unfold pu_mod at h2 ⊢
    simp (discharger := omega) only [g]
    exact h2
  · intro a b ha hb
    have := h3 a b ha hb
    simp (discharger := omega) only [g]
    exact this
  · intro a b ha hb
    have := h4 a b ha hb
    simp (discharger := omega) only [g]
    exact this
theorem s132d {d t : Nat} {M : ab_M} (hd : 1 ≤ d) (h : pu_dat t M) (x y : Int) (hx : 0 ≤ x ∧ x < M t 0) (hy : 0 ≤ y ∧ y < M t 0) : ab_ev d 132 [.inr (.inr 103), .inl x, .inl y] M (some (.inl (M (t + 10 + x.toNat) y.toNat))) M := by
  obtain ⟨hS, h1, h2, h3, hr⟩ := id h
  obtain ⟨t1, _⟩ := h1
  have g := h3 x.toNat y.toNat (by omega) (by omega) (by omega) (by omega)
  have e : (7 * x + y).toNat = 7 * x.toNat + y.toNat := by omega
  refine ev_wp (b132_0 hd hS ⟨by omega, by omega, by omega, fun q => ⟨?_, rfl⟩, fun q => ⟨?_, rfl⟩⟩)
  · rw [e] at q ⊢
    rw [g.2.2.2.2.2.2] at q ⊢
    by_cases z : M (t + 10 + x.toNat) y.toNat = -1
    · rw [if_pos z] at q; omega
    · rw [if_neg z]
  · rw [e] at q
    rw [g.2.2.2.2.2.2] at q
    by_cases z : M (t + 10 + x.toNat) y.toNat = -1
    · rw [z]
    · rw [if_neg z] at q; omega
/-! a state by its places: 0 minutes, 1 place, 2 holder, 3 seed, 4.. the deeds -/
def pu_sg (M : ab_M) (i : Nat) : Int := if i < 4 then M 69 i else M 70 (i - 4)
def pu_put (M : ab_M) (g : Nat → Int) : ab_M := fun a b => if a = 69 ∧ b < 4 then g b else if a = 70 ∧ b < 6 then g (4 + b) else M a b
def pu_putm (M : ab_M) (g : Nat → Int) : ab_M := fun a b => if a = 112 ∧ b < 10 then g b else M a b
def pu_u (g : Nat → Int) (i : Nat) (v : Int) : Nat → Int := fun j => if j = i then v else g j
theorem put_sg (M : ab_M) : pu_put M (pu_sg M) = M := by
  funext a b
  unfold pu_put pu_sg
  by_cases q : a = 69 ∧ b < 4
  · rw [if_pos q, if_pos q.2, q.1]
  · rw [if_neg q]
    by_cases z : a = 70 ∧ b < 6
    · rw [if_pos z, if_neg (by omega), z.1, show 4 + b - 4 = b from by omega]
    · rw [if_neg z]
theorem putm_sg (M : ab_M) : pu_putm M (M 112) = M := by
  funext a b
  unfold pu_putm
  by_cases q : a = 112 ∧ b < 10
  · rw [if_pos q, q.1]
  · rw [if_neg q]
theorem put_w (M : ab_M) (g : Nat → Int) {i : Nat} (hi : i < 4) (v : Int) : ab_w (pu_put M g) 69 i v = pu_put M (pu_u g i v) := by
  funext a b
  unfold ab_w pu_put pu_u
  by_cases q : a = 69 ∧ b = i
  · rw [if_pos q, if_pos (by omega), if_pos q.2]
  · rw [if_neg q]
    by_cases z : a = 69 ∧ b < 4
    · rw [if_pos z, if_pos z, if_neg (by omega)]
    · rw [if_neg z, if_neg z]
      by_cases y : a = 70 ∧ b < 6
      · rw [if_pos y, if_pos y, if_neg (by omega)]
      · rw [if_neg y, if_neg y]
theorem put_w2 (M : ab_M) (g : Nat → Int) {i : Nat} (hi : i < 6) (v : Int) : ab_w (pu_put M g) 70 i v = pu_put M (pu_u g (4 + i) v) := by
  funext a b
  unfold ab_w pu_put pu_u
  by_cases q : a = 70 ∧ b = i
  · rw [if_pos q, if_neg (by omega), if_pos (by omega), if_pos (by omega)]
  · rw [if_neg q]
    by_cases z : a = 69 ∧ b < 4
    · rw [if_pos z, if_pos z, if_neg (by omega)]
    · rw [if_neg z, if_neg z]
      by_cases y : a = 70 ∧ b < 6
      · rw [if_pos y, if_pos y, if_neg (by omega)]
      · rw [if_neg y, if_neg y]
theorem putm_w (M : ab_M) (g : Nat → Int) {i : Nat} (hi : i < 10) (v : Int) : ab_w (pu_putm M g) 112 i v = pu_putm M (pu_u g i v) := by
  funext a b
  unfold ab_w pu_putm pu_u
  by_cases q : a = 112 ∧ b = i
  · rw [if_pos q, if_pos (by omega), if_pos q.2]
  · rw [if_neg q]
    by_cases z : a = 112 ∧ b < 10
    · rw [if_pos z, if_pos z, if_neg (by omega)]
    · rw [if_neg z, if_neg z]
