/-! the relation of class and model in one memory -/
/-- scratch cells: what no later call looks at -/
abbrev pu_sc (k f : Nat) : Prop := (78 ≤ k ∧ k ≤ 89) ∨ k = 91 ∨ k = 92 ∨ (k = 90 ∧ 3 ≤ f ∧ f ≤ 5) ∨ (95 ≤ k ∧ k ≤ 102) ∨ (115 ≤ k ∧ k ≤ 129) ∨ (k = 103 ∧ 20 ≤ f ∧ f ≤ 47)
def pu_town (t : Nat) (M : ab_M) : Prop :=
  (0 ≤ M t 0 ∧ M t 0 ≤ 7) ∧ (0 ≤ M t 2 ∧ M t 2 ≤ 6) ∧ (0 ≤ M t 3 ∧ M t 3 ≤ 6) ∧ (0 ≤ M t 4 ∧ M t 4 ≤ 4)
  ∧ (M t 0 = 0 → M t 1 = -1 ∧ M t 2 = 0 ∧ M t 3 = 0 ∧ M t 4 = 0) ∧ (0 < M t 0 → 0 ≤ M t 1 ∧ M t 1 < M t 0)
  ∧ (∀ p : Nat, (p : Int) < M t 2 → 0 ≤ M (t + 17) p ∧ M (t + 17) p < M t 0 ∧ 0 ≤ M (t + 18) p ∧ M (t + 18) p ≤ 99)
  ∧ (∀ i : Nat, (i : Int) < M t 3 → 0 ≤ M (t + 19) i ∧ M (t + 19) i < M t 2 ∧ 1 ≤ M (t + 20) i ∧ M (t + 20) i ≤ 30 ∧ 1 ≤ M (t + 21) i ∧ M (t + 21) i ≤ 999 ∧ 0 ≤ M (t + 22) i ∧ M (t + 22) i ≤ 99 ∧ -1 ≤ M (t + 23) i ∧ M (t + 23) i ≤ 99)
  ∧ (∀ o : Nat, (o : Int) < M t 4 → 1 ≤ M (t + 31) o ∧ M (t + 31) o ≤ 63)
def pu_mod (t : Nat) (M : ab_M) : Prop :=
  M 103 3 = M t 0 ∧ M 103 9 = M t 2 ∧ M 103 11 = M t 3 ∧ M 103 14 = M t 4 ∧ (0 < M t 0 → M 103 4 = M t 1)
  ∧ (∀ p : Nat, (p : Int) < M t 2 → M 107 p = M (t + 17) p ∧ M 108 p = M (t + 18) p)
  ∧ (∀ i : Nat, (i : Int) < M t 3 → M 109 (5 * i) = M (t + 19) i ∧ M 109 (5 * i + 1) = M (t + 20) i ∧ M 109 (5 * i + 2) = M (t + 21) i ∧ M 109 (5 * i + 3) = M (t + 22) i ∧ M 109 (5 * i + 4) = M (t + 23) i)
  ∧ (∀ o : Nat, (o : Int) < M t 4 → M 111 o = M (t + 31) o)
def pu_grd (t : Nat) (M : ab_M) : Prop := ∀ a b : Nat, a < 7 → b < 7 → (a : Int) < M t 0 → (b : Int) < M t 0 →
  -1 ≤ M (t + 2 + a) b ∧ M (t + 2 + a) b ≤ 30 ∧ M (t + 2 + a) b ≠ 0 ∧ -1 ≤ M (t + 10 + a) b ∧ M (t + 10 + a) b ≤ 180
  ∧ M 106 (7 * a + b) = (if M (t + 2 + a) b = -1 then 0 else 1) ∧ M 105 (7 * a + b) = (if M (t + 10 + a) b = -1 then 1000000 else M (t + 10 + a) b)
def pu_odd (t : Nat) (M : ab_M) : Prop := ∀ a b : Nat, a < 6 → b < 6 →
  -1 ≤ M (t + 25 + a) b ∧ M (t + 25 + a) b ≤ 10 ∧ (0 < M t 2 → M 110 (6 * a + b) = M (t + 25 + a) b) ∧ (M t 2 ≤ (a : Int) ∨ M t 2 ≤ (b : Int) → M (t + 25 + a) b = -1)
/-- a state of the class (cell s) and one of the model (from place o of row c on) -/
def pu_sta (t : Nat) (M : ab_M) (s c o : Nat) : Prop :=
  (M c o = M s 0 ∧ 0 ≤ M s 0 ∧ M s 0 ≤ 97000)
  ∧ (0 < M t 0 → M c (o + 1) = M s 1 ∧ 0 ≤ M s 1 ∧ M s 1 < M t 0) ∧ (M t 0 = 0 → M s 1 = -1)
  ∧ (M c (o + 2) = M s 2 ∧ -1 ≤ M s 2 ∧ M s 2 < M t 2 ∨ (M c (o + 2) = -1 ∧ M s 2 = -1))
  ∧ (M c (o + 3) = M s 3 ∧ 0 ≤ M s 3 ∧ M s 3 ≤ 2147483647)
  ∧ (∀ i : Nat, i < 6 → M c (o + 4 + i) = M (s + 1) i ∧ -1 ≤ M (s + 1) i ∧ M (s + 1) i ≤ 97000)
def pu_img (t : Nat) (M : ab_M) (s b o : Nat) : Prop := M s 4 = M 130 b ∧ (M s 4 = 0 ∨ M s 4 = 1) ∧ (M s 4 = 1 → pu_sta t M s 131 o)
def pu_dia (t : Nat) (M : ab_M) : Prop :=
  M 75 0 = M 103 19 ∧ 0 ≤ M 75 0 ∧ M 75 0 ≤ 15
  ∧ (∀ k : Nat, (k : Int) < M 75 0 → M 114 (2 * k) = M 76 k ∧ M 114 (2 * k + 1) = M 77 k ∧ 0 ≤ M 76 k ∧ M 76 k < M t 3)
def pu_tel (t : Nat) (M : ab_M) : Prop :=
  M 90 2 = M 103 17 ∧ 0 ≤ M 90 2 ∧ M 90 2 ≤ 6
  ∧ (∀ k : Nat, (k : Int) < M 90 2 → M 113 (2 * k) = M 93 k ∧ M 113 (2 * k + 1) = M 94 k ∧ 0 ≤ M 93 k ∧ M 93 k < M t 3 ∧ 1 ≤ M 94 k ∧ M 94 k ≤ 999)
def pu_txt (M : ab_M) : Prop :=
  M 1 0 = M 103 1 ∧ 0 ≤ M 1 0 ∧ M 1 0 ≤ 250 ∧ (∀ i : Nat, (i : Int) < M 1 0 → M 104 i = M 2 i ∧ 0 ≤ M 2 i ∧ M 2 i ≤ 255) ∧ M 0 1 = M 103 2
def pu_inv (t : Nat) (M : ab_M) : Prop := pu_str t M ∧ pu_town t M ∧ pu_mod t M ∧ pu_grd t M ∧ pu_odd t M ∧ pu_sta t M 69 112 0 ∧ pu_img t M 71 0 0 ∧ pu_img t M 73 1 10 ∧ pu_dia t M ∧ pu_tel t M ∧ pu_txt M
/-- M' differs from M in scratch at most -/
def pu_fr (M M' : ab_M) : Prop := ∀ k f, ¬ pu_sc k f → M' k f = M k f
theorem pu_fr_refl (M : ab_M) : pu_fr M M := fun _ _ _ => rfl
theorem pu_fr_trans {A B C : ab_M} (h : pu_fr A B) (g : pu_fr B C) : pu_fr A C := fun k f q => (g k f q).trans (h k f q)
theorem pu_fr_w {M : ab_M} {k f : Nat} {v : Int} (h : pu_sc k f) : pu_fr M (ab_w M k f v) := by
  intro a b q
  unfold ab_w
  rw [if_neg]
  rintro ⟨rfl, rfl⟩
  exact q h
/-! reading behind a writing -/
theorem ab_w_eq (M : ab_M) (k f : Nat) (v : Int) : ab_w M k f v k f = v := by unfold ab_w; rw [if_pos ⟨rfl, rfl⟩]
theorem sta_fr {t : Nat} {M M' : ab_M} {s c o : Nat} (ht : pu_T t) (hs : s = 69 ∨ s = 71 ∨ s = 73) (hc : c = 112 ∨ c = 131) (h : pu_sta t M s c o) (g : pu_fr M M') : pu_sta t M' s c o := by
  have ht' : t = 5 ∨ t = 37 := ht
  have g2 : ∀ (k f : Nat), ¬ pu_sc k f → M' k f = M k f := g
  unfold pu_sta at h ⊢
  simp (discharger := omega) only [g2]
  exact h
theorem inv_fr {t : Nat} {M M' : ab_M} (h : pu_inv t M) (hs : pu_str t M') (g : pu_fr M M') : pu_inv t M' := by
  obtain ⟨⟨_, _, ht, _⟩, h1, h2, h3, h4, h5, h6, h7, h8, h9, h10⟩ := h
  have ht' : t = 5 ∨ t = 37 := ht
  have g2 : ∀ (k f : Nat), ¬ pu_sc k f → M' k f = M k f := g
  refine ⟨hs, ?_, ?_, ?_, ?_, sta_fr ht (by omega) (by omega) h5 g, ?_, ?_, ?_, ?_, ?_⟩
  · unfold pu_town at h1 ⊢
    simp (discharger := omega) only [g2]
    exact h1
  · unfold pu_mod at h2 ⊢
    simp (discharger := omega) only [g2]
    exact h2
  · intro a b ha hb
    have := h3 a b ha hb
    simp (discharger := omega) only [g2]
    exact this
  · intro a b ha hb
    have := h4 a b ha hb
    simp (discharger := omega) only [g2]
    exact this
  · obtain ⟨a1, a2, a3⟩ := h6
    refine ⟨?_, ?_, fun q => sta_fr ht (by omega) (by omega) (a3 ?_) g⟩
    · simp (discharger := omega) only [g2]; exact a1
    · simp (discharger := omega) only [g2]; exact a2
    · rw [← g2 _ _ (by omega)]; exact q
  · obtain ⟨a1, a2, a3⟩ := h7
    refine ⟨?_, ?_, fun q => sta_fr ht (by omega) (by omega) (a3 ?_) g⟩
    · simp (discharger := omega) only [g2]; exact a1
    · simp (discharger := omega) only [g2]; exact a2
    · rw [← g2 _ _ (by omega)]; exact q
  · unfold pu_dia at h8 ⊢
    simp (discharger := omega) only [g2]
    exact h8
  · unfold pu_tel at h9 ⊢
    simp (discharger := omega) only [g2]
    exact h9
  · unfold pu_txt at h10 ⊢
    simp (discharger := omega) only [g2]
    exact h10
