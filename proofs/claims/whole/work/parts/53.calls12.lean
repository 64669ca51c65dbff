/-! steps of the state -/
theorem put_r {M : ab_M} {g : Nat → Int} {a b : Nat} (h : a ≠ 69 ∧ a ≠ 70) : pu_put M g a b = M a b := by
  unfold pu_put
  rw [if_neg (by omega), if_neg (by omega)]
theorem put_s {M : ab_M} {g : Nat → Int} {b : Nat} (h : b < 4) : pu_put M g 69 b = g b := by
  unfold pu_put
  rw [if_pos ⟨rfl, h⟩]
theorem put_d {M : ab_M} {g : Nat → Int} {b : Nat} (h : b < 6) : pu_put M g 70 b = g (4 + b) := by
  unfold pu_put
  rw [if_neg (by omega), if_pos ⟨rfl, h⟩]
theorem putm_r {M : ab_M} {g : Nat → Int} {a b : Nat} (h : a ≠ 112) : pu_putm M g a b = M a b := by
  unfold pu_putm
  rw [if_neg (by omega)]
theorem putm_s {M : ab_M} {g : Nat → Int} {b : Nat} (h : b < 10) : pu_putm M g 112 b = g b := by
  unfold pu_putm
  rw [if_pos ⟨rfl, h⟩]
theorem str_put {t : Nat} {M : ab_M} (h : pu_str t M) (g : Nat → Int) : pu_str t (pu_put M g) := by
  obtain ⟨h0, h1, h2, h3, h4, h5⟩ := h
  refine ⟨h0, ?_, h2, h3, h4, h5⟩
  intro k f hk
  have e : pu_put M g k f = M k f := by
    unfold pu_put
    rw [if_neg, if_neg]
    · rintro ⟨rfl, q⟩
      have : ∀ f : Fin 6, ¬ (0 ≤ pu_rv 70 f.val) := by decide
      exact this ⟨f, q⟩ hk
    · rintro ⟨rfl, q⟩
      have : ∀ f : Fin 4, ¬ (0 ≤ pu_rv 69 f.val) := by decide
      exact this ⟨f, q⟩ hk
  rw [e]
  exact h1 k f hk
theorem str_putm {t : Nat} {M : ab_M} (h : pu_str t M) (g : Nat → Int) : pu_str t (pu_putm M g) := by
  obtain ⟨h0, h1, h2, h3, h4, h5⟩ := h
  refine ⟨h0, ?_, h2, h3, h4, h5⟩
  intro k f hk
  have e : pu_putm M g k f = M k f := by
    unfold pu_putm
    rw [if_neg]
    rintro ⟨rfl, q⟩
    have : ∀ f : Fin 10, ¬ (0 ≤ pu_rv 112 f.val) := by decide
    exact this ⟨f, q⟩ hk
  rw [e]
  exact h1 k f hk
theorem dat_put {t : Nat} {M : ab_M} (h : pu_dat t M) (g : Nat → Int) : pu_dat t (pu_put M g) :=
  dat_fr h (str_put h.1 g) (fun k f hk => put_r (by omega))
theorem dat_putm {t : Nat} {M : ab_M} (h : pu_dat t M) (g : Nat → Int) : pu_dat t (pu_putm M g) :=
  dat_fr h (str_putm h.1 g) (fun k f hk => putm_r (by omega))
/-- a state that can be, its minutes at most B -/
def pu_vs (t : Nat) (M : ab_M) (B : Int) (g : Nat → Int) : Prop := (0 ≤ g 0 ∧ g 0 ≤ B) ∧ (0 ≤ g 1 ∧ g 1 < M t 0) ∧ (-1 ≤ g 2 ∧ g 2 < M t 2) ∧ (0 ≤ g 3 ∧ g 3 ≤ 2147483647) ∧ (∀ i : Nat, i < 6 → -1 ≤ g (4 + i) ∧ g (4 + i) ≤ 97000)
def st_hand (t : Nat) (M : ab_M) (p : Nat) (g : Nat → Int) : Nat → Int := pu_u (pu_u (pu_u g 0 (g 0 + M (t + 10 + (g 1).toNat) (M (t + 17) p).toNat)) 1 (M (t + 17) p)) 2 p
def st_fin (t : Nat) (M : ab_M) (i : Nat) (g : Nat → Int) : Nat → Int := pu_u (pu_u g 0 (g 0 + M (t + 20) i)) (4 + i) (g 0 + M (t + 20) i)
theorem s45 {d t : Nat} {M : ab_M} (hd : 3 ≤ d) (h : pu_dat t M) {B : Int} {g : Nat → Int} (v : pu_vs t M B g) (p : Nat) (hp : (p : Int) < M t 2) : ab_ev d 45 [.inr (.inr 69), .inr (.inr t), .inl (p : Int)] (pu_put M g) (some (.inl (if M (t + 10 + (g 1).toNat) (M (t + 17) p).toNat = -1 then 0 else 1))) (pu_put M g) := by
  obtain ⟨hS, h1, h2, h3, h4⟩ := dat_put h g
  have ht : t = 5 ∨ t = 37 := hS.2.2.1
  obtain ⟨t1, t2, _, _, _, _, t7, _⟩ := h.2.1
  have tp := t7 p hp
  obtain ⟨_, v2, _⟩ := v
  have r0 : pu_put M g t 0 = M t 0 := put_r (by omega)
  have r1 : pu_put M g 69 1 = g 1 := put_s (by omega)
  have r2 : pu_put M g (t + 17) p = M (t + 17) p := put_r (by omega)
  have r3 : pu_put M g (t + 10 + (g 1).toNat) (M (t + 17) p).toNat = M (t + 10 + (g 1).toNat) (M (t + 17) p).toNat := put_r (by omega)
  have w := s58 (d := d - 1) (by omega) hS hS.2.2.1 (by rw [r0]; omega) (g 1) (M (t + 17) p)
  rw [if_pos (by rw [r0]; omega), r3] at w
  refine ev_wp (b45_0 (by omega) hS hS.2.2.1 ⟨by omega, ?_⟩)
  rw [Int.toNat_natCast, r1, r2]
  refine ⟨_, _, w, hS, fun q => ⟨?_, rfl⟩, fun q => ⟨?_, rfl⟩⟩
  · rw [if_pos q]
  · rw [if_neg q]
theorem s46 {d t : Nat} {M : ab_M} (hd : 3 ≤ d) (h : pu_dat t M) {B : Int} {g : Nat → Int} (v : pu_vs t M B g) (hB : B ≤ 1000000) (p : Nat) (hp : (p : Int) < M t 2) : ab_ev d 46 [.inr (.inr 69), .inr (.inr t), .inl (p : Int)] (pu_put M g) none (pu_put M (st_hand t M p g)) := by
  obtain ⟨hS, h1, h2, h3, h4⟩ := dat_put h g
  have ht : t = 5 ∨ t = 37 := hS.2.2.1
  obtain ⟨t1, t2, _, _, _, _, t7, _⟩ := h.2.1
  have tp := t7 p hp
  obtain ⟨v1, v2, _⟩ := v
  have gg := h.2.2.2.1 (g 1).toNat (M (t + 17) p).toNat (by omega) (by omega) (by omega) (by omega)
  have r0 : pu_put M g t 0 = M t 0 := put_r (by omega)
  have r1 : pu_put M g 69 1 = g 1 := put_s (by omega)
  have r4 : pu_put M g 69 0 = g 0 := put_s (by omega)
  have r2 : ∀ g', pu_put M g' (t + 17) p = M (t + 17) p := fun g' => put_r (by omega)
  have r3 : pu_put M g (t + 10 + (g 1).toNat) (M (t + 17) p).toNat = M (t + 10 + (g 1).toNat) (M (t + 17) p).toNat := put_r (by omega)
  have w := s58 (d := d - 1) (by omega) hS hS.2.2.1 (by rw [r0]; omega) (g 1) (M (t + 17) p)
  rw [if_pos (by rw [r0]; omega), r3] at w
  refine ev_wp (b46_0 (by omega) hS hS.2.2.1 ⟨by omega, ?_⟩)
  rw [Int.toNat_natCast, r1, r2, r4]
  refine ⟨_, _, w, hS, by omega, rfl, ?_⟩
  rw [put_w M g (by omega), r2, put_w M _ (by omega), put_w M _ (by omega)]
  rfl
theorem s47 {d t : Nat} {M : ab_M} (hd : 1 ≤ d) (h : pu_dat t M) {B : Int} {g : Nat → Int} (v : pu_vs t M B g) (hB : B ≤ 1000000) (i : Nat) (hi : (i : Int) < M t 3) : ab_ev d 47 [.inr (.inr 69), .inr (.inr t), .inl (i : Int)] (pu_put M g) none (pu_put M (st_fin t M i g)) := by
  obtain ⟨hS, h1, h2, h3, h4⟩ := dat_put h g
  have ht : t = 5 ∨ t = 37 := hS.2.2.1
  obtain ⟨_, _, t3, _, _, _, _, t8, _⟩ := h.2.1
  have tp := t8 i hi
  obtain ⟨v1, _⟩ := v
  have r4 : pu_put M g 69 0 = g 0 := put_s (by omega)
  have r2 : pu_put M g (t + 20) i = M (t + 20) i := put_r (by omega)
  refine ev_wp (b47_0 (by omega) hS hS.2.2.1 ⟨by omega, ?_⟩)
  rw [Int.toNat_natCast, r2, r4]
  refine ⟨by omega, rfl, ?_⟩
  rw [put_w M g (by omega), put_w2 M _ (by omega)]
  rfl
