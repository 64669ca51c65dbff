/-! sets of deeds and their worth, of both -/
theorem pu_mk_c {P R : Nat → Bool} : ∀ n : Nat, (∀ i, i < n → P i = R i) → pu_mk P n = pu_mk R n
  | 0, _ => rfl
  | n + 1, h => by rw [pu_mk_s, pu_mk_s, pu_mk_c n (fun i hi => h i (by omega)), h n (by omega)]
/-- the deeds that stand so -/
def pu_set (t : Nat) (M : ab_M) (x : Int) : Nat := pu_mk (fun i => decide (pu_how (M 70 i) (M 69 0) (M (t + 21) i) (M (t + 20) i) = x)) (M t 3).toNat
def pu_wth (t : Nat) (M : ab_M) (s : Nat) : Int := pu_sum (M (t + 22)) s (M t 3).toNat
theorem pu_set_64 {t : Nat} {M : ab_M} (h : pu_inv t M) (x : Int) : pu_set t M x < 64 := by
  have := h.2.1.2.2.1
  exact pu_mk_64 (by omega)
theorem s97' {d t : Nat} {M : ab_M} (hd : 2 ≤ d) (h : pu_inv t M) (x : Int) : ab_ev d 97 [.inr (.inr 0), .inl x] M (some (.inl ((pu_set t M x : Nat) : Int))) M := by
  obtain ⟨hS, h1, hr⟩ := id h
  obtain ⟨_, _, t3, _, _, _, _, t8, _⟩ := h1
  exact s97 hd hS t3 (fun i hi => by have := t8 i hi; omega) x
theorem pu_how_eq {t : Nat} {M : ab_M} (h : pu_inv t M) {i : Nat} (hi : (i : Int) < M t 3) : pu_how (M 112 (4 + i)) (M 112 0) (M 109 (5 * i + 2)) (M 109 (5 * i + 1)) = pu_how (M 70 i) (M 69 0) (M (t + 21) i) (M (t + 20) i) := by
  obtain ⟨hS, h1, h2, h3, h4, h5, hr⟩ := id h
  obtain ⟨a1, a2, a3, a4, a5, a6⟩ := now_of h5
  obtain ⟨_, _, t3, _⟩ := h1
  obtain ⟨_, _, _, _, _, _, m7, _⟩ := h2
  have m := m7 i hi
  rw [(a6 i (by omega)).1, a1.1, m.2.1, m.2.2.1]
theorem s129' {d t : Nat} {M : ab_M} (hd : 2 ≤ d) (h : pu_inv t M) (x : Int) : ab_ev d 129 [.inr (.inr 103), .inl x] M (some (.inl ((pu_set t M x : Nat) : Int))) M := by
  obtain ⟨hS, h1, h2, h3, h4, h5, hr⟩ := id h
  obtain ⟨a1, a2, a3, a4, a5, a6⟩ := now_of h5
  obtain ⟨_, _, t3, _, _, _, _, t8, _⟩ := h1
  obtain ⟨_, _, m3, _, _, _, m7, _⟩ := h2
  have g := s129 hd hS (by omega) (fun i hi => by have := t8 i (by omega); have := m7 i (by omega); omega) (fun i hi => by have := a6 i (by omega); omega) x
  have e : pu_mk (fun i => decide (pu_how (M 112 (4 + i)) (M 112 0) (M 109 (5 * i + 2)) (M 109 (5 * i + 1)) = x)) (M 103 11).toNat = pu_set t M x := by
    unfold pu_set
    rw [m3]
    exact pu_mk_c _ (fun i hi => by rw [pu_how_eq h (by omega)])
  rw [e] at g
  exact g
theorem s60' {d t : Nat} {M : ab_M} (hd : 1 ≤ d) (h : pu_inv t M) {s : Nat} (hs : s < 64) : ab_ev d 60 [.inr (.inr t), .inl (s : Int)] M (some (.inl (pu_wth t M s))) M := by
  obtain ⟨hS, h1, hr⟩ := id h
  obtain ⟨_, _, t3, _, _, _, _, t8, _⟩ := h1
  have g := s60 hd hS hS.2.2.1 t3 (fun i hi => by have := t8 i hi; omega) (s := (s : Int)) (by omega)
  exact g
theorem s130' {d t : Nat} {M : ab_M} (hd : 2 ≤ d) (h : pu_inv t M) {s : Nat} (hs : s < 64) : ab_ev d 130 [.inr (.inr 103), .inl (s : Int)] M (some (.inl (pu_wth t M s))) M := by
  obtain ⟨hS, h1, h2, hr⟩ := id h
  obtain ⟨_, _, t3, _, _, _, _, t8, _⟩ := h1
  obtain ⟨_, _, m3, _, _, _, m7, _⟩ := h2
  have g := s130 hd hS (by omega) (fun i hi => by have := t8 i (by omega); have := m7 i (by omega); omega) (s := (s : Int)) (by omega)
  have e : pu_sum (fun i => M 109 (5 * i + 3)) (s : Int).toNat (M 103 11).toNat = pu_wth t M s := by
    unfold pu_wth
    rw [m3, Int.toNat_natCast]
    exact pu_sum_c _ (fun i hi => (m7 i (by omega)).2.2.2.1)
  rw [e] at g
  exact g
theorem c_told {t : Nat} {M : ab_M} (h : pu_inv t M) (x : Int) : pu_both 68 131 [.inl x] t M := by
  obtain ⟨hS, h1, h2, h3, h4, h5, h6, h7, h8, h9, h10⟩ := id h
  obtain ⟨a1, a2, a3, a4, a5, a6⟩ := now_of h5
  obtain ⟨m1, m2, m3, m4, _⟩ := h2
  have key : ∀ r : Int, (ab_wp 29 68 0 [some (.inr (.inr 0)), some (.inl x)] [] M (fun r' M'' => r' = some (.inl r) ∧ M'' = M)) → (ab_wp 29 131 0 [some (.inr (.inr 103)), some (.inl x)] [] M (fun r' M'' => r' = some (.inl r) ∧ M'' = M)) → pu_both 68 131 [.inl x] t M := fun r w1 w2 => ⟨r, t, M, M, ev_wp w1, hS, ev_wp w2, h⟩
  have q64 := pu_set_64 h 1
  rcases (show x < 0 ∨ 12 < x ∨ x = 0 ∨ x = 1 ∨ x = 2 ∨ x = 3 ∨ x = 4 ∨ x = 5 ∨ x = 6 ∨ x = 7 ∨ x = 8 ∨ x = 9 ∨ x = 10 ∨ x = 11 ∨ x = 12 by omega) with c | c | c | c | c | c | c | c | c | c | c | c | c | c | c
  · refine key (-1000000002) (b68_0 (by omega) hS ?_) (b131_0 (by omega) hS ?_)
    · exact ⟨fun _ => ⟨rfl, rfl⟩, fun _ => by omega, fun _ => by omega, fun _ => by omega, fun _ => by omega, fun _ => by omega, fun _ => by omega, fun _ => by omega, fun _ => by omega, fun _ => by omega, fun _ => by omega, fun _ => by omega, fun _ => by omega, fun _ => by omega⟩
    · exact ⟨fun _ => ⟨rfl, rfl⟩, fun _ => by omega, fun _ => by omega, fun _ => by omega, fun _ => by omega, fun _ => by omega, fun _ => by omega, fun _ => by omega, fun _ => by omega, fun _ => by omega, fun _ => by omega, fun _ => by omega, fun _ => by omega, fun _ => by omega⟩
  · refine key (-1000000002) (b68_0 (by omega) hS ?_) (b131_0 (by omega) hS ?_)
    · exact ⟨fun _ => ⟨rfl, rfl⟩, fun _ => by omega, fun _ => by omega, fun _ => by omega, fun _ => by omega, fun _ => by omega, fun _ => by omega, fun _ => by omega, fun _ => by omega, fun _ => by omega, fun _ => by omega, fun _ => by omega, fun _ => by omega, fun _ => by omega⟩
    · exact ⟨fun _ => ⟨rfl, rfl⟩, fun _ => by omega, fun _ => by omega, fun _ => by omega, fun _ => by omega, fun _ => by omega, fun _ => by omega, fun _ => by omega, fun _ => by omega, fun _ => by omega, fun _ => by omega, fun _ => by omega, fun _ => by omega, fun _ => by omega⟩
  · refine key (M t 0) (b68_0 (by omega) hS ?_) (b131_0 (by omega) hS ?_)
    · exact ⟨fun _ => by omega, fun _ => ⟨rfl, rfl⟩, fun _ => by omega, fun _ => by omega, fun _ => by omega, fun _ => by omega, fun _ => by omega, fun _ => by omega, fun _ => by omega, fun _ => by omega, fun _ => by omega, fun _ => by omega, fun _ => by omega, fun _ => by omega⟩
    · exact ⟨fun _ => by omega, fun _ => ⟨by rw [m1], rfl⟩, fun _ => by omega, fun _ => by omega, fun _ => by omega, fun _ => by omega, fun _ => by omega, fun _ => by omega, fun _ => by omega, fun _ => by omega, fun _ => by omega, fun _ => by omega, fun _ => by omega, fun _ => by omega⟩
  · refine key (M t 2) (b68_0 (by omega) hS ?_) (b131_0 (by omega) hS ?_)
    · exact ⟨fun _ => by omega, fun _ => by omega, fun _ => ⟨rfl, rfl⟩, fun _ => by omega, fun _ => by omega, fun _ => by omega, fun _ => by omega, fun _ => by omega, fun _ => by omega, fun _ => by omega, fun _ => by omega, fun _ => by omega, fun _ => by omega, fun _ => by omega⟩
    · exact ⟨fun _ => by omega, fun _ => by omega, fun _ => ⟨by rw [m2], rfl⟩, fun _ => by omega, fun _ => by omega, fun _ => by omega, fun _ => by omega, fun _ => by omega, fun _ => by omega, fun _ => by omega, fun _ => by omega, fun _ => by omega, fun _ => by omega, fun _ => by omega⟩
  · refine key (M t 3) (b68_0 (by omega) hS ?_) (b131_0 (by omega) hS ?_)
    · exact ⟨fun _ => by omega, fun _ => by omega, fun _ => by omega, fun _ => ⟨rfl, rfl⟩, fun _ => by omega, fun _ => by omega, fun _ => by omega, fun _ => by omega, fun _ => by omega, fun _ => by omega, fun _ => by omega, fun _ => by omega, fun _ => by omega, fun _ => by omega⟩
    · exact ⟨fun _ => by omega, fun _ => by omega, fun _ => by omega, fun _ => ⟨by rw [m3], rfl⟩, fun _ => by omega, fun _ => by omega, fun _ => by omega, fun _ => by omega, fun _ => by omega, fun _ => by omega, fun _ => by omega, fun _ => by omega, fun _ => by omega, fun _ => by omega⟩
  · refine key (M t 4) (b68_0 (by omega) hS ?_) (b131_0 (by omega) hS ?_)
    · exact ⟨fun _ => by omega, fun _ => by omega, fun _ => by omega, fun _ => by omega, fun _ => ⟨rfl, rfl⟩, fun _ => by omega, fun _ => by omega, fun _ => by omega, fun _ => by omega, fun _ => by omega, fun _ => by omega, fun _ => by omega, fun _ => by omega, fun _ => by omega⟩
    · exact ⟨fun _ => by omega, fun _ => by omega, fun _ => by omega, fun _ => by omega, fun _ => ⟨by rw [m4], rfl⟩, fun _ => by omega, fun _ => by omega, fun _ => by omega, fun _ => by omega, fun _ => by omega, fun _ => by omega, fun _ => by omega, fun _ => by omega, fun _ => by omega⟩
  · refine key (M 1 0) (b68_0 (by omega) hS ?_) (b131_0 (by omega) hS ?_)
    · exact ⟨fun _ => by omega, fun _ => by omega, fun _ => by omega, fun _ => by omega, fun _ => by omega, fun _ => ⟨rfl, rfl⟩, fun _ => by omega, fun _ => by omega, fun _ => by omega, fun _ => by omega, fun _ => by omega, fun _ => by omega, fun _ => by omega, fun _ => by omega⟩
    · exact ⟨fun _ => by omega, fun _ => by omega, fun _ => by omega, fun _ => by omega, fun _ => by omega, fun _ => ⟨by rw [h10.1], rfl⟩, fun _ => by omega, fun _ => by omega, fun _ => by omega, fun _ => by omega, fun _ => by omega, fun _ => by omega, fun _ => by omega, fun _ => by omega⟩
  · refine key (M 69 0) (b68_0 (by omega) hS ?_) (b131_0 (by omega) hS ?_)
    · exact ⟨fun _ => by omega, fun _ => by omega, fun _ => by omega, fun _ => by omega, fun _ => by omega, fun _ => by omega, fun _ => ⟨rfl, rfl⟩, fun _ => by omega, fun _ => by omega, fun _ => by omega, fun _ => by omega, fun _ => by omega, fun _ => by omega, fun _ => by omega⟩
    · exact ⟨fun _ => by omega, fun _ => by omega, fun _ => by omega, fun _ => by omega, fun _ => by omega, fun _ => by omega, fun _ => ⟨by rw [a1.1], rfl⟩, fun _ => by omega, fun _ => by omega, fun _ => by omega, fun _ => by omega, fun _ => by omega, fun _ => by omega, fun _ => by omega⟩
  · refine key (M 69 1) (b68_0 (by omega) hS ?_) (b131_0 (by omega) hS ?_)
    · exact ⟨fun _ => by omega, fun _ => by omega, fun _ => by omega, fun _ => by omega, fun _ => by omega, fun _ => by omega, fun _ => by omega, fun _ => ⟨rfl, rfl⟩, fun _ => by omega, fun _ => by omega, fun _ => by omega, fun _ => by omega, fun _ => by omega, fun _ => by omega⟩
    · exact ⟨fun _ => by omega, fun _ => by omega, fun _ => by omega, fun _ => by omega, fun _ => by omega, fun _ => by omega, fun _ => by omega, fun _ => ⟨fun z => ⟨by have e : M 112 1 = M 69 1 := (a2 (by have := h1.1; omega)).1; rw [e], rfl⟩, fun z => ⟨by rw [a3 (by omega)], rfl⟩⟩, fun _ => by omega, fun _ => by omega, fun _ => by omega, fun _ => by omega, fun _ => by omega, fun _ => by omega⟩
  · refine key (M 69 2) (b68_0 (by omega) hS ?_) (b131_0 (by omega) hS ?_)
    · exact ⟨fun _ => by omega, fun _ => by omega, fun _ => by omega, fun _ => by omega, fun _ => by omega, fun _ => by omega, fun _ => by omega, fun _ => by omega, fun _ => ⟨rfl, rfl⟩, fun _ => by omega, fun _ => by omega, fun _ => by omega, fun _ => by omega, fun _ => by omega⟩
    · exact ⟨fun _ => by omega, fun _ => by omega, fun _ => by omega, fun _ => by omega, fun _ => by omega, fun _ => by omega, fun _ => by omega, fun _ => by omega, fun _ => ⟨by rw [show M 112 2 = M 69 2 from by omega], rfl⟩, fun _ => by omega, fun _ => by omega, fun _ => by omega, fun _ => by omega, fun _ => by omega⟩
  · refine key (((pu_set t M 1 : Nat) : Int)) (b68_0 (by omega) hS ?_) (b131_0 (by omega) hS ?_)
    · exact ⟨fun _ => by omega, fun _ => by omega, fun _ => by omega, fun _ => by omega, fun _ => by omega, fun _ => by omega, fun _ => by omega, fun _ => by omega, fun _ => by omega, fun _ => ⟨_, _, s97' (by omega) h 1, hS, rfl, rfl⟩, fun _ => by omega, fun _ => by omega, fun _ => by omega, fun _ => by omega⟩
    · exact ⟨fun _ => by omega, fun _ => by omega, fun _ => by omega, fun _ => by omega, fun _ => by omega, fun _ => by omega, fun _ => by omega, fun _ => by omega, fun _ => by omega, fun _ => ⟨_, _, s129' (by omega) h 1, hS, rfl, rfl⟩, fun _ => by omega, fun _ => by omega, fun _ => by omega, fun _ => by omega⟩
  · refine key (((pu_set t M 2 : Nat) : Int)) (b68_0 (by omega) hS ?_) (b131_0 (by omega) hS ?_)
    · exact ⟨fun _ => by omega, fun _ => by omega, fun _ => by omega, fun _ => by omega, fun _ => by omega, fun _ => by omega, fun _ => by omega, fun _ => by omega, fun _ => by omega, fun _ => by omega, fun _ => ⟨_, _, s97' (by omega) h 2, hS, rfl, rfl⟩, fun _ => by omega, fun _ => by omega, fun _ => by omega⟩
    · exact ⟨fun _ => by omega, fun _ => by omega, fun _ => by omega, fun _ => by omega, fun _ => by omega, fun _ => by omega, fun _ => by omega, fun _ => by omega, fun _ => by omega, fun _ => by omega, fun _ => ⟨_, _, s129' (by omega) h 2, hS, rfl, rfl⟩, fun _ => by omega, fun _ => by omega, fun _ => by omega⟩
  · refine key (pu_wth t M (pu_set t M 1)) (b68_0 (by omega) hS ?_) (b131_0 (by omega) hS ?_)
    · exact ⟨fun _ => by omega, fun _ => by omega, fun _ => by omega, fun _ => by omega, fun _ => by omega, fun _ => by omega, fun _ => by omega, fun _ => by omega, fun _ => by omega, fun _ => by omega, fun _ => by omega, fun _ => ⟨_, _, s97' (by omega) h 1, hS, _, _, s60' (by omega) h q64, hS, rfl, rfl⟩, fun _ => by omega, fun _ => by omega⟩
    · exact ⟨fun _ => by omega, fun _ => by omega, fun _ => by omega, fun _ => by omega, fun _ => by omega, fun _ => by omega, fun _ => by omega, fun _ => by omega, fun _ => by omega, fun _ => by omega, fun _ => by omega, fun _ => ⟨_, _, s129' (by omega) h 1, hS, _, _, s130' (by omega) h q64, hS, rfl, rfl⟩, fun _ => by omega, fun _ => by omega⟩
  · refine key (M 90 2) (b68_0 (by omega) hS ?_) (b131_0 (by omega) hS ?_)
    · exact ⟨fun _ => by omega, fun _ => by omega, fun _ => by omega, fun _ => by omega, fun _ => by omega, fun _ => by omega, fun _ => by omega, fun _ => by omega, fun _ => by omega, fun _ => by omega, fun _ => by omega, fun _ => by omega, fun _ => ⟨rfl, rfl⟩, fun _ => by omega⟩
    · exact ⟨fun _ => by omega, fun _ => by omega, fun _ => by omega, fun _ => by omega, fun _ => by omega, fun _ => by omega, fun _ => by omega, fun _ => by omega, fun _ => by omega, fun _ => by omega, fun _ => by omega, fun _ => by omega, fun _ => ⟨by rw [h9.1], rfl⟩, fun _ => by omega⟩
  · refine key (M 75 0) (b68_0 (by omega) hS ?_) (b131_0 (by omega) hS ?_)
    · exact ⟨fun _ => by omega, fun _ => by omega, fun _ => by omega, fun _ => by omega, fun _ => by omega, fun _ => by omega, fun _ => by omega, fun _ => by omega, fun _ => by omega, fun _ => by omega, fun _ => by omega, fun _ => by omega, fun _ => by omega, fun _ => ⟨rfl, rfl⟩⟩
    · exact ⟨fun _ => by omega, fun _ => by omega, fun _ => by omega, fun _ => by omega, fun _ => by omega, fun _ => by omega, fun _ => by omega, fun _ => by omega, fun _ => by omega, fun _ => by omega, fun _ => by omega, fun _ => by omega, fun _ => by omega, fun _ => ⟨by rw [h8.1], rfl⟩⟩
