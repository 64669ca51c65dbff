/-! calls that only look -/
theorem one_t {p : Prop} [Decidable p] (h : (if p then (1 : Int) else 0) ≠ 0) : p := by
  by_cases q : p
  · exact q
  · rw [if_neg q] at h
    exact absurd rfl h
theorem one_f {p : Prop} [Decidable p] (h : (if p then (1 : Int) else 0) = 0) : ¬ p := by
  intro q
  rw [if_pos q] at h
  exact absurd h (by decide)
theorem c_lets {t : Nat} {M : ab_M} (h : pu_inv t M) (x : Int) : pu_both 73 138 [.inl x] t M := by
  obtain ⟨hS, h1, h2, hr⟩ := id h
  obtain ⟨_, _, _, t4, _, _, _, _, t9⟩ := h1
  obtain ⟨_, _, _, m4, _, _, _, m8⟩ := h2
  by_cases c : 0 ≤ x ∧ x < M t 4
  · refine ⟨M (t + 31) x.toNat, t, M, M, ev_wp (b73_0 (by omega) hS ⟨_, _, s55 (by omega) hS hS.2.2.1 x, hS, fun q => ⟨by omega, rfl, rfl⟩, fun q => absurd c (one_f q)⟩), hS, ev_wp (b138_0 (by omega) hS ⟨by omega, _, _, s107 (by omega) hS x 0 _, hS, fun q => absurd (one_f q) (by omega), fun q => ⟨by omega, ?_, rfl⟩⟩), h⟩
    rw [m8 _ (by omega)]
  · exact ⟨-1000000001, t, M, M, ev_wp (b73_0 (by omega) hS ⟨_, _, s55 (by omega) hS hS.2.2.1 x, hS, fun q => absurd (one_t q) c, fun q => ⟨rfl, rfl⟩⟩), hS, ev_wp (b138_0 (by omega) hS ⟨by omega, _, _, s107 (by omega) hS x 0 _, hS, fun q => ⟨rfl, rfl⟩, fun q => absurd (one_t q) (by omega)⟩), h⟩
theorem c_person {t : Nat} {M : ab_M} (h : pu_inv t M) (x y : Int) : pu_both 70 134 [.inl x, .inl y] t M := by
  obtain ⟨hS, h1, h2, hr⟩ := id h
  obtain ⟨_, t2, _, _, _, _, t7, _⟩ := h1
  obtain ⟨_, m2, _, _, _, m6, _⟩ := h2
  have hm : 0 ≤ M 103 9 ∧ M 103 9 ≤ 7 := by omega
  by_cases c : 0 ≤ x ∧ x < M t 2
  · have c' : 0 ≤ x ∧ x < M 103 9 := by omega
    have m := m6 x.toNat (by omega)
    by_cases y0 : y = 0
    · refine ⟨M (t + 17) x.toNat, t, M, M, ev_wp (b70_0 (by omega) hS ⟨_, _, s52 (by omega) hS hS.2.2.1 x, hS, fun q => ⟨fun z => absurd y0 z.1, fun _ => ⟨by omega, rfl, rfl⟩, fun z => by omega⟩, fun q => absurd c (one_f q)⟩), hS, ev_wp (b134_0 (by omega) hS ⟨_, _, s110 (by omega) hS hm x, hS, fun q => ⟨fun z => absurd y0 z, fun _ => ⟨by omega, ?_, rfl⟩⟩, fun q => absurd c' (one_f q)⟩), h⟩
      rw [m.1]
    · by_cases y1 : y = 1
      · refine ⟨M (t + 18) x.toNat, t, M, M, ev_wp (b70_0 (by omega) hS ⟨_, _, s52 (by omega) hS hS.2.2.1 x, hS, fun q => ⟨fun z => absurd y1 z.2, fun z => by omega, fun _ => ⟨by omega, rfl, rfl⟩⟩, fun q => absurd c (one_f q)⟩), hS, ev_wp (b134_0 (by omega) hS ⟨_, _, s110 (by omega) hS hm x, hS, fun q => ⟨fun _ => ⟨fun z => absurd y1 z, fun _ => ⟨by omega, ?_, rfl⟩⟩, fun z => by omega⟩, fun q => absurd c' (one_f q)⟩), h⟩
        rw [m.2]
      · exact ⟨-1000000002, t, M, M, ev_wp (b70_0 (by omega) hS ⟨_, _, s52 (by omega) hS hS.2.2.1 x, hS, fun q => ⟨fun z => ⟨rfl, rfl⟩, fun z => absurd z y0, fun z => absurd z y1⟩, fun q => absurd c (one_f q)⟩), hS, ev_wp (b134_0 (by omega) hS ⟨_, _, s110 (by omega) hS hm x, hS, fun q => ⟨fun _ => ⟨fun _ => ⟨rfl, rfl⟩, fun z => absurd z y1⟩, fun z => absurd z y0⟩, fun q => absurd c' (one_f q)⟩), h⟩
  · have c' : ¬ (0 ≤ x ∧ x < M 103 9) := by omega
    exact ⟨-1000000001, t, M, M, ev_wp (b70_0 (by omega) hS ⟨_, _, s52 (by omega) hS hS.2.2.1 x, hS, fun q => absurd (one_t q) c, fun q => ⟨rfl, rfl⟩⟩), hS, ev_wp (b134_0 (by omega) hS ⟨_, _, s110 (by omega) hS hm x, hS, fun q => absurd (one_t q) c', fun q => ⟨rfl, rfl⟩⟩), h⟩
theorem s132 {d t : Nat} {M : ab_M} (hd : 1 ≤ d) (h : pu_inv t M) (x y : Int) (hx : 0 ≤ x ∧ x < M t 0) (hy : 0 ≤ y ∧ y < M t 0) : ab_ev d 132 [.inr (.inr 103), .inl x, .inl y] M (some (.inl (M (t + 10 + x.toNat) y.toNat))) M := by
  obtain ⟨hS, h1, h2, h3, hr⟩ := id h
  obtain ⟨t1, _⟩ := h1
  have g := h3 x.toNat y.toNat (by omega) (by omega) (by omega) (by omega)
  have e : (7 * x + y).toNat = 7 * x.toNat + y.toNat := by omega
  refine ev_wp (b132_0 hd hS ⟨by omega, by omega, by omega, fun q => ⟨?_, rfl⟩, fun q => ⟨?_, rfl⟩⟩)
  · rw [e] at q ⊢
    rw [g.2.2.2.2.2.2] at q ⊢
    by_cases z : M (t + 10 + x.toNat) y.toNat = -1
    · rw [if_pos z] at q; omega
    · rw [if_neg z]
  · rw [e] at q
    rw [g.2.2.2.2.2.2] at q
    by_cases z : M (t + 10 + x.toNat) y.toNat = -1
    · rw [z]
    · rw [if_neg z] at q; omega
theorem c_far {t : Nat} {M : ab_M} (h : pu_inv t M) (x y : Int) : pu_both 69 133 [.inl x, .inl y] t M := by
  obtain ⟨hS, h1, h2, hr⟩ := id h
  obtain ⟨t1, _⟩ := h1
  obtain ⟨m1, _⟩ := h2
  have hm : 0 ≤ M 103 3 ∧ M 103 3 ≤ 7 := by omega
  by_cases c : 0 ≤ x ∧ x < M t 0
  · have c' : 0 ≤ x ∧ x < M 103 3 := by omega
    by_cases e : 0 ≤ y ∧ y < M t 0
    · have e' : 0 ≤ y ∧ y < M 103 3 := by omega
      have g := s58 (d := 28) (by omega) hS hS.2.2.1 t1.2 x y
      rw [if_pos ⟨c, e⟩] at g
      exact ⟨M (t + 10 + x.toNat) y.toNat, t, M, M, ev_wp (b69_0 (by omega) hS ⟨_, _, s51 (by omega) hS hS.2.2.1 x, hS, fun q => absurd c (one_f q), fun q => ⟨_, _, s51 (by omega) hS hS.2.2.1 y, hS, fun q => ⟨_, _, g, hS, rfl, rfl⟩, fun q => absurd e (one_f q)⟩⟩), hS, ev_wp (b133_0 (by omega) hS ⟨_, _, s109 (by omega) hS hm x, hS, fun q => absurd c' (one_f q), fun q => ⟨_, _, s109 (by omega) hS hm y, hS, fun q => absurd e' (one_f q), fun q => ⟨_, _, s132 (by omega) h x y c e, hS, rfl, rfl⟩⟩⟩), h⟩
    · have e' : ¬ (0 ≤ y ∧ y < M 103 3) := by omega
      exact ⟨-1000000001, t, M, M, ev_wp (b69_0 (by omega) hS ⟨_, _, s51 (by omega) hS hS.2.2.1 x, hS, fun q => absurd c (one_f q), fun q => ⟨_, _, s51 (by omega) hS hS.2.2.1 y, hS, fun q => absurd (one_t q) e, fun q => ⟨rfl, rfl⟩⟩⟩), hS, ev_wp (b133_0 (by omega) hS ⟨_, _, s109 (by omega) hS hm x, hS, fun q => absurd c' (one_f q), fun q => ⟨_, _, s109 (by omega) hS hm y, hS, fun q => ⟨rfl, rfl⟩, fun q => absurd (one_t q) e'⟩⟩), h⟩
  · have c' : ¬ (0 ≤ x ∧ x < M 103 3) := by omega
    exact ⟨-1000000001, t, M, M, ev_wp (b69_0 (by omega) hS ⟨_, _, s51 (by omega) hS hS.2.2.1 x, hS, fun q => ⟨rfl, rfl⟩, fun q => absurd (one_t q) c⟩), hS, ev_wp (b133_0 (by omega) hS ⟨_, _, s109 (by omega) hS hm x, hS, fun q => ⟨rfl, rfl⟩, fun q => absurd (one_t q) c'⟩), h⟩
theorem s136 {d t : Nat} {M : ab_M} (hd : 3 ≤ d) (hS : pu_str t M) (hm : 0 ≤ M 103 9 ∧ M 103 9 ≤ 7) (x y : Int) : ab_ev d 136 [.inr (.inr 103), .inl x, .inl y] M (some (.inl (if (0 ≤ x ∧ x < M 103 9) ∧ (0 ≤ y ∧ y < M 103 9) ∧ x ≠ y then 1 else 0))) M := by
  refine ev_wp (b136_0 (by omega) hS ⟨_, _, s110 (by omega) hS hm x, hS, fun c => ⟨?_, rfl⟩, fun c => ⟨_, _, s110 (by omega) hS hm y, hS, fun c2 => ⟨?_, rfl⟩, fun c2 => ⟨fun c3 => ⟨?_, rfl⟩, fun c3 => ⟨?_, rfl⟩⟩⟩⟩)
  · rw [if_neg (fun q => one_f c q.1)]
  · rw [if_neg (fun q => one_f c2 q.2.1)]
  · rw [if_neg (fun q => q.2.2 c3)]
  · rw [if_pos ⟨one_t c, one_t c2, c3⟩]
theorem c_trust {t : Nat} {M : ab_M} (h : pu_inv t M) (x y : Int) : pu_both 72 137 [.inl x, .inl y] t M := by
  obtain ⟨hS, h1, h2, h3, h4, hr⟩ := id h
  obtain ⟨_, t2, _⟩ := h1
  obtain ⟨_, m2, _⟩ := h2
  have hm : 0 ≤ M 103 9 ∧ M 103 9 ≤ 7 := by omega
  by_cases c : (0 ≤ x ∧ x < M t 2) ∧ (0 ≤ y ∧ y < M t 2) ∧ x ≠ y
  · have c' : (0 ≤ x ∧ x < M 103 9) ∧ (0 ≤ y ∧ y < M 103 9) ∧ x ≠ y := by rw [m2]; exact c
    refine ⟨M (t + 25 + x.toNat) y.toNat, t, M, M, ev_wp (b72_0 (by omega) hS ⟨_, _, s53 (by omega) hS hS.2.2.1 x y, hS, fun q => ⟨by omega, by omega, rfl, rfl⟩, fun q => absurd c (one_f q)⟩), hS, ev_wp (b137_0 (by omega) hS ⟨_, _, s136 (by omega) hS hm x y, hS, fun q => absurd c' (one_f q), fun q => ⟨by omega, by omega, by omega, ?_, rfl⟩⟩), h⟩
    rw [show (6 * x + y).toNat = 6 * x.toNat + y.toNat from by omega, (h4 x.toNat y.toNat (by omega) (by omega)).2.2.1 (by omega)]
  · have c' : ¬ ((0 ≤ x ∧ x < M 103 9) ∧ (0 ≤ y ∧ y < M 103 9) ∧ x ≠ y) := by rw [m2]; exact c
    exact ⟨-1000000001, t, M, M, ev_wp (b72_0 (by omega) hS ⟨_, _, s53 (by omega) hS hS.2.2.1 x y, hS, fun q => absurd (one_t q) c, fun q => ⟨rfl, rfl⟩⟩), hS, ev_wp (b137_0 (by omega) hS ⟨_, _, s136 (by omega) hS hm x y, hS, fun q => ⟨rfl, rfl⟩, fun q => absurd (one_t q) c'⟩), h⟩
