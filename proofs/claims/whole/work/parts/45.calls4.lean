/-! tear, judge, deed -/
theorem c_tear {t : Nat} {M : ab_M} (h : pu_inv t M) : pu_both 93 181 [] t M := by
  obtain ⟨hS, h1, h2, h3, h4, h5, h6, h7, h8, h9, h10⟩ := id h
  obtain ⟨d1, d2, d3, d4⟩ := id h8
  obtain ⟨e1, e2, e3, e4⟩ := id h9
  have s1 : pu_str t (ab_w (ab_w M 90 2 0) 75 0 0) := str_w (str_w hS rfl) rfl
  have s2 : pu_str t (ab_w (ab_w (ab_w (ab_w M 90 2 0) 75 0 0) 103 17 0) 103 19 0) := str_w (str_w s1 rfl) rfl
  refine ⟨M 90 2 + M 75 0, t, _, ab_w (ab_w (ab_w (ab_w M 90 2 0) 75 0 0) 103 17 0) 103 19 0, ev_wp (b93_0 (by omega) hS ⟨by omega, rfl, rfl⟩), s1, ev_wp (b181_0 (by omega) s1 ⟨?_, ?_, rfl⟩), ?_⟩
  · show ab_rg (M 103 17 + M 103 19)
    omega
  · show some (Sum.inl (M 103 17 + M 103 19)) = some (Sum.inl (M 90 2 + M 75 0))
    rw [d1, e1]
  · refine inv_tear h s2 ?_ ?_ ?_
    · intro k f hk
      unfold ab_w
      rw [if_neg (by omega), if_neg (by omega), if_neg (by omega), if_neg (by omega)]
    · refine ⟨rfl, Int.le_refl _, by show (0 : Int) ≤ 15; decide, fun k hk => ?_⟩
      replace hk : (k : Int) < 0 := hk
      omega
    · refine ⟨rfl, Int.le_refl _, by show (0 : Int) ≤ 6; decide, fun k hk => ?_⟩
      replace hk : (k : Int) < 0 := hk
      omega
theorem c_deed {t : Nat} {M : ab_M} (h : pu_inv t M) (x y : Int) : pu_both 71 135 [.inl x, .inl y] t M := by
  obtain ⟨hS, h1, h2, h3, h4, h5, hr⟩ := id h
  obtain ⟨a1, a2, a3, a4, a5, a6⟩ := now_of h5
  obtain ⟨_, _, t3, _, _, _, _, t8, _⟩ := h1
  obtain ⟨_, _, m3, _, _, _, m7, _⟩ := h2
  have hm : 0 ≤ M 103 11 ∧ M 103 11 ≤ 7 := by omega
  by_cases c : 0 ≤ x ∧ x < M t 3
  · have c' : 0 ≤ x ∧ x < M 103 11 := by omega
    have m := m7 x.toNat (by omega)
    have tt := t8 x.toNat (by omega)
    have aa := a6 x.toNat (by omega)
    have e0 : (5 * x).toNat = 5 * x.toNat := by omega
    have w1 := s54 (d := 28) (by omega) hS hS.2.2.1 x
    have w2 := s111 (d := 28) (by omega) hS hm x
    have w3 := s107 (d := 28) (by omega) hS y 0 6
    have w4 := s44 (d := 28) (by omega) hS hS.2.2.1 x (by omega) (by omega)
    have w5 := s128 (d := 28) (by omega) hS x (by omega) (by rw [show (5 * x + 2).toNat = 5 * x.toNat + 2 from by omega, show (5 * x + 1).toNat = 5 * x.toNat + 1 from by omega]; omega) (by rw [show (4 + x).toNat = 4 + x.toNat from by omega]; omega)
    rw [show (5 * x + 2).toNat = 5 * x.toNat + 2 from by omega, show (5 * x + 1).toNat = 5 * x.toNat + 1 from by omega, show (4 + x).toNat = 4 + x.toNat from by omega, pu_how_eq h (by omega)] at w5
    by_cases y0 : 0 ≤ y ∧ y ≤ 6
    · have key : ∀ r : Int, (y < 5 → M 109 (5 * x + y).toNat = r) → (y = 5 → pu_how (M 70 x.toNat) (M 69 0) (M (t + 21) x.toNat) (M (t + 20) x.toNat) = r) → (y = 6 → M 70 x.toNat = r) → ab_wp 29 135 0 [some (.inr (.inr 103)), some (.inl x), some (.inl y)] [] M (fun r' M'' => r' = some (.inl r) ∧ M'' = M) := by
        intro r k1 k2 k3
        refine b135_0 (by omega) hS ⟨_, _, w2, hS, fun _ => ⟨_, _, w3, hS, fun _ => ⟨fun z => ⟨fun z2 => ⟨by omega, by omega, ?_, rfl⟩, fun z2 => ⟨_, _, w5, hS, ?_, rfl⟩⟩, fun z => ⟨by omega, by omega, by omega, ?_, rfl⟩⟩, fun q => absurd y0 (one_f q)⟩, fun q => absurd c' (one_f q)⟩
        · rw [show (4 + x).toNat = 4 + x.toNat from by omega, aa.1, k3 (by omega)]
        · rw [k2 z2]
        · rw [k1 z]
      have fin : ∀ r : Int, ab_wp 29 71 0 [some (.inr (.inr 0)), some (.inl x), some (.inl y)] [] M (fun r' M'' => r' = some (.inl r) ∧ M'' = M) → ab_wp 29 135 0 [some (.inr (.inr 103)), some (.inl x), some (.inl y)] [] M (fun r' M'' => r' = some (.inl r) ∧ M'' = M) → pu_both 71 135 [.inl x, .inl y] t M := fun r p1 p2 => ⟨r, t, M, M, ev_wp p1, hS, ev_wp p2, h⟩
      rcases (show y = 0 ∨ y = 1 ∨ y = 2 ∨ y = 3 ∨ y = 4 ∨ y = 5 ∨ y = 6 by omega) with q | q | q | q | q | q | q
      · refine fin (M (t + 19) x.toNat) (b71_0 (by omega) hS ⟨_, _, w1, hS, fun _ => ⟨fun _ => by omega, fun _ => ⟨by omega, rfl, rfl⟩, fun _ => by omega, fun _ => by omega, fun _ => by omega, fun _ => by omega, fun _ => by omega, fun _ => by omega⟩, fun q => absurd c (one_f q)⟩) (key _ (fun _ => ?_) (fun _ => by omega) (fun _ => by omega))
        rw [show (5 * x + y).toNat = 5 * x.toNat from by omega, m.1]
      · refine fin (M (t + 20) x.toNat) (b71_0 (by omega) hS ⟨_, _, w1, hS, fun _ => ⟨fun _ => by omega, fun _ => by omega, fun _ => ⟨by omega, rfl, rfl⟩, fun _ => by omega, fun _ => by omega, fun _ => by omega, fun _ => by omega, fun _ => by omega⟩, fun q => absurd c (one_f q)⟩) (key _ (fun _ => ?_) (fun _ => by omega) (fun _ => by omega))
        rw [show (5 * x + y).toNat = 5 * x.toNat + 1 from by omega, m.2.1]
      · refine fin (M (t + 21) x.toNat) (b71_0 (by omega) hS ⟨_, _, w1, hS, fun _ => ⟨fun _ => by omega, fun _ => by omega, fun _ => by omega, fun _ => ⟨by omega, rfl, rfl⟩, fun _ => by omega, fun _ => by omega, fun _ => by omega, fun _ => by omega⟩, fun q => absurd c (one_f q)⟩) (key _ (fun _ => ?_) (fun _ => by omega) (fun _ => by omega))
        rw [show (5 * x + y).toNat = 5 * x.toNat + 2 from by omega, m.2.2.1]
      · refine fin (M (t + 22) x.toNat) (b71_0 (by omega) hS ⟨_, _, w1, hS, fun _ => ⟨fun _ => by omega, fun _ => by omega, fun _ => by omega, fun _ => by omega, fun _ => ⟨by omega, rfl, rfl⟩, fun _ => by omega, fun _ => by omega, fun _ => by omega⟩, fun q => absurd c (one_f q)⟩) (key _ (fun _ => ?_) (fun _ => by omega) (fun _ => by omega))
        rw [show (5 * x + y).toNat = 5 * x.toNat + 3 from by omega, m.2.2.2.1]
      · refine fin (M (t + 23) x.toNat) (b71_0 (by omega) hS ⟨_, _, w1, hS, fun _ => ⟨fun _ => by omega, fun _ => by omega, fun _ => by omega, fun _ => by omega, fun _ => by omega, fun _ => ⟨by omega, rfl, rfl⟩, fun _ => by omega, fun _ => by omega⟩, fun q => absurd c (one_f q)⟩) (key _ (fun _ => ?_) (fun _ => by omega) (fun _ => by omega))
        rw [show (5 * x + y).toNat = 5 * x.toNat + 4 from by omega, m.2.2.2.2]
      · exact fin _ (b71_0 (by omega) hS ⟨_, _, w1, hS, fun _ => ⟨fun _ => by omega, fun _ => by omega, fun _ => by omega, fun _ => by omega, fun _ => by omega, fun _ => by omega, fun _ => ⟨_, _, w4, hS, rfl, rfl⟩, fun _ => by omega⟩, fun q => absurd c (one_f q)⟩) (key _ (fun _ => by omega) (fun _ => rfl) (fun _ => by omega))
      · exact fin _ (b71_0 (by omega) hS ⟨_, _, w1, hS, fun _ => ⟨fun _ => by omega, fun _ => by omega, fun _ => by omega, fun _ => by omega, fun _ => by omega, fun _ => by omega, fun _ => by omega, fun _ => ⟨by omega, rfl, rfl⟩⟩, fun q => absurd c (one_f q)⟩) (key _ (fun _ => by omega) (fun _ => by omega) (fun _ => rfl))
    · refine ⟨-1000000002, t, M, M, ev_wp (b71_0 (by omega) hS ⟨_, _, w1, hS, fun _ => ⟨fun _ => ⟨rfl, rfl⟩, fun _ => by omega, fun _ => by omega, fun _ => by omega, fun _ => by omega, fun _ => by omega, fun _ => by omega, fun _ => by omega⟩, fun q => absurd c (one_f q)⟩), hS, ev_wp (b135_0 (by omega) hS ⟨_, _, w2, hS, fun _ => ⟨_, _, w3, hS, fun q => absurd (one_t q) y0, fun _ => ⟨rfl, rfl⟩⟩, fun q => absurd c' (one_f q)⟩), h⟩
  · have c' : ¬ (0 ≤ x ∧ x < M 103 11) := by omega
    exact ⟨-1000000001, t, M, M, ev_wp (b71_0 (by omega) hS ⟨_, _, s54 (by omega) hS hS.2.2.1 x, hS, fun q => absurd (one_t q) c, fun _ => ⟨rfl, rfl⟩⟩), hS, ev_wp (b135_0 (by omega) hS ⟨_, _, s111 (by omega) hS hm x, hS, fun q => absurd (one_t q) c', fun _ => ⟨rfl, rfl⟩⟩), h⟩
