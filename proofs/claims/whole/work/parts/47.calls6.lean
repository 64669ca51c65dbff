/-! tell, write -/
theorem c_tell {t : Nat} {M : ab_M} (h : pu_inv t M) (x y : Int) : pu_both 88 174 [.inl x, .inl y] t M := by
  obtain ⟨hS, h1, h2, h3, h4, h5, h6, h7, h8, h9, h10⟩ := id h
  obtain ⟨d1, d2, d3, d4⟩ := id h9
  obtain ⟨_, _, t3, _⟩ := h1
  obtain ⟨_, _, m3, _⟩ := h2
  have hm : 0 ≤ M 103 11 ∧ M 103 11 ≤ 7 := by omega
  have w1 := s54 (d := 28) (by omega) hS hS.2.2.1 x
  by_cases c : 0 ≤ x ∧ x < M t 3
  · have c' : 0 ≤ x ∧ x < M 103 11 := by omega
    by_cases e : 1 ≤ y ∧ y ≤ 999
    · by_cases f : M 90 2 < 6
      · have s1 : pu_str t (ab_w (ab_w (ab_w M 93 (M 90 2).toNat x) 94 (M 90 2).toNat y) 90 2 (M 90 2 + 1)) := str_w (str_a (str_a hS rfl) rfl) rfl
        have s2 : pu_str t (ab_w (ab_w (ab_w (ab_w (ab_w (ab_w M 93 (M 90 2).toNat x) 94 (M 90 2).toNat y) 90 2 (M 90 2 + 1)) 113 (2 * M 103 17).toNat x) 113 (2 * M 103 17 + 1).toNat y) 103 17 (M 103 17 + 1)) := str_w (str_a (str_a s1 rfl) rfl) rfl
        have w2 := s111 (d := 28) (by omega) s1 hm x
        have w3 := s107 (d := 28) (by omega) s1 y 1 999
        refine ⟨M 90 2 + 1, t, (ab_w (ab_w (ab_w M 93 (M 90 2).toNat x) 94 (M 90 2).toNat y) 90 2 (M 90 2 + 1)), (ab_w (ab_w (ab_w (ab_w (ab_w (ab_w M 93 (M 90 2).toNat x) 94 (M 90 2).toNat y) 90 2 (M 90 2 + 1)) 113 (2 * M 103 17).toNat x) 113 (2 * M 103 17 + 1).toNat y) 103 17 (M 103 17 + 1)), ev_wp (b88_0 (by omega) hS ⟨_, _, w1, hS, fun _ => ⟨fun _ => by omega, fun _ => ⟨fun _ => ⟨_, _, ev_wp (b13_0 (by omega) hS ⟨fun _ => ⟨by omega, by omega, rfl, rfl⟩, fun _ => by omega⟩), s1, fun q => by omega, fun _ => ⟨rfl, rfl⟩⟩, fun _ => by omega⟩⟩, fun q => absurd c (one_f q)⟩), s1, ev_wp (b174_0 (by omega) s1 ⟨_, _, w2, s1, fun _ => ⟨_, _, w3, s1, fun _ => ⟨fun _ => ⟨?_, ?_, ?_, ?_, ?_, ?_, rfl⟩, fun q => ?_⟩, fun q => absurd e (one_f q)⟩, fun q => absurd c' (one_f q)⟩), ?_⟩
        · show ab_rg (2 * M 103 17); omega
        · show 0 ≤ 2 * M 103 17 ∧ 2 * M 103 17 < 12; omega
        · show ab_rg (2 * M 103 17 + 1); omega
        · show 0 ≤ 2 * M 103 17 + 1 ∧ 2 * M 103 17 + 1 < 12; omega
        · show ab_rg (M 103 17 + 1); omega
        · show some (Sum.inl (M 103 17 + 1)) = some (Sum.inl (M 90 2 + 1))
          rw [d1]
        · replace q : M 103 17 = 6 := q
          omega
        · refine inv_tel h s2 ?_ ?_
          · intro k f hk
            unfold ab_w
            rw [if_neg (by omega), if_neg (by omega), if_neg (by omega), if_neg (by omega), if_neg (by omega), if_neg (by omega)]
          · have ht : t = 5 ∨ t = 37 := hS.2.2.1
            have b1 : (ab_w (ab_w (ab_w (ab_w (ab_w (ab_w M 93 (M 90 2).toNat x) 94 (M 90 2).toNat y) 90 2 (M 90 2 + 1)) 113 (2 * M 103 17).toNat x) 113 (2 * M 103 17 + 1).toNat y) 103 17 (M 103 17 + 1)) 90 2 = M 90 2 + 1 := rfl
            have b2 : (ab_w (ab_w (ab_w (ab_w (ab_w (ab_w M 93 (M 90 2).toNat x) 94 (M 90 2).toNat y) 90 2 (M 90 2 + 1)) 113 (2 * M 103 17).toNat x) 113 (2 * M 103 17 + 1).toNat y) 103 17 (M 103 17 + 1)) 103 17 = M 103 17 + 1 := rfl
            have b3 : (ab_w (ab_w (ab_w (ab_w (ab_w (ab_w M 93 (M 90 2).toNat x) 94 (M 90 2).toNat y) 90 2 (M 90 2 + 1)) 113 (2 * M 103 17).toNat x) 113 (2 * M 103 17 + 1).toNat y) 103 17 (M 103 17 + 1)) t 3 = M t 3 := by
              unfold ab_w
              rw [if_neg (by omega), if_neg (by omega), if_neg (by omega), if_neg (by omega), if_neg (by omega), if_neg (by omega)]
            unfold pu_tel
            rw [b1, b2, b3]
            refine ⟨by omega, by omega, by omega, fun k hk => ?_⟩
            by_cases z : k = (M 90 2).toNat
            · have f1 : (ab_w (ab_w (ab_w (ab_w (ab_w (ab_w M 93 (M 90 2).toNat x) 94 (M 90 2).toNat y) 90 2 (M 90 2 + 1)) 113 (2 * M 103 17).toNat x) 113 (2 * M 103 17 + 1).toNat y) 103 17 (M 103 17 + 1)) 113 (2 * k) = x := by unfold ab_w; rw [if_neg (by omega), if_neg (by omega), if_pos (by omega)]
              have f2 : (ab_w (ab_w (ab_w (ab_w (ab_w (ab_w M 93 (M 90 2).toNat x) 94 (M 90 2).toNat y) 90 2 (M 90 2 + 1)) 113 (2 * M 103 17).toNat x) 113 (2 * M 103 17 + 1).toNat y) 103 17 (M 103 17 + 1)) 113 (2 * k + 1) = y := by unfold ab_w; rw [if_neg (by omega), if_pos (by omega)]
              have f3 : (ab_w (ab_w (ab_w (ab_w (ab_w (ab_w M 93 (M 90 2).toNat x) 94 (M 90 2).toNat y) 90 2 (M 90 2 + 1)) 113 (2 * M 103 17).toNat x) 113 (2 * M 103 17 + 1).toNat y) 103 17 (M 103 17 + 1)) 93 k = x := by unfold ab_w; rw [if_neg (by omega), if_neg (by omega), if_neg (by omega), if_neg (by omega), if_neg (by omega), if_pos (by omega)]
              have f4 : (ab_w (ab_w (ab_w (ab_w (ab_w (ab_w M 93 (M 90 2).toNat x) 94 (M 90 2).toNat y) 90 2 (M 90 2 + 1)) 113 (2 * M 103 17).toNat x) 113 (2 * M 103 17 + 1).toNat y) 103 17 (M 103 17 + 1)) 94 k = y := by unfold ab_w; rw [if_neg (by omega), if_neg (by omega), if_neg (by omega), if_neg (by omega), if_pos (by omega)]
              rw [f1, f2, f3, f4]
              exact ⟨rfl, rfl, c.1, c.2, e.1, e.2⟩
            · unfold ab_w
              simp (discharger := omega) only [if_neg]
              exact d4 k (by omega)
      · have w2 := s111 (d := 28) (by omega) hS hm x
        have w3 := s107 (d := 28) (by omega) hS y 1 999
        exact ⟨-1000000004, t, M, M, ev_wp (b88_0 (by omega) hS ⟨_, _, w1, hS, fun _ => ⟨fun _ => by omega, fun _ => ⟨fun _ => ⟨_, _, ev_wp (b13_0 (by omega) hS ⟨fun _ => by omega, fun _ => ⟨rfl, rfl⟩⟩), hS, fun _ => ⟨rfl, rfl⟩, fun q => absurd rfl q⟩, fun _ => by omega⟩⟩, fun q => absurd c (one_f q)⟩), hS, ev_wp (b174_0 (by omega) hS ⟨_, _, w2, hS, fun _ => ⟨_, _, w3, hS, fun _ => ⟨fun q => by omega, fun _ => ⟨rfl, rfl⟩⟩, fun q => absurd e (one_f q)⟩, fun q => absurd c' (one_f q)⟩), h⟩
    · have w2 := s111 (d := 28) (by omega) hS hm x
      have w3 := s107 (d := 28) (by omega) hS y 1 999
      exact ⟨-1000000002, t, M, M, ev_wp (b88_0 (by omega) hS ⟨_, _, w1, hS, fun _ => ⟨fun _ => ⟨rfl, rfl⟩, fun _ => ⟨fun _ => by omega, fun _ => ⟨rfl, rfl⟩⟩⟩, fun q => absurd c (one_f q)⟩), hS, ev_wp (b174_0 (by omega) hS ⟨_, _, w2, hS, fun _ => ⟨_, _, w3, hS, fun q => absurd (one_t q) e, fun _ => ⟨rfl, rfl⟩⟩, fun q => absurd c' (one_f q)⟩), h⟩
  · have c' : ¬ (0 ≤ x ∧ x < M 103 11) := by omega
    exact ⟨-1000000001, t, M, M, ev_wp (b88_0 (by omega) hS ⟨_, _, w1, hS, fun q => absurd (one_t q) c, fun _ => ⟨rfl, rfl⟩⟩), hS, ev_wp (b174_0 (by omega) hS ⟨_, _, s111 (by omega) hS hm x, hS, fun q => absurd (one_t q) c', fun _ => ⟨rfl, rfl⟩⟩), h⟩
theorem c_write {t : Nat} {M : ab_M} (h : pu_inv t M) (x y : Int) : pu_both 91 179 [.inl x, .inl y] t M := by
  obtain ⟨hS, h1, h2, h3, h4, h5, h6, h7, h8, h9, h10⟩ := id h
  obtain ⟨d1, d2, d3, d4⟩ := id h8
  obtain ⟨_, _, t3, _⟩ := h1
  obtain ⟨_, _, m3, _⟩ := h2
  have hm : 0 ≤ M 103 11 ∧ M 103 11 ≤ 7 := by omega
  have w1 := s54 (d := 28) (by omega) hS hS.2.2.1 x
  by_cases c : 0 ≤ x ∧ x < M t 3
  · have c' : 0 ≤ x ∧ x < M 103 11 := by omega
    by_cases e : 0 ≤ y ∧ y ≤ 99999
    · by_cases f : M 75 0 < 15
      · have s1 : pu_str t (ab_w (ab_w (ab_w M 76 (M 75 0).toNat x) 77 (M 75 0).toNat y) 75 0 (M 75 0 + 1)) := str_w (str_a (str_a hS rfl) rfl) rfl
        have s2 : pu_str t (ab_w (ab_w (ab_w (ab_w (ab_w (ab_w M 76 (M 75 0).toNat x) 77 (M 75 0).toNat y) 75 0 (M 75 0 + 1)) 114 (2 * M 103 19).toNat x) 114 (2 * M 103 19 + 1).toNat y) 103 19 (M 103 19 + 1)) := str_w (str_a (str_a s1 rfl) rfl) rfl
        have w2 := s111 (d := 28) (by omega) s1 hm x
        have w3 := s107 (d := 28) (by omega) s1 y 0 99999
        refine ⟨M 75 0 + 1, t, (ab_w (ab_w (ab_w M 76 (M 75 0).toNat x) 77 (M 75 0).toNat y) 75 0 (M 75 0 + 1)), (ab_w (ab_w (ab_w (ab_w (ab_w (ab_w M 76 (M 75 0).toNat x) 77 (M 75 0).toNat y) 75 0 (M 75 0 + 1)) 114 (2 * M 103 19).toNat x) 114 (2 * M 103 19 + 1).toNat y) 103 19 (M 103 19 + 1)), ev_wp (b91_0 (by omega) hS ⟨_, _, w1, hS, fun _ => ⟨fun _ => by omega, fun _ => ⟨fun _ => ⟨_, _, ev_wp (b19_0 (by omega) hS ⟨fun _ => ⟨by omega, by omega, rfl, rfl⟩, fun _ => by omega⟩), s1, fun q => by omega, fun _ => ⟨rfl, rfl⟩⟩, fun _ => by omega⟩⟩, fun q => absurd c (one_f q)⟩), s1, ev_wp (b179_0 (by omega) s1 ⟨_, _, w2, s1, fun _ => ⟨_, _, w3, s1, fun _ => ⟨fun _ => ⟨?_, ?_, ?_, ?_, ?_, ?_, rfl⟩, fun q => ?_⟩, fun q => absurd e (one_f q)⟩, fun q => absurd c' (one_f q)⟩), ?_⟩
        · show ab_rg (2 * M 103 19); omega
        · show 0 ≤ 2 * M 103 19 ∧ 2 * M 103 19 < 30; omega
        · show ab_rg (2 * M 103 19 + 1); omega
        · show 0 ≤ 2 * M 103 19 + 1 ∧ 2 * M 103 19 + 1 < 30; omega
        · show ab_rg (M 103 19 + 1); omega
        · show some (Sum.inl (M 103 19 + 1)) = some (Sum.inl (M 75 0 + 1))
          rw [d1]
        · replace q : M 103 19 = 15 := q
          omega
        · refine inv_dia h s2 ?_ ?_
          · intro k f hk
            unfold ab_w
            rw [if_neg (by omega), if_neg (by omega), if_neg (by omega), if_neg (by omega), if_neg (by omega), if_neg (by omega)]
          · have ht : t = 5 ∨ t = 37 := hS.2.2.1
            have b1 : (ab_w (ab_w (ab_w (ab_w (ab_w (ab_w M 76 (M 75 0).toNat x) 77 (M 75 0).toNat y) 75 0 (M 75 0 + 1)) 114 (2 * M 103 19).toNat x) 114 (2 * M 103 19 + 1).toNat y) 103 19 (M 103 19 + 1)) 75 0 = M 75 0 + 1 := rfl
            have b2 : (ab_w (ab_w (ab_w (ab_w (ab_w (ab_w M 76 (M 75 0).toNat x) 77 (M 75 0).toNat y) 75 0 (M 75 0 + 1)) 114 (2 * M 103 19).toNat x) 114 (2 * M 103 19 + 1).toNat y) 103 19 (M 103 19 + 1)) 103 19 = M 103 19 + 1 := rfl
            have b3 : (ab_w (ab_w (ab_w (ab_w (ab_w (ab_w M 76 (M 75 0).toNat x) 77 (M 75 0).toNat y) 75 0 (M 75 0 + 1)) 114 (2 * M 103 19).toNat x) 114 (2 * M 103 19 + 1).toNat y) 103 19 (M 103 19 + 1)) t 3 = M t 3 := by
              unfold ab_w
              rw [if_neg (by omega), if_neg (by omega), if_neg (by omega), if_neg (by omega), if_neg (by omega), if_neg (by omega)]
            unfold pu_dia
            rw [b1, b2, b3]
            refine ⟨by omega, by omega, by omega, fun k hk => ?_⟩
            by_cases z : k = (M 75 0).toNat
            · have f1 : (ab_w (ab_w (ab_w (ab_w (ab_w (ab_w M 76 (M 75 0).toNat x) 77 (M 75 0).toNat y) 75 0 (M 75 0 + 1)) 114 (2 * M 103 19).toNat x) 114 (2 * M 103 19 + 1).toNat y) 103 19 (M 103 19 + 1)) 114 (2 * k) = x := by unfold ab_w; rw [if_neg (by omega), if_neg (by omega), if_pos (by omega)]
              have f2 : (ab_w (ab_w (ab_w (ab_w (ab_w (ab_w M 76 (M 75 0).toNat x) 77 (M 75 0).toNat y) 75 0 (M 75 0 + 1)) 114 (2 * M 103 19).toNat x) 114 (2 * M 103 19 + 1).toNat y) 103 19 (M 103 19 + 1)) 114 (2 * k + 1) = y := by unfold ab_w; rw [if_neg (by omega), if_pos (by omega)]
              have f3 : (ab_w (ab_w (ab_w (ab_w (ab_w (ab_w M 76 (M 75 0).toNat x) 77 (M 75 0).toNat y) 75 0 (M 75 0 + 1)) 114 (2 * M 103 19).toNat x) 114 (2 * M 103 19 + 1).toNat y) 103 19 (M 103 19 + 1)) 76 k = x := by unfold ab_w; rw [if_neg (by omega), if_neg (by omega), if_neg (by omega), if_neg (by omega), if_neg (by omega), if_pos (by omega)]
              have f4 : (ab_w (ab_w (ab_w (ab_w (ab_w (ab_w M 76 (M 75 0).toNat x) 77 (M 75 0).toNat y) 75 0 (M 75 0 + 1)) 114 (2 * M 103 19).toNat x) 114 (2 * M 103 19 + 1).toNat y) 103 19 (M 103 19 + 1)) 77 k = y := by unfold ab_w; rw [if_neg (by omega), if_neg (by omega), if_neg (by omega), if_neg (by omega), if_pos (by omega)]
              rw [f1, f2, f3, f4]
              exact ⟨rfl, rfl, c.1, c.2⟩
            · unfold ab_w
              simp (discharger := omega) only [if_neg]
              exact d4 k (by omega)
      · have w2 := s111 (d := 28) (by omega) hS hm x
        have w3 := s107 (d := 28) (by omega) hS y 0 99999
        exact ⟨-1000000004, t, M, M, ev_wp (b91_0 (by omega) hS ⟨_, _, w1, hS, fun _ => ⟨fun _ => by omega, fun _ => ⟨fun _ => ⟨_, _, ev_wp (b19_0 (by omega) hS ⟨fun _ => by omega, fun _ => ⟨rfl, rfl⟩⟩), hS, fun _ => ⟨rfl, rfl⟩, fun q => absurd rfl q⟩, fun _ => by omega⟩⟩, fun q => absurd c (one_f q)⟩), hS, ev_wp (b179_0 (by omega) hS ⟨_, _, w2, hS, fun _ => ⟨_, _, w3, hS, fun _ => ⟨fun q => by omega, fun _ => ⟨rfl, rfl⟩⟩, fun q => absurd e (one_f q)⟩, fun q => absurd c' (one_f q)⟩), h⟩
    · have w2 := s111 (d := 28) (by omega) hS hm x
      have w3 := s107 (d := 28) (by omega) hS y 0 99999
      exact ⟨-1000000002, t, M, M, ev_wp (b91_0 (by omega) hS ⟨_, _, w1, hS, fun _ => ⟨fun _ => ⟨rfl, rfl⟩, fun _ => ⟨fun _ => by omega, fun _ => ⟨rfl, rfl⟩⟩⟩, fun q => absurd c (one_f q)⟩), hS, ev_wp (b179_0 (by omega) hS ⟨_, _, w2, hS, fun _ => ⟨_, _, w3, hS, fun q => absurd (one_t q) e, fun _ => ⟨rfl, rfl⟩⟩, fun q => absurd c' (one_f q)⟩), h⟩
  · have c' : ¬ (0 ≤ x ∧ x < M 103 11) := by omega
    exact ⟨-1000000001, t, M, M, ev_wp (b91_0 (by omega) hS ⟨_, _, w1, hS, fun q => absurd (one_t q) c, fun _ => ⟨rfl, rfl⟩⟩), hS, ev_wp (b179_0 (by omega) hS ⟨_, _, s111 (by omega) hS hm x, hS, fun q => absurd (one_t q) c', fun _ => ⟨rfl, rfl⟩⟩), h⟩
