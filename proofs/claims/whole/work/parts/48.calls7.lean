/-! feed -/
theorem c_feed {t : Nat} {M : ab_M} (h : pu_inv t M) (x : Int) : pu_both 65 112 [.inl x] t M := by
  obtain ⟨hS, h1, h2, h3, h4, h5, h6, h7, h8, h9, h10⟩ := id h
  obtain ⟨d1, d2, d3, d4, d5⟩ := id h10
  by_cases c : 0 ≤ x ∧ x ≤ 255
  · by_cases f : M 1 0 < 250
    · have s1 : pu_str t (ab_w (ab_w M 2 (M 1 0).toNat x) 1 0 (M 1 0 + 1)) := str_w (str_a hS rfl) rfl
      have s2 : pu_str t (ab_w (ab_w (ab_w (ab_w M 2 (M 1 0).toNat x) 1 0 (M 1 0 + 1)) 104 (M 103 1).toNat x) 103 1 (M 103 1 + 1)) := str_w (str_a s1 rfl) rfl
      have w3 := s107 (d := 28) (by omega) s1 x 0 255
      refine ⟨M 1 0 + 1, t, (ab_w (ab_w M 2 (M 1 0).toNat x) 1 0 (M 1 0 + 1)), (ab_w (ab_w (ab_w (ab_w M 2 (M 1 0).toNat x) 1 0 (M 1 0 + 1)) 104 (M 103 1).toNat x) 103 1 (M 103 1 + 1)), ev_wp (b65_0 (by omega) hS ⟨fun _ => by omega, fun _ => ⟨fun _ => ⟨by omega, _, _, ev_wp (b25_0 (by omega) hS ⟨fun _ => ⟨by omega, by omega, by omega, rfl, rfl⟩, fun _ => by omega⟩), s1, fun q => by omega, fun _ => ⟨rfl, rfl⟩⟩, fun _ => by omega⟩⟩), s1, ev_wp (b112_0 (by omega) s1 ⟨_, _, w3, s1, fun _ => ⟨fun _ => ⟨?_, ?_, ?_, rfl⟩, fun q => ?_⟩, fun q => absurd c (one_f q)⟩), ?_⟩
      · show 0 ≤ M 103 1 ∧ M 103 1 < 250; omega
      · show ab_rg (M 103 1 + 1); omega
      · show some (Sum.inl (M 103 1 + 1)) = some (Sum.inl (M 1 0 + 1))
        rw [d1]
      · replace q : M 103 1 = 250 := q
        omega
      · refine inv_txt h s2 ?_ ?_
        · intro k f hk
          unfold ab_w
          rw [if_neg (by omega), if_neg (by omega), if_neg (by omega), if_neg (by omega)]
        · have b1 : (ab_w (ab_w (ab_w (ab_w M 2 (M 1 0).toNat x) 1 0 (M 1 0 + 1)) 104 (M 103 1).toNat x) 103 1 (M 103 1 + 1)) 1 0 = M 1 0 + 1 := rfl
          have b2 : (ab_w (ab_w (ab_w (ab_w M 2 (M 1 0).toNat x) 1 0 (M 1 0 + 1)) 104 (M 103 1).toNat x) 103 1 (M 103 1 + 1)) 103 1 = M 103 1 + 1 := rfl
          have b3 : (ab_w (ab_w (ab_w (ab_w M 2 (M 1 0).toNat x) 1 0 (M 1 0 + 1)) 104 (M 103 1).toNat x) 103 1 (M 103 1 + 1)) 0 1 = M 0 1 := rfl
          have b4 : (ab_w (ab_w (ab_w (ab_w M 2 (M 1 0).toNat x) 1 0 (M 1 0 + 1)) 104 (M 103 1).toNat x) 103 1 (M 103 1 + 1)) 103 2 = M 103 2 := rfl
          unfold pu_txt
          rw [b1, b2, b3, b4]
          refine ⟨by omega, by omega, by omega, fun k hk => ?_, d5⟩
          by_cases z : k = (M 1 0).toNat
          · have f1 : (ab_w (ab_w (ab_w (ab_w M 2 (M 1 0).toNat x) 1 0 (M 1 0 + 1)) 104 (M 103 1).toNat x) 103 1 (M 103 1 + 1)) 104 k = x := by unfold ab_w; rw [if_neg (by omega), if_pos (by omega)]
            have f2 : (ab_w (ab_w (ab_w (ab_w M 2 (M 1 0).toNat x) 1 0 (M 1 0 + 1)) 104 (M 103 1).toNat x) 103 1 (M 103 1 + 1)) 2 k = x := by unfold ab_w; rw [if_neg (by omega), if_neg (by omega), if_neg (by omega), if_pos (by omega)]
            rw [f1, f2]
            exact ⟨rfl, c⟩
          · unfold ab_w
            simp (discharger := omega) only [if_neg]
            exact d4 k (by omega)
    · exact ⟨-1000000004, t, M, M, ev_wp (b65_0 (by omega) hS ⟨fun _ => by omega, fun _ => ⟨fun _ => ⟨by omega, _, _, ev_wp (b25_0 (by omega) hS ⟨fun _ => by omega, fun _ => ⟨rfl, rfl⟩⟩), hS, fun _ => ⟨rfl, rfl⟩, fun q => absurd rfl q⟩, fun _ => by omega⟩⟩), hS, ev_wp (b112_0 (by omega) hS ⟨_, _, s107 (by omega) hS x 0 255, hS, fun _ => ⟨fun q => by omega, fun _ => ⟨rfl, rfl⟩⟩, fun q => absurd c (one_f q)⟩), h⟩
  · exact ⟨-1000000002, t, M, M, ev_wp (b65_0 (by omega) hS ⟨fun _ => ⟨rfl, rfl⟩, fun _ => ⟨fun _ => by omega, fun _ => ⟨rfl, rfl⟩⟩⟩), hS, ev_wp (b112_0 (by omega) hS ⟨_, _, s107 (by omega) hS x 0 255, hS, fun q => absurd (one_t q) c, fun _ => ⟨rfl, rfl⟩⟩), h⟩
