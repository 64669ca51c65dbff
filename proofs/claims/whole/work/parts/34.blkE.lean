/-! blocks -/
/- Model.howOf, at 0 -/
theorem b128_0 {d t : Nat}  {x1 : Int} {M : ab_M} {Q : Option ab_V → ab_M → Prop} (hd : 1 ≤ d) (hS : pu_str t M)  (h : ab_rg (4 + x1) ∧ (0 ≤ 4 + x1 ∧ 4 + x1 < 10) ∧ (M 112 (4 + x1).toNat < 0 → ab_rg (5 * x1) ∧ ab_rg ((5 * x1) + 2) ∧ (0 ≤ (5 * x1) + 2 ∧ (5 * x1) + 2 < 30) ∧ ab_rg ((5 * x1) + 1) ∧ (0 ≤ (5 * x1) + 1 ∧ (5 * x1) + 1 < 30) ∧ ab_rg ((M 109 ((5 * x1) + 2).toNat) - (M 109 ((5 * x1) + 1).toNat)) ∧ (M 112 0 ≤ (M 109 ((5 * x1) + 2).toNat) - (M 109 ((5 * x1) + 1).toNat) → Q (some (.inl 0)) M) ∧ ((M 109 ((5 * x1) + 2).toNat) - (M 109 ((5 * x1) + 1).toNat) < M 112 0 → Q (some (.inl 2)) M)) ∧ (0 ≤ M 112 (4 + x1).toNat → Q (some (.inl 1)) M)) : ab_wp d 128 0 [some (.inr (.inr 103)), some (.inl x1)] [] M Q := by
  refine wp_sts 1 (pc' := 1) (ls' := [some (.inr (.inr 103)), some (.inl x1)]) (st' := [.inr (.inr 103)]) (M' := M) rfl ?_
  refine g_getR (j := 112) rfl hS rfl (str_r hS 103 15 112 rfl) (by decide) ?_
  refine wp_sts 2 (pc' := 6) (ls' := [some (.inr (.inr 103)), some (.inl x1)]) (st' := [.inl x1, .inl 4, .inr (.inr 112)]) (M' := M) rfl ?_
  obtain ⟨hf1, h⟩ := h
  refine w_iadd rfl hf1 ?_
  obtain ⟨hf2, h⟩ := h
  refine g_iald (n := 10) rfl hS rfl hf2 ?_
  refine c1_lt rfl (fun c => ?_) (fun c => ?_)
  · replace h := h.1 c
    refine wp_sts 1 (pc' := 16) (ls' := [some (.inr (.inr 103)), some (.inl x1)]) (st' := [.inr (.inr 103)]) (M' := M) rfl ?_
    refine g_getR (j := 112) rfl hS rfl (str_r hS 103 15 112 rfl) (by decide) ?_
    refine wp_sts 1 (pc' := 20) (ls' := [some (.inr (.inr 103)), some (.inl x1)]) (st' := [.inl 0, .inr (.inr 112)]) (M' := M) rfl ?_
    refine g_iald (n := 10) rfl hS rfl (by decide) ?_
    refine wp_sts 1 (pc' := 22) (ls' := [some (.inr (.inr 103)), some (.inl x1)]) (st' := [.inr (.inr 103), .inl (M 112 0)]) (M' := M) rfl ?_
    refine g_getR (j := 109) rfl hS rfl (str_r hS 103 10 109 rfl) (by decide) ?_
    refine wp_sts 2 (pc' := 27) (ls' := [some (.inr (.inr 103)), some (.inl x1)]) (st' := [.inl x1, .inl 5, .inr (.inr 109), .inl (M 112 0)]) (M' := M) rfl ?_
    obtain ⟨hf3, h⟩ := h
    refine w_imul rfl hf3 ?_
    refine wp_sts 1 (pc' := 29) (ls' := [some (.inr (.inr 103)), some (.inl x1)]) (st' := [.inl 2, .inl (5 * x1), .inr (.inr 109), .inl (M 112 0)]) (M' := M) rfl ?_
    obtain ⟨hf4, h⟩ := h
    refine w_iadd rfl hf4 ?_
    obtain ⟨hf5, h⟩ := h
    refine g_iald (n := 30) rfl hS rfl hf5 ?_
    refine wp_sts 1 (pc' := 32) (ls' := [some (.inr (.inr 103)), some (.inl x1)]) (st' := [.inr (.inr 103), .inl (M 109 ((5 * x1) + 2).toNat), .inl (M 112 0)]) (M' := M) rfl ?_
    refine g_getR (j := 109) rfl hS rfl (str_r hS 103 10 109 rfl) (by decide) ?_
    refine wp_sts 2 (pc' := 37) (ls' := [some (.inr (.inr 103)), some (.inl x1)]) (st' := [.inl x1, .inl 5, .inr (.inr 109), .inl (M 109 ((5 * x1) + 2).toNat), .inl (M 112 0)]) (M' := M) rfl ?_
    refine w_imul rfl hf3 ?_
    refine wp_sts 1 (pc' := 39) (ls' := [some (.inr (.inr 103)), some (.inl x1)]) (st' := [.inl 1, .inl (5 * x1), .inr (.inr 109), .inl (M 109 ((5 * x1) + 2).toNat), .inl (M 112 0)]) (M' := M) rfl ?_
    obtain ⟨hf6, h⟩ := h
    refine w_iadd rfl hf6 ?_
    obtain ⟨hf7, h⟩ := h
    refine g_iald (n := 30) rfl hS rfl hf7 ?_
    obtain ⟨hf8, h⟩ := h
    refine w_isub rfl hf8 ?_
    refine c2_le rfl (fun c => ?_) (fun c => ?_)
    · replace h := h.1 c
      refine wp_sts 1 (pc' := 50) (ls' := [some (.inr (.inr 103)), some (.inl x1)]) (st' := [.inl 0]) (M' := M) rfl ?_
      exact wp_ret rfl rfl (z := (some (.inl 0), M)) rfl h
    · replace h := h.2 c
      refine wp_sts 2 (pc' := 50) (ls' := [some (.inr (.inr 103)), some (.inl x1)]) (st' := [.inl 2]) (M' := M) rfl ?_
      exact wp_ret rfl rfl (z := (some (.inl 2), M)) rfl h
  · replace h := h.2 c
    refine wp_sts 2 (pc' := 50) (ls' := [some (.inr (.inr 103)), some (.inl x1)]) (st' := [.inl 1]) (M' := M) rfl ?_
    exact wp_ret rfl rfl (z := (some (.inl 1), M)) rfl h
/- Model.deedsThatAre, at 0 -/
theorem b129_0 {d t : Nat}  {x1 : Int} {M : ab_M} {Q : Option ab_V → ab_M → Prop} (hd : 1 ≤ d) (hS : pu_str t M)  (h : ab_wp d 129 4 [some (.inr (.inr 103)), some (.inl x1), some (.inl 0), some (.inl 0)] [] M Q) : ab_wp d 129 0 [some (.inr (.inr 103)), some (.inl x1), none, none] [] M Q := by
  refine wp_sts 4 (pc' := 4) (ls' := [some (.inr (.inr 103)), some (.inl x1), some (.inl 0), some (.inl 0)]) (st' := []) (M' := M) rfl ?_
  exact h
/- Model.deedsThatAre, at 4 -/
theorem b129_4 {d t : Nat}  {x1 : Int} {x2 : Int} {x3 : Int} {M : ab_M} {Q : Option ab_V → ab_M → Prop} (hd : 1 ≤ d) (hS : pu_str t M)  (h : (M 103 11 ≤ x3 → Q (some (.inl x2)) M) ∧ (x3 < M 103 11 → ∃ r1 M1, ab_ev (d - 1) 128 [.inr (.inr 103), .inl x3] M (some (.inl r1)) M1 ∧ pu_str t M1 ∧ (r1 ≠ x1 → ab_rg (x3 + 1) ∧ ab_wp d 129 4 [some (.inr (.inr 103)), some (.inl x1), some (.inl (ab_or x2 0)), some (.inl (x3 + 1))] [] M1 Q) ∧ (r1 = x1 → ab_rg (x3 + 1) ∧ ab_wp d 129 4 [some (.inr (.inr 103)), some (.inl x1), some (.inl (ab_or x2 (ab_shl 1 x3))), some (.inl (x3 + 1))] [] M1 Q))) : ab_wp d 129 4 [some (.inr (.inr 103)), some (.inl x1), some (.inl x2), some (.inl x3)] [] M Q := by
  refine wp_sts 2 (pc' := 6) (ls' := [some (.inr (.inr 103)), some (.inl x1), some (.inl x2), some (.inl x3)]) (st' := [.inr (.inr 103), .inl x3]) (M' := M) rfl ?_
  refine g_getI rfl hS rfl ?_
  refine c2_ge rfl (fun c => ?_) (fun c => ?_)
  · replace h := h.1 c
    refine wp_sts 1 (pc' := 38) (ls' := [some (.inr (.inr 103)), some (.inl x1), some (.inl x2), some (.inl x3)]) (st' := [.inl x2]) (M' := M) rfl ?_
    exact wp_ret rfl rfl (z := (some (.inl x2), M)) rfl h
  · replace h := h.2 c
    refine wp_sts 3 (pc' := 15) (ls' := [some (.inr (.inr 103)), some (.inl x1), some (.inl x2), some (.inl x3)]) (st' := [.inl x3, .inr (.inr 103), .inl x2]) (M' := M) rfl ?_
    obtain ⟨r1, M1, he, hS1, h⟩ := h
    refine g_callI (c := 128) (as := [.inr (.inr 103), .inl x3]) (rs := [.inl x2]) rfl rfl hS hd rfl he ?_
    refine wp_sts 1 (pc' := 19) (ls' := [some (.inr (.inr 103)), some (.inl x1), some (.inl x2), some (.inl x3)]) (st' := [.inl x1, .inl r1, .inl x2]) (M' := M1) rfl ?_
    refine c2_ne rfl (fun c => ?_) (fun c => ?_)
    · replace h := h.1 c
      refine wp_sts 3 (pc' := 31) (ls' := [some (.inr (.inr 103)), some (.inl x1), some (.inl (ab_or x2 0)), some (.inl x3)]) (st' := []) (M' := M1) rfl ?_
      obtain ⟨hf1, h⟩ := h
      refine w_iinc rfl rfl hf1 ?_
      refine wp_sts 1 (pc' := 4) (ls' := [some (.inr (.inr 103)), some (.inl x1), some (.inl (ab_or x2 0)), some (.inl (x3 + 1))]) (st' := []) (M' := M1) rfl ?_
      exact h
    · replace h := h.2 c
      refine wp_sts 6 (pc' := 31) (ls' := [some (.inr (.inr 103)), some (.inl x1), some (.inl (ab_or x2 (ab_shl 1 x3))), some (.inl x3)]) (st' := []) (M' := M1) rfl ?_
      obtain ⟨hf1, h⟩ := h
      refine w_iinc rfl rfl hf1 ?_
      refine wp_sts 1 (pc' := 4) (ls' := [some (.inr (.inr 103)), some (.inl x1), some (.inl (ab_or x2 (ab_shl 1 x3))), some (.inl (x3 + 1))]) (st' := []) (M' := M1) rfl ?_
      exact h
/- Model.worthOf, at 0 -/
theorem b130_0 {d t : Nat}  {x1 : Int} {M : ab_M} {Q : Option ab_V → ab_M → Prop} (hd : 1 ≤ d) (hS : pu_str t M)  (h : ab_wp d 130 4 [some (.inr (.inr 103)), some (.inl x1), some (.inl 0), some (.inl 0)] [] M Q) : ab_wp d 130 0 [some (.inr (.inr 103)), some (.inl x1), none, none] [] M Q := by
  refine wp_sts 4 (pc' := 4) (ls' := [some (.inr (.inr 103)), some (.inl x1), some (.inl 0), some (.inl 0)]) (st' := []) (M' := M) rfl ?_
  exact h
/- Model.worthOf, at 4 -/
theorem b130_4 {d t : Nat}  {x1 : Int} {x2 : Int} {x3 : Int} {M : ab_M} {Q : Option ab_V → ab_M → Prop} (hd : 1 ≤ d) (hS : pu_str t M)  (h : (M 103 11 ≤ x3 → Q (some (.inl x2)) M) ∧ (x3 < M 103 11 → ∃ r1 M1, ab_ev (d - 1) 108 [.inl x1, .inl x3] M (some (.inl r1)) M1 ∧ pu_str t M1 ∧ (r1 = 0 → ab_rg (x2 + 0) ∧ ab_rg (x3 + 1) ∧ ab_wp d 130 4 [some (.inr (.inr 103)), some (.inl x1), some (.inl (x2 + 0)), some (.inl (x3 + 1))] [] M1 Q) ∧ (r1 ≠ 0 → ab_rg (5 * x3) ∧ ab_rg ((5 * x3) + 3) ∧ (0 ≤ (5 * x3) + 3 ∧ (5 * x3) + 3 < 30) ∧ ab_rg (x2 + (M1 109 ((5 * x3) + 3).toNat)) ∧ ab_rg (x3 + 1) ∧ ab_wp d 130 4 [some (.inr (.inr 103)), some (.inl x1), some (.inl (x2 + (M1 109 ((5 * x3) + 3).toNat))), some (.inl (x3 + 1))] [] M1 Q))) : ab_wp d 130 4 [some (.inr (.inr 103)), some (.inl x1), some (.inl x2), some (.inl x3)] [] M Q := by
  refine wp_sts 2 (pc' := 6) (ls' := [some (.inr (.inr 103)), some (.inl x1), some (.inl x2), some (.inl x3)]) (st' := [.inr (.inr 103), .inl x3]) (M' := M) rfl ?_
  refine g_getI rfl hS rfl ?_
  refine c2_ge rfl (fun c => ?_) (fun c => ?_)
  · replace h := h.1 c
    refine wp_sts 1 (pc' := 44) (ls' := [some (.inr (.inr 103)), some (.inl x1), some (.inl x2), some (.inl x3)]) (st' := [.inl x2]) (M' := M) rfl ?_
    exact wp_ret rfl rfl (z := (some (.inl x2), M)) rfl h
  · replace h := h.2 c
    refine wp_sts 3 (pc' := 15) (ls' := [some (.inr (.inr 103)), some (.inl x1), some (.inl x2), some (.inl x3)]) (st' := [.inl x3, .inl x1, .inl x2]) (M' := M) rfl ?_
    obtain ⟨r1, M1, he, hS1, h⟩ := h
    refine g_callI (c := 108) (as := [.inl x1, .inl x3]) (rs := [.inl x2]) rfl rfl hS hd rfl he ?_
    refine c1_eq rfl (fun c => ?_) (fun c => ?_)
    · replace h := h.1 c
      refine wp_sts 1 (pc' := 35) (ls' := [some (.inr (.inr 103)), some (.inl x1), some (.inl x2), some (.inl x3)]) (st' := [.inl 0, .inl x2]) (M' := M1) rfl ?_
      obtain ⟨hf1, h⟩ := h
      refine w_iadd rfl hf1 ?_
      refine wp_sts 1 (pc' := 37) (ls' := [some (.inr (.inr 103)), some (.inl x1), some (.inl (x2 + 0)), some (.inl x3)]) (st' := []) (M' := M1) rfl ?_
      obtain ⟨hf2, h⟩ := h
      refine w_iinc rfl rfl hf2 ?_
      refine wp_sts 1 (pc' := 4) (ls' := [some (.inr (.inr 103)), some (.inl x1), some (.inl (x2 + 0)), some (.inl (x3 + 1))]) (st' := []) (M' := M1) rfl ?_
      exact h
    · replace h := h.2 c
      refine wp_sts 1 (pc' := 22) (ls' := [some (.inr (.inr 103)), some (.inl x1), some (.inl x2), some (.inl x3)]) (st' := [.inr (.inr 103), .inl x2]) (M' := M1) rfl ?_
      refine g_getR (j := 109) rfl hS1 rfl (str_r hS1 103 10 109 rfl) (by decide) ?_
      refine wp_sts 2 (pc' := 27) (ls' := [some (.inr (.inr 103)), some (.inl x1), some (.inl x2), some (.inl x3)]) (st' := [.inl x3, .inl 5, .inr (.inr 109), .inl x2]) (M' := M1) rfl ?_
      obtain ⟨hf1, h⟩ := h
      refine w_imul rfl hf1 ?_
      refine wp_sts 1 (pc' := 29) (ls' := [some (.inr (.inr 103)), some (.inl x1), some (.inl x2), some (.inl x3)]) (st' := [.inl 3, .inl (5 * x3), .inr (.inr 109), .inl x2]) (M' := M1) rfl ?_
      obtain ⟨hf2, h⟩ := h
      refine w_iadd rfl hf2 ?_
      obtain ⟨hf3, h⟩ := h
      refine g_iald (n := 30) rfl hS1 rfl hf3 ?_
      refine wp_sts 1 (pc' := 35) (ls' := [some (.inr (.inr 103)), some (.inl x1), some (.inl x2), some (.inl x3)]) (st' := [.inl (M1 109 ((5 * x3) + 3).toNat), .inl x2]) (M' := M1) rfl ?_
      obtain ⟨hf4, h⟩ := h
      refine w_iadd rfl hf4 ?_
      refine wp_sts 1 (pc' := 37) (ls' := [some (.inr (.inr 103)), some (.inl x1), some (.inl (x2 + (M1 109 ((5 * x3) + 3).toNat))), some (.inl x3)]) (st' := []) (M' := M1) rfl ?_
      obtain ⟨hf5, h⟩ := h
      refine w_iinc rfl rfl hf5 ?_
      refine wp_sts 1 (pc' := 4) (ls' := [some (.inr (.inr 103)), some (.inl x1), some (.inl (x2 + (M1 109 ((5 * x3) + 3).toNat))), some (.inl (x3 + 1))]) (st' := []) (M' := M1) rfl ?_
      exact h
/- Model.told, at 0 -/
theorem b131_0 {d t : Nat}  {x1 : Int} {M : ab_M} {Q : Option ab_V → ab_M → Prop} (hd : 1 ≤ d) (hS : pu_str t M)  (h : (x1 < 0 ∨ 12 < x1 → Q (some (.inl ((-1000000002)))) M) ∧ (x1 = 0 → Q (some (.inl (M 103 3))) M) ∧ (x1 = 1 → Q (some (.inl (M 103 9))) M) ∧ (x1 = 2 → Q (some (.inl (M 103 11))) M) ∧ (x1 = 3 → Q (some (.inl (M 103 14))) M) ∧ (x1 = 4 → Q (some (.inl (M 103 1))) M) ∧ (x1 = 5 → Q (some (.inl (M 112 0))) M) ∧ (x1 = 6 → (M 103 3 ≠ 0 → Q (some (.inl (M 112 1))) M) ∧ (M 103 3 = 0 → Q (some (.inl ((-1)))) M)) ∧ (x1 = 7 → Q (some (.inl (M 112 2))) M) ∧ (x1 = 8 → ∃ r1 M1, ab_ev (d - 1) 129 [.inr (.inr 103), .inl 1] M (some (.inl r1)) M1 ∧ pu_str t M1 ∧ Q (some (.inl r1)) M1) ∧ (x1 = 9 → ∃ r1 M1, ab_ev (d - 1) 129 [.inr (.inr 103), .inl 2] M (some (.inl r1)) M1 ∧ pu_str t M1 ∧ Q (some (.inl r1)) M1) ∧ (x1 = 10 → ∃ r1 M1, ab_ev (d - 1) 129 [.inr (.inr 103), .inl 1] M (some (.inl r1)) M1 ∧ pu_str t M1 ∧ ∃ r2 M2, ab_ev (d - 1) 130 [.inr (.inr 103), .inl r1] M1 (some (.inl r2)) M2 ∧ pu_str t M2 ∧ Q (some (.inl r2)) M2) ∧ (x1 = 11 → Q (some (.inl (M 103 17))) M) ∧ (x1 = 12 → Q (some (.inl (M 103 19))) M)) : ab_wp d 131 0 [some (.inr (.inr 103)), some (.inl x1)] [] M Q := by
  refine wp_sts 1 (pc' := 1) (ls' := [some (.inr (.inr 103)), some (.inl x1)]) (st' := [.inl x1]) (M' := M) rfl ?_
  refine w_sw (tg := [(0, 68), (1, 73), (2, 78), (3, 83), (4, 88), (5, 93), (6, 100), (7, 118), (8, 125), (9, 131), (10, 137), (11, 147), (12, 152)]) rfl rfl (fun c => ?_) ⟨fun c => ?_, fun c => ?_, fun c => ?_, fun c => ?_, fun c => ?_, fun c => ?_, fun c => ?_, fun c => ?_, fun c => ?_, fun c => ?_, fun c => ?_, fun c => ?_, fun c => ?_, trivial⟩
  · replace h := h.1 c
    refine wp_sts 1 (pc' := 159) (ls' := [some (.inr (.inr 103)), some (.inl x1)]) (st' := [.inl ((-1000000002))]) (M' := M) rfl ?_
    exact wp_ret rfl rfl (z := (some (.inl ((-1000000002))), M)) rfl h
  · replace h := h.2.1 c
    refine wp_sts 1 (pc' := 69) (ls' := [some (.inr (.inr 103)), some (.inl x1)]) (st' := [.inr (.inr 103)]) (M' := M) rfl ?_
    refine g_getI rfl hS rfl ?_
    exact wp_ret rfl rfl (z := (some (.inl (M 103 3)), M)) rfl h
  · replace h := h.2.2.1 c
    refine wp_sts 1 (pc' := 74) (ls' := [some (.inr (.inr 103)), some (.inl x1)]) (st' := [.inr (.inr 103)]) (M' := M) rfl ?_
    refine g_getI rfl hS rfl ?_
    exact wp_ret rfl rfl (z := (some (.inl (M 103 9)), M)) rfl h
  · replace h := h.2.2.2.1 c
    refine wp_sts 1 (pc' := 79) (ls' := [some (.inr (.inr 103)), some (.inl x1)]) (st' := [.inr (.inr 103)]) (M' := M) rfl ?_
    refine g_getI rfl hS rfl ?_
    exact wp_ret rfl rfl (z := (some (.inl (M 103 11)), M)) rfl h
  · replace h := h.2.2.2.2.1 c
    refine wp_sts 1 (pc' := 84) (ls' := [some (.inr (.inr 103)), some (.inl x1)]) (st' := [.inr (.inr 103)]) (M' := M) rfl ?_
    refine g_getI rfl hS rfl ?_
    exact wp_ret rfl rfl (z := (some (.inl (M 103 14)), M)) rfl h
  · replace h := h.2.2.2.2.2.1 c
    refine wp_sts 1 (pc' := 89) (ls' := [some (.inr (.inr 103)), some (.inl x1)]) (st' := [.inr (.inr 103)]) (M' := M) rfl ?_
    refine g_getI rfl hS rfl ?_
    exact wp_ret rfl rfl (z := (some (.inl (M 103 1)), M)) rfl h
  · replace h := h.2.2.2.2.2.2.1 c
    refine wp_sts 1 (pc' := 94) (ls' := [some (.inr (.inr 103)), some (.inl x1)]) (st' := [.inr (.inr 103)]) (M' := M) rfl ?_
    refine g_getR (j := 112) rfl hS rfl (str_r hS 103 15 112 rfl) (by decide) ?_
    refine wp_sts 1 (pc' := 98) (ls' := [some (.inr (.inr 103)), some (.inl x1)]) (st' := [.inl 0, .inr (.inr 112)]) (M' := M) rfl ?_
    refine g_iald (n := 10) rfl hS rfl (by decide) ?_
    exact wp_ret rfl rfl (z := (some (.inl (M 112 0)), M)) rfl h
  · replace h := h.2.2.2.2.2.2.2.1 c
    refine wp_sts 1 (pc' := 101) (ls' := [some (.inr (.inr 103)), some (.inl x1)]) (st' := [.inr (.inr 103)]) (M' := M) rfl ?_
    refine g_getI rfl hS rfl ?_
    refine c1_ne rfl (fun c => ?_) (fun c => ?_)
    · replace h := h.1 c
      refine wp_sts 1 (pc' := 112) (ls' := [some (.inr (.inr 103)), some (.inl x1)]) (st' := [.inr (.inr 103)]) (M' := M) rfl ?_
      refine g_getR (j := 112) rfl hS rfl (str_r hS 103 15 112 rfl) (by decide) ?_
      refine wp_sts 1 (pc' := 116) (ls' := [some (.inr (.inr 103)), some (.inl x1)]) (st' := [.inl 1, .inr (.inr 112)]) (M' := M) rfl ?_
      refine g_iald (n := 10) rfl hS rfl (by decide) ?_
      exact wp_ret rfl rfl (z := (some (.inl (M 112 1)), M)) rfl h
    · replace h := h.2 c
      refine wp_sts 2 (pc' := 117) (ls' := [some (.inr (.inr 103)), some (.inl x1)]) (st' := [.inl ((-1))]) (M' := M) rfl ?_
      exact wp_ret rfl rfl (z := (some (.inl ((-1))), M)) rfl h
  · replace h := h.2.2.2.2.2.2.2.2.1 c
    refine wp_sts 1 (pc' := 119) (ls' := [some (.inr (.inr 103)), some (.inl x1)]) (st' := [.inr (.inr 103)]) (M' := M) rfl ?_
    refine g_getR (j := 112) rfl hS rfl (str_r hS 103 15 112 rfl) (by decide) ?_
    refine wp_sts 1 (pc' := 123) (ls' := [some (.inr (.inr 103)), some (.inl x1)]) (st' := [.inl 2, .inr (.inr 112)]) (M' := M) rfl ?_
    refine g_iald (n := 10) rfl hS rfl (by decide) ?_
    exact wp_ret rfl rfl (z := (some (.inl (M 112 2)), M)) rfl h
  · replace h := h.2.2.2.2.2.2.2.2.2.1 c
    refine wp_sts 2 (pc' := 127) (ls' := [some (.inr (.inr 103)), some (.inl x1)]) (st' := [.inl 1, .inr (.inr 103)]) (M' := M) rfl ?_
    obtain ⟨r1, M1, he, hS1, h⟩ := h
    refine g_callI (c := 129) (as := [.inr (.inr 103), .inl 1]) (rs := []) rfl rfl hS hd rfl he ?_
    exact wp_ret rfl rfl (z := (some (.inl r1), M1)) rfl h
  · replace h := h.2.2.2.2.2.2.2.2.2.2.1 c
    refine wp_sts 2 (pc' := 133) (ls' := [some (.inr (.inr 103)), some (.inl x1)]) (st' := [.inl 2, .inr (.inr 103)]) (M' := M) rfl ?_
    obtain ⟨r1, M1, he, hS1, h⟩ := h
    refine g_callI (c := 129) (as := [.inr (.inr 103), .inl 2]) (rs := []) rfl rfl hS hd rfl he ?_
    exact wp_ret rfl rfl (z := (some (.inl r1), M1)) rfl h
  · replace h := h.2.2.2.2.2.2.2.2.2.2.2.1 c
    refine wp_sts 3 (pc' := 140) (ls' := [some (.inr (.inr 103)), some (.inl x1)]) (st' := [.inl 1, .inr (.inr 103), .inr (.inr 103)]) (M' := M) rfl ?_
    obtain ⟨r1, M1, he, hS1, h⟩ := h
    refine g_callI (c := 129) (as := [.inr (.inr 103), .inl 1]) (rs := [.inr (.inr 103)]) rfl rfl hS hd rfl he ?_
    obtain ⟨r2, M2, he, hS2, h⟩ := h
    refine g_callI (c := 130) (as := [.inr (.inr 103), .inl r1]) (rs := []) rfl rfl hS1 hd rfl he ?_
    exact wp_ret rfl rfl (z := (some (.inl r2), M2)) rfl h
  · replace h := h.2.2.2.2.2.2.2.2.2.2.2.2.1 c
    refine wp_sts 1 (pc' := 148) (ls' := [some (.inr (.inr 103)), some (.inl x1)]) (st' := [.inr (.inr 103)]) (M' := M) rfl ?_
    refine g_getI rfl hS rfl ?_
    exact wp_ret rfl rfl (z := (some (.inl (M 103 17)), M)) rfl h
  · replace h := h.2.2.2.2.2.2.2.2.2.2.2.2.2 c
    refine wp_sts 1 (pc' := 153) (ls' := [some (.inr (.inr 103)), some (.inl x1)]) (st' := [.inr (.inr 103)]) (M' := M) rfl ?_
    refine g_getI rfl hS rfl ?_
    exact wp_ret rfl rfl (z := (some (.inl (M 103 19)), M)) rfl h
/- Model.farOf, at 0 -/
theorem b132_0 {d t : Nat}  {x1 : Int} {x2 : Int} {M : ab_M} {Q : Option ab_V → ab_M → Prop} (hd : 1 ≤ d) (hS : pu_str t M)  (h : ab_rg (7 * x1) ∧ ab_rg ((7 * x1) + x2) ∧ (0 ≤ (7 * x1) + x2 ∧ (7 * x1) + x2 < 49) ∧ (M 105 ((7 * x1) + x2).toNat < 1000000 → Q (some (.inl (M 105 ((7 * x1) + x2).toNat))) M) ∧ (1000000 ≤ M 105 ((7 * x1) + x2).toNat → Q (some (.inl ((-1)))) M)) : ab_wp d 132 0 [some (.inr (.inr 103)), some (.inl x1), some (.inl x2), none] [] M Q := by
  refine wp_sts 1 (pc' := 1) (ls' := [some (.inr (.inr 103)), some (.inl x1), some (.inl x2), none]) (st' := [.inr (.inr 103)]) (M' := M) rfl ?_
  refine g_getR (j := 105) rfl hS rfl (str_r hS 103 5 105 rfl) (by decide) ?_
  refine wp_sts 2 (pc' := 7) (ls' := [some (.inr (.inr 103)), some (.inl x1), some (.inl x2), none]) (st' := [.inl x1, .inl 7, .inr (.inr 105)]) (M' := M) rfl ?_
  obtain ⟨hf1, h⟩ := h
  refine w_imul rfl hf1 ?_
  refine wp_sts 1 (pc' := 9) (ls' := [some (.inr (.inr 103)), some (.inl x1), some (.inl x2), none]) (st' := [.inl x2, .inl (7 * x1), .inr (.inr 105)]) (M' := M) rfl ?_
  obtain ⟨hf2, h⟩ := h
  refine w_iadd rfl hf2 ?_
  obtain ⟨hf3, h⟩ := h
  refine g_iald (n := 49) rfl hS rfl hf3 ?_
  refine wp_sts 3 (pc' := 15) (ls' := [some (.inr (.inr 103)), some (.inl x1), some (.inl x2), some (.inl (M 105 ((7 * x1) + x2).toNat))]) (st' := [.inl 1000000, .inl (M 105 ((7 * x1) + x2).toNat)]) (M' := M) rfl ?_
  refine c2_lt rfl (fun c => ?_) (fun c => ?_)
  · replace h := h.1 c
    refine wp_sts 1 (pc' := 23) (ls' := [some (.inr (.inr 103)), some (.inl x1), some (.inl x2), some (.inl (M 105 ((7 * x1) + x2).toNat))]) (st' := [.inl (M 105 ((7 * x1) + x2).toNat)]) (M' := M) rfl ?_
    exact wp_ret rfl rfl (z := (some (.inl (M 105 ((7 * x1) + x2).toNat)), M)) rfl h
  · replace h := h.2 c
    refine wp_sts 2 (pc' := 23) (ls' := [some (.inr (.inr 103)), some (.inl x1), some (.inl x2), some (.inl (M 105 ((7 * x1) + x2).toNat))]) (st' := [.inl ((-1))]) (M' := M) rfl ?_
    exact wp_ret rfl rfl (z := (some (.inl ((-1))), M)) rfl h
/- Model.far, at 0 -/
theorem b133_0 {d t : Nat}  {x1 : Int} {x2 : Int} {M : ab_M} {Q : Option ab_V → ab_M → Prop} (hd : 1 ≤ d) (hS : pu_str t M)  (h : ∃ r1 M1, ab_ev (d - 1) 109 [.inr (.inr 103), .inl x1] M (some (.inl r1)) M1 ∧ pu_str t M1 ∧ (r1 = 0 → Q (some (.inl ((-1000000001)))) M1) ∧ (r1 ≠ 0 → ∃ r2 M2, ab_ev (d - 1) 109 [.inr (.inr 103), .inl x2] M1 (some (.inl r2)) M2 ∧ pu_str t M2 ∧ (r2 = 0 → Q (some (.inl ((-1000000001)))) M2) ∧ (r2 ≠ 0 → ∃ r3 M3, ab_ev (d - 1) 132 [.inr (.inr 103), .inl x1, .inl x2] M2 (some (.inl r3)) M3 ∧ pu_str t M3 ∧ Q (some (.inl r3)) M3))) : ab_wp d 133 0 [some (.inr (.inr 103)), some (.inl x1), some (.inl x2)] [] M Q := by
  refine wp_sts 2 (pc' := 2) (ls' := [some (.inr (.inr 103)), some (.inl x1), some (.inl x2)]) (st' := [.inl x1, .inr (.inr 103)]) (M' := M) rfl ?_
  obtain ⟨r1, M1, he, hS1, h⟩ := h
  refine g_callI (c := 109) (as := [.inr (.inr 103), .inl x1]) (rs := []) rfl rfl hS hd rfl he ?_
  refine c1_eq rfl (fun c => ?_) (fun c => ?_)
  · replace h := h.1 c
    refine wp_sts 1 (pc' := 27) (ls' := [some (.inr (.inr 103)), some (.inl x1), some (.inl x2)]) (st' := [.inl ((-1000000001))]) (M' := M1) rfl ?_
    exact wp_ret rfl rfl (z := (some (.inl ((-1000000001))), M1)) rfl h
  · replace h := h.2 c
    refine wp_sts 2 (pc' := 10) (ls' := [some (.inr (.inr 103)), some (.inl x1), some (.inl x2)]) (st' := [.inl x2, .inr (.inr 103)]) (M' := M1) rfl ?_
    obtain ⟨r2, M2, he, hS2, h⟩ := h
    refine g_callI (c := 109) (as := [.inr (.inr 103), .inl x2]) (rs := []) rfl rfl hS1 hd rfl he ?_
    refine c1_eq rfl (fun c => ?_) (fun c => ?_)
    · replace h := h.1 c
      refine wp_sts 1 (pc' := 27) (ls' := [some (.inr (.inr 103)), some (.inl x1), some (.inl x2)]) (st' := [.inl ((-1000000001))]) (M' := M2) rfl ?_
      exact wp_ret rfl rfl (z := (some (.inl ((-1000000001))), M2)) rfl h
    · replace h := h.2 c
      refine wp_sts 3 (pc' := 19) (ls' := [some (.inr (.inr 103)), some (.inl x1), some (.inl x2)]) (st' := [.inl x2, .inl x1, .inr (.inr 103)]) (M' := M2) rfl ?_
      obtain ⟨r3, M3, he, hS3, h⟩ := h
      refine g_callI (c := 132) (as := [.inr (.inr 103), .inl x1, .inl x2]) (rs := []) rfl rfl hS2 hd rfl he ?_
      refine wp_sts 1 (pc' := 27) (ls' := [some (.inr (.inr 103)), some (.inl x1), some (.inl x2)]) (st' := [.inl r3]) (M' := M3) rfl ?_
      exact wp_ret rfl rfl (z := (some (.inl r3), M3)) rfl h
/- Model.person, at 0 -/
theorem b134_0 {d t : Nat}  {x1 : Int} {x2 : Int} {M : ab_M} {Q : Option ab_V → ab_M → Prop} (hd : 1 ≤ d) (hS : pu_str t M)  (h : ∃ r1 M1, ab_ev (d - 1) 110 [.inr (.inr 103), .inl x1] M (some (.inl r1)) M1 ∧ pu_str t M1 ∧ (r1 ≠ 0 → (x2 ≠ 0 → (x2 ≠ 1 → Q (some (.inl ((-1000000002)))) M1) ∧ (x2 = 1 → (0 ≤ x1 ∧ x1 < 6) ∧ Q (some (.inl (M1 108 x1.toNat))) M1)) ∧ (x2 = 0 → (0 ≤ x1 ∧ x1 < 6) ∧ Q (some (.inl (M1 107 x1.toNat))) M1)) ∧ (r1 = 0 → Q (some (.inl ((-1000000001)))) M1)) : ab_wp d 134 0 [some (.inr (.inr 103)), some (.inl x1), some (.inl x2)] [] M Q := by
  refine wp_sts 2 (pc' := 2) (ls' := [some (.inr (.inr 103)), some (.inl x1), some (.inl x2)]) (st' := [.inl x1, .inr (.inr 103)]) (M' := M) rfl ?_
  obtain ⟨r1, M1, he, hS1, h⟩ := h
  refine g_callI (c := 110) (as := [.inr (.inr 103), .inl x1]) (rs := []) rfl rfl hS hd rfl he ?_
  refine c1_ne rfl (fun c => ?_) (fun c => ?_)
  · replace h := h.1 c
    refine wp_sts 1 (pc' := 12) (ls' := [some (.inr (.inr 103)), some (.inl x1), some (.inl x2)]) (st' := [.inl x2]) (M' := M1) rfl ?_
    refine c1_ne rfl (fun c => ?_) (fun c => ?_)
    · replace h := h.1 c
      refine wp_sts 2 (pc' := 26) (ls' := [some (.inr (.inr 103)), some (.inl x1), some (.inl x2)]) (st' := [.inl 1, .inl x2]) (M' := M1) rfl ?_
      refine c2_ne rfl (fun c => ?_) (fun c => ?_)
      · replace h := h.1 c
        refine wp_sts 1 (pc' := 40) (ls' := [some (.inr (.inr 103)), some (.inl x1), some (.inl x2)]) (st' := [.inl ((-1000000002))]) (M' := M1) rfl ?_
        exact wp_ret rfl rfl (z := (some (.inl ((-1000000002))), M1)) rfl h
      · replace h := h.2 c
        refine wp_sts 1 (pc' := 30) (ls' := [some (.inr (.inr 103)), some (.inl x1), some (.inl x2)]) (st' := [.inr (.inr 103)]) (M' := M1) rfl ?_
        refine g_getR (j := 108) rfl hS1 rfl (str_r hS1 103 8 108 rfl) (by decide) ?_
        refine wp_sts 1 (pc' := 34) (ls' := [some (.inr (.inr 103)), some (.inl x1), some (.inl x2)]) (st' := [.inl x1, .inr (.inr 108)]) (M' := M1) rfl ?_
        obtain ⟨hf1, h⟩ := h
        refine g_iald (n := 6) rfl hS1 rfl hf1 ?_
        refine wp_sts 1 (pc' := 40) (ls' := [some (.inr (.inr 103)), some (.inl x1), some (.inl x2)]) (st' := [.inl (M1 108 x1.toNat)]) (M' := M1) rfl ?_
        exact wp_ret rfl rfl (z := (some (.inl (M1 108 x1.toNat)), M1)) rfl h
    · replace h := h.2 c
      refine wp_sts 1 (pc' := 16) (ls' := [some (.inr (.inr 103)), some (.inl x1), some (.inl x2)]) (st' := [.inr (.inr 103)]) (M' := M1) rfl ?_
      refine g_getR (j := 107) rfl hS1 rfl (str_r hS1 103 7 107 rfl) (by decide) ?_
      refine wp_sts 1 (pc' := 20) (ls' := [some (.inr (.inr 103)), some (.inl x1), some (.inl x2)]) (st' := [.inl x1, .inr (.inr 107)]) (M' := M1) rfl ?_
      obtain ⟨hf1, h⟩ := h
      refine g_iald (n := 6) rfl hS1 rfl hf1 ?_
      refine wp_sts 1 (pc' := 40) (ls' := [some (.inr (.inr 103)), some (.inl x1), some (.inl x2)]) (st' := [.inl (M1 107 x1.toNat)]) (M' := M1) rfl ?_
      exact wp_ret rfl rfl (z := (some (.inl (M1 107 x1.toNat)), M1)) rfl h
  · replace h := h.2 c
    refine wp_sts 1 (pc' := 10) (ls' := [some (.inr (.inr 103)), some (.inl x1), some (.inl x2)]) (st' := [.inl ((-1000000001))]) (M' := M1) rfl ?_
    exact wp_ret rfl rfl (z := (some (.inl ((-1000000001))), M1)) rfl h
/- Model.deed, at 0 -/
theorem b135_0 {d t : Nat}  {x1 : Int} {x2 : Int} {M : ab_M} {Q : Option ab_V → ab_M → Prop} (hd : 1 ≤ d) (hS : pu_str t M)  (h : ∃ r1 M1, ab_ev (d - 1) 111 [.inr (.inr 103), .inl x1] M (some (.inl r1)) M1 ∧ pu_str t M1 ∧ (r1 ≠ 0 → ∃ r2 M2, ab_ev (d - 1) 107 [.inr (.inl x2), .inr (.inl 0), .inr (.inl 6)] M1 (some (.inl r2)) M2 ∧ pu_str t M2 ∧ (r2 ≠ 0 → (5 ≤ x2 → (x2 ≠ 5 → ab_rg (4 + x1) ∧ (0 ≤ 4 + x1 ∧ 4 + x1 < 10) ∧ Q (some (.inl (M2 112 (4 + x1).toNat))) M2) ∧ (x2 = 5 → ∃ r3 M3, ab_ev (d - 1) 128 [.inr (.inr 103), .inl x1] M2 (some (.inl r3)) M3 ∧ pu_str t M3 ∧ Q (some (.inl r3)) M3)) ∧ (x2 < 5 → ab_rg (5 * x1) ∧ ab_rg ((5 * x1) + x2) ∧ (0 ≤ (5 * x1) + x2 ∧ (5 * x1) + x2 < 30) ∧ Q (some (.inl (M2 109 ((5 * x1) + x2).toNat))) M2)) ∧ (r2 = 0 → Q (some (.inl ((-1000000002)))) M2)) ∧ (r1 = 0 → Q (some (.inl ((-1000000001)))) M1)) : ab_wp d 135 0 [some (.inr (.inr 103)), some (.inl x1), some (.inl x2)] [] M Q := by
  refine wp_sts 2 (pc' := 2) (ls' := [some (.inr (.inr 103)), some (.inl x1), some (.inl x2)]) (st' := [.inl x1, .inr (.inr 103)]) (M' := M) rfl ?_
  obtain ⟨r1, M1, he, hS1, h⟩ := h
  refine g_callI (c := 111) (as := [.inr (.inr 103), .inl x1]) (rs := []) rfl rfl hS hd rfl he ?_
  refine c1_ne rfl (fun c => ?_) (fun c => ?_)
  · replace h := h.1 c
    refine wp_sts 4 (pc' := 17) (ls' := [some (.inr (.inr 103)), some (.inl x1), some (.inl x2)]) (st' := [.inr (.inl 6), .inr (.inl 0), .inr (.inl x2)]) (M' := M1) rfl ?_
    obtain ⟨r2, M2, he, hS2, h⟩ := h
    refine g_callI (c := 107) (as := [.inr (.inl x2), .inr (.inl 0), .inr (.inl 6)]) (rs := []) rfl rfl hS1 hd rfl he ?_
    refine c1_ne rfl (fun c => ?_) (fun c => ?_)
    · replace h := h.1 c
      refine wp_sts 2 (pc' := 28) (ls' := [some (.inr (.inr 103)), some (.inl x1), some (.inl x2)]) (st' := [.inl 5, .inl x2]) (M' := M2) rfl ?_
      refine c2_ge rfl (fun c => ?_) (fun c => ?_)
      · replace h := h.1 c
        refine wp_sts 2 (pc' := 46) (ls' := [some (.inr (.inr 103)), some (.inl x1), some (.inl x2)]) (st' := [.inl 5, .inl x2]) (M' := M2) rfl ?_
        refine c2_ne rfl (fun c => ?_) (fun c => ?_)
        · replace h := h.1 c
          refine wp_sts 1 (pc' := 58) (ls' := [some (.inr (.inr 103)), some (.inl x1), some (.inl x2)]) (st' := [.inr (.inr 103)]) (M' := M2) rfl ?_
          refine g_getR (j := 112) rfl hS2 rfl (str_r hS2 103 15 112 rfl) (by decide) ?_
          refine wp_sts 2 (pc' := 63) (ls' := [some (.inr (.inr 103)), some (.inl x1), some (.inl x2)]) (st' := [.inl x1, .inl 4, .inr (.inr 112)]) (M' := M2) rfl ?_
          obtain ⟨hf1, h⟩ := h
          refine w_iadd rfl hf1 ?_
          obtain ⟨hf2, h⟩ := h
          refine g_iald (n := 10) rfl hS2 rfl hf2 ?_
          exact wp_ret rfl rfl (z := (some (.inl (M2 112 (4 + x1).toNat)), M2)) rfl h
        · replace h := h.2 c
          refine wp_sts 2 (pc' := 51) (ls' := [some (.inr (.inr 103)), some (.inl x1), some (.inl x2)]) (st' := [.inl x1, .inr (.inr 103)]) (M' := M2) rfl ?_
          obtain ⟨r3, M3, he, hS3, h⟩ := h
          refine g_callI (c := 128) (as := [.inr (.inr 103), .inl x1]) (rs := []) rfl rfl hS2 hd rfl he ?_
          refine wp_sts 1 (pc' := 65) (ls' := [some (.inr (.inr 103)), some (.inl x1), some (.inl x2)]) (st' := [.inl r3]) (M' := M3) rfl ?_
          exact wp_ret rfl rfl (z := (some (.inl r3), M3)) rfl h
      · replace h := h.2 c
        refine wp_sts 1 (pc' := 32) (ls' := [some (.inr (.inr 103)), some (.inl x1), some (.inl x2)]) (st' := [.inr (.inr 103)]) (M' := M2) rfl ?_
        refine g_getR (j := 109) rfl hS2 rfl (str_r hS2 103 10 109 rfl) (by decide) ?_
        refine wp_sts 2 (pc' := 37) (ls' := [some (.inr (.inr 103)), some (.inl x1), some (.inl x2)]) (st' := [.inl x1, .inl 5, .inr (.inr 109)]) (M' := M2) rfl ?_
        obtain ⟨hf1, h⟩ := h
        refine w_imul rfl hf1 ?_
        refine wp_sts 1 (pc' := 39) (ls' := [some (.inr (.inr 103)), some (.inl x1), some (.inl x2)]) (st' := [.inl x2, .inl (5 * x1), .inr (.inr 109)]) (M' := M2) rfl ?_
        obtain ⟨hf2, h⟩ := h
        refine w_iadd rfl hf2 ?_
        obtain ⟨hf3, h⟩ := h
        refine g_iald (n := 30) rfl hS2 rfl hf3 ?_
        refine wp_sts 1 (pc' := 65) (ls' := [some (.inr (.inr 103)), some (.inl x1), some (.inl x2)]) (st' := [.inl (M2 109 ((5 * x1) + x2).toNat)]) (M' := M2) rfl ?_
        exact wp_ret rfl rfl (z := (some (.inl (M2 109 ((5 * x1) + x2).toNat)), M2)) rfl h
    · replace h := h.2 c
      refine wp_sts 1 (pc' := 25) (ls' := [some (.inr (.inr 103)), some (.inl x1), some (.inl x2)]) (st' := [.inl ((-1000000002))]) (M' := M2) rfl ?_
      exact wp_ret rfl rfl (z := (some (.inl ((-1000000002))), M2)) rfl h
  · replace h := h.2 c
    refine wp_sts 1 (pc' := 10) (ls' := [some (.inr (.inr 103)), some (.inl x1), some (.inl x2)]) (st' := [.inl ((-1000000001))]) (M' := M1) rfl ?_
    exact wp_ret rfl rfl (z := (some (.inl ((-1000000001))), M1)) rfl h
/- Model.areTwo, at 0 -/
theorem b136_0 {d t : Nat}  {x1 : Int} {x2 : Int} {M : ab_M} {Q : Option ab_V → ab_M → Prop} (hd : 1 ≤ d) (hS : pu_str t M)  (h : ∃ r1 M1, ab_ev (d - 1) 110 [.inr (.inr 103), .inl x1] M (some (.inl r1)) M1 ∧ pu_str t M1 ∧ (r1 = 0 → Q (some (.inl 0)) M1) ∧ (r1 ≠ 0 → ∃ r2 M2, ab_ev (d - 1) 110 [.inr (.inr 103), .inl x2] M1 (some (.inl r2)) M2 ∧ pu_str t M2 ∧ (r2 = 0 → Q (some (.inl 0)) M2) ∧ (r2 ≠ 0 → (x1 = x2 → Q (some (.inl 0)) M2) ∧ (x1 ≠ x2 → Q (some (.inl 1)) M2)))) : ab_wp d 136 0 [some (.inr (.inr 103)), some (.inl x1), some (.inl x2)] [] M Q := by
  refine wp_sts 2 (pc' := 2) (ls' := [some (.inr (.inr 103)), some (.inl x1), some (.inl x2)]) (st' := [.inl x1, .inr (.inr 103)]) (M' := M) rfl ?_
  obtain ⟨r1, M1, he, hS1, h⟩ := h
  refine g_callI (c := 110) (as := [.inr (.inr 103), .inl x1]) (rs := []) rfl rfl hS hd rfl he ?_
  refine c1_eq rfl (fun c => ?_) (fun c => ?_)
  · replace h := h.1 c
    refine wp_sts 1 (pc' := 26) (ls' := [some (.inr (.inr 103)), some (.inl x1), some (.inl x2)]) (st' := [.inl 0]) (M' := M1) rfl ?_
    exact g_retB rfl (by decide) h
  · replace h := h.2 c
    refine wp_sts 2 (pc' := 10) (ls' := [some (.inr (.inr 103)), some (.inl x1), some (.inl x2)]) (st' := [.inl x2, .inr (.inr 103)]) (M' := M1) rfl ?_
    obtain ⟨r2, M2, he, hS2, h⟩ := h
    refine g_callI (c := 110) (as := [.inr (.inr 103), .inl x2]) (rs := []) rfl rfl hS1 hd rfl he ?_
    refine c1_eq rfl (fun c => ?_) (fun c => ?_)
    · replace h := h.1 c
      refine wp_sts 1 (pc' := 26) (ls' := [some (.inr (.inr 103)), some (.inl x1), some (.inl x2)]) (st' := [.inl 0]) (M' := M2) rfl ?_
      exact g_retB rfl (by decide) h
    · replace h := h.2 c
      refine wp_sts 2 (pc' := 18) (ls' := [some (.inr (.inr 103)), some (.inl x1), some (.inl x2)]) (st' := [.inl x2, .inl x1]) (M' := M2) rfl ?_
      refine c2_eq rfl (fun c => ?_) (fun c => ?_)
      · replace h := h.1 c
        refine wp_sts 1 (pc' := 26) (ls' := [some (.inr (.inr 103)), some (.inl x1), some (.inl x2)]) (st' := [.inl 0]) (M' := M2) rfl ?_
        exact g_retB rfl (by decide) h
      · replace h := h.2 c
        refine wp_sts 2 (pc' := 26) (ls' := [some (.inr (.inr 103)), some (.inl x1), some (.inl x2)]) (st' := [.inl 1]) (M' := M2) rfl ?_
        exact g_retB rfl (by decide) h
/- Model.trust, at 0 -/
theorem b137_0 {d t : Nat}  {x1 : Int} {x2 : Int} {M : ab_M} {Q : Option ab_V → ab_M → Prop} (hd : 1 ≤ d) (hS : pu_str t M)  (h : ∃ r1 M1, ab_ev (d - 1) 136 [.inr (.inr 103), .inl x1, .inl x2] M (some (.inl r1)) M1 ∧ pu_str t M1 ∧ (r1 = 0 → Q (some (.inl ((-1000000001)))) M1) ∧ (r1 ≠ 0 → ab_rg (6 * x1) ∧ ab_rg ((6 * x1) + x2) ∧ (0 ≤ (6 * x1) + x2 ∧ (6 * x1) + x2 < 36) ∧ Q (some (.inl (M1 110 ((6 * x1) + x2).toNat))) M1)) : ab_wp d 137 0 [some (.inr (.inr 103)), some (.inl x1), some (.inl x2)] [] M Q := by
  refine wp_sts 3 (pc' := 3) (ls' := [some (.inr (.inr 103)), some (.inl x1), some (.inl x2)]) (st' := [.inl x2, .inl x1, .inr (.inr 103)]) (M' := M) rfl ?_
  obtain ⟨r1, M1, he, hS1, h⟩ := h
  refine g_callI (c := 136) (as := [.inr (.inr 103), .inl x1, .inl x2]) (rs := []) rfl rfl hS hd rfl he ?_
  refine c1_eq rfl (fun c => ?_) (fun c => ?_)
  · replace h := h.1 c
    refine wp_sts 1 (pc' := 25) (ls' := [some (.inr (.inr 103)), some (.inl x1), some (.inl x2)]) (st' := [.inl ((-1000000001))]) (M' := M1) rfl ?_
    exact wp_ret rfl rfl (z := (some (.inl ((-1000000001))), M1)) rfl h
  · replace h := h.2 c
    refine wp_sts 1 (pc' := 10) (ls' := [some (.inr (.inr 103)), some (.inl x1), some (.inl x2)]) (st' := [.inr (.inr 103)]) (M' := M1) rfl ?_
    refine g_getR (j := 110) rfl hS1 rfl (str_r hS1 103 12 110 rfl) (by decide) ?_
    refine wp_sts 2 (pc' := 16) (ls' := [some (.inr (.inr 103)), some (.inl x1), some (.inl x2)]) (st' := [.inl x1, .inl 6, .inr (.inr 110)]) (M' := M1) rfl ?_
    obtain ⟨hf1, h⟩ := h
    refine w_imul rfl hf1 ?_
    refine wp_sts 1 (pc' := 18) (ls' := [some (.inr (.inr 103)), some (.inl x1), some (.inl x2)]) (st' := [.inl x2, .inl (6 * x1), .inr (.inr 110)]) (M' := M1) rfl ?_
    obtain ⟨hf2, h⟩ := h
    refine w_iadd rfl hf2 ?_
    obtain ⟨hf3, h⟩ := h
    refine g_iald (n := 36) rfl hS1 rfl hf3 ?_
    refine wp_sts 1 (pc' := 25) (ls' := [some (.inr (.inr 103)), some (.inl x1), some (.inl x2)]) (st' := [.inl (M1 110 ((6 * x1) + x2).toNat)]) (M' := M1) rfl ?_
    exact wp_ret rfl rfl (z := (some (.inl (M1 110 ((6 * x1) + x2).toNat)), M1)) rfl h
/- Model.lets, at 0 -/
theorem b138_0 {d t : Nat}  {x1 : Int} {M : ab_M} {Q : Option ab_V → ab_M → Prop} (hd : 1 ≤ d) (hS : pu_str t M)  (h : ab_rg ((M 103 14) - 1) ∧ ∃ r1 M1, ab_ev (d - 1) 107 [.inr (.inl x1), .inr (.inl 0), .inr (.inl ((M 103 14) - 1))] M (some (.inl r1)) M1 ∧ pu_str t M1 ∧ (r1 = 0 → Q (some (.inl ((-1000000001)))) M1) ∧ (r1 ≠ 0 → (0 ≤ x1 ∧ x1 < 4) ∧ Q (some (.inl (M1 111 x1.toNat))) M1)) : ab_wp d 138 0 [some (.inr (.inr 103)), some (.inl x1)] [] M Q := by
  refine wp_sts 4 (pc' := 4) (ls' := [some (.inr (.inr 103)), some (.inl x1)]) (st' := [.inr (.inr 103), .inr (.inl 0), .inr (.inl x1)]) (M' := M) rfl ?_
  refine g_getI rfl hS rfl ?_
  refine wp_sts 1 (pc' := 8) (ls' := [some (.inr (.inr 103)), some (.inl x1)]) (st' := [.inl 1, .inl (M 103 14), .inr (.inl 0), .inr (.inl x1)]) (M' := M) rfl ?_
  obtain ⟨hf1, h⟩ := h
  refine w_isub rfl hf1 ?_
  refine wp_sts 1 (pc' := 10) (ls' := [some (.inr (.inr 103)), some (.inl x1)]) (st' := [.inr (.inl ((M 103 14) - 1)), .inr (.inl 0), .inr (.inl x1)]) (M' := M) rfl ?_
  obtain ⟨r1, M1, he, hS1, h⟩ := h
  refine g_callI (c := 107) (as := [.inr (.inl x1), .inr (.inl 0), .inr (.inl ((M 103 14) - 1))]) (rs := []) rfl rfl hS hd rfl he ?_
  refine c1_eq rfl (fun c => ?_) (fun c => ?_)
  · replace h := h.1 c
    refine wp_sts 1 (pc' := 27) (ls' := [some (.inr (.inr 103)), some (.inl x1)]) (st' := [.inl ((-1000000001))]) (M' := M1) rfl ?_
    exact wp_ret rfl rfl (z := (some (.inl ((-1000000001))), M1)) rfl h
  · replace h := h.2 c
    refine wp_sts 1 (pc' := 17) (ls' := [some (.inr (.inr 103)), some (.inl x1)]) (st' := [.inr (.inr 103)]) (M' := M1) rfl ?_
    refine g_getR (j := 111) rfl hS1 rfl (str_r hS1 103 13 111 rfl) (by decide) ?_
    refine wp_sts 1 (pc' := 21) (ls' := [some (.inr (.inr 103)), some (.inl x1)]) (st' := [.inl x1, .inr (.inr 111)]) (M' := M1) rfl ?_
    obtain ⟨hf2, h⟩ := h
    refine g_iald (n := 4) rfl hS1 rfl hf2 ?_
    refine wp_sts 1 (pc' := 27) (ls' := [some (.inr (.inr 103)), some (.inl x1)]) (st' := [.inl (M1 111 x1.toNat)]) (M' := M1) rfl ?_
    exact wp_ret rfl rfl (z := (some (.inl (M1 111 x1.toNat)), M1)) rfl h
/- Model.placeOf, at 0 -/
theorem b139_0 {d t : Nat}  {x1 : Int} {M : ab_M} {Q : Option ab_V → ab_M → Prop} (hd : 1 ≤ d) (hS : pu_str t M)  (h : ab_rg (5 * x1) ∧ (0 ≤ 5 * x1 ∧ 5 * x1 < 30) ∧ (0 ≤ M 109 (5 * x1).toNat ∧ M 109 (5 * x1).toNat < 6) ∧ Q (some (.inl (M 107 (M 109 (5 * x1).toNat).toNat))) M) : ab_wp d 139 0 [some (.inr (.inr 103)), some (.inl x1)] [] M Q := by
  refine wp_sts 1 (pc' := 1) (ls' := [some (.inr (.inr 103)), some (.inl x1)]) (st' := [.inr (.inr 103)]) (M' := M) rfl ?_
  refine g_getR (j := 107) rfl hS rfl (str_r hS 103 7 107 rfl) (by decide) ?_
  refine wp_sts 1 (pc' := 5) (ls' := [some (.inr (.inr 103)), some (.inl x1)]) (st' := [.inr (.inr 103), .inr (.inr 107)]) (M' := M) rfl ?_
  refine g_getR (j := 109) rfl hS rfl (str_r hS 103 10 109 rfl) (by decide) ?_
  refine wp_sts 2 (pc' := 10) (ls' := [some (.inr (.inr 103)), some (.inl x1)]) (st' := [.inl x1, .inl 5, .inr (.inr 109), .inr (.inr 107)]) (M' := M) rfl ?_
  obtain ⟨hf1, h⟩ := h
  refine w_imul rfl hf1 ?_
  obtain ⟨hf2, h⟩ := h
  refine g_iald (n := 30) rfl hS rfl hf2 ?_
  obtain ⟨hf3, h⟩ := h
  refine g_iald (n := 6) rfl hS rfl hf3 ?_
  exact wp_ret rfl rfl (z := (some (.inl (M 107 (M 109 (5 * x1).toNat).toNat)), M)) rfl h
/- Model.lend, at 0 -/
theorem b140_0 {d t : Nat}  {x1 : Int} {M : ab_M} {Q : Option ab_V → ab_M → Prop} (hd : 1 ≤ d) (hS : pu_str t M)  (h : ∃ r1 M1, ab_ev (d - 1) 110 [.inr (.inr 103), .inl x1] M (some (.inl r1)) M1 ∧ pu_str t M1 ∧ (r1 ≠ 0 → (0 ≤ x1 ∧ x1 < 6) ∧ ∃ r2 M2, ab_ev (d - 1) 132 [.inr (.inr 103), .inl (M1 112 1), .inl (M1 107 x1.toNat)] M1 (some (.inl r2)) M2 ∧ pu_str t M2 ∧ (0 ≤ r2 → (M2 112 0 ≤ 90000 → ∃ M3, ab_ev (d - 1) 141 [.inr (.inr 103), .inl x1, .inl r2] M2 none M3 ∧ pu_str t M3 ∧ Q (some (.inl (M3 112 0))) M3) ∧ (90000 < M2 112 0 → Q (some (.inl ((-1000000004)))) M2)) ∧ (r2 < 0 → Q (some (.inl ((-1000000003)))) M2)) ∧ (r1 = 0 → Q (some (.inl ((-1000000001)))) M1)) : ab_wp d 140 0 [some (.inr (.inr 103)), some (.inl x1), none] [] M Q := by
  refine wp_sts 2 (pc' := 2) (ls' := [some (.inr (.inr 103)), some (.inl x1), none]) (st' := [.inl x1, .inr (.inr 103)]) (M' := M) rfl ?_
  obtain ⟨r1, M1, he, hS1, h⟩ := h
  refine g_callI (c := 110) (as := [.inr (.inr 103), .inl x1]) (rs := []) rfl rfl hS hd rfl he ?_
  refine c1_ne rfl (fun c => ?_) (fun c => ?_)
  · replace h := h.1 c
    refine wp_sts 2 (pc' := 13) (ls' := [some (.inr (.inr 103)), some (.inl x1), none]) (st' := [.inr (.inr 103), .inr (.inr 103)]) (M' := M1) rfl ?_
    refine g_getR (j := 112) rfl hS1 rfl (str_r hS1 103 15 112 rfl) (by decide) ?_
    refine wp_sts 1 (pc' := 17) (ls' := [some (.inr (.inr 103)), some (.inl x1), none]) (st' := [.inl 1, .inr (.inr 112), .inr (.inr 103)]) (M' := M1) rfl ?_
    refine g_iald (n := 10) rfl hS1 rfl (by decide) ?_
    refine wp_sts 1 (pc' := 19) (ls' := [some (.inr (.inr 103)), some (.inl x1), none]) (st' := [.inr (.inr 103), .inl (M1 112 1), .inr (.inr 103)]) (M' := M1) rfl ?_
    refine g_getR (j := 107) rfl hS1 rfl (str_r hS1 103 7 107 rfl) (by decide) ?_
    refine wp_sts 1 (pc' := 23) (ls' := [some (.inr (.inr 103)), some (.inl x1), none]) (st' := [.inl x1, .inr (.inr 107), .inl (M1 112 1), .inr (.inr 103)]) (M' := M1) rfl ?_
    obtain ⟨hf1, h⟩ := h
    refine g_iald (n := 6) rfl hS1 rfl hf1 ?_
    obtain ⟨r2, M2, he, hS2, h⟩ := h
    refine g_callI (c := 132) (as := [.inr (.inr 103), .inl (M1 112 1), .inl (M1 107 x1.toNat)]) (rs := []) rfl rfl hS1 hd rfl he ?_
    refine wp_sts 2 (pc' := 29) (ls' := [some (.inr (.inr 103)), some (.inl x1), some (.inl r2)]) (st' := [.inl r2]) (M' := M2) rfl ?_
    refine c1_ge rfl (fun c => ?_) (fun c => ?_)
    · replace h := h.1 c
      refine wp_sts 1 (pc' := 36) (ls' := [some (.inr (.inr 103)), some (.inl x1), some (.inl r2)]) (st' := [.inr (.inr 103)]) (M' := M2) rfl ?_
      refine g_getR (j := 112) rfl hS2 rfl (str_r hS2 103 15 112 rfl) (by decide) ?_
      refine wp_sts 1 (pc' := 40) (ls' := [some (.inr (.inr 103)), some (.inl x1), some (.inl r2)]) (st' := [.inl 0, .inr (.inr 112)]) (M' := M2) rfl ?_
      refine g_iald (n := 10) rfl hS2 rfl (by decide) ?_
      refine wp_sts 1 (pc' := 43) (ls' := [some (.inr (.inr 103)), some (.inl x1), some (.inl r2)]) (st' := [.inl 90000, .inl (M2 112 0)]) (M' := M2) rfl ?_
      refine c2_le rfl (fun c => ?_) (fun c => ?_)
      · replace h := h.1 c
        refine wp_sts 3 (pc' := 52) (ls' := [some (.inr (.inr 103)), some (.inl x1), some (.inl r2)]) (st' := [.inl r2, .inl x1, .inr (.inr 103)]) (M' := M2) rfl ?_
        obtain ⟨M3, he, hS3, h⟩ := h
        refine g_callV (c := 141) (as := [.inr (.inr 103), .inl x1, .inl r2]) (rs := []) rfl rfl hS2 hd rfl he ?_
        refine wp_sts 1 (pc' := 56) (ls' := [some (.inr (.inr 103)), some (.inl x1), some (.inl r2)]) (st' := [.inr (.inr 103)]) (M' := M3) rfl ?_
        refine g_getR (j := 112) rfl hS3 rfl (str_r hS3 103 15 112 rfl) (by decide) ?_
        refine wp_sts 1 (pc' := 60) (ls' := [some (.inr (.inr 103)), some (.inl x1), some (.inl r2)]) (st' := [.inl 0, .inr (.inr 112)]) (M' := M3) rfl ?_
        refine g_iald (n := 10) rfl hS3 rfl (by decide) ?_
        exact wp_ret rfl rfl (z := (some (.inl (M3 112 0)), M3)) rfl h
      · replace h := h.2 c
        refine wp_sts 1 (pc' := 48) (ls' := [some (.inr (.inr 103)), some (.inl x1), some (.inl r2)]) (st' := [.inl ((-1000000004))]) (M' := M2) rfl ?_
        exact wp_ret rfl rfl (z := (some (.inl ((-1000000004))), M2)) rfl h
    · replace h := h.2 c
      refine wp_sts 1 (pc' := 34) (ls' := [some (.inr (.inr 103)), some (.inl x1), some (.inl r2)]) (st' := [.inl ((-1000000003))]) (M' := M2) rfl ?_
      exact wp_ret rfl rfl (z := (some (.inl ((-1000000003))), M2)) rfl h
  · replace h := h.2 c
    refine wp_sts 1 (pc' := 10) (ls' := [some (.inr (.inr 103)), some (.inl x1), none]) (st' := [.inl ((-1000000001))]) (M' := M1) rfl ?_
    exact wp_ret rfl rfl (z := (some (.inl ((-1000000001))), M1)) rfl h
/- Model.walkTo, at 0 -/
theorem b141_0 {d t : Nat}  {x1 : Int} {x2 : Int} {M : ab_M} {Q : Option ab_V → ab_M → Prop} (hd : 1 ≤ d) (hS : pu_str t M)  (h : ab_rg ((M 112 0) + x2) ∧ (0 ≤ x1 ∧ x1 < 6) ∧ Q none (ab_w (ab_w (ab_w M 112 0 ((M 112 0) + x2)) 112 1 (M 107 x1.toNat)) 112 2 x1)) : ab_wp d 141 0 [some (.inr (.inr 103)), some (.inl x1), some (.inl x2)] [] M Q := by
  refine wp_sts 1 (pc' := 1) (ls' := [some (.inr (.inr 103)), some (.inl x1), some (.inl x2)]) (st' := [.inr (.inr 103)]) (M' := M) rfl ?_
  refine g_getR (j := 112) rfl hS rfl (str_r hS 103 15 112 rfl) (by decide) ?_
  refine wp_sts 2 (pc' := 6) (ls' := [some (.inr (.inr 103)), some (.inl x1), some (.inl x2)]) (st' := [.inl 0, .inr (.inr 112), .inl 0, .inr (.inr 112)]) (M' := M) rfl ?_
  refine g_iald (n := 10) rfl hS rfl (by decide) ?_
  refine wp_sts 1 (pc' := 8) (ls' := [some (.inr (.inr 103)), some (.inl x1), some (.inl x2)]) (st' := [.inl x2, .inl (M 112 0), .inl 0, .inr (.inr 112)]) (M' := M) rfl ?_
  obtain ⟨hf1, h⟩ := h
  refine w_iadd rfl hf1 ?_
  refine g_iast (n := 10) rfl hS rfl (by decide) ?_
  refine wp_sts 1 (pc' := 11) (ls' := [some (.inr (.inr 103)), some (.inl x1), some (.inl x2)]) (st' := [.inr (.inr 103)]) (M' := (ab_w M 112 0 ((M 112 0) + x2))) rfl ?_
  refine g_getR (j := 112) rfl (str_a (k := 112) (f := 0) (v := (M 112 0) + x2) hS rfl) rfl (str_r (str_a (k := 112) (f := 0) (v := (M 112 0) + x2) hS rfl) 103 15 112 rfl) (by decide) ?_
  refine wp_sts 2 (pc' := 16) (ls' := [some (.inr (.inr 103)), some (.inl x1), some (.inl x2)]) (st' := [.inr (.inr 103), .inl 1, .inr (.inr 112)]) (M' := (ab_w M 112 0 ((M 112 0) + x2))) rfl ?_
  refine g_getR (j := 107) rfl (str_a (k := 112) (f := 0) (v := (M 112 0) + x2) hS rfl) rfl (str_r (str_a (k := 112) (f := 0) (v := (M 112 0) + x2) hS rfl) 103 7 107 rfl) (by decide) ?_
  refine wp_sts 1 (pc' := 20) (ls' := [some (.inr (.inr 103)), some (.inl x1), some (.inl x2)]) (st' := [.inl x1, .inr (.inr 107), .inl 1, .inr (.inr 112)]) (M' := (ab_w M 112 0 ((M 112 0) + x2))) rfl ?_
  obtain ⟨hf2, h⟩ := h
  refine g_iald (n := 6) rfl (str_a (k := 112) (f := 0) (v := (M 112 0) + x2) hS rfl) rfl hf2 ?_
  refine g_iast (n := 10) rfl (str_a (k := 112) (f := 0) (v := (M 112 0) + x2) hS rfl) rfl (by decide) ?_
  refine wp_sts 1 (pc' := 23) (ls' := [some (.inr (.inr 103)), some (.inl x1), some (.inl x2)]) (st' := [.inr (.inr 103)]) (M' := (ab_w (ab_w M 112 0 ((M 112 0) + x2)) 112 1 (M 107 x1.toNat))) rfl ?_
  refine g_getR (j := 112) rfl (str_a (k := 112) (f := 1) (v := M 107 x1.toNat) (str_a (k := 112) (f := 0) (v := (M 112 0) + x2) hS rfl) rfl) rfl (str_r (str_a (k := 112) (f := 1) (v := M 107 x1.toNat) (str_a (k := 112) (f := 0) (v := (M 112 0) + x2) hS rfl) rfl) 103 15 112 rfl) (by decide) ?_
  refine wp_sts 2 (pc' := 28) (ls' := [some (.inr (.inr 103)), some (.inl x1), some (.inl x2)]) (st' := [.inl x1, .inl 2, .inr (.inr 112)]) (M' := (ab_w (ab_w M 112 0 ((M 112 0) + x2)) 112 1 (M 107 x1.toNat))) rfl ?_
  refine g_iast (n := 10) rfl (str_a (k := 112) (f := 1) (v := M 107 x1.toNat) (str_a (k := 112) (f := 0) (v := (M 112 0) + x2) hS rfl) rfl) rfl (by decide) ?_
  exact wp_ret rfl rfl rfl h
/- Model.doNow, at 0 -/
theorem b142_0 {d t : Nat}  {x1 : Int} {M : ab_M} {Q : Option ab_V → ab_M → Prop} (hd : 1 ≤ d) (hS : pu_str t M)  (h : ab_rg (5 * x1) ∧ ab_rg ((5 * x1) + 1) ∧ (0 ≤ (5 * x1) + 1 ∧ (5 * x1) + 1 < 30) ∧ ab_rg ((M 112 0) + (M 109 ((5 * x1) + 1).toNat)) ∧ ab_rg (4 + x1) ∧ (0 ≤ 4 + x1 ∧ 4 + x1 < 10) ∧ Q none (ab_w (ab_w M 112 0 ((M 112 0) + (M 109 ((5 * x1) + 1).toNat))) 112 (4 + x1).toNat ((M 112 0) + (M 109 ((5 * x1) + 1).toNat)))) : ab_wp d 142 0 [some (.inr (.inr 103)), some (.inl x1)] [] M Q := by
  refine wp_sts 1 (pc' := 1) (ls' := [some (.inr (.inr 103)), some (.inl x1)]) (st' := [.inr (.inr 103)]) (M' := M) rfl ?_
  refine g_getR (j := 112) rfl hS rfl (str_r hS 103 15 112 rfl) (by decide) ?_
  refine wp_sts 2 (pc' := 6) (ls' := [some (.inr (.inr 103)), some (.inl x1)]) (st' := [.inl 0, .inr (.inr 112), .inl 0, .inr (.inr 112)]) (M' := M) rfl ?_
  refine g_iald (n := 10) rfl hS rfl (by decide) ?_
  refine wp_sts 1 (pc' := 8) (ls' := [some (.inr (.inr 103)), some (.inl x1)]) (st' := [.inr (.inr 103), .inl (M 112 0), .inl 0, .inr (.inr 112)]) (M' := M) rfl ?_
  refine g_getR (j := 109) rfl hS rfl (str_r hS 103 10 109 rfl) (by decide) ?_
  refine wp_sts 2 (pc' := 13) (ls' := [some (.inr (.inr 103)), some (.inl x1)]) (st' := [.inl x1, .inl 5, .inr (.inr 109), .inl (M 112 0), .inl 0, .inr (.inr 112)]) (M' := M) rfl ?_
  obtain ⟨hf1, h⟩ := h
  refine w_imul rfl hf1 ?_
  refine wp_sts 1 (pc' := 15) (ls' := [some (.inr (.inr 103)), some (.inl x1)]) (st' := [.inl 1, .inl (5 * x1), .inr (.inr 109), .inl (M 112 0), .inl 0, .inr (.inr 112)]) (M' := M) rfl ?_
  obtain ⟨hf2, h⟩ := h
  refine w_iadd rfl hf2 ?_
  obtain ⟨hf3, h⟩ := h
  refine g_iald (n := 30) rfl hS rfl hf3 ?_
  obtain ⟨hf4, h⟩ := h
  refine w_iadd rfl hf4 ?_
  refine g_iast (n := 10) rfl hS rfl (by decide) ?_
  refine wp_sts 1 (pc' := 20) (ls' := [some (.inr (.inr 103)), some (.inl x1)]) (st' := [.inr (.inr 103)]) (M' := (ab_w M 112 0 ((M 112 0) + (M 109 ((5 * x1) + 1).toNat)))) rfl ?_
  refine g_getR (j := 112) rfl (str_a (k := 112) (f := 0) (v := (M 112 0) + (M 109 ((5 * x1) + 1).toNat)) hS rfl) rfl (str_r (str_a (k := 112) (f := 0) (v := (M 112 0) + (M 109 ((5 * x1) + 1).toNat)) hS rfl) 103 15 112 rfl) (by decide) ?_
  refine wp_sts 2 (pc' := 25) (ls' := [some (.inr (.inr 103)), some (.inl x1)]) (st' := [.inl x1, .inl 4, .inr (.inr 112)]) (M' := (ab_w M 112 0 ((M 112 0) + (M 109 ((5 * x1) + 1).toNat)))) rfl ?_
  obtain ⟨hf5, h⟩ := h
  refine w_iadd rfl hf5 ?_
  refine wp_sts 1 (pc' := 27) (ls' := [some (.inr (.inr 103)), some (.inl x1)]) (st' := [.inr (.inr 103), .inl (4 + x1), .inr (.inr 112)]) (M' := (ab_w M 112 0 ((M 112 0) + (M 109 ((5 * x1) + 1).toNat)))) rfl ?_
  refine g_getR (j := 112) rfl (str_a (k := 112) (f := 0) (v := (M 112 0) + (M 109 ((5 * x1) + 1).toNat)) hS rfl) rfl (str_r (str_a (k := 112) (f := 0) (v := (M 112 0) + (M 109 ((5 * x1) + 1).toNat)) hS rfl) 103 15 112 rfl) (by decide) ?_
  refine wp_sts 1 (pc' := 31) (ls' := [some (.inr (.inr 103)), some (.inl x1)]) (st' := [.inl 0, .inr (.inr 112), .inl (4 + x1), .inr (.inr 112)]) (M' := (ab_w M 112 0 ((M 112 0) + (M 109 ((5 * x1) + 1).toNat)))) rfl ?_
  refine g_iald (n := 10) rfl (str_a (k := 112) (f := 0) (v := (M 112 0) + (M 109 ((5 * x1) + 1).toNat)) hS rfl) rfl (by decide) ?_
  obtain ⟨hf6, h⟩ := h
  refine g_iast (n := 10) rfl (str_a (k := 112) (f := 0) (v := (M 112 0) + (M 109 ((5 * x1) + 1).toNat)) hS rfl) rfl hf6 ?_
  exact wp_ret rfl rfl rfl h
/- Model.act, at 0 -/
theorem b143_0 {d t : Nat}  {x1 : Int} {M : ab_M} {Q : Option ab_V → ab_M → Prop} (hd : 1 ≤ d) (hS : pu_str t M)  (h : ∃ r1 M1, ab_ev (d - 1) 111 [.inr (.inr 103), .inl x1] M (some (.inl r1)) M1 ∧ pu_str t M1 ∧ (r1 ≠ 0 → ∃ r2 M2, ab_ev (d - 1) 128 [.inr (.inr 103), .inl x1] M1 (some (.inl r2)) M2 ∧ pu_str t M2 ∧ (r2 ≠ 0 → Q (some (.inl ((-1000000003)))) M2) ∧ (r2 = 0 → ab_rg (5 * x1) ∧ (0 ≤ 5 * x1 ∧ 5 * x1 < 30) ∧ (M2 112 2 = M2 109 (5 * x1).toNat → ∃ M3, ab_ev (d - 1) 142 [.inr (.inr 103), .inl x1] M2 none M3 ∧ pu_str t M3 ∧ Q (some (.inl (M3 112 0))) M3) ∧ (M2 112 2 ≠ M2 109 (5 * x1).toNat → Q (some (.inl ((-1000000003)))) M2))) ∧ (r1 = 0 → Q (some (.inl ((-1000000001)))) M1)) : ab_wp d 143 0 [some (.inr (.inr 103)), some (.inl x1)] [] M Q := by
  refine wp_sts 2 (pc' := 2) (ls' := [some (.inr (.inr 103)), some (.inl x1)]) (st' := [.inl x1, .inr (.inr 103)]) (M' := M) rfl ?_
  obtain ⟨r1, M1, he, hS1, h⟩ := h
  refine g_callI (c := 111) (as := [.inr (.inr 103), .inl x1]) (rs := []) rfl rfl hS hd rfl he ?_
  refine c1_ne rfl (fun c => ?_) (fun c => ?_)
  · replace h := h.1 c
    refine wp_sts 2 (pc' := 13) (ls' := [some (.inr (.inr 103)), some (.inl x1)]) (st' := [.inl x1, .inr (.inr 103)]) (M' := M1) rfl ?_
    obtain ⟨r2, M2, he, hS2, h⟩ := h
    refine g_callI (c := 128) (as := [.inr (.inr 103), .inl x1]) (rs := []) rfl rfl hS1 hd rfl he ?_
    refine c1_ne rfl (fun c => ?_) (fun c => ?_)
    · replace h := h.1 c
      refine wp_sts 1 (pc' := 38) (ls' := [some (.inr (.inr 103)), some (.inl x1)]) (st' := [.inl ((-1000000003))]) (M' := M2) rfl ?_
      exact wp_ret rfl rfl (z := (some (.inl ((-1000000003))), M2)) rfl h
    · replace h := h.2 c
      refine wp_sts 1 (pc' := 20) (ls' := [some (.inr (.inr 103)), some (.inl x1)]) (st' := [.inr (.inr 103)]) (M' := M2) rfl ?_
      refine g_getR (j := 112) rfl hS2 rfl (str_r hS2 103 15 112 rfl) (by decide) ?_
      refine wp_sts 1 (pc' := 24) (ls' := [some (.inr (.inr 103)), some (.inl x1)]) (st' := [.inl 2, .inr (.inr 112)]) (M' := M2) rfl ?_
      refine g_iald (n := 10) rfl hS2 rfl (by decide) ?_
      refine wp_sts 1 (pc' := 26) (ls' := [some (.inr (.inr 103)), some (.inl x1)]) (st' := [.inr (.inr 103), .inl (M2 112 2)]) (M' := M2) rfl ?_
      refine g_getR (j := 109) rfl hS2 rfl (str_r hS2 103 10 109 rfl) (by decide) ?_
      refine wp_sts 2 (pc' := 31) (ls' := [some (.inr (.inr 103)), some (.inl x1)]) (st' := [.inl x1, .inl 5, .inr (.inr 109), .inl (M2 112 2)]) (M' := M2) rfl ?_
      obtain ⟨hf1, h⟩ := h
      refine w_imul rfl hf1 ?_
      obtain ⟨hf2, h⟩ := h
      refine g_iald (n := 30) rfl hS2 rfl hf2 ?_
      refine c2_eq rfl (fun c => ?_) (fun c => ?_)
      · replace h := h.1 c
        refine wp_sts 2 (pc' := 41) (ls' := [some (.inr (.inr 103)), some (.inl x1)]) (st' := [.inl x1, .inr (.inr 103)]) (M' := M2) rfl ?_
        obtain ⟨M3, he, hS3, h⟩ := h
        refine g_callV (c := 142) (as := [.inr (.inr 103), .inl x1]) (rs := []) rfl rfl hS2 hd rfl he ?_
        refine wp_sts 1 (pc' := 45) (ls' := [some (.inr (.inr 103)), some (.inl x1)]) (st' := [.inr (.inr 103)]) (M' := M3) rfl ?_
        refine g_getR (j := 112) rfl hS3 rfl (str_r hS3 103 15 112 rfl) (by decide) ?_
        refine wp_sts 1 (pc' := 49) (ls' := [some (.inr (.inr 103)), some (.inl x1)]) (st' := [.inl 0, .inr (.inr 112)]) (M' := M3) rfl ?_
        refine g_iald (n := 10) rfl hS3 rfl (by decide) ?_
        exact wp_ret rfl rfl (z := (some (.inl (M3 112 0)), M3)) rfl h
      · replace h := h.2 c
        refine wp_sts 1 (pc' := 38) (ls' := [some (.inr (.inr 103)), some (.inl x1)]) (st' := [.inl ((-1000000003))]) (M' := M2) rfl ?_
        exact wp_ret rfl rfl (z := (some (.inl ((-1000000003))), M2)) rfl h
  · replace h := h.2 c
    refine wp_sts 1 (pc' := 10) (ls' := [some (.inr (.inr 103)), some (.inl x1)]) (st' := [.inl ((-1000000001))]) (M' := M1) rfl ?_
    exact wp_ret rfl rfl (z := (some (.inl ((-1000000001))), M1)) rfl h
/- Model.drop, at 0 -/
theorem b144_0 {d t : Nat}   {M : ab_M} {Q : Option ab_V → ab_M → Prop} (hd : 1 ≤ d) (hS : pu_str t M)  (h : Q (some (.inl (M 112 2))) (ab_w M 112 2 ((-1)))) : ab_wp d 144 0 [some (.inr (.inr 103)), none] [] M Q := by
  refine wp_sts 1 (pc' := 1) (ls' := [some (.inr (.inr 103)), none]) (st' := [.inr (.inr 103)]) (M' := M) rfl ?_
  refine g_getR (j := 112) rfl hS rfl (str_r hS 103 15 112 rfl) (by decide) ?_
  refine wp_sts 1 (pc' := 5) (ls' := [some (.inr (.inr 103)), none]) (st' := [.inl 2, .inr (.inr 112)]) (M' := M) rfl ?_
  refine g_iald (n := 10) rfl hS rfl (by decide) ?_
  refine wp_sts 2 (pc' := 8) (ls' := [some (.inr (.inr 103)), some (.inl (M 112 2))]) (st' := [.inr (.inr 103)]) (M' := M) rfl ?_
  refine g_getR (j := 112) rfl hS rfl (str_r hS 103 15 112 rfl) (by decide) ?_
  refine wp_sts 2 (pc' := 13) (ls' := [some (.inr (.inr 103)), some (.inl (M 112 2))]) (st' := [.inl ((-1)), .inl 2, .inr (.inr 112)]) (M' := M) rfl ?_
  refine g_iast (n := 10) rfl hS rfl (by decide) ?_
  refine wp_sts 1 (pc' := 15) (ls' := [some (.inr (.inr 103)), some (.inl (M 112 2))]) (st' := [.inl (M 112 2)]) (M' := (ab_w M 112 2 ((-1)))) rfl ?_
  exact wp_ret rfl rfl (z := (some (.inl (M 112 2)), (ab_w M 112 2 ((-1))))) rfl h
/- Model.pass, at 0 -/
theorem b145_0 {d t : Nat}  {x1 : Int} {M : ab_M} {Q : Option ab_V → ab_M → Prop} (hd : 1 ≤ d) (hS : pu_str t M)  (h : ∃ r1 M1, ab_ev (d - 1) 107 [.inr (.inl x1), .inr (.inl 1), .inr (.inl 999)] M (some (.inl r1)) M1 ∧ pu_str t M1 ∧ (r1 ≠ 0 → (M1 112 0 ≤ 90000 → ab_rg ((M1 112 0) + x1) ∧ Q (some (.inl ((M1 112 0) + x1))) (ab_w M1 112 0 ((M1 112 0) + x1))) ∧ (90000 < M1 112 0 → Q (some (.inl ((-1000000004)))) M1)) ∧ (r1 = 0 → Q (some (.inl ((-1000000002)))) M1)) : ab_wp d 145 0 [some (.inr (.inr 103)), some (.inl x1)] [] M Q := by
  refine wp_sts 4 (pc' := 6) (ls' := [some (.inr (.inr 103)), some (.inl x1)]) (st' := [.inr (.inl 999), .inr (.inl 1), .inr (.inl x1)]) (M' := M) rfl ?_
  obtain ⟨r1, M1, he, hS1, h⟩ := h
  refine g_callI (c := 107) (as := [.inr (.inl x1), .inr (.inl 1), .inr (.inl 999)]) (rs := []) rfl rfl hS hd rfl he ?_
  refine c1_ne rfl (fun c => ?_) (fun c => ?_)
  · replace h := h.1 c
    refine wp_sts 1 (pc' := 16) (ls' := [some (.inr (.inr 103)), some (.inl x1)]) (st' := [.inr (.inr 103)]) (M' := M1) rfl ?_
    refine g_getR (j := 112) rfl hS1 rfl (str_r hS1 103 15 112 rfl) (by decide) ?_
    refine wp_sts 1 (pc' := 20) (ls' := [some (.inr (.inr 103)), some (.inl x1)]) (st' := [.inl 0, .inr (.inr 112)]) (M' := M1) rfl ?_
    refine g_iald (n := 10) rfl hS1 rfl (by decide) ?_
    refine wp_sts 1 (pc' := 23) (ls' := [some (.inr (.inr 103)), some (.inl x1)]) (st' := [.inl 90000, .inl (M1 112 0)]) (M' := M1) rfl ?_
    refine c2_le rfl (fun c => ?_) (fun c => ?_)
    · replace h := h.1 c
      refine wp_sts 1 (pc' := 30) (ls' := [some (.inr (.inr 103)), some (.inl x1)]) (st' := [.inr (.inr 103)]) (M' := M1) rfl ?_
      refine g_getR (j := 112) rfl hS1 rfl (str_r hS1 103 15 112 rfl) (by decide) ?_
      refine wp_sts 2 (pc' := 35) (ls' := [some (.inr (.inr 103)), some (.inl x1)]) (st' := [.inl 0, .inr (.inr 112), .inl 0, .inr (.inr 112)]) (M' := M1) rfl ?_
      refine g_iald (n := 10) rfl hS1 rfl (by decide) ?_
      refine wp_sts 1 (pc' := 37) (ls' := [some (.inr (.inr 103)), some (.inl x1)]) (st' := [.inl x1, .inl (M1 112 0), .inl 0, .inr (.inr 112)]) (M' := M1) rfl ?_
      obtain ⟨hf1, h⟩ := h
      refine w_iadd rfl hf1 ?_
      refine g_iast (n := 10) rfl hS1 rfl (by decide) ?_
      refine wp_sts 1 (pc' := 40) (ls' := [some (.inr (.inr 103)), some (.inl x1)]) (st' := [.inr (.inr 103)]) (M' := (ab_w M1 112 0 ((M1 112 0) + x1))) rfl ?_
      refine g_getR (j := 112) rfl (str_a (k := 112) (f := 0) (v := (M1 112 0) + x1) hS1 rfl) rfl (str_r (str_a (k := 112) (f := 0) (v := (M1 112 0) + x1) hS1 rfl) 103 15 112 rfl) (by decide) ?_
      refine wp_sts 1 (pc' := 44) (ls' := [some (.inr (.inr 103)), some (.inl x1)]) (st' := [.inl 0, .inr (.inr 112)]) (M' := (ab_w M1 112 0 ((M1 112 0) + x1))) rfl ?_
      refine g_iald (n := 10) rfl (str_a (k := 112) (f := 0) (v := (M1 112 0) + x1) hS1 rfl) rfl (by decide) ?_
      exact wp_ret rfl rfl (z := (some (.inl ((M1 112 0) + x1)), (ab_w M1 112 0 ((M1 112 0) + x1)))) rfl h
    · replace h := h.2 c
      refine wp_sts 1 (pc' := 28) (ls' := [some (.inr (.inr 103)), some (.inl x1)]) (st' := [.inl ((-1000000004))]) (M' := M1) rfl ?_
      exact wp_ret rfl rfl (z := (some (.inl ((-1000000004))), M1)) rfl h
  · replace h := h.2 c
    refine wp_sts 1 (pc' := 14) (ls' := [some (.inr (.inr 103)), some (.inl x1)]) (st' := [.inl ((-1000000002))]) (M' := M1) rfl ?_
    exact wp_ret rfl rfl (z := (some (.inl ((-1000000002))), M1)) rfl h
/- Model.draw, at 0 -/
theorem b146_0 {d t : Nat}  {x1 : Int} {M : ab_M} {Q : Option ab_V → ab_M → Prop} (hd : 1 ≤ d) (hS : pu_str t M)  (h : ab_rl ((M 112 3) * 1103515245) ∧ ab_rl (((M 112 3) * 1103515245) + 12345) ∧ ab_rg (ab_land (((M 112 3) * 1103515245) + 12345) 2147483647) ∧ ab_rg ((ab_land (((M 112 3) * 1103515245) + 12345) 2147483647).tdiv 65536) ∧ x1 ≠ 0 ∧ ab_rg (((ab_land (((M 112 3) * 1103515245) + 12345) 2147483647).tdiv 65536).tdiv x1) ∧ Q (some (.inl (((ab_land (((M 112 3) * 1103515245) + 12345) 2147483647).tdiv 65536).tmod x1))) (ab_w M 112 3 (ab_land (((M 112 3) * 1103515245) + 12345) 2147483647))) : ab_wp d 146 0 [some (.inr (.inr 103)), some (.inl x1)] [] M Q := by
  refine wp_sts 1 (pc' := 1) (ls' := [some (.inr (.inr 103)), some (.inl x1)]) (st' := [.inr (.inr 103)]) (M' := M) rfl ?_
  refine g_getR (j := 112) rfl hS rfl (str_r hS 103 15 112 rfl) (by decide) ?_
  refine wp_sts 2 (pc' := 6) (ls' := [some (.inr (.inr 103)), some (.inl x1)]) (st' := [.inr (.inr 103), .inl 3, .inr (.inr 112)]) (M' := M) rfl ?_
  refine g_getR (j := 112) rfl hS rfl (str_r hS 103 15 112 rfl) (by decide) ?_
  refine wp_sts 1 (pc' := 10) (ls' := [some (.inr (.inr 103)), some (.inl x1)]) (st' := [.inl 3, .inr (.inr 112), .inl 3, .inr (.inr 112)]) (M' := M) rfl ?_
  refine g_iald (n := 10) rfl hS rfl (by decide) ?_
  refine wp_sts 2 (pc' := 15) (ls' := [some (.inr (.inr 103)), some (.inl x1)]) (st' := [.inr (.inl 1103515245), .inr (.inl (M 112 3)), .inl 3, .inr (.inr 112)]) (M' := M) rfl ?_
  obtain ⟨hf1, h⟩ := h
  refine w_lmul rfl hf1 ?_
  refine wp_sts 1 (pc' := 19) (ls' := [some (.inr (.inr 103)), some (.inl x1)]) (st' := [.inr (.inl 12345), .inr (.inl ((M 112 3) * 1103515245)), .inl 3, .inr (.inr 112)]) (M' := M) rfl ?_
  obtain ⟨hf2, h⟩ := h
  refine w_ladd rfl hf2 ?_
  refine wp_sts 2 (pc' := 24) (ls' := [some (.inr (.inr 103)), some (.inl x1)]) (st' := [.inr (.inl (ab_land (((M 112 3) * 1103515245) + 12345) 2147483647)), .inl 3, .inr (.inr 112)]) (M' := M) rfl ?_
  obtain ⟨hf3, h⟩ := h
  refine w_l2i rfl hf3 ?_
  refine g_iast (n := 10) rfl hS rfl (by decide) ?_
  refine wp_sts 1 (pc' := 27) (ls' := [some (.inr (.inr 103)), some (.inl x1)]) (st' := [.inr (.inr 103)]) (M' := (ab_w M 112 3 (ab_land (((M 112 3) * 1103515245) + 12345) 2147483647))) rfl ?_
  refine g_getR (j := 112) rfl (str_a (k := 112) (f := 3) (v := ab_land (((M 112 3) * 1103515245) + 12345) 2147483647) hS rfl) rfl (str_r (str_a (k := 112) (f := 3) (v := ab_land (((M 112 3) * 1103515245) + 12345) 2147483647) hS rfl) 103 15 112 rfl) (by decide) ?_
  refine wp_sts 1 (pc' := 31) (ls' := [some (.inr (.inr 103)), some (.inl x1)]) (st' := [.inl 3, .inr (.inr 112)]) (M' := (ab_w M 112 3 (ab_land (((M 112 3) * 1103515245) + 12345) 2147483647))) rfl ?_
  refine g_iald (n := 10) rfl (str_a (k := 112) (f := 3) (v := ab_land (((M 112 3) * 1103515245) + 12345) 2147483647) hS rfl) rfl (by decide) ?_
  refine wp_sts 1 (pc' := 35) (ls' := [some (.inr (.inr 103)), some (.inl x1)]) (st' := [.inl 65536, .inl (ab_land (((M 112 3) * 1103515245) + 12345) 2147483647)]) (M' := (ab_w M 112 3 (ab_land (((M 112 3) * 1103515245) + 12345) 2147483647))) rfl ?_
  obtain ⟨hf4, h⟩ := h
  refine w_idiv rfl (by decide) hf4 ?_
  refine wp_sts 1 (pc' := 37) (ls' := [some (.inr (.inr 103)), some (.inl x1)]) (st' := [.inl x1, .inl ((ab_land (((M 112 3) * 1103515245) + 12345) 2147483647).tdiv 65536)]) (M' := (ab_w M 112 3 (ab_land (((M 112 3) * 1103515245) + 12345) 2147483647))) rfl ?_
  obtain ⟨hf5, h⟩ := h
  obtain ⟨hf6, h⟩ := h
  refine w_irem rfl hf5 hf6 ?_
  exact wp_ret rfl rfl (z := (some (.inl (((ab_land (((M 112 3) * 1103515245) + 12345) 2147483647).tdiv 65536).tmod x1)), (ab_w M 112 3 (ab_land (((M 112 3) * 1103515245) + 12345) 2147483647)))) rfl h
/- Model.drift, at 0 -/
set_option maxRecDepth 100000 in
theorem b147_0 {d t : Nat}  {x1 : Int} {M : ab_M} {Q : Option ab_V → ab_M → Prop} (hd : 1 ≤ d) (hS : pu_str t M)  (h : ∃ r1 M1, ab_ev (d - 1) 107 [.inr (.inl x1), .inr (.inl 1), .inr (.inl 30)] M (some (.inl r1)) M1 ∧ pu_str t M1 ∧ (r1 ≠ 0 → (M1 103 9 ≠ 0 → (M1 112 0 ≤ 90000 → ab_wp d 147 41 [some (.inr (.inr 103)), some (.inl x1), some (.inl 0), none, none, none, none] [] M1 Q) ∧ (90000 < M1 112 0 → Q (some (.inl ((-1000000004)))) M1)) ∧ (M1 103 9 = 0 → Q (some (.inl ((-1000000003)))) M1)) ∧ (r1 = 0 → Q (some (.inl ((-1000000002)))) M1)) : ab_wp d 147 0 [some (.inr (.inr 103)), some (.inl x1), none, none, none, none, none] [] M Q := by
  refine wp_sts 4 (pc' := 6) (ls' := [some (.inr (.inr 103)), some (.inl x1), none, none, none, none, none]) (st' := [.inr (.inl 30), .inr (.inl 1), .inr (.inl x1)]) (M' := M) rfl ?_
  obtain ⟨r1, M1, he, hS1, h⟩ := h
  refine g_callI (c := 107) (as := [.inr (.inl x1), .inr (.inl 1), .inr (.inl 30)]) (rs := []) rfl rfl hS hd rfl he ?_
  refine c1_ne rfl (fun c => ?_) (fun c => ?_)
  · replace h := h.1 c
    refine wp_sts 1 (pc' := 16) (ls' := [some (.inr (.inr 103)), some (.inl x1), none, none, none, none, none]) (st' := [.inr (.inr 103)]) (M' := M1) rfl ?_
    refine g_getI rfl hS1 rfl ?_
    refine c1_ne rfl (fun c => ?_) (fun c => ?_)
    · replace h := h.1 c
      refine wp_sts 1 (pc' := 26) (ls' := [some (.inr (.inr 103)), some (.inl x1), none, none, none, none, none]) (st' := [.inr (.inr 103)]) (M' := M1) rfl ?_
      refine g_getR (j := 112) rfl hS1 rfl (str_r hS1 103 15 112 rfl) (by decide) ?_
      refine wp_sts 1 (pc' := 30) (ls' := [some (.inr (.inr 103)), some (.inl x1), none, none, none, none, none]) (st' := [.inl 0, .inr (.inr 112)]) (M' := M1) rfl ?_
      refine g_iald (n := 10) rfl hS1 rfl (by decide) ?_
      refine wp_sts 1 (pc' := 33) (ls' := [some (.inr (.inr 103)), some (.inl x1), none, none, none, none, none]) (st' := [.inl 90000, .inl (M1 112 0)]) (M' := M1) rfl ?_
      refine c2_le rfl (fun c => ?_) (fun c => ?_)
      · replace h := h.1 c
        refine wp_sts 2 (pc' := 41) (ls' := [some (.inr (.inr 103)), some (.inl x1), some (.inl 0), none, none, none, none]) (st' := []) (M' := M1) rfl ?_
        exact h
      · replace h := h.2 c
        refine wp_sts 1 (pc' := 38) (ls' := [some (.inr (.inr 103)), some (.inl x1), none, none, none, none, none]) (st' := [.inl ((-1000000004))]) (M' := M1) rfl ?_
        exact wp_ret rfl rfl (z := (some (.inl ((-1000000004))), M1)) rfl h
    · replace h := h.2 c
      refine wp_sts 1 (pc' := 24) (ls' := [some (.inr (.inr 103)), some (.inl x1), none, none, none, none, none]) (st' := [.inl ((-1000000003))]) (M' := M1) rfl ?_
      exact wp_ret rfl rfl (z := (some (.inl ((-1000000003))), M1)) rfl h
  · replace h := h.2 c
    refine wp_sts 1 (pc' := 14) (ls' := [some (.inr (.inr 103)), some (.inl x1), none, none, none, none, none]) (st' := [.inl ((-1000000002))]) (M' := M1) rfl ?_
    exact wp_ret rfl rfl (z := (some (.inl ((-1000000002))), M1)) rfl h
/- Model.drift, at 41 -/
set_option maxRecDepth 100000 in
theorem b147_41 {d t : Nat}  {x1 : Int} {x2 : Int} {y3 : Option ab_V} {y4 : Option ab_V} {y5 : Option ab_V} {y6 : Option ab_V} {M : ab_M} {Q : Option ab_V → ab_M → Prop} (hd : 1 ≤ d) (hS : pu_str t M)  (h : (x1 ≤ x2 → Q (some (.inl (M 112 0))) M) ∧ (x2 < x1 → ∃ r1 M1, ab_ev (d - 1) 146 [.inr (.inr 103), .inl (M 103 9)] M (some (.inl r1)) M1 ∧ pu_str t M1 ∧ (0 ≤ r1 ∧ r1 < 6) ∧ ∃ r2 M2, ab_ev (d - 1) 132 [.inr (.inr 103), .inl (M1 112 1), .inl (M1 107 r1.toNat)] M1 (some (.inl r2)) M2 ∧ pu_str t M2 ∧ (r2 < 0 → ab_rg ((M2 103 11) - 1) ∧ ab_wp d 147 96 [some (.inr (.inr 103)), some (.inl x1), some (.inl x2), some (.inl r1), some (.inl r2), some (.inl ((-1))), some (.inl ((M2 103 11) - 1))] [] M2 Q) ∧ (0 ≤ r2 → ∃ M3, ab_ev (d - 1) 141 [.inr (.inr 103), .inl r1, .inl r2] M2 none M3 ∧ pu_str t M3 ∧ ab_rg ((M3 103 11) - 1) ∧ ab_wp d 147 96 [some (.inr (.inr 103)), some (.inl x1), some (.inl x2), some (.inl r1), some (.inl r2), some (.inl ((-1))), some (.inl ((M3 103 11) - 1))] [] M3 Q))) : ab_wp d 147 41 [some (.inr (.inr 103)), some (.inl x1), some (.inl x2), y3, y4, y5, y6] [] M Q := by
  refine wp_sts 2 (pc' := 43) (ls' := [some (.inr (.inr 103)), some (.inl x1), some (.inl x2), y3, y4, y5, y6]) (st' := [.inl x1, .inl x2]) (M' := M) rfl ?_
  refine c2_ge rfl (fun c => ?_) (fun c => ?_)
  · replace h := h.1 c
    refine wp_sts 1 (pc' := 179) (ls' := [some (.inr (.inr 103)), some (.inl x1), some (.inl x2), y3, y4, y5, y6]) (st' := [.inr (.inr 103)]) (M' := M) rfl ?_
    refine g_getR (j := 112) rfl hS rfl (str_r hS 103 15 112 rfl) (by decide) ?_
    refine wp_sts 1 (pc' := 183) (ls' := [some (.inr (.inr 103)), some (.inl x1), some (.inl x2), y3, y4, y5, y6]) (st' := [.inl 0, .inr (.inr 112)]) (M' := M) rfl ?_
    refine g_iald (n := 10) rfl hS rfl (by decide) ?_
    exact wp_ret rfl rfl (z := (some (.inl (M 112 0)), M)) rfl h
  · replace h := h.2 c
    refine wp_sts 2 (pc' := 48) (ls' := [some (.inr (.inr 103)), some (.inl x1), some (.inl x2), y3, y4, y5, y6]) (st' := [.inr (.inr 103), .inr (.inr 103)]) (M' := M) rfl ?_
    refine g_getI rfl hS rfl ?_
    obtain ⟨r1, M1, he, hS1, h⟩ := h
    refine g_callI (c := 146) (as := [.inr (.inr 103), .inl (M 103 9)]) (rs := []) rfl rfl hS hd rfl he ?_
    refine wp_sts 3 (pc' := 57) (ls' := [some (.inr (.inr 103)), some (.inl x1), some (.inl x2), some (.inl r1), y4, y5, y6]) (st' := [.inr (.inr 103), .inr (.inr 103)]) (M' := M1) rfl ?_
    refine g_getR (j := 112) rfl hS1 rfl (str_r hS1 103 15 112 rfl) (by decide) ?_
    refine wp_sts 1 (pc' := 61) (ls' := [some (.inr (.inr 103)), some (.inl x1), some (.inl x2), some (.inl r1), y4, y5, y6]) (st' := [.inl 1, .inr (.inr 112), .inr (.inr 103)]) (M' := M1) rfl ?_
    refine g_iald (n := 10) rfl hS1 rfl (by decide) ?_
    refine wp_sts 1 (pc' := 63) (ls' := [some (.inr (.inr 103)), some (.inl x1), some (.inl x2), some (.inl r1), y4, y5, y6]) (st' := [.inr (.inr 103), .inl (M1 112 1), .inr (.inr 103)]) (M' := M1) rfl ?_
    refine g_getR (j := 107) rfl hS1 rfl (str_r hS1 103 7 107 rfl) (by decide) ?_
    refine wp_sts 1 (pc' := 67) (ls' := [some (.inr (.inr 103)), some (.inl x1), some (.inl x2), some (.inl r1), y4, y5, y6]) (st' := [.inl r1, .inr (.inr 107), .inl (M1 112 1), .inr (.inr 103)]) (M' := M1) rfl ?_
    obtain ⟨hf1, h⟩ := h
    refine g_iald (n := 6) rfl hS1 rfl hf1 ?_
    obtain ⟨r2, M2, he, hS2, h⟩ := h
    refine g_callI (c := 132) (as := [.inr (.inr 103), .inl (M1 112 1), .inl (M1 107 r1.toNat)]) (rs := []) rfl rfl hS1 hd rfl he ?_
    refine wp_sts 2 (pc' := 75) (ls' := [some (.inr (.inr 103)), some (.inl x1), some (.inl x2), some (.inl r1), some (.inl r2), y5, y6]) (st' := [.inl r2]) (M' := M2) rfl ?_
    refine c1_lt rfl (fun c => ?_) (fun c => ?_)
    · replace h := h.1 c
      refine wp_sts 3 (pc' := 89) (ls' := [some (.inr (.inr 103)), some (.inl x1), some (.inl x2), some (.inl r1), some (.inl r2), some (.inl ((-1))), y6]) (st' := [.inr (.inr 103)]) (M' := M2) rfl ?_
      refine g_getI rfl hS2 rfl ?_
      refine wp_sts 1 (pc' := 93) (ls' := [some (.inr (.inr 103)), some (.inl x1), some (.inl x2), some (.inl r1), some (.inl r2), some (.inl ((-1))), y6]) (st' := [.inl 1, .inl (M2 103 11)]) (M' := M2) rfl ?_
      obtain ⟨hf2, h⟩ := h
      refine w_isub rfl hf2 ?_
      refine wp_sts 1 (pc' := 96) (ls' := [some (.inr (.inr 103)), some (.inl x1), some (.inl x2), some (.inl r1), some (.inl r2), some (.inl ((-1))), some (.inl ((M2 103 11) - 1))]) (st' := []) (M' := M2) rfl ?_
      exact h
    · replace h := h.2 c
      refine wp_sts 3 (pc' := 82) (ls' := [some (.inr (.inr 103)), some (.inl x1), some (.inl x2), some (.inl r1), some (.inl r2), y5, y6]) (st' := [.inl r2, .inl r1, .inr (.inr 103)]) (M' := M2) rfl ?_
      obtain ⟨M3, he, hS3, h⟩ := h
      refine g_callV (c := 141) (as := [.inr (.inr 103), .inl r1, .inl r2]) (rs := []) rfl rfl hS2 hd rfl he ?_
      refine wp_sts 3 (pc' := 89) (ls' := [some (.inr (.inr 103)), some (.inl x1), some (.inl x2), some (.inl r1), some (.inl r2), some (.inl ((-1))), y6]) (st' := [.inr (.inr 103)]) (M' := M3) rfl ?_
      refine g_getI rfl hS3 rfl ?_
      refine wp_sts 1 (pc' := 93) (ls' := [some (.inr (.inr 103)), some (.inl x1), some (.inl x2), some (.inl r1), some (.inl r2), some (.inl ((-1))), y6]) (st' := [.inl 1, .inl (M3 103 11)]) (M' := M3) rfl ?_
      obtain ⟨hf2, h⟩ := h
      refine w_isub rfl hf2 ?_
      refine wp_sts 1 (pc' := 96) (ls' := [some (.inr (.inr 103)), some (.inl x1), some (.inl x2), some (.inl r1), some (.inl r2), some (.inl ((-1))), some (.inl ((M3 103 11) - 1))]) (st' := []) (M' := M3) rfl ?_
      exact h
/- Model.drift, at 96 -/
set_option maxRecDepth 100000 in
theorem b147_96 {d t : Nat}  {x1 : Int} {x2 : Int} {x3 : Int} {x4 : Int} {x5 : Int} {x6 : Int} {M : ab_M} {Q : Option ab_V → ab_M → Prop} (hd : 1 ≤ d) (hS : pu_str t M)  (h : (x6 < 0 → (x5 < 0 → ab_rg ((M 112 0) + 1) ∧ ab_rg (x2 + 1) ∧ ab_wp d 147 41 [some (.inr (.inr 103)), some (.inl x1), some (.inl (x2 + 1)), some (.inl x3), some (.inl x4), some (.inl x5), some (.inl x6)] [] (ab_w M 112 0 ((M 112 0) + 1)) Q) ∧ (0 ≤ x5 → ∃ M1, ab_ev (d - 1) 142 [.inr (.inr 103), .inl x5] M none M1 ∧ pu_str t M1 ∧ ab_rg (x2 + 1) ∧ ab_wp d 147 41 [some (.inr (.inr 103)), some (.inl x1), some (.inl (x2 + 1)), some (.inl x3), some (.inl x4), some (.inl x5), some (.inl x6)] [] M1 Q)) ∧ (0 ≤ x6 → (M 112 2 ≠ x3 → ab_rg (x6 + (-1)) ∧ ab_wp d 147 96 [some (.inr (.inr 103)), some (.inl x1), some (.inl x2), some (.inl x3), some (.inl x4), some (.inl x5), some (.inl (x6 + (-1)))] [] M Q) ∧ (M 112 2 = x3 → ab_rg (5 * x6) ∧ (0 ≤ 5 * x6 ∧ 5 * x6 < 30) ∧ (M 109 (5 * x6).toNat ≠ x3 → ab_rg (x6 + (-1)) ∧ ab_wp d 147 96 [some (.inr (.inr 103)), some (.inl x1), some (.inl x2), some (.inl x3), some (.inl x4), some (.inl x5), some (.inl (x6 + (-1)))] [] M Q) ∧ (M 109 (5 * x6).toNat = x3 → ∃ r1 M1, ab_ev (d - 1) 128 [.inr (.inr 103), .inl x6] M (some (.inl r1)) M1 ∧ pu_str t M1 ∧ (r1 ≠ 0 → ab_rg (x6 + (-1)) ∧ ab_wp d 147 96 [some (.inr (.inr 103)), some (.inl x1), some (.inl x2), some (.inl x3), some (.inl x4), some (.inl x5), some (.inl (x6 + (-1)))] [] M1 Q) ∧ (r1 = 0 → ab_rg (x6 + (-1)) ∧ ab_wp d 147 96 [some (.inr (.inr 103)), some (.inl x1), some (.inl x2), some (.inl x3), some (.inl x4), some (.inl x6), some (.inl (x6 + (-1)))] [] M1 Q))))) : ab_wp d 147 96 [some (.inr (.inr 103)), some (.inl x1), some (.inl x2), some (.inl x3), some (.inl x4), some (.inl x5), some (.inl x6)] [] M Q := by
  refine wp_sts 1 (pc' := 98) (ls' := [some (.inr (.inr 103)), some (.inl x1), some (.inl x2), some (.inl x3), some (.inl x4), some (.inl x5), some (.inl x6)]) (st' := [.inl x6]) (M' := M) rfl ?_
  refine c1_lt rfl (fun c => ?_) (fun c => ?_)
  · replace h := h.1 c
    refine wp_sts 1 (pc' := 150) (ls' := [some (.inr (.inr 103)), some (.inl x1), some (.inl x2), some (.inl x3), some (.inl x4), some (.inl x5), some (.inl x6)]) (st' := [.inl x5]) (M' := M) rfl ?_
    refine c1_lt rfl (fun c => ?_) (fun c => ?_)
    · replace h := h.1 c
      refine wp_sts 1 (pc' := 163) (ls' := [some (.inr (.inr 103)), some (.inl x1), some (.inl x2), some (.inl x3), some (.inl x4), some (.inl x5), some (.inl x6)]) (st' := [.inr (.inr 103)]) (M' := M) rfl ?_
      refine g_getR (j := 112) rfl hS rfl (str_r hS 103 15 112 rfl) (by decide) ?_
      refine wp_sts 2 (pc' := 168) (ls' := [some (.inr (.inr 103)), some (.inl x1), some (.inl x2), some (.inl x3), some (.inl x4), some (.inl x5), some (.inl x6)]) (st' := [.inl 0, .inr (.inr 112), .inl 0, .inr (.inr 112)]) (M' := M) rfl ?_
      refine g_iald (n := 10) rfl hS rfl (by decide) ?_
      refine wp_sts 1 (pc' := 170) (ls' := [some (.inr (.inr 103)), some (.inl x1), some (.inl x2), some (.inl x3), some (.inl x4), some (.inl x5), some (.inl x6)]) (st' := [.inl 1, .inl (M 112 0), .inl 0, .inr (.inr 112)]) (M' := M) rfl ?_
      obtain ⟨hf1, h⟩ := h
      refine w_iadd rfl hf1 ?_
      refine g_iast (n := 10) rfl hS rfl (by decide) ?_
      obtain ⟨hf2, h⟩ := h
      refine w_iinc rfl rfl hf2 ?_
      refine wp_sts 1 (pc' := 41) (ls' := [some (.inr (.inr 103)), some (.inl x1), some (.inl (x2 + 1)), some (.inl x3), some (.inl x4), some (.inl x5), some (.inl x6)]) (st' := []) (M' := (ab_w M 112 0 ((M 112 0) + 1))) rfl ?_
      exact h
    · replace h := h.2 c
      refine wp_sts 2 (pc' := 156) (ls' := [some (.inr (.inr 103)), some (.inl x1), some (.inl x2), some (.inl x3), some (.inl x4), some (.inl x5), some (.inl x6)]) (st' := [.inl x5, .inr (.inr 103)]) (M' := M) rfl ?_
      obtain ⟨M1, he, hS1, h⟩ := h
      refine g_callV (c := 142) (as := [.inr (.inr 103), .inl x5]) (rs := []) rfl rfl hS hd rfl he ?_
      refine wp_sts 1 (pc' := 172) (ls' := [some (.inr (.inr 103)), some (.inl x1), some (.inl x2), some (.inl x3), some (.inl x4), some (.inl x5), some (.inl x6)]) (st' := []) (M' := M1) rfl ?_
      obtain ⟨hf1, h⟩ := h
      refine w_iinc rfl rfl hf1 ?_
      refine wp_sts 1 (pc' := 41) (ls' := [some (.inr (.inr 103)), some (.inl x1), some (.inl (x2 + 1)), some (.inl x3), some (.inl x4), some (.inl x5), some (.inl x6)]) (st' := []) (M' := M1) rfl ?_
      exact h
  · replace h := h.2 c
    refine wp_sts 1 (pc' := 102) (ls' := [some (.inr (.inr 103)), some (.inl x1), some (.inl x2), some (.inl x3), some (.inl x4), some (.inl x5), some (.inl x6)]) (st' := [.inr (.inr 103)]) (M' := M) rfl ?_
    refine g_getR (j := 112) rfl hS rfl (str_r hS 103 15 112 rfl) (by decide) ?_
    refine wp_sts 1 (pc' := 106) (ls' := [some (.inr (.inr 103)), some (.inl x1), some (.inl x2), some (.inl x3), some (.inl x4), some (.inl x5), some (.inl x6)]) (st' := [.inl 2, .inr (.inr 112)]) (M' := M) rfl ?_
    refine g_iald (n := 10) rfl hS rfl (by decide) ?_
    refine wp_sts 1 (pc' := 108) (ls' := [some (.inr (.inr 103)), some (.inl x1), some (.inl x2), some (.inl x3), some (.inl x4), some (.inl x5), some (.inl x6)]) (st' := [.inl x3, .inl (M 112 2)]) (M' := M) rfl ?_
    refine c2_ne rfl (fun c => ?_) (fun c => ?_)
    · replace h := h.1 c
      refine wp_sts 2 (pc' := 142) (ls' := [some (.inr (.inr 103)), some (.inl x1), some (.inl x2), some (.inl x3), some (.inl x4), some (.inl x5), some (.inl x6)]) (st' := []) (M' := M) rfl ?_
      obtain ⟨hf1, h⟩ := h
      refine w_iinc rfl rfl hf1 ?_
      refine wp_sts 1 (pc' := 96) (ls' := [some (.inr (.inr 103)), some (.inl x1), some (.inl x2), some (.inl x3), some (.inl x4), some (.inl x5), some (.inl (x6 + (-1)))]) (st' := []) (M' := M) rfl ?_
      exact h
    · replace h := h.2 c
      refine wp_sts 1 (pc' := 112) (ls' := [some (.inr (.inr 103)), some (.inl x1), some (.inl x2), some (.inl x3), some (.inl x4), some (.inl x5), some (.inl x6)]) (st' := [.inr (.inr 103)]) (M' := M) rfl ?_
      refine g_getR (j := 109) rfl hS rfl (str_r hS 103 10 109 rfl) (by decide) ?_
      refine wp_sts 2 (pc' := 118) (ls' := [some (.inr (.inr 103)), some (.inl x1), some (.inl x2), some (.inl x3), some (.inl x4), some (.inl x5), some (.inl x6)]) (st' := [.inl x6, .inl 5, .inr (.inr 109)]) (M' := M) rfl ?_
      obtain ⟨hf1, h⟩ := h
      refine w_imul rfl hf1 ?_
      obtain ⟨hf2, h⟩ := h
      refine g_iald (n := 30) rfl hS rfl hf2 ?_
      refine wp_sts 1 (pc' := 121) (ls' := [some (.inr (.inr 103)), some (.inl x1), some (.inl x2), some (.inl x3), some (.inl x4), some (.inl x5), some (.inl x6)]) (st' := [.inl x3, .inl (M 109 (5 * x6).toNat)]) (M' := M) rfl ?_
      refine c2_ne rfl (fun c => ?_) (fun c => ?_)
      · replace h := h.1 c
        refine wp_sts 2 (pc' := 142) (ls' := [some (.inr (.inr 103)), some (.inl x1), some (.inl x2), some (.inl x3), some (.inl x4), some (.inl x5), some (.inl x6)]) (st' := []) (M' := M) rfl ?_
        obtain ⟨hf3, h⟩ := h
        refine w_iinc rfl rfl hf3 ?_
        refine wp_sts 1 (pc' := 96) (ls' := [some (.inr (.inr 103)), some (.inl x1), some (.inl x2), some (.inl x3), some (.inl x4), some (.inl x5), some (.inl (x6 + (-1)))]) (st' := []) (M' := M) rfl ?_
        exact h
      · replace h := h.2 c
        refine wp_sts 2 (pc' := 127) (ls' := [some (.inr (.inr 103)), some (.inl x1), some (.inl x2), some (.inl x3), some (.inl x4), some (.inl x5), some (.inl x6)]) (st' := [.inl x6, .inr (.inr 103)]) (M' := M) rfl ?_
        obtain ⟨r1, M1, he, hS1, h⟩ := h
        refine g_callI (c := 128) (as := [.inr (.inr 103), .inl x6]) (rs := []) rfl rfl hS hd rfl he ?_
        refine c1_ne rfl (fun c => ?_) (fun c => ?_)
        · replace h := h.1 c
          refine wp_sts 2 (pc' := 142) (ls' := [some (.inr (.inr 103)), some (.inl x1), some (.inl x2), some (.inl x3), some (.inl x4), some (.inl x5), some (.inl x6)]) (st' := []) (M' := M1) rfl ?_
          obtain ⟨hf3, h⟩ := h
          refine w_iinc rfl rfl hf3 ?_
          refine wp_sts 1 (pc' := 96) (ls' := [some (.inr (.inr 103)), some (.inl x1), some (.inl x2), some (.inl x3), some (.inl x4), some (.inl x5), some (.inl (x6 + (-1)))]) (st' := []) (M' := M1) rfl ?_
          exact h
        · replace h := h.2 c
          refine wp_sts 3 (pc' := 142) (ls' := [some (.inr (.inr 103)), some (.inl x1), some (.inl x2), some (.inl x3), some (.inl x4), some (.inl x6), some (.inl x6)]) (st' := []) (M' := M1) rfl ?_
          obtain ⟨hf3, h⟩ := h
          refine w_iinc rfl rfl hf3 ?_
          refine wp_sts 1 (pc' := 96) (ls' := [some (.inr (.inr 103)), some (.inl x1), some (.inl x2), some (.inl x3), some (.inl x4), some (.inl x6), some (.inl (x6 + (-1)))]) (st' := []) (M' := M1) rfl ?_
          exact h
/- Model.endBehind, at 0 -/
theorem b148_0 {d t : Nat}  {x1 : Int} {x2 : Int} {x3 : Int} {M : ab_M} {Q : Option ab_V → ab_M → Prop} (hd : 1 ≤ d) (hS : pu_str t M)  (h : ab_rg (7 * x2) ∧ ∃ r1 M1, ab_ev (d - 1) 139 [.inr (.inr 103), .inl x3] M (some (.inl r1)) M1 ∧ pu_str t M1 ∧ ab_rg ((7 * x2) + r1) ∧ (0 ≤ (7 * x2) + r1 ∧ (7 * x2) + r1 < 49) ∧ (1000000 ≤ x1 → ab_wp d 148 50 [some (.inr (.inr 103)), some (.inl x1), some (.inl x2), some (.inl x3), some (.inl (M1 105 ((7 * x2) + r1).toNat)), none] [.inl 1000000] M1 Q) ∧ (x1 < 1000000 → (M1 105 ((7 * x2) + r1).toNat < 1000000 → ab_rg (x1 + (M1 105 ((7 * x2) + r1).toNat)) ∧ ab_rg (5 * x3) ∧ ab_rg ((5 * x3) + 1) ∧ (0 ≤ (5 * x3) + 1 ∧ (5 * x3) + 1 < 30) ∧ ab_rg ((x1 + (M1 105 ((7 * x2) + r1).toNat)) + (M1 109 ((5 * x3) + 1).toNat)) ∧ ab_wp d 148 50 [some (.inr (.inr 103)), some (.inl x1), some (.inl x2), some (.inl x3), some (.inl (M1 105 ((7 * x2) + r1).toNat)), none] [.inl ((x1 + (M1 105 ((7 * x2) + r1).toNat)) + (M1 109 ((5 * x3) + 1).toNat))] M1 Q) ∧ (1000000 ≤ M1 105 ((7 * x2) + r1).toNat → ab_wp d 148 50 [some (.inr (.inr 103)), some (.inl x1), some (.inl x2), some (.inl x3), some (.inl (M1 105 ((7 * x2) + r1).toNat)), none] [.inl 1000000] M1 Q))) : ab_wp d 148 0 [some (.inr (.inr 103)), some (.inl x1), some (.inl x2), some (.inl x3), none, none] [] M Q := by
  refine wp_sts 1 (pc' := 1) (ls' := [some (.inr (.inr 103)), some (.inl x1), some (.inl x2), some (.inl x3), none, none]) (st' := [.inr (.inr 103)]) (M' := M) rfl ?_
  refine g_getR (j := 105) rfl hS rfl (str_r hS 103 5 105 rfl) (by decide) ?_
  refine wp_sts 2 (pc' := 7) (ls' := [some (.inr (.inr 103)), some (.inl x1), some (.inl x2), some (.inl x3), none, none]) (st' := [.inl x2, .inl 7, .inr (.inr 105)]) (M' := M) rfl ?_
  obtain ⟨hf1, h⟩ := h
  refine w_imul rfl hf1 ?_
  refine wp_sts 2 (pc' := 10) (ls' := [some (.inr (.inr 103)), some (.inl x1), some (.inl x2), some (.inl x3), none, none]) (st' := [.inl x3, .inr (.inr 103), .inl (7 * x2), .inr (.inr 105)]) (M' := M) rfl ?_
  obtain ⟨r1, M1, he, hS1, h⟩ := h
  refine g_callI (c := 139) (as := [.inr (.inr 103), .inl x3]) (rs := [.inl (7 * x2), .inr (.inr 105)]) rfl rfl hS hd rfl he ?_
  obtain ⟨hf2, h⟩ := h
  refine w_iadd rfl hf2 ?_
  obtain ⟨hf3, h⟩ := h
  refine g_iald (n := 49) rfl hS1 rfl hf3 ?_
  refine wp_sts 3 (pc' := 20) (ls' := [some (.inr (.inr 103)), some (.inl x1), some (.inl x2), some (.inl x3), some (.inl (M1 105 ((7 * x2) + r1).toNat)), none]) (st' := [.inl 1000000, .inl x1]) (M' := M1) rfl ?_
  refine c2_ge rfl (fun c => ?_) (fun c => ?_)
  · replace h := h.1 c
    refine wp_sts 2 (pc' := 50) (ls' := [some (.inr (.inr 103)), some (.inl x1), some (.inl x2), some (.inl x3), some (.inl (M1 105 ((7 * x2) + r1).toNat)), none]) (st' := [.inl 1000000]) (M' := M1) rfl ?_
    exact h
  · replace h := h.2 c
    refine wp_sts 2 (pc' := 27) (ls' := [some (.inr (.inr 103)), some (.inl x1), some (.inl x2), some (.inl x3), some (.inl (M1 105 ((7 * x2) + r1).toNat)), none]) (st' := [.inl 1000000, .inl (M1 105 ((7 * x2) + r1).toNat)]) (M' := M1) rfl ?_
    refine c2_lt rfl (fun c => ?_) (fun c => ?_)
    · replace h := h.1 c
      refine wp_sts 2 (pc' := 38) (ls' := [some (.inr (.inr 103)), some (.inl x1), some (.inl x2), some (.inl x3), some (.inl (M1 105 ((7 * x2) + r1).toNat)), none]) (st' := [.inl (M1 105 ((7 * x2) + r1).toNat), .inl x1]) (M' := M1) rfl ?_
      obtain ⟨hf4, h⟩ := h
      refine w_iadd rfl hf4 ?_
      refine wp_sts 1 (pc' := 40) (ls' := [some (.inr (.inr 103)), some (.inl x1), some (.inl x2), some (.inl x3), some (.inl (M1 105 ((7 * x2) + r1).toNat)), none]) (st' := [.inr (.inr 103), .inl (x1 + (M1 105 ((7 * x2) + r1).toNat))]) (M' := M1) rfl ?_
      refine g_getR (j := 109) rfl hS1 rfl (str_r hS1 103 10 109 rfl) (by decide) ?_
      refine wp_sts 2 (pc' := 45) (ls' := [some (.inr (.inr 103)), some (.inl x1), some (.inl x2), some (.inl x3), some (.inl (M1 105 ((7 * x2) + r1).toNat)), none]) (st' := [.inl x3, .inl 5, .inr (.inr 109), .inl (x1 + (M1 105 ((7 * x2) + r1).toNat))]) (M' := M1) rfl ?_
      obtain ⟨hf5, h⟩ := h
      refine w_imul rfl hf5 ?_
      refine wp_sts 1 (pc' := 47) (ls' := [some (.inr (.inr 103)), some (.inl x1), some (.inl x2), some (.inl x3), some (.inl (M1 105 ((7 * x2) + r1).toNat)), none]) (st' := [.inl 1, .inl (5 * x3), .inr (.inr 109), .inl (x1 + (M1 105 ((7 * x2) + r1).toNat))]) (M' := M1) rfl ?_
      obtain ⟨hf6, h⟩ := h
      refine w_iadd rfl hf6 ?_
      obtain ⟨hf7, h⟩ := h
      refine g_iald (n := 30) rfl hS1 rfl hf7 ?_
      obtain ⟨hf8, h⟩ := h
      refine w_iadd rfl hf8 ?_
      exact h
    · replace h := h.2 c
      refine wp_sts 2 (pc' := 50) (ls' := [some (.inr (.inr 103)), some (.inl x1), some (.inl x2), some (.inl x3), some (.inl (M1 105 ((7 * x2) + r1).toNat)), none]) (st' := [.inl 1000000]) (M' := M1) rfl ?_
      exact h
/- Model.endBehind, at 50 -/
theorem b148_50 {d t : Nat}  {x1 : Int} {x2 : Int} {x3 : Int} {x4 : Int} {x100 : Int} {M : ab_M} {Q : Option ab_V → ab_M → Prop} (hd : 1 ≤ d) (hS : pu_str t M)  (h : ab_rg (5 * x3) ∧ ab_rg ((5 * x3) + 2) ∧ (0 ≤ (5 * x3) + 2 ∧ (5 * x3) + 2 < 30) ∧ (x100 ≤ M 109 ((5 * x3) + 2).toNat → Q (some (.inl x100)) M) ∧ (M 109 ((5 * x3) + 2).toNat < x100 → Q (some (.inl 1000000)) M)) : ab_wp d 148 50 [some (.inr (.inr 103)), some (.inl x1), some (.inl x2), some (.inl x3), some (.inl x4), none] [.inl x100] M Q := by
  refine wp_sts 3 (pc' := 55) (ls' := [some (.inr (.inr 103)), some (.inl x1), some (.inl x2), some (.inl x3), some (.inl x4), some (.inl x100)]) (st' := [.inr (.inr 103), .inl x100]) (M' := M) rfl ?_
  refine g_getR (j := 109) rfl hS rfl (str_r hS 103 10 109 rfl) (by decide) ?_
  refine wp_sts 2 (pc' := 60) (ls' := [some (.inr (.inr 103)), some (.inl x1), some (.inl x2), some (.inl x3), some (.inl x4), some (.inl x100)]) (st' := [.inl x3, .inl 5, .inr (.inr 109), .inl x100]) (M' := M) rfl ?_
  obtain ⟨hf1, h⟩ := h
  refine w_imul rfl hf1 ?_
  refine wp_sts 1 (pc' := 62) (ls' := [some (.inr (.inr 103)), some (.inl x1), some (.inl x2), some (.inl x3), some (.inl x4), some (.inl x100)]) (st' := [.inl 2, .inl (5 * x3), .inr (.inr 109), .inl x100]) (M' := M) rfl ?_
  obtain ⟨hf2, h⟩ := h
  refine w_iadd rfl hf2 ?_
  obtain ⟨hf3, h⟩ := h
  refine g_iald (n := 30) rfl hS rfl hf3 ?_
  refine c2_le rfl (fun c => ?_) (fun c => ?_)
  · replace h := h.1 c
    refine wp_sts 1 (pc' := 74) (ls' := [some (.inr (.inr 103)), some (.inl x1), some (.inl x2), some (.inl x3), some (.inl x4), some (.inl x100)]) (st' := [.inl x100]) (M' := M) rfl ?_
    exact wp_ret rfl rfl (z := (some (.inl x100), M)) rfl h
  · replace h := h.2 c
    refine wp_sts 2 (pc' := 74) (ls' := [some (.inr (.inr 103)), some (.inl x1), some (.inl x2), some (.inl x3), some (.inl x4), some (.inl x100)]) (st' := [.inl 1000000]) (M' := M) rfl ?_
    exact wp_ret rfl rfl (z := (some (.inl 1000000), M)) rfl h
/- Model.findEnds, at 0 -/
set_option maxRecDepth 100000 in
theorem b149_0 {d t : Nat}  {x1 : Int} {x2 : Int} {x3 : Int} {M : ab_M} {Q : Option ab_V → ab_M → Prop} (hd : 1 ≤ d) (hS : pu_str t M)  (h : ab_wp d 149 3 [some (.inr (.inr 103)), some (.inl x1), some (.inl x2), some (.inl x3), some (.inl 1), none, none, none, none, none] [] M Q) : ab_wp d 149 0 [some (.inr (.inr 103)), some (.inl x1), some (.inl x2), some (.inl x3), none, none, none, none, none, none] [] M Q := by
  refine wp_sts 2 (pc' := 3) (ls' := [some (.inr (.inr 103)), some (.inl x1), some (.inl x2), some (.inl x3), some (.inl 1), none, none, none, none, none]) (st' := []) (M' := M) rfl ?_
  exact h
/- Model.findEnds, at 3 -/
set_option maxRecDepth 100000 in
theorem b149_3 {d t : Nat}  {x1 : Int} {x2 : Int} {x3 : Int} {x4 : Int} {y5 : Option ab_V} {y6 : Option ab_V} {y7 : Option ab_V} {y8 : Option ab_V} {y9 : Option ab_V} {M : ab_M} {Q : Option ab_V → ab_M → Prop} (hd : 1 ≤ d) (hS : pu_str t M)  (h : (64 ≤ x4 → Q none M) ∧ (x4 < 64 → ab_wp d 149 13 [some (.inr (.inr 103)), some (.inl x1), some (.inl x2), some (.inl x3), some (.inl x4), some (.inl 0), y6, y7, y8, y9] [] M Q)) : ab_wp d 149 3 [some (.inr (.inr 103)), some (.inl x1), some (.inl x2), some (.inl x3), some (.inl x4), y5, y6, y7, y8, y9] [] M Q := by
  refine wp_sts 2 (pc' := 7) (ls' := [some (.inr (.inr 103)), some (.inl x1), some (.inl x2), some (.inl x3), some (.inl x4), y5, y6, y7, y8, y9]) (st' := [.inl 64, .inl x4]) (M' := M) rfl ?_
  refine c2_ge rfl (fun c => ?_) (fun c => ?_)
  · replace h := h.1 c
    exact wp_ret rfl rfl rfl h
  · replace h := h.2 c
    refine wp_sts 2 (pc' := 13) (ls' := [some (.inr (.inr 103)), some (.inl x1), some (.inl x2), some (.inl x3), some (.inl x4), some (.inl 0), y6, y7, y8, y9]) (st' := []) (M' := M) rfl ?_
    exact h
/- Model.findEnds, at 13 -/
set_option maxRecDepth 100000 in
theorem b149_13 {d t : Nat}  {x1 : Int} {x2 : Int} {x3 : Int} {x4 : Int} {x5 : Int} {y6 : Option ab_V} {y7 : Option ab_V} {y8 : Option ab_V} {y9 : Option ab_V} {M : ab_M} {Q : Option ab_V → ab_M → Prop} (hd : 1 ≤ d) (hS : pu_str t M)  (h : (6 ≤ x5 → ab_rg (x4 + 1) ∧ ab_wp d 149 3 [some (.inr (.inr 103)), some (.inl x1), some (.inl x2), some (.inl x3), some (.inl (x4 + 1)), some (.inl x5), y6, y7, y8, y9] [] M Q) ∧ (x5 < 6 → ab_rg (6 * x4) ∧ ab_rg ((6 * x4) + x5) ∧ (0 ≤ (6 * x4) + x5 ∧ (6 * x4) + x5 < 384) ∧ ∃ r1 M1, ab_ev (d - 1) 108 [.inl x4, .inl x5] (ab_w M 120 ((6 * x4) + x5).toNat 1000000) (some (.inl r1)) M1 ∧ pu_str t M1 ∧ (r1 = 0 → ab_rg (x5 + 1) ∧ ab_wp d 149 13 [some (.inr (.inr 103)), some (.inl x1), some (.inl x2), some (.inl x3), some (.inl x4), some (.inl (x5 + 1)), y6, y7, y8, y9] [] M1 Q) ∧ (r1 ≠ 0 → (ab_and x4 (ab_xor x3 ((-1))) ≠ 0 → ab_rg (x5 + 1) ∧ ab_wp d 149 13 [some (.inr (.inr 103)), some (.inl x1), some (.inl x2), some (.inl x3), some (.inl x4), some (.inl (x5 + 1)), y6, y7, y8, y9] [] M1 Q) ∧ (ab_and x4 (ab_xor x3 ((-1))) = 0 → (ab_and x4 (ab_xor (ab_shl 1 x5) ((-1))) ≠ 0 → ab_wp d 149 88 [some (.inr (.inr 103)), some (.inl x1), some (.inl x2), some (.inl x3), some (.inl x4), some (.inl x5), some (.inl (ab_and x4 (ab_xor (ab_shl 1 x5) ((-1))))), some (.inl 1000000), some (.inl 0), y9] [] M1 Q) ∧ (ab_and x4 (ab_xor (ab_shl 1 x5) ((-1))) = 0 → ∃ r2 M2, ab_ev (d - 1) 148 [.inr (.inr 103), .inl x1, .inl x2, .inl x5] M1 (some (.inl r2)) M2 ∧ pu_str t M2 ∧ ab_wp d 149 88 [some (.inr (.inr 103)), some (.inl x1), some (.inl x2), some (.inl x3), some (.inl x4), some (.inl x5), some (.inl (ab_and x4 (ab_xor (ab_shl 1 x5) ((-1))))), some (.inl r2), some (.inl 0), y9] [] M2 Q))))) : ab_wp d 149 13 [some (.inr (.inr 103)), some (.inl x1), some (.inl x2), some (.inl x3), some (.inl x4), some (.inl x5), y6, y7, y8, y9] [] M Q := by
  refine wp_sts 2 (pc' := 17) (ls' := [some (.inr (.inr 103)), some (.inl x1), some (.inl x2), some (.inl x3), some (.inl x4), some (.inl x5), y6, y7, y8, y9]) (st' := [.inl 6, .inl x5]) (M' := M) rfl ?_
  refine c2_ge rfl (fun c => ?_) (fun c => ?_)
  · replace h := h.1 c
    obtain ⟨hf1, h⟩ := h
    refine w_iinc rfl rfl hf1 ?_
    refine wp_sts 1 (pc' := 3) (ls' := [some (.inr (.inr 103)), some (.inl x1), some (.inl x2), some (.inl x3), some (.inl (x4 + 1)), some (.inl x5), y6, y7, y8, y9]) (st' := []) (M' := M) rfl ?_
    exact h
  · replace h := h.2 c
    refine wp_sts 1 (pc' := 21) (ls' := [some (.inr (.inr 103)), some (.inl x1), some (.inl x2), some (.inl x3), some (.inl x4), some (.inl x5), y6, y7, y8, y9]) (st' := [.inr (.inr 103)]) (M' := M) rfl ?_
    refine g_getR (j := 120) rfl hS rfl (str_r hS 103 37 120 rfl) (by decide) ?_
    refine wp_sts 2 (pc' := 28) (ls' := [some (.inr (.inr 103)), some (.inl x1), some (.inl x2), some (.inl x3), some (.inl x4), some (.inl x5), y6, y7, y8, y9]) (st' := [.inl x4, .inl 6, .inr (.inr 120)]) (M' := M) rfl ?_
    obtain ⟨hf1, h⟩ := h
    refine w_imul rfl hf1 ?_
    refine wp_sts 1 (pc' := 31) (ls' := [some (.inr (.inr 103)), some (.inl x1), some (.inl x2), some (.inl x3), some (.inl x4), some (.inl x5), y6, y7, y8, y9]) (st' := [.inl x5, .inl (6 * x4), .inr (.inr 120)]) (M' := M) rfl ?_
    obtain ⟨hf2, h⟩ := h
    refine w_iadd rfl hf2 ?_
    refine wp_sts 1 (pc' := 34) (ls' := [some (.inr (.inr 103)), some (.inl x1), some (.inl x2), some (.inl x3), some (.inl x4), some (.inl x5), y6, y7, y8, y9]) (st' := [.inl 1000000, .inl ((6 * x4) + x5), .inr (.inr 120)]) (M' := M) rfl ?_
    obtain ⟨hf3, h⟩ := h
    refine g_iast (n := 384) rfl hS rfl hf3 ?_
    refine wp_sts 2 (pc' := 39) (ls' := [some (.inr (.inr 103)), some (.inl x1), some (.inl x2), some (.inl x3), some (.inl x4), some (.inl x5), y6, y7, y8, y9]) (st' := [.inl x5, .inl x4]) (M' := (ab_w M 120 ((6 * x4) + x5).toNat 1000000)) rfl ?_
    obtain ⟨r1, M1, he, hS1, h⟩ := h
    refine g_callI (c := 108) (as := [.inl x4, .inl x5]) (rs := []) rfl rfl (str_a (k := 120) (f := ((6 * x4) + x5).toNat) (v := 1000000) hS rfl) hd rfl he ?_
    refine c1_eq rfl (fun c => ?_) (fun c => ?_)
    · replace h := h.1 c
      obtain ⟨hf4, h⟩ := h
      refine w_iinc rfl rfl hf4 ?_
      refine wp_sts 1 (pc' := 13) (ls' := [some (.inr (.inr 103)), some (.inl x1), some (.inl x2), some (.inl x3), some (.inl x4), some (.inl (x5 + 1)), y6, y7, y8, y9]) (st' := []) (M' := M1) rfl ?_
      exact h
    · replace h := h.2 c
      refine wp_sts 5 (pc' := 51) (ls' := [some (.inr (.inr 103)), some (.inl x1), some (.inl x2), some (.inl x3), some (.inl x4), some (.inl x5), y6, y7, y8, y9]) (st' := [.inl (ab_and x4 (ab_xor x3 ((-1))))]) (M' := M1) rfl ?_
      refine c1_ne rfl (fun c => ?_) (fun c => ?_)
      · replace h := h.1 c
        obtain ⟨hf4, h⟩ := h
        refine w_iinc rfl rfl hf4 ?_
        refine wp_sts 1 (pc' := 13) (ls' := [some (.inr (.inr 103)), some (.inl x1), some (.inl x2), some (.inl x3), some (.inl x4), some (.inl (x5 + 1)), y6, y7, y8, y9]) (st' := []) (M' := M1) rfl ?_
        exact h
      · replace h := h.2 c
        refine wp_sts 9 (pc' := 67) (ls' := [some (.inr (.inr 103)), some (.inl x1), some (.inl x2), some (.inl x3), some (.inl x4), some (.inl x5), some (.inl (ab_and x4 (ab_xor (ab_shl 1 x5) ((-1))))), y7, y8, y9]) (st' := [.inl (ab_and x4 (ab_xor (ab_shl 1 x5) ((-1))))]) (M' := M1) rfl ?_
        refine c1_ne rfl (fun c => ?_) (fun c => ?_)
        · replace h := h.1 c
          refine wp_sts 4 (pc' := 88) (ls' := [some (.inr (.inr 103)), some (.inl x1), some (.inl x2), some (.inl x3), some (.inl x4), some (.inl x5), some (.inl (ab_and x4 (ab_xor (ab_shl 1 x5) ((-1))))), some (.inl 1000000), some (.inl 0), y9]) (st' := []) (M' := M1) rfl ?_
          exact h
        · replace h := h.2 c
          refine wp_sts 4 (pc' := 75) (ls' := [some (.inr (.inr 103)), some (.inl x1), some (.inl x2), some (.inl x3), some (.inl x4), some (.inl x5), some (.inl (ab_and x4 (ab_xor (ab_shl 1 x5) ((-1))))), y7, y8, y9]) (st' := [.inl x5, .inl x2, .inl x1, .inr (.inr 103)]) (M' := M1) rfl ?_
          obtain ⟨r2, M2, he, hS2, h⟩ := h
          refine g_callI (c := 148) (as := [.inr (.inr 103), .inl x1, .inl x2, .inl x5]) (rs := []) rfl rfl hS1 hd rfl he ?_
          refine wp_sts 4 (pc' := 88) (ls' := [some (.inr (.inr 103)), some (.inl x1), some (.inl x2), some (.inl x3), some (.inl x4), some (.inl x5), some (.inl (ab_and x4 (ab_xor (ab_shl 1 x5) ((-1))))), some (.inl r2), some (.inl 0), y9]) (st' := []) (M' := M2) rfl ?_
          exact h
/- Model.findEnds, at 88 -/
set_option maxRecDepth 100000 in
theorem b149_88 {d t : Nat}  {x1 : Int} {x2 : Int} {x3 : Int} {x4 : Int} {x5 : Int} {x6 : Int} {x7 : Int} {x8 : Int} {y9 : Option ab_V} {M : ab_M} {Q : Option ab_V → ab_M → Prop} (hd : 1 ≤ d) (hS : pu_str t M)  (h : (M 103 11 ≤ x8 → ab_rg (6 * x4) ∧ ab_rg ((6 * x4) + x5) ∧ (0 ≤ (6 * x4) + x5 ∧ (6 * x4) + x5 < 384) ∧ ab_rg (x5 + 1) ∧ ab_wp d 149 13 [some (.inr (.inr 103)), some (.inl x1), some (.inl x2), some (.inl x3), some (.inl x4), some (.inl (x5 + 1)), some (.inl x6), some (.inl x7), some (.inl x8), y9] [] (ab_w M 120 ((6 * x4) + x5).toNat x7) Q) ∧ (x8 < M 103 11 → ∃ r1 M1, ab_ev (d - 1) 108 [.inl x6, .inl x8] M (some (.inl r1)) M1 ∧ pu_str t M1 ∧ (r1 = 0 → (x7 ≤ 1000000 → ab_rg (x8 + 1) ∧ ab_wp d 149 88 [some (.inr (.inr 103)), some (.inl x1), some (.inl x2), some (.inl x3), some (.inl x4), some (.inl x5), some (.inl x6), some (.inl x7), some (.inl (x8 + 1)), some (.inl 1000000)] [] M1 Q) ∧ (1000000 < x7 → ab_rg (x8 + 1) ∧ ab_wp d 149 88 [some (.inr (.inr 103)), some (.inl x1), some (.inl x2), some (.inl x3), some (.inl x4), some (.inl x5), some (.inl x6), some (.inl 1000000), some (.inl (x8 + 1)), some (.inl 1000000)] [] M1 Q)) ∧ (r1 ≠ 0 → ab_rg (6 * x6) ∧ ab_rg ((6 * x6) + x8) ∧ (0 ≤ (6 * x6) + x8 ∧ (6 * x6) + x8 < 384) ∧ ∃ r2 M2, ab_ev (d - 1) 139 [.inr (.inr 103), .inl x8] M1 (some (.inl r2)) M2 ∧ pu_str t M2 ∧ ∃ r3 M3, ab_ev (d - 1) 148 [.inr (.inr 103), .inl (M1 120 ((6 * x6) + x8).toNat), .inl r2, .inl x5] M2 (some (.inl r3)) M3 ∧ pu_str t M3 ∧ (x7 ≤ r3 → ab_rg (x8 + 1) ∧ ab_wp d 149 88 [some (.inr (.inr 103)), some (.inl x1), some (.inl x2), some (.inl x3), some (.inl x4), some (.inl x5), some (.inl x6), some (.inl x7), some (.inl (x8 + 1)), some (.inl r3)] [] M3 Q) ∧ (r3 < x7 → ab_rg (x8 + 1) ∧ ab_wp d 149 88 [some (.inr (.inr 103)), some (.inl x1), some (.inl x2), some (.inl x3), some (.inl x4), some (.inl x5), some (.inl x6), some (.inl r3), some (.inl (x8 + 1)), some (.inl r3)] [] M3 Q)))) : ab_wp d 149 88 [some (.inr (.inr 103)), some (.inl x1), some (.inl x2), some (.inl x3), some (.inl x4), some (.inl x5), some (.inl x6), some (.inl x7), some (.inl x8), y9] [] M Q := by
  refine wp_sts 2 (pc' := 91) (ls' := [some (.inr (.inr 103)), some (.inl x1), some (.inl x2), some (.inl x3), some (.inl x4), some (.inl x5), some (.inl x6), some (.inl x7), some (.inl x8), y9]) (st' := [.inr (.inr 103), .inl x8]) (M' := M) rfl ?_
  refine g_getI rfl hS rfl ?_
  refine c2_ge rfl (fun c => ?_) (fun c => ?_)
  · replace h := h.1 c
    refine wp_sts 1 (pc' := 162) (ls' := [some (.inr (.inr 103)), some (.inl x1), some (.inl x2), some (.inl x3), some (.inl x4), some (.inl x5), some (.inl x6), some (.inl x7), some (.inl x8), y9]) (st' := [.inr (.inr 103)]) (M' := M) rfl ?_
    refine g_getR (j := 120) rfl hS rfl (str_r hS 103 37 120 rfl) (by decide) ?_
    refine wp_sts 2 (pc' := 169) (ls' := [some (.inr (.inr 103)), some (.inl x1), some (.inl x2), some (.inl x3), some (.inl x4), some (.inl x5), some (.inl x6), some (.inl x7), some (.inl x8), y9]) (st' := [.inl x4, .inl 6, .inr (.inr 120)]) (M' := M) rfl ?_
    obtain ⟨hf1, h⟩ := h
    refine w_imul rfl hf1 ?_
    refine wp_sts 1 (pc' := 172) (ls' := [some (.inr (.inr 103)), some (.inl x1), some (.inl x2), some (.inl x3), some (.inl x4), some (.inl x5), some (.inl x6), some (.inl x7), some (.inl x8), y9]) (st' := [.inl x5, .inl (6 * x4), .inr (.inr 120)]) (M' := M) rfl ?_
    obtain ⟨hf2, h⟩ := h
    refine w_iadd rfl hf2 ?_
    refine wp_sts 1 (pc' := 175) (ls' := [some (.inr (.inr 103)), some (.inl x1), some (.inl x2), some (.inl x3), some (.inl x4), some (.inl x5), some (.inl x6), some (.inl x7), some (.inl x8), y9]) (st' := [.inl x7, .inl ((6 * x4) + x5), .inr (.inr 120)]) (M' := M) rfl ?_
    obtain ⟨hf3, h⟩ := h
    refine g_iast (n := 384) rfl hS rfl hf3 ?_
    obtain ⟨hf4, h⟩ := h
    refine w_iinc rfl rfl hf4 ?_
    refine wp_sts 1 (pc' := 13) (ls' := [some (.inr (.inr 103)), some (.inl x1), some (.inl x2), some (.inl x3), some (.inl x4), some (.inl (x5 + 1)), some (.inl x6), some (.inl x7), some (.inl x8), y9]) (st' := []) (M' := (ab_w M 120 ((6 * x4) + x5).toNat x7)) rfl ?_
    exact h
  · replace h := h.2 c
    refine wp_sts 2 (pc' := 101) (ls' := [some (.inr (.inr 103)), some (.inl x1), some (.inl x2), some (.inl x3), some (.inl x4), some (.inl x5), some (.inl x6), some (.inl x7), some (.inl x8), y9]) (st' := [.inl x8, .inl x6]) (M' := M) rfl ?_
    obtain ⟨r1, M1, he, hS1, h⟩ := h
    refine g_callI (c := 108) (as := [.inl x6, .inl x8]) (rs := []) rfl rfl hS hd rfl he ?_
    refine c1_eq rfl (fun c => ?_) (fun c => ?_)
    · replace h := h.1 c
      refine wp_sts 4 (pc' := 143) (ls' := [some (.inr (.inr 103)), some (.inl x1), some (.inl x2), some (.inl x3), some (.inl x4), some (.inl x5), some (.inl x6), some (.inl x7), some (.inl x8), some (.inl 1000000)]) (st' := [.inl x7, .inl 1000000]) (M' := M1) rfl ?_
      refine c2_ge rfl (fun c => ?_) (fun c => ?_)
      · replace h := h.1 c
        refine wp_sts 2 (pc' := 155) (ls' := [some (.inr (.inr 103)), some (.inl x1), some (.inl x2), some (.inl x3), some (.inl x4), some (.inl x5), some (.inl x6), some (.inl x7), some (.inl x8), some (.inl 1000000)]) (st' := []) (M' := M1) rfl ?_
        obtain ⟨hf1, h⟩ := h
        refine w_iinc rfl rfl hf1 ?_
        refine wp_sts 1 (pc' := 88) (ls' := [some (.inr (.inr 103)), some (.inl x1), some (.inl x2), some (.inl x3), some (.inl x4), some (.inl x5), some (.inl x6), some (.inl x7), some (.inl (x8 + 1)), some (.inl 1000000)]) (st' := []) (M' := M1) rfl ?_
        exact h
      · replace h := h.2 c
        refine wp_sts 3 (pc' := 155) (ls' := [some (.inr (.inr 103)), some (.inl x1), some (.inl x2), some (.inl x3), some (.inl x4), some (.inl x5), some (.inl x6), some (.inl 1000000), some (.inl x8), some (.inl 1000000)]) (st' := []) (M' := M1) rfl ?_
        obtain ⟨hf1, h⟩ := h
        refine w_iinc rfl rfl hf1 ?_
        refine wp_sts 1 (pc' := 88) (ls' := [some (.inr (.inr 103)), some (.inl x1), some (.inl x2), some (.inl x3), some (.inl x4), some (.inl x5), some (.inl x6), some (.inl 1000000), some (.inl (x8 + 1)), some (.inl 1000000)]) (st' := []) (M' := M1) rfl ?_
        exact h
    · replace h := h.2 c
      refine wp_sts 2 (pc' := 109) (ls' := [some (.inr (.inr 103)), some (.inl x1), some (.inl x2), some (.inl x3), some (.inl x4), some (.inl x5), some (.inl x6), some (.inl x7), some (.inl x8), y9]) (st' := [.inr (.inr 103), .inr (.inr 103)]) (M' := M1) rfl ?_
      refine g_getR (j := 120) rfl hS1 rfl (str_r hS1 103 37 120 rfl) (by decide) ?_
      refine wp_sts 2 (pc' := 116) (ls' := [some (.inr (.inr 103)), some (.inl x1), some (.inl x2), some (.inl x3), some (.inl x4), some (.inl x5), some (.inl x6), some (.inl x7), some (.inl x8), y9]) (st' := [.inl x6, .inl 6, .inr (.inr 120), .inr (.inr 103)]) (M' := M1) rfl ?_
      obtain ⟨hf1, h⟩ := h
      refine w_imul rfl hf1 ?_
      refine wp_sts 1 (pc' := 119) (ls' := [some (.inr (.inr 103)), some (.inl x1), some (.inl x2), some (.inl x3), some (.inl x4), some (.inl x5), some (.inl x6), some (.inl x7), some (.inl x8), y9]) (st' := [.inl x8, .inl (6 * x6), .inr (.inr 120), .inr (.inr 103)]) (M' := M1) rfl ?_
      obtain ⟨hf2, h⟩ := h
      refine w_iadd rfl hf2 ?_
      obtain ⟨hf3, h⟩ := h
      refine g_iald (n := 384) rfl hS1 rfl hf3 ?_
      refine wp_sts 2 (pc' := 124) (ls' := [some (.inr (.inr 103)), some (.inl x1), some (.inl x2), some (.inl x3), some (.inl x4), some (.inl x5), some (.inl x6), some (.inl x7), some (.inl x8), y9]) (st' := [.inl x8, .inr (.inr 103), .inl (M1 120 ((6 * x6) + x8).toNat), .inr (.inr 103)]) (M' := M1) rfl ?_
      obtain ⟨r2, M2, he, hS2, h⟩ := h
      refine g_callI (c := 139) (as := [.inr (.inr 103), .inl x8]) (rs := [.inl (M1 120 ((6 * x6) + x8).toNat), .inr (.inr 103)]) rfl rfl hS1 hd rfl he ?_
      refine wp_sts 1 (pc' := 129) (ls' := [some (.inr (.inr 103)), some (.inl x1), some (.inl x2), some (.inl x3), some (.inl x4), some (.inl x5), some (.inl x6), some (.inl x7), some (.inl x8), y9]) (st' := [.inl x5, .inl r2, .inl (M1 120 ((6 * x6) + x8).toNat), .inr (.inr 103)]) (M' := M2) rfl ?_
      obtain ⟨r3, M3, he, hS3, h⟩ := h
      refine g_callI (c := 148) (as := [.inr (.inr 103), .inl (M1 120 ((6 * x6) + x8).toNat), .inl r2, .inl x5]) (rs := []) rfl rfl hS2 hd rfl he ?_
      refine wp_sts 4 (pc' := 143) (ls' := [some (.inr (.inr 103)), some (.inl x1), some (.inl x2), some (.inl x3), some (.inl x4), some (.inl x5), some (.inl x6), some (.inl x7), some (.inl x8), some (.inl r3)]) (st' := [.inl x7, .inl r3]) (M' := M3) rfl ?_
      refine c2_ge rfl (fun c => ?_) (fun c => ?_)
      · replace h := h.1 c
        refine wp_sts 2 (pc' := 155) (ls' := [some (.inr (.inr 103)), some (.inl x1), some (.inl x2), some (.inl x3), some (.inl x4), some (.inl x5), some (.inl x6), some (.inl x7), some (.inl x8), some (.inl r3)]) (st' := []) (M' := M3) rfl ?_
        obtain ⟨hf4, h⟩ := h
        refine w_iinc rfl rfl hf4 ?_
        refine wp_sts 1 (pc' := 88) (ls' := [some (.inr (.inr 103)), some (.inl x1), some (.inl x2), some (.inl x3), some (.inl x4), some (.inl x5), some (.inl x6), some (.inl x7), some (.inl (x8 + 1)), some (.inl r3)]) (st' := []) (M' := M3) rfl ?_
        exact h
      · replace h := h.2 c
        refine wp_sts 3 (pc' := 155) (ls' := [some (.inr (.inr 103)), some (.inl x1), some (.inl x2), some (.inl x3), some (.inl x4), some (.inl x5), some (.inl x6), some (.inl r3), some (.inl x8), some (.inl r3)]) (st' := []) (M' := M3) rfl ?_
        obtain ⟨hf4, h⟩ := h
        refine w_iinc rfl rfl hf4 ?_
        refine wp_sts 1 (pc' := 88) (ls' := [some (.inr (.inr 103)), some (.inl x1), some (.inl x2), some (.inl x3), some (.inl x4), some (.inl x5), some (.inl x6), some (.inl r3), some (.inl (x8 + 1)), some (.inl r3)]) (st' := []) (M' := M3) rfl ?_
        exact h
/- Model.endOf, at 0 -/
theorem b150_0 {d t : Nat}  {x1 : Int} {x2 : Int} {M : ab_M} {Q : Option ab_V → ab_M → Prop} (hd : 1 ≤ d) (hS : pu_str t M)  (h : (x1 ≠ 0 → ab_wp d 150 14 [some (.inr (.inr 103)), some (.inl x1), some (.inl x2), some (.inl 1000000), some (.inl 0)] [] M Q) ∧ (x1 = 0 → ab_wp d 150 14 [some (.inr (.inr 103)), some (.inl x1), some (.inl x2), some (.inl x2), some (.inl 0)] [] M Q)) : ab_wp d 150 0 [some (.inr (.inr 103)), some (.inl x1), some (.inl x2), none, none] [] M Q := by
  refine wp_sts 1 (pc' := 1) (ls' := [some (.inr (.inr 103)), some (.inl x1), some (.inl x2), none, none]) (st' := [.inl x1]) (M' := M) rfl ?_
  refine c1_ne rfl (fun c => ?_) (fun c => ?_)
  · replace h := h.1 c
    refine wp_sts 4 (pc' := 14) (ls' := [some (.inr (.inr 103)), some (.inl x1), some (.inl x2), some (.inl 1000000), some (.inl 0)]) (st' := []) (M' := M) rfl ?_
    exact h
  · replace h := h.2 c
    refine wp_sts 5 (pc' := 14) (ls' := [some (.inr (.inr 103)), some (.inl x1), some (.inl x2), some (.inl x2), some (.inl 0)]) (st' := []) (M' := M) rfl ?_
    exact h
/- Model.endOf, at 14 -/
theorem b150_14 {d t : Nat}  {x1 : Int} {x2 : Int} {x3 : Int} {x4 : Int} {M : ab_M} {Q : Option ab_V → ab_M → Prop} (hd : 1 ≤ d) (hS : pu_str t M)  (h : (M 103 11 ≤ x4 → Q (some (.inl x3)) M) ∧ (x4 < M 103 11 → ∃ r1 M1, ab_ev (d - 1) 108 [.inl x1, .inl x4] M (some (.inl r1)) M1 ∧ pu_str t M1 ∧ (r1 = 0 → ab_rg (x4 + 1) ∧ ab_wp d 150 14 [some (.inr (.inr 103)), some (.inl x1), some (.inl x2), some (.inl x3), some (.inl (x4 + 1))] [] M1 Q) ∧ (r1 ≠ 0 → ab_rg (6 * x1) ∧ ab_rg ((6 * x1) + x4) ∧ (0 ≤ (6 * x1) + x4 ∧ (6 * x1) + x4 < 384) ∧ (x3 ≤ M1 120 ((6 * x1) + x4).toNat → ab_rg (x4 + 1) ∧ ab_wp d 150 14 [some (.inr (.inr 103)), some (.inl x1), some (.inl x2), some (.inl x3), some (.inl (x4 + 1))] [] M1 Q) ∧ (M1 120 ((6 * x1) + x4).toNat < x3 → ab_rg (x4 + 1) ∧ ab_wp d 150 14 [some (.inr (.inr 103)), some (.inl x1), some (.inl x2), some (.inl (M1 120 ((6 * x1) + x4).toNat)), some (.inl (x4 + 1))] [] M1 Q)))) : ab_wp d 150 14 [some (.inr (.inr 103)), some (.inl x1), some (.inl x2), some (.inl x3), some (.inl x4)] [] M Q := by
  refine wp_sts 2 (pc' := 17) (ls' := [some (.inr (.inr 103)), some (.inl x1), some (.inl x2), some (.inl x3), some (.inl x4)]) (st' := [.inr (.inr 103), .inl x4]) (M' := M) rfl ?_
  refine g_getI rfl hS rfl ?_
  refine c2_ge rfl (fun c => ?_) (fun c => ?_)
  · replace h := h.1 c
    refine wp_sts 1 (pc' := 72) (ls' := [some (.inr (.inr 103)), some (.inl x1), some (.inl x2), some (.inl x3), some (.inl x4)]) (st' := [.inl x3]) (M' := M) rfl ?_
    exact wp_ret rfl rfl (z := (some (.inl x3), M)) rfl h
  · replace h := h.2 c
    refine wp_sts 2 (pc' := 26) (ls' := [some (.inr (.inr 103)), some (.inl x1), some (.inl x2), some (.inl x3), some (.inl x4)]) (st' := [.inl x4, .inl x1]) (M' := M) rfl ?_
    obtain ⟨r1, M1, he, hS1, h⟩ := h
    refine g_callI (c := 108) (as := [.inl x1, .inl x4]) (rs := []) rfl rfl hS hd rfl he ?_
    refine c1_eq rfl (fun c => ?_) (fun c => ?_)
    · replace h := h.1 c
      refine wp_sts 2 (pc' := 65) (ls' := [some (.inr (.inr 103)), some (.inl x1), some (.inl x2), some (.inl x3), some (.inl x4)]) (st' := []) (M' := M1) rfl ?_
      obtain ⟨hf1, h⟩ := h
      refine w_iinc rfl rfl hf1 ?_
      refine wp_sts 1 (pc' := 14) (ls' := [some (.inr (.inr 103)), some (.inl x1), some (.inl x2), some (.inl x3), some (.inl (x4 + 1))]) (st' := []) (M' := M1) rfl ?_
      exact h
    · replace h := h.2 c
      refine wp_sts 1 (pc' := 33) (ls' := [some (.inr (.inr 103)), some (.inl x1), some (.inl x2), some (.inl x3), some (.inl x4)]) (st' := [.inr (.inr 103)]) (M' := M1) rfl ?_
      refine g_getR (j := 120) rfl hS1 rfl (str_r hS1 103 37 120 rfl) (by decide) ?_
      refine wp_sts 2 (pc' := 39) (ls' := [some (.inr (.inr 103)), some (.inl x1), some (.inl x2), some (.inl x3), some (.inl x4)]) (st' := [.inl x1, .inl 6, .inr (.inr 120)]) (M' := M1) rfl ?_
      obtain ⟨hf1, h⟩ := h
      refine w_imul rfl hf1 ?_
      refine wp_sts 1 (pc' := 42) (ls' := [some (.inr (.inr 103)), some (.inl x1), some (.inl x2), some (.inl x3), some (.inl x4)]) (st' := [.inl x4, .inl (6 * x1), .inr (.inr 120)]) (M' := M1) rfl ?_
      obtain ⟨hf2, h⟩ := h
      refine w_iadd rfl hf2 ?_
      obtain ⟨hf3, h⟩ := h
      refine g_iald (n := 384) rfl hS1 rfl hf3 ?_
      refine wp_sts 1 (pc' := 45) (ls' := [some (.inr (.inr 103)), some (.inl x1), some (.inl x2), some (.inl x3), some (.inl x4)]) (st' := [.inl x3, .inl (M1 120 ((6 * x1) + x4).toNat)]) (M' := M1) rfl ?_
      refine c2_ge rfl (fun c => ?_) (fun c => ?_)
      · replace h := h.1 c
        refine wp_sts 2 (pc' := 65) (ls' := [some (.inr (.inr 103)), some (.inl x1), some (.inl x2), some (.inl x3), some (.inl x4)]) (st' := []) (M' := M1) rfl ?_
        obtain ⟨hf4, h⟩ := h
        refine w_iinc rfl rfl hf4 ?_
        refine wp_sts 1 (pc' := 14) (ls' := [some (.inr (.inr 103)), some (.inl x1), some (.inl x2), some (.inl x3), some (.inl (x4 + 1))]) (st' := []) (M' := M1) rfl ?_
        exact h
      · replace h := h.2 c
        refine wp_sts 1 (pc' := 49) (ls' := [some (.inr (.inr 103)), some (.inl x1), some (.inl x2), some (.inl x3), some (.inl x4)]) (st' := [.inr (.inr 103)]) (M' := M1) rfl ?_
        refine g_getR (j := 120) rfl hS1 rfl (str_r hS1 103 37 120 rfl) (by decide) ?_
        refine wp_sts 2 (pc' := 55) (ls' := [some (.inr (.inr 103)), some (.inl x1), some (.inl x2), some (.inl x3), some (.inl x4)]) (st' := [.inl x1, .inl 6, .inr (.inr 120)]) (M' := M1) rfl ?_
        refine w_imul rfl hf1 ?_
        refine wp_sts 1 (pc' := 58) (ls' := [some (.inr (.inr 103)), some (.inl x1), some (.inl x2), some (.inl x3), some (.inl x4)]) (st' := [.inl x4, .inl (6 * x1), .inr (.inr 120)]) (M' := M1) rfl ?_
        refine w_iadd rfl hf2 ?_
        refine g_iald (n := 384) rfl hS1 rfl hf3 ?_
        refine wp_sts 2 (pc' := 65) (ls' := [some (.inr (.inr 103)), some (.inl x1), some (.inl x2), some (.inl (M1 120 ((6 * x1) + x4).toNat)), some (.inl x4)]) (st' := []) (M' := M1) rfl ?_
        obtain ⟨hf4, h⟩ := h
        refine w_iinc rfl rfl hf4 ?_
        refine wp_sts 1 (pc' := 14) (ls' := [some (.inr (.inr 103)), some (.inl x1), some (.inl x2), some (.inl (M1 120 ((6 * x1) + x4).toNat)), some (.inl (x4 + 1))]) (st' := []) (M' := M1) rfl ?_
        exact h
