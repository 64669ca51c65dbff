/-! blocks -/
/- Model.isRow, at 0 -/
theorem b151_0 {d t : Nat}  {x1 : Int} {x2 : Int} {x3 : Int} {M : ab_M} {Q : Option ab_V → ab_M → Prop} (hd : 1 ≤ d) (hS : pu_str t M)  (h : ab_wp d 151 22 [some (.inr (.inr 103)), some (.inl x1), some (.inl x2), some (.inl x3), some (.inl (M 112 0)), some (.inl (M 112 1)), some (.inl x2), some (.inl 0)] [] M Q) : ab_wp d 151 0 [some (.inr (.inr 103)), some (.inl x1), some (.inl x2), some (.inl x3), none, none, none, none] [] M Q := by
  refine wp_sts 1 (pc' := 1) (ls' := [some (.inr (.inr 103)), some (.inl x1), some (.inl x2), some (.inl x3), none, none, none, none]) (st' := [.inr (.inr 103)]) (M' := M) rfl ?_
  refine g_getR (j := 112) rfl hS rfl (str_r hS 103 15 112 rfl) (by decide) ?_
  refine wp_sts 1 (pc' := 5) (ls' := [some (.inr (.inr 103)), some (.inl x1), some (.inl x2), some (.inl x3), none, none, none, none]) (st' := [.inl 0, .inr (.inr 112)]) (M' := M) rfl ?_
  refine g_iald (n := 10) rfl hS rfl (by decide) ?_
  refine wp_sts 2 (pc' := 9) (ls' := [some (.inr (.inr 103)), some (.inl x1), some (.inl x2), some (.inl x3), some (.inl (M 112 0)), none, none, none]) (st' := [.inr (.inr 103)]) (M' := M) rfl ?_
  refine g_getR (j := 112) rfl hS rfl (str_r hS 103 15 112 rfl) (by decide) ?_
  refine wp_sts 1 (pc' := 13) (ls' := [some (.inr (.inr 103)), some (.inl x1), some (.inl x2), some (.inl x3), some (.inl (M 112 0)), none, none, none]) (st' := [.inl 1, .inr (.inr 112)]) (M' := M) rfl ?_
  refine g_iald (n := 10) rfl hS rfl (by decide) ?_
  refine wp_sts 5 (pc' := 22) (ls' := [some (.inr (.inr 103)), some (.inl x1), some (.inl x2), some (.inl x3), some (.inl (M 112 0)), some (.inl (M 112 1)), some (.inl x2), some (.inl 0)]) (st' := []) (M' := M) rfl ?_
  exact h
/- Model.isRow, at 22 -/
theorem b151_22 {d t : Nat}  {x1 : Int} {x2 : Int} {x3 : Int} {x4 : Int} {x5 : Int} {x6 : Int} {x7 : Int} {M : ab_M} {Q : Option ab_V → ab_M → Prop} (hd : 1 ≤ d) (hS : pu_str t M)  (h : (x1 ≤ x7 → (x4 ≠ x3 → Q (some (.inl 0)) M) ∧ (x4 = x3 → Q (some (.inl 1)) M)) ∧ (x7 < x1 → (0 ≤ x7 ∧ x7 < 6) ∧ ∃ r1 M1, ab_ev (d - 1) 108 [.inl x6, .inl (M 121 x7.toNat)] M (some (.inl r1)) M1 ∧ pu_str t M1 ∧ (r1 = 0 → ∃ r2 M2, ab_ev (d - 1) 139 [.inr (.inr 103), .inl (M1 121 x7.toNat)] M1 (some (.inl r2)) M2 ∧ pu_str t M2 ∧ ab_rg (x7 + 1) ∧ ab_wp d 151 22 [some (.inr (.inr 103)), some (.inl x1), some (.inl x2), some (.inl x3), some (.inl 1000000), some (.inl r2), some (.inl (ab_and x6 (ab_xor (ab_shl 1 (M1 121 x7.toNat)) ((-1))))), some (.inl (x7 + 1))] [] M2 Q) ∧ (r1 ≠ 0 → ∃ r2 M2, ab_ev (d - 1) 148 [.inr (.inr 103), .inl x4, .inl x5, .inl (M1 121 x7.toNat)] M1 (some (.inl r2)) M2 ∧ pu_str t M2 ∧ ∃ r3 M3, ab_ev (d - 1) 139 [.inr (.inr 103), .inl (M2 121 x7.toNat)] M2 (some (.inl r3)) M3 ∧ pu_str t M3 ∧ ab_rg (x7 + 1) ∧ ab_wp d 151 22 [some (.inr (.inr 103)), some (.inl x1), some (.inl x2), some (.inl x3), some (.inl r2), some (.inl r3), some (.inl (ab_and x6 (ab_xor (ab_shl 1 (M2 121 x7.toNat)) ((-1))))), some (.inl (x7 + 1))] [] M3 Q))) : ab_wp d 151 22 [some (.inr (.inr 103)), some (.inl x1), some (.inl x2), some (.inl x3), some (.inl x4), some (.inl x5), some (.inl x6), some (.inl x7)] [] M Q := by
  refine wp_sts 2 (pc' := 25) (ls' := [some (.inr (.inr 103)), some (.inl x1), some (.inl x2), some (.inl x3), some (.inl x4), some (.inl x5), some (.inl x6), some (.inl x7)]) (st' := [.inl x1, .inl x7]) (M' := M) rfl ?_
  refine c2_ge rfl (fun c => ?_) (fun c => ?_)
  · replace h := h.1 c
    refine wp_sts 2 (pc' := 103) (ls' := [some (.inr (.inr 103)), some (.inl x1), some (.inl x2), some (.inl x3), some (.inl x4), some (.inl x5), some (.inl x6), some (.inl x7)]) (st' := [.inl x3, .inl x4]) (M' := M) rfl ?_
    refine c2_ne rfl (fun c => ?_) (fun c => ?_)
    · replace h := h.1 c
      refine wp_sts 1 (pc' := 111) (ls' := [some (.inr (.inr 103)), some (.inl x1), some (.inl x2), some (.inl x3), some (.inl x4), some (.inl x5), some (.inl x6), some (.inl x7)]) (st' := [.inl 0]) (M' := M) rfl ?_
      exact g_retB rfl (by decide) h
    · replace h := h.2 c
      refine wp_sts 2 (pc' := 111) (ls' := [some (.inr (.inr 103)), some (.inl x1), some (.inl x2), some (.inl x3), some (.inl x4), some (.inl x5), some (.inl x6), some (.inl x7)]) (st' := [.inl 1]) (M' := M) rfl ?_
      exact g_retB rfl (by decide) h
  · replace h := h.2 c
    refine wp_sts 2 (pc' := 31) (ls' := [some (.inr (.inr 103)), some (.inl x1), some (.inl x2), some (.inl x3), some (.inl x4), some (.inl x5), some (.inl x6), some (.inl x7)]) (st' := [.inr (.inr 103), .inl x6]) (M' := M) rfl ?_
    refine g_getR (j := 121) rfl hS rfl (str_r hS 103 38 121 rfl) (by decide) ?_
    refine wp_sts 1 (pc' := 36) (ls' := [some (.inr (.inr 103)), some (.inl x1), some (.inl x2), some (.inl x3), some (.inl x4), some (.inl x5), some (.inl x6), some (.inl x7)]) (st' := [.inl x7, .inr (.inr 121), .inl x6]) (M' := M) rfl ?_
    obtain ⟨hf1, h⟩ := h
    refine g_iald (n := 6) rfl hS rfl hf1 ?_
    obtain ⟨r1, M1, he, hS1, h⟩ := h
    refine g_callI (c := 108) (as := [.inl x6, .inl (M 121 x7.toNat)]) (rs := []) rfl rfl hS hd rfl he ?_
    refine c1_eq rfl (fun c => ?_) (fun c => ?_)
    · replace h := h.1 c
      refine wp_sts 5 (pc' := 69) (ls' := [some (.inr (.inr 103)), some (.inl x1), some (.inl x2), some (.inl x3), some (.inl 1000000), some (.inl x5), some (.inl x6), some (.inl x7)]) (st' := [.inr (.inr 103), .inl 1, .inl x6]) (M' := M1) rfl ?_
      refine g_getR (j := 121) rfl hS1 rfl (str_r hS1 103 38 121 rfl) (by decide) ?_
      refine wp_sts 1 (pc' := 74) (ls' := [some (.inr (.inr 103)), some (.inl x1), some (.inl x2), some (.inl x3), some (.inl 1000000), some (.inl x5), some (.inl x6), some (.inl x7)]) (st' := [.inl x7, .inr (.inr 121), .inl 1, .inl x6]) (M' := M1) rfl ?_
      refine g_iald (n := 6) rfl hS1 rfl hf1 ?_
      refine wp_sts 7 (pc' := 83) (ls' := [some (.inr (.inr 103)), some (.inl x1), some (.inl x2), some (.inl x3), some (.inl 1000000), some (.inl x5), some (.inl (ab_and x6 (ab_xor (ab_shl 1 (M1 121 x7.toNat)) ((-1))))), some (.inl x7)]) (st' := [.inr (.inr 103), .inr (.inr 103)]) (M' := M1) rfl ?_
      refine g_getR (j := 121) rfl hS1 rfl (str_r hS1 103 38 121 rfl) (by decide) ?_
      refine wp_sts 1 (pc' := 88) (ls' := [some (.inr (.inr 103)), some (.inl x1), some (.inl x2), some (.inl x3), some (.inl 1000000), some (.inl x5), some (.inl (ab_and x6 (ab_xor (ab_shl 1 (M1 121 x7.toNat)) ((-1))))), some (.inl x7)]) (st' := [.inl x7, .inr (.inr 121), .inr (.inr 103)]) (M' := M1) rfl ?_
      refine g_iald (n := 6) rfl hS1 rfl hf1 ?_
      obtain ⟨r2, M2, he, hS2, h⟩ := h
      refine g_callI (c := 139) (as := [.inr (.inr 103), .inl (M1 121 x7.toNat)]) (rs := []) rfl rfl hS1 hd rfl he ?_
      refine wp_sts 1 (pc' := 94) (ls' := [some (.inr (.inr 103)), some (.inl x1), some (.inl x2), some (.inl x3), some (.inl 1000000), some (.inl r2), some (.inl (ab_and x6 (ab_xor (ab_shl 1 (M1 121 x7.toNat)) ((-1))))), some (.inl x7)]) (st' := []) (M' := M2) rfl ?_
      obtain ⟨hf2, h⟩ := h
      refine w_iinc rfl rfl hf2 ?_
      refine wp_sts 1 (pc' := 22) (ls' := [some (.inr (.inr 103)), some (.inl x1), some (.inl x2), some (.inl x3), some (.inl 1000000), some (.inl r2), some (.inl (ab_and x6 (ab_xor (ab_shl 1 (M1 121 x7.toNat)) ((-1))))), some (.inl (x7 + 1))]) (st' := []) (M' := M2) rfl ?_
      exact h
    · replace h := h.2 c
      refine wp_sts 4 (pc' := 49) (ls' := [some (.inr (.inr 103)), some (.inl x1), some (.inl x2), some (.inl x3), some (.inl x4), some (.inl x5), some (.inl x6), some (.inl x7)]) (st' := [.inr (.inr 103), .inl x5, .inl x4, .inr (.inr 103)]) (M' := M1) rfl ?_
      refine g_getR (j := 121) rfl hS1 rfl (str_r hS1 103 38 121 rfl) (by decide) ?_
      refine wp_sts 1 (pc' := 54) (ls' := [some (.inr (.inr 103)), some (.inl x1), some (.inl x2), some (.inl x3), some (.inl x4), some (.inl x5), some (.inl x6), some (.inl x7)]) (st' := [.inl x7, .inr (.inr 121), .inl x5, .inl x4, .inr (.inr 103)]) (M' := M1) rfl ?_
      refine g_iald (n := 6) rfl hS1 rfl hf1 ?_
      obtain ⟨r2, M2, he, hS2, h⟩ := h
      refine g_callI (c := 148) (as := [.inr (.inr 103), .inl x4, .inl x5, .inl (M1 121 x7.toNat)]) (rs := []) rfl rfl hS1 hd rfl he ?_
      refine wp_sts 5 (pc' := 69) (ls' := [some (.inr (.inr 103)), some (.inl x1), some (.inl x2), some (.inl x3), some (.inl r2), some (.inl x5), some (.inl x6), some (.inl x7)]) (st' := [.inr (.inr 103), .inl 1, .inl x6]) (M' := M2) rfl ?_
      refine g_getR (j := 121) rfl hS2 rfl (str_r hS2 103 38 121 rfl) (by decide) ?_
      refine wp_sts 1 (pc' := 74) (ls' := [some (.inr (.inr 103)), some (.inl x1), some (.inl x2), some (.inl x3), some (.inl r2), some (.inl x5), some (.inl x6), some (.inl x7)]) (st' := [.inl x7, .inr (.inr 121), .inl 1, .inl x6]) (M' := M2) rfl ?_
      refine g_iald (n := 6) rfl hS2 rfl hf1 ?_
      refine wp_sts 7 (pc' := 83) (ls' := [some (.inr (.inr 103)), some (.inl x1), some (.inl x2), some (.inl x3), some (.inl r2), some (.inl x5), some (.inl (ab_and x6 (ab_xor (ab_shl 1 (M2 121 x7.toNat)) ((-1))))), some (.inl x7)]) (st' := [.inr (.inr 103), .inr (.inr 103)]) (M' := M2) rfl ?_
      refine g_getR (j := 121) rfl hS2 rfl (str_r hS2 103 38 121 rfl) (by decide) ?_
      refine wp_sts 1 (pc' := 88) (ls' := [some (.inr (.inr 103)), some (.inl x1), some (.inl x2), some (.inl x3), some (.inl r2), some (.inl x5), some (.inl (ab_and x6 (ab_xor (ab_shl 1 (M2 121 x7.toNat)) ((-1))))), some (.inl x7)]) (st' := [.inl x7, .inr (.inr 121), .inr (.inr 103)]) (M' := M2) rfl ?_
      refine g_iald (n := 6) rfl hS2 rfl hf1 ?_
      obtain ⟨r3, M3, he, hS3, h⟩ := h
      refine g_callI (c := 139) (as := [.inr (.inr 103), .inl (M2 121 x7.toNat)]) (rs := []) rfl rfl hS2 hd rfl he ?_
      refine wp_sts 1 (pc' := 94) (ls' := [some (.inr (.inr 103)), some (.inl x1), some (.inl x2), some (.inl x3), some (.inl r2), some (.inl r3), some (.inl (ab_and x6 (ab_xor (ab_shl 1 (M2 121 x7.toNat)) ((-1))))), some (.inl x7)]) (st' := []) (M' := M3) rfl ?_
      obtain ⟨hf2, h⟩ := h
      refine w_iinc rfl rfl hf2 ?_
      refine wp_sts 1 (pc' := 22) (ls' := [some (.inr (.inr 103)), some (.inl x1), some (.inl x2), some (.inl x3), some (.inl r2), some (.inl r3), some (.inl (ab_and x6 (ab_xor (ab_shl 1 (M2 121 x7.toNat)) ((-1))))), some (.inl (x7 + 1))]) (st' := []) (M' := M3) rfl ?_
      exact h
/- Model.firstRow, at 0 -/
set_option maxRecDepth 100000 in
theorem b152_0 {d t : Nat}  {x1 : Int} {x2 : Int} {x3 : Int} {M : ab_M} {Q : Option ab_V → ab_M → Prop} (hd : 1 ≤ d) (hS : pu_str t M)  (h : ab_wp d 152 9 [some (.inr (.inr 103)), some (.inl x1), some (.inl x2), some (.inl x3), some (.inl ((-1))), some (.inl 0), some (.inl 0), none, none, none, none] [] M Q) : ab_wp d 152 0 [some (.inr (.inr 103)), some (.inl x1), some (.inl x2), some (.inl x3), none, none, none, none, none, none, none] [] M Q := by
  refine wp_sts 6 (pc' := 9) (ls' := [some (.inr (.inr 103)), some (.inl x1), some (.inl x2), some (.inl x3), some (.inl ((-1))), some (.inl 0), some (.inl 0), none, none, none, none]) (st' := []) (M' := M) rfl ?_
  exact h
/- Model.firstRow, at 9 -/
set_option maxRecDepth 100000 in
theorem b152_9 {d t : Nat}  {x1 : Int} {x2 : Int} {x3 : Int} {x4 : Int} {x5 : Int} {x6 : Int} {y7 : Option ab_V} {y8 : Option ab_V} {y9 : Option ab_V} {y10 : Option ab_V} {M : ab_M} {Q : Option ab_V → ab_M → Prop} (hd : 1 ≤ d) (hS : pu_str t M)  (h : (M 103 11 < x6 → Q (some (.inl x5)) M) ∧ (x6 ≤ M 103 11 → ab_wp d 152 24 [some (.inr (.inr 103)), some (.inl x1), some (.inl x2), some (.inl x3), some (.inl x4), some (.inl x5), some (.inl x6), some (.inl 1), some (.inl 0), y9, y10] [] M Q)) : ab_wp d 152 9 [some (.inr (.inr 103)), some (.inl x1), some (.inl x2), some (.inl x3), some (.inl x4), some (.inl x5), some (.inl x6), y7, y8, y9, y10] [] M Q := by
  refine wp_sts 2 (pc' := 12) (ls' := [some (.inr (.inr 103)), some (.inl x1), some (.inl x2), some (.inl x3), some (.inl x4), some (.inl x5), some (.inl x6), y7, y8, y9, y10]) (st' := [.inr (.inr 103), .inl x6]) (M' := M) rfl ?_
  refine g_getI rfl hS rfl ?_
  refine c2_gt rfl (fun c => ?_) (fun c => ?_)
  · replace h := h.1 c
    refine wp_sts 1 (pc' := 168) (ls' := [some (.inr (.inr 103)), some (.inl x1), some (.inl x2), some (.inl x3), some (.inl x4), some (.inl x5), some (.inl x6), y7, y8, y9, y10]) (st' := [.inl x5]) (M' := M) rfl ?_
    exact wp_ret rfl rfl (z := (some (.inl x5), M)) rfl h
  · replace h := h.2 c
    refine wp_sts 4 (pc' := 24) (ls' := [some (.inr (.inr 103)), some (.inl x1), some (.inl x2), some (.inl x3), some (.inl x4), some (.inl x5), some (.inl x6), some (.inl 1), some (.inl 0), y9, y10]) (st' := []) (M' := M) rfl ?_
    exact h
/- Model.firstRow, at 24 -/
set_option maxRecDepth 100000 in
theorem b152_24 {d t : Nat}  {x1 : Int} {x2 : Int} {x3 : Int} {x4 : Int} {x5 : Int} {x6 : Int} {x7 : Int} {x8 : Int} {y9 : Option ab_V} {y10 : Option ab_V} {M : ab_M} {Q : Option ab_V → ab_M → Prop} (hd : 1 ≤ d) (hS : pu_str t M)  (h : (x6 ≤ x8 → ab_wp d 152 47 [some (.inr (.inr 103)), some (.inl x1), some (.inl x2), some (.inl x3), some (.inl x4), some (.inl x5), some (.inl x6), some (.inl x7), some (.inl 0), y9, y10] [] M Q) ∧ (x8 < x6 → ab_rg (x7 * 6) ∧ ab_rg (x8 + 1) ∧ ab_wp d 152 24 [some (.inr (.inr 103)), some (.inl x1), some (.inl x2), some (.inl x3), some (.inl x4), some (.inl x5), some (.inl x6), some (.inl (x7 * 6)), some (.inl (x8 + 1)), y9, y10] [] M Q)) : ab_wp d 152 24 [some (.inr (.inr 103)), some (.inl x1), some (.inl x2), some (.inl x3), some (.inl x4), some (.inl x5), some (.inl x6), some (.inl x7), some (.inl x8), y9, y10] [] M Q := by
  refine wp_sts 2 (pc' := 28) (ls' := [some (.inr (.inr 103)), some (.inl x1), some (.inl x2), some (.inl x3), some (.inl x4), some (.inl x5), some (.inl x6), some (.inl x7), some (.inl x8), y9, y10]) (st' := [.inl x6, .inl x8]) (M' := M) rfl ?_
  refine c2_ge rfl (fun c => ?_) (fun c => ?_)
  · replace h := h.1 c
    refine wp_sts 2 (pc' := 47) (ls' := [some (.inr (.inr 103)), some (.inl x1), some (.inl x2), some (.inl x3), some (.inl x4), some (.inl x5), some (.inl x6), some (.inl x7), some (.inl 0), y9, y10]) (st' := []) (M' := M) rfl ?_
    exact h
  · replace h := h.2 c
    refine wp_sts 2 (pc' := 35) (ls' := [some (.inr (.inr 103)), some (.inl x1), some (.inl x2), some (.inl x3), some (.inl x4), some (.inl x5), some (.inl x6), some (.inl x7), some (.inl x8), y9, y10]) (st' := [.inl 6, .inl x7]) (M' := M) rfl ?_
    obtain ⟨hf1, h⟩ := h
    refine w_imul rfl hf1 ?_
    refine wp_sts 1 (pc' := 38) (ls' := [some (.inr (.inr 103)), some (.inl x1), some (.inl x2), some (.inl x3), some (.inl x4), some (.inl x5), some (.inl x6), some (.inl (x7 * 6)), some (.inl x8), y9, y10]) (st' := []) (M' := M) rfl ?_
    obtain ⟨hf2, h⟩ := h
    refine w_iinc rfl rfl hf2 ?_
    refine wp_sts 1 (pc' := 24) (ls' := [some (.inr (.inr 103)), some (.inl x1), some (.inl x2), some (.inl x3), some (.inl x4), some (.inl x5), some (.inl x6), some (.inl (x7 * 6)), some (.inl (x8 + 1)), y9, y10]) (st' := []) (M' := M) rfl ?_
    exact h
/- Model.firstRow, at 47 -/
set_option maxRecDepth 100000 in
theorem b152_47 {d t : Nat}  {x1 : Int} {x2 : Int} {x3 : Int} {x4 : Int} {x5 : Int} {x6 : Int} {x7 : Int} {x8 : Int} {y9 : Option ab_V} {y10 : Option ab_V} {M : ab_M} {Q : Option ab_V → ab_M → Prop} (hd : 1 ≤ d) (hS : pu_str t M)  (h : (x7 ≤ x8 → ab_rg (x6 + 1) ∧ ab_wp d 152 9 [some (.inr (.inr 103)), some (.inl x1), some (.inl x2), some (.inl x3), some (.inl x4), some (.inl x5), some (.inl (x6 + 1)), some (.inl x7), some (.inl x8), y9, y10] [] M Q) ∧ (x8 < x7 → ∃ r1 M1, ab_ev (d - 1) 153 [.inr (.inr 103), .inl x8, .inl x6] M (some (.inl r1)) M1 ∧ pu_str t M1 ∧ (r1 < 0 → ab_rg (x8 + 1) ∧ ab_wp d 152 47 [some (.inr (.inr 103)), some (.inl x1), some (.inl x2), some (.inl x3), some (.inl x4), some (.inl x5), some (.inl x6), some (.inl x7), some (.inl (x8 + 1)), some (.inl r1), y10] [] M1 Q) ∧ (0 ≤ r1 → (ab_and r1 (ab_xor x3 ((-1))) ≠ 0 → ab_rg (x8 + 1) ∧ ab_wp d 152 47 [some (.inr (.inr 103)), some (.inl x1), some (.inl x2), some (.inl x3), some (.inl x4), some (.inl x5), some (.inl x6), some (.inl x7), some (.inl (x8 + 1)), some (.inl r1), y10] [] M1 Q) ∧ (ab_and r1 (ab_xor x3 ((-1))) = 0 → ∃ r2 M2, ab_ev (d - 1) 130 [.inr (.inr 103), .inl r1] M1 (some (.inl r2)) M2 ∧ pu_str t M2 ∧ (r2 ≠ x1 → ab_rg (x8 + 1) ∧ ab_wp d 152 47 [some (.inr (.inr 103)), some (.inl x1), some (.inl x2), some (.inl x3), some (.inl x4), some (.inl x5), some (.inl x6), some (.inl x7), some (.inl (x8 + 1)), some (.inl r1), y10] [] M2 Q) ∧ (r2 = x1 → ∃ r3 M3, ab_ev (d - 1) 151 [.inr (.inr 103), .inl x6, .inl r1, .inl x2] M2 (some (.inl r3)) M3 ∧ pu_str t M3 ∧ (r3 = 0 → ab_rg (x8 + 1) ∧ ab_wp d 152 47 [some (.inr (.inr 103)), some (.inl x1), some (.inl x2), some (.inl x3), some (.inl x4), some (.inl x5), some (.inl x6), some (.inl x7), some (.inl (x8 + 1)), some (.inl r1), y10] [] M3 Q) ∧ (r3 ≠ 0 → (x4 < 0 → ab_wp d 152 127 [some (.inr (.inr 103)), some (.inl x1), some (.inl x2), some (.inl x3), some (.inl x8), some (.inl x6), some (.inl x6), some (.inl x7), some (.inl x8), some (.inl r1), some (.inl 0)] [] M3 Q) ∧ (0 ≤ x4 → ∃ r4 M4, ab_ev (d - 1) 154 [.inr (.inr 103), .inl x6, .inl x5] M3 (some (.inl r4)) M4 ∧ pu_str t M4 ∧ (r4 = 0 → ab_rg (x8 + 1) ∧ ab_wp d 152 47 [some (.inr (.inr 103)), some (.inl x1), some (.inl x2), some (.inl x3), some (.inl x4), some (.inl x5), some (.inl x6), some (.inl x7), some (.inl (x8 + 1)), some (.inl r1), y10] [] M4 Q) ∧ (r4 ≠ 0 → ab_wp d 152 127 [some (.inr (.inr 103)), some (.inl x1), some (.inl x2), some (.inl x3), some (.inl x8), some (.inl x6), some (.inl x6), some (.inl x7), some (.inl x8), some (.inl r1), some (.inl 0)] [] M4 Q)))))))) : ab_wp d 152 47 [some (.inr (.inr 103)), some (.inl x1), some (.inl x2), some (.inl x3), some (.inl x4), some (.inl x5), some (.inl x6), some (.inl x7), some (.inl x8), y9, y10] [] M Q := by
  refine wp_sts 2 (pc' := 51) (ls' := [some (.inr (.inr 103)), some (.inl x1), some (.inl x2), some (.inl x3), some (.inl x4), some (.inl x5), some (.inl x6), some (.inl x7), some (.inl x8), y9, y10]) (st' := [.inl x7, .inl x8]) (M' := M) rfl ?_
  refine c2_ge rfl (fun c => ?_) (fun c => ?_)
  · replace h := h.1 c
    obtain ⟨hf1, h⟩ := h
    refine w_iinc rfl rfl hf1 ?_
    refine wp_sts 1 (pc' := 9) (ls' := [some (.inr (.inr 103)), some (.inl x1), some (.inl x2), some (.inl x3), some (.inl x4), some (.inl x5), some (.inl (x6 + 1)), some (.inl x7), some (.inl x8), y9, y10]) (st' := []) (M' := M) rfl ?_
    exact h
  · replace h := h.2 c
    refine wp_sts 3 (pc' := 59) (ls' := [some (.inr (.inr 103)), some (.inl x1), some (.inl x2), some (.inl x3), some (.inl x4), some (.inl x5), some (.inl x6), some (.inl x7), some (.inl x8), y9, y10]) (st' := [.inl x6, .inl x8, .inr (.inr 103)]) (M' := M) rfl ?_
    obtain ⟨r1, M1, he, hS1, h⟩ := h
    refine g_callI (c := 153) (as := [.inr (.inr 103), .inl x8, .inl x6]) (rs := []) rfl rfl hS hd rfl he ?_
    refine wp_sts 2 (pc' := 66) (ls' := [some (.inr (.inr 103)), some (.inl x1), some (.inl x2), some (.inl x3), some (.inl x4), some (.inl x5), some (.inl x6), some (.inl x7), some (.inl x8), some (.inl r1), y10]) (st' := [.inl r1]) (M' := M1) rfl ?_
    refine c1_lt rfl (fun c => ?_) (fun c => ?_)
    · replace h := h.1 c
      obtain ⟨hf1, h⟩ := h
      refine w_iinc rfl rfl hf1 ?_
      refine wp_sts 1 (pc' := 47) (ls' := [some (.inr (.inr 103)), some (.inl x1), some (.inl x2), some (.inl x3), some (.inl x4), some (.inl x5), some (.inl x6), some (.inl x7), some (.inl (x8 + 1)), some (.inl r1), y10]) (st' := []) (M' := M1) rfl ?_
      exact h
    · replace h := h.2 c
      refine wp_sts 5 (pc' := 75) (ls' := [some (.inr (.inr 103)), some (.inl x1), some (.inl x2), some (.inl x3), some (.inl x4), some (.inl x5), some (.inl x6), some (.inl x7), some (.inl x8), some (.inl r1), y10]) (st' := [.inl (ab_and r1 (ab_xor x3 ((-1))))]) (M' := M1) rfl ?_
      refine c1_ne rfl (fun c => ?_) (fun c => ?_)
      · replace h := h.1 c
        obtain ⟨hf1, h⟩ := h
        refine w_iinc rfl rfl hf1 ?_
        refine wp_sts 1 (pc' := 47) (ls' := [some (.inr (.inr 103)), some (.inl x1), some (.inl x2), some (.inl x3), some (.inl x4), some (.inl x5), some (.inl x6), some (.inl x7), some (.inl (x8 + 1)), some (.inl r1), y10]) (st' := []) (M' := M1) rfl ?_
        exact h
      · replace h := h.2 c
        refine wp_sts 2 (pc' := 81) (ls' := [some (.inr (.inr 103)), some (.inl x1), some (.inl x2), some (.inl x3), some (.inl x4), some (.inl x5), some (.inl x6), some (.inl x7), some (.inl x8), some (.inl r1), y10]) (st' := [.inl r1, .inr (.inr 103)]) (M' := M1) rfl ?_
        obtain ⟨r2, M2, he, hS2, h⟩ := h
        refine g_callI (c := 130) (as := [.inr (.inr 103), .inl r1]) (rs := []) rfl rfl hS1 hd rfl he ?_
        refine wp_sts 1 (pc' := 85) (ls' := [some (.inr (.inr 103)), some (.inl x1), some (.inl x2), some (.inl x3), some (.inl x4), some (.inl x5), some (.inl x6), some (.inl x7), some (.inl x8), some (.inl r1), y10]) (st' := [.inl x1, .inl r2]) (M' := M2) rfl ?_
        refine c2_ne rfl (fun c => ?_) (fun c => ?_)
        · replace h := h.1 c
          obtain ⟨hf1, h⟩ := h
          refine w_iinc rfl rfl hf1 ?_
          refine wp_sts 1 (pc' := 47) (ls' := [some (.inr (.inr 103)), some (.inl x1), some (.inl x2), some (.inl x3), some (.inl x4), some (.inl x5), some (.inl x6), some (.inl x7), some (.inl (x8 + 1)), some (.inl r1), y10]) (st' := []) (M' := M2) rfl ?_
          exact h
        · replace h := h.2 c
          refine wp_sts 4 (pc' := 94) (ls' := [some (.inr (.inr 103)), some (.inl x1), some (.inl x2), some (.inl x3), some (.inl x4), some (.inl x5), some (.inl x6), some (.inl x7), some (.inl x8), some (.inl r1), y10]) (st' := [.inl x2, .inl r1, .inl x6, .inr (.inr 103)]) (M' := M2) rfl ?_
          obtain ⟨r3, M3, he, hS3, h⟩ := h
          refine g_callI (c := 151) (as := [.inr (.inr 103), .inl x6, .inl r1, .inl x2]) (rs := []) rfl rfl hS2 hd rfl he ?_
          refine c1_eq rfl (fun c => ?_) (fun c => ?_)
          · replace h := h.1 c
            obtain ⟨hf1, h⟩ := h
            refine w_iinc rfl rfl hf1 ?_
            refine wp_sts 1 (pc' := 47) (ls' := [some (.inr (.inr 103)), some (.inl x1), some (.inl x2), some (.inl x3), some (.inl x4), some (.inl x5), some (.inl x6), some (.inl x7), some (.inl (x8 + 1)), some (.inl r1), y10]) (st' := []) (M' := M3) rfl ?_
            exact h
          · replace h := h.2 c
            refine wp_sts 1 (pc' := 102) (ls' := [some (.inr (.inr 103)), some (.inl x1), some (.inl x2), some (.inl x3), some (.inl x4), some (.inl x5), some (.inl x6), some (.inl x7), some (.inl x8), some (.inl r1), y10]) (st' := [.inl x4]) (M' := M3) rfl ?_
            refine c1_lt rfl (fun c => ?_) (fun c => ?_)
            · replace h := h.1 c
              refine wp_sts 6 (pc' := 127) (ls' := [some (.inr (.inr 103)), some (.inl x1), some (.inl x2), some (.inl x3), some (.inl x8), some (.inl x6), some (.inl x6), some (.inl x7), some (.inl x8), some (.inl r1), some (.inl 0)]) (st' := []) (M' := M3) rfl ?_
              exact h
            · replace h := h.2 c
              refine wp_sts 3 (pc' := 110) (ls' := [some (.inr (.inr 103)), some (.inl x1), some (.inl x2), some (.inl x3), some (.inl x4), some (.inl x5), some (.inl x6), some (.inl x7), some (.inl x8), some (.inl r1), y10]) (st' := [.inl x5, .inl x6, .inr (.inr 103)]) (M' := M3) rfl ?_
              obtain ⟨r4, M4, he, hS4, h⟩ := h
              refine g_callI (c := 154) (as := [.inr (.inr 103), .inl x6, .inl x5]) (rs := []) rfl rfl hS3 hd rfl he ?_
              refine c1_eq rfl (fun c => ?_) (fun c => ?_)
              · replace h := h.1 c
                obtain ⟨hf1, h⟩ := h
                refine w_iinc rfl rfl hf1 ?_
                refine wp_sts 1 (pc' := 47) (ls' := [some (.inr (.inr 103)), some (.inl x1), some (.inl x2), some (.inl x3), some (.inl x4), some (.inl x5), some (.inl x6), some (.inl x7), some (.inl (x8 + 1)), some (.inl r1), y10]) (st' := []) (M' := M4) rfl ?_
                exact h
              · replace h := h.2 c
                refine wp_sts 6 (pc' := 127) (ls' := [some (.inr (.inr 103)), some (.inl x1), some (.inl x2), some (.inl x3), some (.inl x8), some (.inl x6), some (.inl x6), some (.inl x7), some (.inl x8), some (.inl r1), some (.inl 0)]) (st' := []) (M' := M4) rfl ?_
                exact h
/- Model.firstRow, at 127 -/
set_option maxRecDepth 100000 in
theorem b152_127 {d t : Nat}  {x1 : Int} {x2 : Int} {x3 : Int} {x4 : Int} {x5 : Int} {x6 : Int} {x7 : Int} {x8 : Int} {x9 : Int} {x10 : Int} {M : ab_M} {Q : Option ab_V → ab_M → Prop} (hd : 1 ≤ d) (hS : pu_str t M)  (h : (x6 ≤ x10 → ab_rg (x8 + 1) ∧ ab_wp d 152 47 [some (.inr (.inr 103)), some (.inl x1), some (.inl x2), some (.inl x3), some (.inl x4), some (.inl x5), some (.inl x6), some (.inl x7), some (.inl (x8 + 1)), some (.inl x9), some (.inl x10)] [] M Q) ∧ (x10 < x6 → (0 ≤ x10 ∧ x10 < 6) ∧ ab_rg (x10 + 1) ∧ ab_wp d 152 127 [some (.inr (.inr 103)), some (.inl x1), some (.inl x2), some (.inl x3), some (.inl x4), some (.inl x5), some (.inl x6), some (.inl x7), some (.inl x8), some (.inl x9), some (.inl (x10 + 1))] [] (ab_w M 122 x10.toNat (M 121 x10.toNat)) Q)) : ab_wp d 152 127 [some (.inr (.inr 103)), some (.inl x1), some (.inl x2), some (.inl x3), some (.inl x4), some (.inl x5), some (.inl x6), some (.inl x7), some (.inl x8), some (.inl x9), some (.inl x10)] [] M Q := by
  refine wp_sts 2 (pc' := 131) (ls' := [some (.inr (.inr 103)), some (.inl x1), some (.inl x2), some (.inl x3), some (.inl x4), some (.inl x5), some (.inl x6), some (.inl x7), some (.inl x8), some (.inl x9), some (.inl x10)]) (st' := [.inl x6, .inl x10]) (M' := M) rfl ?_
  refine c2_ge rfl (fun c => ?_) (fun c => ?_)
  · replace h := h.1 c
    obtain ⟨hf1, h⟩ := h
    refine w_iinc rfl rfl hf1 ?_
    refine wp_sts 1 (pc' := 47) (ls' := [some (.inr (.inr 103)), some (.inl x1), some (.inl x2), some (.inl x3), some (.inl x4), some (.inl x5), some (.inl x6), some (.inl x7), some (.inl (x8 + 1)), some (.inl x9), some (.inl x10)]) (st' := []) (M' := M) rfl ?_
    exact h
  · replace h := h.2 c
    refine wp_sts 1 (pc' := 135) (ls' := [some (.inr (.inr 103)), some (.inl x1), some (.inl x2), some (.inl x3), some (.inl x4), some (.inl x5), some (.inl x6), some (.inl x7), some (.inl x8), some (.inl x9), some (.inl x10)]) (st' := [.inr (.inr 103)]) (M' := M) rfl ?_
    refine g_getR (j := 122) rfl hS rfl (str_r hS 103 39 122 rfl) (by decide) ?_
    refine wp_sts 2 (pc' := 141) (ls' := [some (.inr (.inr 103)), some (.inl x1), some (.inl x2), some (.inl x3), some (.inl x4), some (.inl x5), some (.inl x6), some (.inl x7), some (.inl x8), some (.inl x9), some (.inl x10)]) (st' := [.inr (.inr 103), .inl x10, .inr (.inr 122)]) (M' := M) rfl ?_
    refine g_getR (j := 121) rfl hS rfl (str_r hS 103 38 121 rfl) (by decide) ?_
    refine wp_sts 1 (pc' := 146) (ls' := [some (.inr (.inr 103)), some (.inl x1), some (.inl x2), some (.inl x3), some (.inl x4), some (.inl x5), some (.inl x6), some (.inl x7), some (.inl x8), some (.inl x9), some (.inl x10)]) (st' := [.inl x10, .inr (.inr 121), .inl x10, .inr (.inr 122)]) (M' := M) rfl ?_
    obtain ⟨hf1, h⟩ := h
    refine g_iald (n := 6) rfl hS rfl hf1 ?_
    refine g_iast (n := 6) rfl hS rfl hf1 ?_
    obtain ⟨hf2, h⟩ := h
    refine w_iinc rfl rfl hf2 ?_
    refine wp_sts 1 (pc' := 127) (ls' := [some (.inr (.inr 103)), some (.inl x1), some (.inl x2), some (.inl x3), some (.inl x4), some (.inl x5), some (.inl x6), some (.inl x7), some (.inl x8), some (.inl x9), some (.inl (x10 + 1))]) (st' := []) (M' := (ab_w M 122 x10.toNat (M 121 x10.toNat))) rfl ?_
    exact h
/- Model.digits, at 0 -/
theorem b153_0 {d t : Nat}  {x1 : Int} {x2 : Int} {M : ab_M} {Q : Option ab_V → ab_M → Prop} (hd : 1 ≤ d) (hS : pu_str t M)  (h : ab_rg (x2 - 1) ∧ ab_wp d 153 13 [some (.inr (.inr 103)), some (.inl x1), some (.inl x2), some (.inl 0), some (.inl x1), some (.inl 1), some (.inl (x2 - 1))] [] M Q) : ab_wp d 153 0 [some (.inr (.inr 103)), some (.inl x1), some (.inl x2), none, none, none, none] [] M Q := by
  refine wp_sts 8 (pc' := 10) (ls' := [some (.inr (.inr 103)), some (.inl x1), some (.inl x2), some (.inl 0), some (.inl x1), some (.inl 1), none]) (st' := [.inl 1, .inl x2]) (M' := M) rfl ?_
  obtain ⟨hf1, h⟩ := h
  refine w_isub rfl hf1 ?_
  refine wp_sts 1 (pc' := 13) (ls' := [some (.inr (.inr 103)), some (.inl x1), some (.inl x2), some (.inl 0), some (.inl x1), some (.inl 1), some (.inl (x2 - 1))]) (st' := []) (M' := M) rfl ?_
  exact h
/- Model.digits, at 13 -/
theorem b153_13 {d t : Nat}  {x1 : Int} {x2 : Int} {x3 : Int} {x4 : Int} {x5 : Int} {x6 : Int} {M : ab_M} {Q : Option ab_V → ab_M → Prop} (hd : 1 ≤ d) (hS : pu_str t M)  (h : (x6 < 0 → (x5 = 0 → Q (some (.inl ((-1)))) M) ∧ (x5 ≠ 0 → Q (some (.inl x3)) M)) ∧ (0 ≤ x6 → ab_rg (x4.tdiv 6) ∧ (0 ≤ x6 ∧ x6 < 6) ∧ (x5 = 0 → ab_wp d 153 74 [some (.inr (.inr 103)), some (.inl x1), some (.inl x2), some (.inl x3), some (.inl (x4.tdiv 6)), some (.inl x5), some (.inl x6)] [] (ab_w M 121 x6.toNat (x4.tmod 6)) Q) ∧ (x5 ≠ 0 → (M 103 11 ≤ (ab_w M 121 x6.toNat (x4.tmod 6)) 121 x6.toNat → ab_wp d 153 74 [some (.inr (.inr 103)), some (.inl x1), some (.inl x2), some (.inl x3), some (.inl (x4.tdiv 6)), some (.inl x5), some (.inl x6)] [] (ab_w M 121 x6.toNat (x4.tmod 6)) Q) ∧ ((ab_w M 121 x6.toNat (x4.tmod 6)) 121 x6.toNat < M 103 11 → ∃ r1 M1, ab_ev (d - 1) 108 [.inl x3, .inl ((ab_w M 121 x6.toNat (x4.tmod 6)) 121 x6.toNat)] (ab_w M 121 x6.toNat (x4.tmod 6)) (some (.inl r1)) M1 ∧ pu_str t M1 ∧ (r1 ≠ 0 → ab_wp d 153 74 [some (.inr (.inr 103)), some (.inl x1), some (.inl x2), some (.inl x3), some (.inl (x4.tdiv 6)), some (.inl x5), some (.inl x6)] [] M1 Q) ∧ (r1 = 0 → ab_rg (x6 + (-1)) ∧ ab_wp d 153 13 [some (.inr (.inr 103)), some (.inl x1), some (.inl x2), some (.inl (ab_or x3 (ab_shl 1 (M1 121 x6.toNat)))), some (.inl (x4.tdiv 6)), some (.inl 1), some (.inl (x6 + (-1)))] [] M1 Q))))) : ab_wp d 153 13 [some (.inr (.inr 103)), some (.inl x1), some (.inl x2), some (.inl x3), some (.inl x4), some (.inl x5), some (.inl x6)] [] M Q := by
  refine wp_sts 1 (pc' := 15) (ls' := [some (.inr (.inr 103)), some (.inl x1), some (.inl x2), some (.inl x3), some (.inl x4), some (.inl x5), some (.inl x6)]) (st' := [.inl x6]) (M' := M) rfl ?_
  refine c1_lt rfl (fun c => ?_) (fun c => ?_)
  · replace h := h.1 c
    refine wp_sts 1 (pc' := 97) (ls' := [some (.inr (.inr 103)), some (.inl x1), some (.inl x2), some (.inl x3), some (.inl x4), some (.inl x5), some (.inl x6)]) (st' := [.inl x5]) (M' := M) rfl ?_
    refine c1_eq rfl (fun c => ?_) (fun c => ?_)
    · replace h := h.1 c
      refine wp_sts 1 (pc' := 105) (ls' := [some (.inr (.inr 103)), some (.inl x1), some (.inl x2), some (.inl x3), some (.inl x4), some (.inl x5), some (.inl x6)]) (st' := [.inl ((-1))]) (M' := M) rfl ?_
      exact wp_ret rfl rfl (z := (some (.inl ((-1))), M)) rfl h
    · replace h := h.2 c
      refine wp_sts 2 (pc' := 105) (ls' := [some (.inr (.inr 103)), some (.inl x1), some (.inl x2), some (.inl x3), some (.inl x4), some (.inl x5), some (.inl x6)]) (st' := [.inl x3]) (M' := M) rfl ?_
      exact wp_ret rfl rfl (z := (some (.inl x3), M)) rfl h
  · replace h := h.2 c
    refine wp_sts 1 (pc' := 19) (ls' := [some (.inr (.inr 103)), some (.inl x1), some (.inl x2), some (.inl x3), some (.inl x4), some (.inl x5), some (.inl x6)]) (st' := [.inr (.inr 103)]) (M' := M) rfl ?_
    refine g_getR (j := 121) rfl hS rfl (str_r hS 103 38 121 rfl) (by decide) ?_
    refine wp_sts 3 (pc' := 28) (ls' := [some (.inr (.inr 103)), some (.inl x1), some (.inl x2), some (.inl x3), some (.inl x4), some (.inl x5), some (.inl x6)]) (st' := [.inl 6, .inl x4, .inl x6, .inr (.inr 121)]) (M' := M) rfl ?_
    obtain ⟨hf1, h⟩ := h
    refine w_irem rfl (by decide) hf1 ?_
    obtain ⟨hf2, h⟩ := h
    refine g_iast (n := 6) rfl hS rfl hf2 ?_
    refine wp_sts 2 (pc' := 34) (ls' := [some (.inr (.inr 103)), some (.inl x1), some (.inl x2), some (.inl x3), some (.inl x4), some (.inl x5), some (.inl x6)]) (st' := [.inl 6, .inl x4]) (M' := (ab_w M 121 x6.toNat (x4.tmod 6))) rfl ?_
    refine w_idiv rfl (by decide) hf1 ?_
    refine wp_sts 2 (pc' := 39) (ls' := [some (.inr (.inr 103)), some (.inl x1), some (.inl x2), some (.inl x3), some (.inl (x4.tdiv 6)), some (.inl x5), some (.inl x6)]) (st' := [.inl x5]) (M' := (ab_w M 121 x6.toNat (x4.tmod 6))) rfl ?_
    refine c1_eq rfl (fun c => ?_) (fun c => ?_)
    · replace h := h.1 c
      exact h
    · replace h := h.2 c
      refine wp_sts 1 (pc' := 43) (ls' := [some (.inr (.inr 103)), some (.inl x1), some (.inl x2), some (.inl x3), some (.inl (x4.tdiv 6)), some (.inl x5), some (.inl x6)]) (st' := [.inr (.inr 103)]) (M' := (ab_w M 121 x6.toNat (x4.tmod 6))) rfl ?_
      refine g_getR (j := 121) rfl (str_a (k := 121) (f := x6.toNat) (v := x4.tmod 6) hS rfl) rfl (str_r (str_a (k := 121) (f := x6.toNat) (v := x4.tmod 6) hS rfl) 103 38 121 rfl) (by decide) ?_
      refine wp_sts 1 (pc' := 48) (ls' := [some (.inr (.inr 103)), some (.inl x1), some (.inl x2), some (.inl x3), some (.inl (x4.tdiv 6)), some (.inl x5), some (.inl x6)]) (st' := [.inl x6, .inr (.inr 121)]) (M' := (ab_w M 121 x6.toNat (x4.tmod 6))) rfl ?_
      refine g_iald (n := 6) rfl (str_a (k := 121) (f := x6.toNat) (v := x4.tmod 6) hS rfl) rfl hf2 ?_
      refine wp_sts 1 (pc' := 50) (ls' := [some (.inr (.inr 103)), some (.inl x1), some (.inl x2), some (.inl x3), some (.inl (x4.tdiv 6)), some (.inl x5), some (.inl x6)]) (st' := [.inr (.inr 103), .inl ((ab_w M 121 x6.toNat (x4.tmod 6)) 121 x6.toNat)]) (M' := (ab_w M 121 x6.toNat (x4.tmod 6))) rfl ?_
      refine g_getI rfl (str_a (k := 121) (f := x6.toNat) (v := x4.tmod 6) hS rfl) rfl ?_
      refine c2_ge rfl (fun c => ?_) (fun c => ?_)
      · replace h := h.1 c
        exact h
      · replace h := h.2 c
        refine wp_sts 2 (pc' := 58) (ls' := [some (.inr (.inr 103)), some (.inl x1), some (.inl x2), some (.inl x3), some (.inl (x4.tdiv 6)), some (.inl x5), some (.inl x6)]) (st' := [.inr (.inr 103), .inl x3]) (M' := (ab_w M 121 x6.toNat (x4.tmod 6))) rfl ?_
        refine g_getR (j := 121) rfl (str_a (k := 121) (f := x6.toNat) (v := x4.tmod 6) hS rfl) rfl (str_r (str_a (k := 121) (f := x6.toNat) (v := x4.tmod 6) hS rfl) 103 38 121 rfl) (by decide) ?_
        refine wp_sts 1 (pc' := 63) (ls' := [some (.inr (.inr 103)), some (.inl x1), some (.inl x2), some (.inl x3), some (.inl (x4.tdiv 6)), some (.inl x5), some (.inl x6)]) (st' := [.inl x6, .inr (.inr 121), .inl x3]) (M' := (ab_w M 121 x6.toNat (x4.tmod 6))) rfl ?_
        refine g_iald (n := 6) rfl (str_a (k := 121) (f := x6.toNat) (v := x4.tmod 6) hS rfl) rfl hf2 ?_
        obtain ⟨r1, M1, he, hS1, h⟩ := h
        refine g_callI (c := 108) (as := [.inl x3, .inl ((ab_w M 121 x6.toNat (x4.tmod 6)) 121 x6.toNat)]) (rs := []) rfl rfl (str_a (k := 121) (f := x6.toNat) (v := x4.tmod 6) hS rfl) hd rfl he ?_
        refine c1_ne rfl (fun c => ?_) (fun c => ?_)
        · replace h := h.1 c
          exact h
        · replace h := h.2 c
          refine wp_sts 6 (pc' := 80) (ls' := [some (.inr (.inr 103)), some (.inl x1), some (.inl x2), some (.inl x3), some (.inl (x4.tdiv 6)), some (.inl 1), some (.inl x6)]) (st' := [.inr (.inr 103), .inl 1, .inl x3]) (M' := M1) rfl ?_
          refine g_getR (j := 121) rfl hS1 rfl (str_r hS1 103 38 121 rfl) (by decide) ?_
          refine wp_sts 1 (pc' := 85) (ls' := [some (.inr (.inr 103)), some (.inl x1), some (.inl x2), some (.inl x3), some (.inl (x4.tdiv 6)), some (.inl 1), some (.inl x6)]) (st' := [.inl x6, .inr (.inr 121), .inl 1, .inl x3]) (M' := M1) rfl ?_
          refine g_iald (n := 6) rfl hS1 rfl hf2 ?_
          refine wp_sts 3 (pc' := 89) (ls' := [some (.inr (.inr 103)), some (.inl x1), some (.inl x2), some (.inl (ab_or x3 (ab_shl 1 (M1 121 x6.toNat)))), some (.inl (x4.tdiv 6)), some (.inl 1), some (.inl x6)]) (st' := []) (M' := M1) rfl ?_
          obtain ⟨hf3, h⟩ := h
          refine w_iinc rfl rfl hf3 ?_
          refine wp_sts 1 (pc' := 13) (ls' := [some (.inr (.inr 103)), some (.inl x1), some (.inl x2), some (.inl (ab_or x3 (ab_shl 1 (M1 121 x6.toNat)))), some (.inl (x4.tdiv 6)), some (.inl 1), some (.inl (x6 + (-1)))]) (st' := []) (M' := M1) rfl ?_
          exact h
/- Model.digits, at 74 -/
theorem b153_74 {d t : Nat}  {x1 : Int} {x2 : Int} {x3 : Int} {x4 : Int} {x5 : Int} {x6 : Int} {M : ab_M} {Q : Option ab_V → ab_M → Prop} (hd : 1 ≤ d) (hS : pu_str t M)  (h : (0 ≤ x6 ∧ x6 < 6) ∧ ab_rg (x6 + (-1)) ∧ ab_wp d 153 13 [some (.inr (.inr 103)), some (.inl x1), some (.inl x2), some (.inl (ab_or x3 (ab_shl 1 (M 121 x6.toNat)))), some (.inl x4), some (.inl 0), some (.inl (x6 + (-1)))] [] M Q) : ab_wp d 153 74 [some (.inr (.inr 103)), some (.inl x1), some (.inl x2), some (.inl x3), some (.inl x4), some (.inl x5), some (.inl x6)] [] M Q := by
  refine wp_sts 5 (pc' := 80) (ls' := [some (.inr (.inr 103)), some (.inl x1), some (.inl x2), some (.inl x3), some (.inl x4), some (.inl 0), some (.inl x6)]) (st' := [.inr (.inr 103), .inl 1, .inl x3]) (M' := M) rfl ?_
  refine g_getR (j := 121) rfl hS rfl (str_r hS 103 38 121 rfl) (by decide) ?_
  refine wp_sts 1 (pc' := 85) (ls' := [some (.inr (.inr 103)), some (.inl x1), some (.inl x2), some (.inl x3), some (.inl x4), some (.inl 0), some (.inl x6)]) (st' := [.inl x6, .inr (.inr 121), .inl 1, .inl x3]) (M' := M) rfl ?_
  obtain ⟨hf1, h⟩ := h
  refine g_iald (n := 6) rfl hS rfl hf1 ?_
  refine wp_sts 3 (pc' := 89) (ls' := [some (.inr (.inr 103)), some (.inl x1), some (.inl x2), some (.inl (ab_or x3 (ab_shl 1 (M 121 x6.toNat)))), some (.inl x4), some (.inl 0), some (.inl x6)]) (st' := []) (M' := M) rfl ?_
  obtain ⟨hf2, h⟩ := h
  refine w_iinc rfl rfl hf2 ?_
  refine wp_sts 1 (pc' := 13) (ls' := [some (.inr (.inr 103)), some (.inl x1), some (.inl x2), some (.inl (ab_or x3 (ab_shl 1 (M 121 x6.toNat)))), some (.inl x4), some (.inl 0), some (.inl (x6 + (-1)))]) (st' := []) (M' := M) rfl ?_
  exact h
/- Model.isAhead, at 0 -/
theorem b154_0 {d t : Nat}  {x1 : Int} {x2 : Int} {M : ab_M} {Q : Option ab_V → ab_M → Prop} (hd : 1 ≤ d) (hS : pu_str t M)  (h : ab_wp d 154 2 [some (.inr (.inr 103)), some (.inl x1), some (.inl x2), some (.inl 0)] [] M Q) : ab_wp d 154 0 [some (.inr (.inr 103)), some (.inl x1), some (.inl x2), none] [] M Q := by
  refine wp_sts 2 (pc' := 2) (ls' := [some (.inr (.inr 103)), some (.inl x1), some (.inl x2), some (.inl 0)]) (st' := []) (M' := M) rfl ?_
  exact h
/- Model.isAhead, at 2 -/
theorem b154_2 {d t : Nat}  {x1 : Int} {x2 : Int} {x3 : Int} {M : ab_M} {Q : Option ab_V → ab_M → Prop} (hd : 1 ≤ d) (hS : pu_str t M)  (h : (x1 ≤ x3 → (x2 ≤ x1 → Q (some (.inl 0)) M) ∧ (x1 < x2 → Q (some (.inl 1)) M)) ∧ (x3 < x1 → (x2 ≤ x3 → (x2 ≤ x1 → Q (some (.inl 0)) M) ∧ (x1 < x2 → Q (some (.inl 1)) M)) ∧ (x3 < x2 → (0 ≤ x3 ∧ x3 < 6) ∧ (M 121 x3.toNat = M 122 x3.toNat → ab_rg (x3 + 1) ∧ ab_wp d 154 2 [some (.inr (.inr 103)), some (.inl x1), some (.inl x2), some (.inl (x3 + 1))] [] M Q) ∧ (M 121 x3.toNat ≠ M 122 x3.toNat → (M 122 x3.toNat ≤ M 121 x3.toNat → Q (some (.inl 0)) M) ∧ (M 121 x3.toNat < M 122 x3.toNat → Q (some (.inl 1)) M))))) : ab_wp d 154 2 [some (.inr (.inr 103)), some (.inl x1), some (.inl x2), some (.inl x3)] [] M Q := by
  refine wp_sts 2 (pc' := 4) (ls' := [some (.inr (.inr 103)), some (.inl x1), some (.inl x2), some (.inl x3)]) (st' := [.inl x1, .inl x3]) (M' := M) rfl ?_
  refine c2_ge rfl (fun c => ?_) (fun c => ?_)
  · replace h := h.1 c
    refine wp_sts 2 (pc' := 56) (ls' := [some (.inr (.inr 103)), some (.inl x1), some (.inl x2), some (.inl x3)]) (st' := [.inl x2, .inl x1]) (M' := M) rfl ?_
    refine c2_ge rfl (fun c => ?_) (fun c => ?_)
    · replace h := h.1 c
      refine wp_sts 1 (pc' := 64) (ls' := [some (.inr (.inr 103)), some (.inl x1), some (.inl x2), some (.inl x3)]) (st' := [.inl 0]) (M' := M) rfl ?_
      exact g_retB rfl (by decide) h
    · replace h := h.2 c
      refine wp_sts 2 (pc' := 64) (ls' := [some (.inr (.inr 103)), some (.inl x1), some (.inl x2), some (.inl x3)]) (st' := [.inl 1]) (M' := M) rfl ?_
      exact g_retB rfl (by decide) h
  · replace h := h.2 c
    refine wp_sts 2 (pc' := 9) (ls' := [some (.inr (.inr 103)), some (.inl x1), some (.inl x2), some (.inl x3)]) (st' := [.inl x2, .inl x3]) (M' := M) rfl ?_
    refine c2_ge rfl (fun c => ?_) (fun c => ?_)
    · replace h := h.1 c
      refine wp_sts 2 (pc' := 56) (ls' := [some (.inr (.inr 103)), some (.inl x1), some (.inl x2), some (.inl x3)]) (st' := [.inl x2, .inl x1]) (M' := M) rfl ?_
      refine c2_ge rfl (fun c => ?_) (fun c => ?_)
      · replace h := h.1 c
        refine wp_sts 1 (pc' := 64) (ls' := [some (.inr (.inr 103)), some (.inl x1), some (.inl x2), some (.inl x3)]) (st' := [.inl 0]) (M' := M) rfl ?_
        exact g_retB rfl (by decide) h
      · replace h := h.2 c
        refine wp_sts 2 (pc' := 64) (ls' := [some (.inr (.inr 103)), some (.inl x1), some (.inl x2), some (.inl x3)]) (st' := [.inl 1]) (M' := M) rfl ?_
        exact g_retB rfl (by decide) h
    · replace h := h.2 c
      refine wp_sts 1 (pc' := 13) (ls' := [some (.inr (.inr 103)), some (.inl x1), some (.inl x2), some (.inl x3)]) (st' := [.inr (.inr 103)]) (M' := M) rfl ?_
      refine g_getR (j := 121) rfl hS rfl (str_r hS 103 38 121 rfl) (by decide) ?_
      refine wp_sts 1 (pc' := 17) (ls' := [some (.inr (.inr 103)), some (.inl x1), some (.inl x2), some (.inl x3)]) (st' := [.inl x3, .inr (.inr 121)]) (M' := M) rfl ?_
      obtain ⟨hf1, h⟩ := h
      refine g_iald (n := 6) rfl hS rfl hf1 ?_
      refine wp_sts 1 (pc' := 19) (ls' := [some (.inr (.inr 103)), some (.inl x1), some (.inl x2), some (.inl x3)]) (st' := [.inr (.inr 103), .inl (M 121 x3.toNat)]) (M' := M) rfl ?_
      refine g_getR (j := 122) rfl hS rfl (str_r hS 103 39 122 rfl) (by decide) ?_
      refine wp_sts 1 (pc' := 23) (ls' := [some (.inr (.inr 103)), some (.inl x1), some (.inl x2), some (.inl x3)]) (st' := [.inl x3, .inr (.inr 122), .inl (M 121 x3.toNat)]) (M' := M) rfl ?_
      refine g_iald (n := 6) rfl hS rfl hf1 ?_
      refine c2_eq rfl (fun c => ?_) (fun c => ?_)
      · replace h := h.1 c
        obtain ⟨hf2, h⟩ := h
        refine w_iinc rfl rfl hf2 ?_
        refine wp_sts 1 (pc' := 2) (ls' := [some (.inr (.inr 103)), some (.inl x1), some (.inl x2), some (.inl (x3 + 1))]) (st' := []) (M' := M) rfl ?_
        exact h
      · replace h := h.2 c
        refine wp_sts 1 (pc' := 28) (ls' := [some (.inr (.inr 103)), some (.inl x1), some (.inl x2), some (.inl x3)]) (st' := [.inr (.inr 103)]) (M' := M) rfl ?_
        refine g_getR (j := 121) rfl hS rfl (str_r hS 103 38 121 rfl) (by decide) ?_
        refine wp_sts 1 (pc' := 32) (ls' := [some (.inr (.inr 103)), some (.inl x1), some (.inl x2), some (.inl x3)]) (st' := [.inl x3, .inr (.inr 121)]) (M' := M) rfl ?_
        refine g_iald (n := 6) rfl hS rfl hf1 ?_
        refine wp_sts 1 (pc' := 34) (ls' := [some (.inr (.inr 103)), some (.inl x1), some (.inl x2), some (.inl x3)]) (st' := [.inr (.inr 103), .inl (M 121 x3.toNat)]) (M' := M) rfl ?_
        refine g_getR (j := 122) rfl hS rfl (str_r hS 103 39 122 rfl) (by decide) ?_
        refine wp_sts 1 (pc' := 38) (ls' := [some (.inr (.inr 103)), some (.inl x1), some (.inl x2), some (.inl x3)]) (st' := [.inl x3, .inr (.inr 122), .inl (M 121 x3.toNat)]) (M' := M) rfl ?_
        refine g_iald (n := 6) rfl hS rfl hf1 ?_
        refine c2_ge rfl (fun c => ?_) (fun c => ?_)
        · replace h := h.1 c
          refine wp_sts 1 (pc' := 47) (ls' := [some (.inr (.inr 103)), some (.inl x1), some (.inl x2), some (.inl x3)]) (st' := [.inl 0]) (M' := M) rfl ?_
          exact g_retB rfl (by decide) h
        · replace h := h.2 c
          refine wp_sts 2 (pc' := 47) (ls' := [some (.inr (.inr 103)), some (.inl x1), some (.inl x2), some (.inl x3)]) (st' := [.inl 1]) (M' := M) rfl ?_
          exact g_retB rfl (by decide) h
/- Model.round, at 0 -/
set_option maxRecDepth 100000 in
theorem b155_0 {d t : Nat}  {x1 : Int} {M : ab_M} {Q : Option ab_V → ab_M → Prop} (hd : 1 ≤ d) (hS : pu_str t M)  (h : ∃ r1 M1, ab_ev (d - 1) 129 [.inr (.inr 103), .inl 0] M (some (.inl r1)) M1 ∧ pu_str t M1 ∧ ∃ M2, ab_ev (d - 1) 149 [.inr (.inr 103), .inl (M1 112 0), .inl (M1 112 1), .inl r1] M1 none M2 ∧ pu_str t M2 ∧ ab_wp d 155 36 [some (.inr (.inr 103)), some (.inl x1), some (.inl r1), some (.inl 0), some (.inl (M2 112 0)), some (.inl 1), none] [] M2 Q) : ab_wp d 155 0 [some (.inr (.inr 103)), some (.inl x1), none, none, none, none, none] [] M Q := by
  refine wp_sts 2 (pc' := 2) (ls' := [some (.inr (.inr 103)), some (.inl x1), none, none, none, none, none]) (st' := [.inl 0, .inr (.inr 103)]) (M' := M) rfl ?_
  obtain ⟨r1, M1, he, hS1, h⟩ := h
  refine g_callI (c := 129) (as := [.inr (.inr 103), .inl 0]) (rs := []) rfl rfl hS hd rfl he ?_
  refine wp_sts 3 (pc' := 8) (ls' := [some (.inr (.inr 103)), some (.inl x1), some (.inl r1), none, none, none, none]) (st' := [.inr (.inr 103), .inr (.inr 103)]) (M' := M1) rfl ?_
  refine g_getR (j := 112) rfl hS1 rfl (str_r hS1 103 15 112 rfl) (by decide) ?_
  refine wp_sts 1 (pc' := 12) (ls' := [some (.inr (.inr 103)), some (.inl x1), some (.inl r1), none, none, none, none]) (st' := [.inl 0, .inr (.inr 112), .inr (.inr 103)]) (M' := M1) rfl ?_
  refine g_iald (n := 10) rfl hS1 rfl (by decide) ?_
  refine wp_sts 1 (pc' := 14) (ls' := [some (.inr (.inr 103)), some (.inl x1), some (.inl r1), none, none, none, none]) (st' := [.inr (.inr 103), .inl (M1 112 0), .inr (.inr 103)]) (M' := M1) rfl ?_
  refine g_getR (j := 112) rfl hS1 rfl (str_r hS1 103 15 112 rfl) (by decide) ?_
  refine wp_sts 1 (pc' := 18) (ls' := [some (.inr (.inr 103)), some (.inl x1), some (.inl r1), none, none, none, none]) (st' := [.inl 1, .inr (.inr 112), .inl (M1 112 0), .inr (.inr 103)]) (M' := M1) rfl ?_
  refine g_iald (n := 10) rfl hS1 rfl (by decide) ?_
  refine wp_sts 1 (pc' := 20) (ls' := [some (.inr (.inr 103)), some (.inl x1), some (.inl r1), none, none, none, none]) (st' := [.inl r1, .inl (M1 112 1), .inl (M1 112 0), .inr (.inr 103)]) (M' := M1) rfl ?_
  obtain ⟨M2, he, hS2, h⟩ := h
  refine g_callV (c := 149) (as := [.inr (.inr 103), .inl (M1 112 0), .inl (M1 112 1), .inl r1]) (rs := []) rfl rfl hS1 hd rfl he ?_
  refine wp_sts 3 (pc' := 26) (ls' := [some (.inr (.inr 103)), some (.inl x1), some (.inl r1), some (.inl 0), none, none, none]) (st' := [.inr (.inr 103)]) (M' := M2) rfl ?_
  refine g_getR (j := 112) rfl hS2 rfl (str_r hS2 103 15 112 rfl) (by decide) ?_
  refine wp_sts 1 (pc' := 30) (ls' := [some (.inr (.inr 103)), some (.inl x1), some (.inl r1), some (.inl 0), none, none, none]) (st' := [.inl 0, .inr (.inr 112)]) (M' := M2) rfl ?_
  refine g_iald (n := 10) rfl hS2 rfl (by decide) ?_
  refine wp_sts 3 (pc' := 36) (ls' := [some (.inr (.inr 103)), some (.inl x1), some (.inl r1), some (.inl 0), some (.inl (M2 112 0)), some (.inl 1), none]) (st' := []) (M' := M2) rfl ?_
  exact h
/- Model.round, at 36 -/
set_option maxRecDepth 100000 in
theorem b155_36 {d t : Nat}  {x1 : Int} {x2 : Int} {x3 : Int} {x4 : Int} {x5 : Int} {y6 : Option ab_V} {M : ab_M} {Q : Option ab_V → ab_M → Prop} (hd : 1 ≤ d) (hS : pu_str t M)  (h : (64 ≤ x5 → (x1 = (-1) → (x1 ≠ (-1) → Q (some (.inl x4)) M) ∧ (x1 = (-1) → Q (some (.inl x3)) M)) ∧ (x1 ≠ (-1) → (x1 ≠ (-2) → ∃ r1 M1, ab_ev (d - 1) 152 [.inr (.inr 103), .inl x3, .inl x4, .inl x2] M (some (.inl r1)) M1 ∧ pu_str t M1 ∧ ab_rg (r1 - 1) ∧ ∃ r2 M2, ab_ev (d - 1) 107 [.inr (.inl x1), .inr (.inl 0), .inr (.inl (r1 - 1))] M1 (some (.inl r2)) M2 ∧ pu_str t M2 ∧ (r2 = 0 → Q (some (.inl ((-1)))) M2) ∧ (r2 ≠ 0 → (0 ≤ x1 ∧ x1 < 6) ∧ Q (some (.inl (M2 122 x1.toNat))) M2)) ∧ (x1 = (-2) → (x1 ≠ (-1) → Q (some (.inl x4)) M) ∧ (x1 = (-1) → Q (some (.inl x3)) M)))) ∧ (x5 < 64 → (ab_and x5 (ab_xor x2 ((-1))) ≠ 0 → ab_rg (x5 + 1) ∧ ab_wp d 155 36 [some (.inr (.inr 103)), some (.inl x1), some (.inl x2), some (.inl x3), some (.inl x4), some (.inl (x5 + 1)), some (.inl 1000000)] [] M Q) ∧ (ab_and x5 (ab_xor x2 ((-1))) = 0 → ∃ r1 M1, ab_ev (d - 1) 150 [.inr (.inr 103), .inl x5, .inl (M 112 0)] M (some (.inl r1)) M1 ∧ pu_str t M1 ∧ (1000000 ≤ r1 → ab_rg (x5 + 1) ∧ ab_wp d 155 36 [some (.inr (.inr 103)), some (.inl x1), some (.inl x2), some (.inl x3), some (.inl x4), some (.inl (x5 + 1)), some (.inl r1)] [] M1 Q) ∧ (r1 < 1000000 → ∃ r2 M2, ab_ev (d - 1) 130 [.inr (.inr 103), .inl x5] M1 (some (.inl r2)) M2 ∧ pu_str t M2 ∧ (x3 < r2 → ∃ r3 M3, ab_ev (d - 1) 130 [.inr (.inr 103), .inl x5] M2 (some (.inl r3)) M3 ∧ pu_str t M3 ∧ ab_rg (x5 + 1) ∧ ab_wp d 155 36 [some (.inr (.inr 103)), some (.inl x1), some (.inl x2), some (.inl r3), some (.inl r1), some (.inl (x5 + 1)), some (.inl r1)] [] M3 Q) ∧ (r2 ≤ x3 → ∃ r3 M3, ab_ev (d - 1) 130 [.inr (.inr 103), .inl x5] M2 (some (.inl r3)) M3 ∧ pu_str t M3 ∧ (r3 ≠ x3 → ab_rg (x5 + 1) ∧ ab_wp d 155 36 [some (.inr (.inr 103)), some (.inl x1), some (.inl x2), some (.inl x3), some (.inl x4), some (.inl (x5 + 1)), some (.inl r1)] [] M3 Q) ∧ (r3 = x3 → (x4 ≤ r1 → ab_rg (x5 + 1) ∧ ab_wp d 155 36 [some (.inr (.inr 103)), some (.inl x1), some (.inl x2), some (.inl x3), some (.inl x4), some (.inl (x5 + 1)), some (.inl r1)] [] M3 Q) ∧ (r1 < x4 → ∃ r4 M4, ab_ev (d - 1) 130 [.inr (.inr 103), .inl x5] M3 (some (.inl r4)) M4 ∧ pu_str t M4 ∧ ab_rg (x5 + 1) ∧ ab_wp d 155 36 [some (.inr (.inr 103)), some (.inl x1), some (.inl x2), some (.inl r4), some (.inl r1), some (.inl (x5 + 1)), some (.inl r1)] [] M4 Q))))))) : ab_wp d 155 36 [some (.inr (.inr 103)), some (.inl x1), some (.inl x2), some (.inl x3), some (.inl x4), some (.inl x5), y6] [] M Q := by
  refine wp_sts 2 (pc' := 40) (ls' := [some (.inr (.inr 103)), some (.inl x1), some (.inl x2), some (.inl x3), some (.inl x4), some (.inl x5), y6]) (st' := [.inl 64, .inl x5]) (M' := M) rfl ?_
  refine c2_ge rfl (fun c => ?_) (fun c => ?_)
  · replace h := h.1 c
    refine wp_sts 2 (pc' := 124) (ls' := [some (.inr (.inr 103)), some (.inl x1), some (.inl x2), some (.inl x3), some (.inl x4), some (.inl x5), y6]) (st' := [.inl ((-1)), .inl x1]) (M' := M) rfl ?_
    refine c2_eq rfl (fun c => ?_) (fun c => ?_)
    · replace h := h.1 c
      refine wp_sts 2 (pc' := 135) (ls' := [some (.inr (.inr 103)), some (.inl x1), some (.inl x2), some (.inl x3), some (.inl x4), some (.inl x5), y6]) (st' := [.inl ((-1)), .inl x1]) (M' := M) rfl ?_
      refine c2_ne rfl (fun c => ?_) (fun c => ?_)
      · replace h := h.1 c
        refine wp_sts 1 (pc' := 144) (ls' := [some (.inr (.inr 103)), some (.inl x1), some (.inl x2), some (.inl x3), some (.inl x4), some (.inl x5), y6]) (st' := [.inl x4]) (M' := M) rfl ?_
        exact wp_ret rfl rfl (z := (some (.inl x4), M)) rfl h
      · replace h := h.2 c
        refine wp_sts 2 (pc' := 144) (ls' := [some (.inr (.inr 103)), some (.inl x1), some (.inl x2), some (.inl x3), some (.inl x4), some (.inl x5), y6]) (st' := [.inl x3]) (M' := M) rfl ?_
        exact wp_ret rfl rfl (z := (some (.inl x3), M)) rfl h
    · replace h := h.2 c
      refine wp_sts 2 (pc' := 130) (ls' := [some (.inr (.inr 103)), some (.inl x1), some (.inl x2), some (.inl x3), some (.inl x4), some (.inl x5), y6]) (st' := [.inl ((-2)), .inl x1]) (M' := M) rfl ?_
      refine c2_ne rfl (fun c => ?_) (fun c => ?_)
      · replace h := h.1 c
        refine wp_sts 4 (pc' := 150) (ls' := [some (.inr (.inr 103)), some (.inl x1), some (.inl x2), some (.inl x3), some (.inl x4), some (.inl x5), y6]) (st' := [.inl x2, .inl x4, .inl x3, .inr (.inr 103)]) (M' := M) rfl ?_
        obtain ⟨r1, M1, he, hS1, h⟩ := h
        refine g_callI (c := 152) (as := [.inr (.inr 103), .inl x3, .inl x4, .inl x2]) (rs := []) rfl rfl hS hd rfl he ?_
        refine wp_sts 6 (pc' := 161) (ls' := [some (.inr (.inr 103)), some (.inl x1), some (.inl x2), some (.inl x3), some (.inl x4), some (.inl r1), y6]) (st' := [.inl 1, .inl r1, .inr (.inl 0), .inr (.inl x1)]) (M' := M1) rfl ?_
        obtain ⟨hf1, h⟩ := h
        refine w_isub rfl hf1 ?_
        refine wp_sts 1 (pc' := 163) (ls' := [some (.inr (.inr 103)), some (.inl x1), some (.inl x2), some (.inl x3), some (.inl x4), some (.inl r1), y6]) (st' := [.inr (.inl (r1 - 1)), .inr (.inl 0), .inr (.inl x1)]) (M' := M1) rfl ?_
        obtain ⟨r2, M2, he, hS2, h⟩ := h
        refine g_callI (c := 107) (as := [.inr (.inl x1), .inr (.inl 0), .inr (.inl (r1 - 1))]) (rs := []) rfl rfl hS1 hd rfl he ?_
        refine c1_eq rfl (fun c => ?_) (fun c => ?_)
        · replace h := h.1 c
          refine wp_sts 1 (pc' := 179) (ls' := [some (.inr (.inr 103)), some (.inl x1), some (.inl x2), some (.inl x3), some (.inl x4), some (.inl r1), y6]) (st' := [.inl ((-1))]) (M' := M2) rfl ?_
          exact wp_ret rfl rfl (z := (some (.inl ((-1))), M2)) rfl h
        · replace h := h.2 c
          refine wp_sts 1 (pc' := 170) (ls' := [some (.inr (.inr 103)), some (.inl x1), some (.inl x2), some (.inl x3), some (.inl x4), some (.inl r1), y6]) (st' := [.inr (.inr 103)]) (M' := M2) rfl ?_
          refine g_getR (j := 122) rfl hS2 rfl (str_r hS2 103 39 122 rfl) (by decide) ?_
          refine wp_sts 1 (pc' := 174) (ls' := [some (.inr (.inr 103)), some (.inl x1), some (.inl x2), some (.inl x3), some (.inl x4), some (.inl r1), y6]) (st' := [.inl x1, .inr (.inr 122)]) (M' := M2) rfl ?_
          obtain ⟨hf2, h⟩ := h
          refine g_iald (n := 6) rfl hS2 rfl hf2 ?_
          refine wp_sts 1 (pc' := 179) (ls' := [some (.inr (.inr 103)), some (.inl x1), some (.inl x2), some (.inl x3), some (.inl x4), some (.inl r1), y6]) (st' := [.inl (M2 122 x1.toNat)]) (M' := M2) rfl ?_
          exact wp_ret rfl rfl (z := (some (.inl (M2 122 x1.toNat)), M2)) rfl h
      · replace h := h.2 c
        refine wp_sts 2 (pc' := 135) (ls' := [some (.inr (.inr 103)), some (.inl x1), some (.inl x2), some (.inl x3), some (.inl x4), some (.inl x5), y6]) (st' := [.inl ((-1)), .inl x1]) (M' := M) rfl ?_
        refine c2_ne rfl (fun c => ?_) (fun c => ?_)
        · replace h := h.1 c
          refine wp_sts 1 (pc' := 144) (ls' := [some (.inr (.inr 103)), some (.inl x1), some (.inl x2), some (.inl x3), some (.inl x4), some (.inl x5), y6]) (st' := [.inl x4]) (M' := M) rfl ?_
          exact wp_ret rfl rfl (z := (some (.inl x4), M)) rfl h
        · replace h := h.2 c
          refine wp_sts 2 (pc' := 144) (ls' := [some (.inr (.inr 103)), some (.inl x1), some (.inl x2), some (.inl x3), some (.inl x4), some (.inl x5), y6]) (st' := [.inl x3]) (M' := M) rfl ?_
          exact wp_ret rfl rfl (z := (some (.inl x3), M)) rfl h
  · replace h := h.2 c
    refine wp_sts 5 (pc' := 49) (ls' := [some (.inr (.inr 103)), some (.inl x1), some (.inl x2), some (.inl x3), some (.inl x4), some (.inl x5), y6]) (st' := [.inl (ab_and x5 (ab_xor x2 ((-1))))]) (M' := M) rfl ?_
    refine c1_ne rfl (fun c => ?_) (fun c => ?_)
    · replace h := h.1 c
      refine wp_sts 4 (pc' := 75) (ls' := [some (.inr (.inr 103)), some (.inl x1), some (.inl x2), some (.inl x3), some (.inl x4), some (.inl x5), some (.inl 1000000)]) (st' := [.inl 1000000, .inl 1000000]) (M' := M) rfl ?_
      refine c2_ge rfl (fun _ => ?_) (fun c => absurd c (by decide))
      obtain ⟨hf1, h⟩ := h
      refine w_iinc rfl rfl hf1 ?_
      refine wp_sts 1 (pc' := 36) (ls' := [some (.inr (.inr 103)), some (.inl x1), some (.inl x2), some (.inl x3), some (.inl x4), some (.inl (x5 + 1)), some (.inl 1000000)]) (st' := []) (M' := M) rfl ?_
      exact h
    · replace h := h.2 c
      refine wp_sts 3 (pc' := 56) (ls' := [some (.inr (.inr 103)), some (.inl x1), some (.inl x2), some (.inl x3), some (.inl x4), some (.inl x5), y6]) (st' := [.inr (.inr 103), .inl x5, .inr (.inr 103)]) (M' := M) rfl ?_
      refine g_getR (j := 112) rfl hS rfl (str_r hS 103 15 112 rfl) (by decide) ?_
      refine wp_sts 1 (pc' := 60) (ls' := [some (.inr (.inr 103)), some (.inl x1), some (.inl x2), some (.inl x3), some (.inl x4), some (.inl x5), y6]) (st' := [.inl 0, .inr (.inr 112), .inl x5, .inr (.inr 103)]) (M' := M) rfl ?_
      refine g_iald (n := 10) rfl hS rfl (by decide) ?_
      obtain ⟨r1, M1, he, hS1, h⟩ := h
      refine g_callI (c := 150) (as := [.inr (.inr 103), .inl x5, .inl (M 112 0)]) (rs := []) rfl rfl hS hd rfl he ?_
      refine wp_sts 4 (pc' := 75) (ls' := [some (.inr (.inr 103)), some (.inl x1), some (.inl x2), some (.inl x3), some (.inl x4), some (.inl x5), some (.inl r1)]) (st' := [.inl 1000000, .inl r1]) (M' := M1) rfl ?_
      refine c2_ge rfl (fun c => ?_) (fun c => ?_)
      · replace h := h.1 c
        obtain ⟨hf1, h⟩ := h
        refine w_iinc rfl rfl hf1 ?_
        refine wp_sts 1 (pc' := 36) (ls' := [some (.inr (.inr 103)), some (.inl x1), some (.inl x2), some (.inl x3), some (.inl x4), some (.inl (x5 + 1)), some (.inl r1)]) (st' := []) (M' := M1) rfl ?_
        exact h
      · replace h := h.2 c
        refine wp_sts 2 (pc' := 81) (ls' := [some (.inr (.inr 103)), some (.inl x1), some (.inl x2), some (.inl x3), some (.inl x4), some (.inl x5), some (.inl r1)]) (st' := [.inl x5, .inr (.inr 103)]) (M' := M1) rfl ?_
        obtain ⟨r2, M2, he, hS2, h⟩ := h
        refine g_callI (c := 130) (as := [.inr (.inr 103), .inl x5]) (rs := []) rfl rfl hS1 hd rfl he ?_
        refine wp_sts 1 (pc' := 85) (ls' := [some (.inr (.inr 103)), some (.inl x1), some (.inl x2), some (.inl x3), some (.inl x4), some (.inl x5), some (.inl r1)]) (st' := [.inl x3, .inl r2]) (M' := M2) rfl ?_
        refine c2_gt rfl (fun c => ?_) (fun c => ?_)
        · replace h := h.1 c
          refine wp_sts 2 (pc' := 108) (ls' := [some (.inr (.inr 103)), some (.inl x1), some (.inl x2), some (.inl x3), some (.inl x4), some (.inl x5), some (.inl r1)]) (st' := [.inl x5, .inr (.inr 103)]) (M' := M2) rfl ?_
          obtain ⟨r3, M3, he, hS3, h⟩ := h
          refine g_callI (c := 130) (as := [.inr (.inr 103), .inl x5]) (rs := []) rfl rfl hS2 hd rfl he ?_
          refine wp_sts 3 (pc' := 116) (ls' := [some (.inr (.inr 103)), some (.inl x1), some (.inl x2), some (.inl r3), some (.inl r1), some (.inl x5), some (.inl r1)]) (st' := []) (M' := M3) rfl ?_
          obtain ⟨hf1, h⟩ := h
          refine w_iinc rfl rfl hf1 ?_
          refine wp_sts 1 (pc' := 36) (ls' := [some (.inr (.inr 103)), some (.inl x1), some (.inl x2), some (.inl r3), some (.inl r1), some (.inl (x5 + 1)), some (.inl r1)]) (st' := []) (M' := M3) rfl ?_
          exact h
        · replace h := h.2 c
          refine wp_sts 2 (pc' := 91) (ls' := [some (.inr (.inr 103)), some (.inl x1), some (.inl x2), some (.inl x3), some (.inl x4), some (.inl x5), some (.inl r1)]) (st' := [.inl x5, .inr (.inr 103)]) (M' := M2) rfl ?_
          obtain ⟨r3, M3, he, hS3, h⟩ := h
          refine g_callI (c := 130) (as := [.inr (.inr 103), .inl x5]) (rs := []) rfl rfl hS2 hd rfl he ?_
          refine wp_sts 1 (pc' := 95) (ls' := [some (.inr (.inr 103)), some (.inl x1), some (.inl x2), some (.inl x3), some (.inl x4), some (.inl x5), some (.inl r1)]) (st' := [.inl x3, .inl r3]) (M' := M3) rfl ?_
          refine c2_ne rfl (fun c => ?_) (fun c => ?_)
          · replace h := h.1 c
            obtain ⟨hf1, h⟩ := h
            refine w_iinc rfl rfl hf1 ?_
            refine wp_sts 1 (pc' := 36) (ls' := [some (.inr (.inr 103)), some (.inl x1), some (.inl x2), some (.inl x3), some (.inl x4), some (.inl (x5 + 1)), some (.inl r1)]) (st' := []) (M' := M3) rfl ?_
            exact h
          · replace h := h.2 c
            refine wp_sts 2 (pc' := 102) (ls' := [some (.inr (.inr 103)), some (.inl x1), some (.inl x2), some (.inl x3), some (.inl x4), some (.inl x5), some (.inl r1)]) (st' := [.inl x4, .inl r1]) (M' := M3) rfl ?_
            refine c2_ge rfl (fun c => ?_) (fun c => ?_)
            · replace h := h.1 c
              obtain ⟨hf1, h⟩ := h
              refine w_iinc rfl rfl hf1 ?_
              refine wp_sts 1 (pc' := 36) (ls' := [some (.inr (.inr 103)), some (.inl x1), some (.inl x2), some (.inl x3), some (.inl x4), some (.inl (x5 + 1)), some (.inl r1)]) (st' := []) (M' := M3) rfl ?_
              exact h
            · replace h := h.2 c
              refine wp_sts 2 (pc' := 108) (ls' := [some (.inr (.inr 103)), some (.inl x1), some (.inl x2), some (.inl x3), some (.inl x4), some (.inl x5), some (.inl r1)]) (st' := [.inl x5, .inr (.inr 103)]) (M' := M3) rfl ?_
              obtain ⟨r4, M4, he, hS4, h⟩ := h
              refine g_callI (c := 130) (as := [.inr (.inr 103), .inl x5]) (rs := []) rfl rfl hS3 hd rfl he ?_
              refine wp_sts 3 (pc' := 116) (ls' := [some (.inr (.inr 103)), some (.inl x1), some (.inl x2), some (.inl r4), some (.inl r1), some (.inl x5), some (.inl r1)]) (st' := []) (M' := M4) rfl ?_
              obtain ⟨hf1, h⟩ := h
              refine w_iinc rfl rfl hf1 ?_
              refine wp_sts 1 (pc' := 36) (ls' := [some (.inr (.inr 103)), some (.inl x1), some (.inl x2), some (.inl r4), some (.inl r1), some (.inl (x5 + 1)), some (.inl r1)]) (st' := []) (M' := M4) rfl ?_
              exact h
/- Model.two, at 0 -/
set_option maxRecDepth 100000 in
theorem b156_0 {d t : Nat}  {x1 : Int} {M : ab_M} {Q : Option ab_V → ab_M → Prop} (hd : 1 ≤ d) (hS : pu_str t M)  (h : ∃ r1 M1, ab_ev (d - 1) 109 [.inr (.inr 103), .inl x1] M (some (.inl r1)) M1 ∧ pu_str t M1 ∧ (r1 ≠ 0 → ∃ r2 M2, ab_ev (d - 1) 129 [.inr (.inr 103), .inl 0] M1 (some (.inl r2)) M2 ∧ pu_str t M2 ∧ ∃ M3, ab_ev (d - 1) 149 [.inr (.inr 103), .inl (M2 112 0), .inl x1, .inl r2] M2 none M3 ∧ pu_str t M3 ∧ ab_wp d 156 31 [some (.inr (.inr 103)), some (.inl x1), some (.inl r2), some (.inl 0), none, none, none, none] [] M3 Q) ∧ (r1 = 0 → Q (some (.inl ((-1000000001)))) M1)) : ab_wp d 156 0 [some (.inr (.inr 103)), some (.inl x1), none, none, none, none, none, none] [] M Q := by
  refine wp_sts 2 (pc' := 2) (ls' := [some (.inr (.inr 103)), some (.inl x1), none, none, none, none, none, none]) (st' := [.inl x1, .inr (.inr 103)]) (M' := M) rfl ?_
  obtain ⟨r1, M1, he, hS1, h⟩ := h
  refine g_callI (c := 109) (as := [.inr (.inr 103), .inl x1]) (rs := []) rfl rfl hS hd rfl he ?_
  refine c1_ne rfl (fun c => ?_) (fun c => ?_)
  · replace h := h.1 c
    refine wp_sts 2 (pc' := 13) (ls' := [some (.inr (.inr 103)), some (.inl x1), none, none, none, none, none, none]) (st' := [.inl 0, .inr (.inr 103)]) (M' := M1) rfl ?_
    obtain ⟨r2, M2, he, hS2, h⟩ := h
    refine g_callI (c := 129) (as := [.inr (.inr 103), .inl 0]) (rs := []) rfl rfl hS1 hd rfl he ?_
    refine wp_sts 3 (pc' := 19) (ls' := [some (.inr (.inr 103)), some (.inl x1), some (.inl r2), none, none, none, none, none]) (st' := [.inr (.inr 103), .inr (.inr 103)]) (M' := M2) rfl ?_
    refine g_getR (j := 112) rfl hS2 rfl (str_r hS2 103 15 112 rfl) (by decide) ?_
    refine wp_sts 1 (pc' := 23) (ls' := [some (.inr (.inr 103)), some (.inl x1), some (.inl r2), none, none, none, none, none]) (st' := [.inl 0, .inr (.inr 112), .inr (.inr 103)]) (M' := M2) rfl ?_
    refine g_iald (n := 10) rfl hS2 rfl (by decide) ?_
    refine wp_sts 2 (pc' := 26) (ls' := [some (.inr (.inr 103)), some (.inl x1), some (.inl r2), none, none, none, none, none]) (st' := [.inl r2, .inl x1, .inl (M2 112 0), .inr (.inr 103)]) (M' := M2) rfl ?_
    obtain ⟨M3, he, hS3, h⟩ := h
    refine g_callV (c := 149) (as := [.inr (.inr 103), .inl (M2 112 0), .inl x1, .inl r2]) (rs := []) rfl rfl hS2 hd rfl he ?_
    refine wp_sts 2 (pc' := 31) (ls' := [some (.inr (.inr 103)), some (.inl x1), some (.inl r2), some (.inl 0), none, none, none, none]) (st' := []) (M' := M3) rfl ?_
    exact h
  · replace h := h.2 c
    refine wp_sts 1 (pc' := 10) (ls' := [some (.inr (.inr 103)), some (.inl x1), none, none, none, none, none, none]) (st' := [.inl ((-1000000001))]) (M' := M1) rfl ?_
    exact wp_ret rfl rfl (z := (some (.inl ((-1000000001))), M1)) rfl h
/- Model.two, at 31 -/
set_option maxRecDepth 100000 in
theorem b156_31 {d t : Nat}  {x1 : Int} {x2 : Int} {x3 : Int} {M : ab_M} {Q : Option ab_V → ab_M → Prop} (hd : 1 ≤ d) (hS : pu_str t M)  (h : (64 ≤ x3 → ∃ M1, ab_ev (d - 1) 149 [.inr (.inr 103), .inl (M 112 0), .inl (M 112 1), .inl x2] M none M1 ∧ pu_str t M1 ∧ ab_wp d 156 95 [some (.inr (.inr 103)), some (.inl x1), some (.inl x2), some (.inl 0), some (.inl 0), none, none, none] [] M1 Q) ∧ (x3 < 64 → (ab_and x3 (ab_xor x2 ((-1))) ≠ 0 → ab_wp d 156 66 [some (.inr (.inr 103)), some (.inl x1), some (.inl x2), some (.inl x3), none, none, none, none] [.inl 0, .inl x3, .inr (.inr 123)] M Q) ∧ (ab_and x3 (ab_xor x2 ((-1))) = 0 → ∃ r1 M1, ab_ev (d - 1) 150 [.inr (.inr 103), .inl x3, .inl 0] M (some (.inl r1)) M1 ∧ pu_str t M1 ∧ (1000000 ≤ r1 → ab_wp d 156 66 [some (.inr (.inr 103)), some (.inl x1), some (.inl x2), some (.inl x3), none, none, none, none] [.inl 0, .inl x3, .inr (.inr 123)] M1 Q) ∧ (r1 < 1000000 → ab_wp d 156 66 [some (.inr (.inr 103)), some (.inl x1), some (.inl x2), some (.inl x3), none, none, none, none] [.inl 1, .inl x3, .inr (.inr 123)] M1 Q)))) : ab_wp d 156 31 [some (.inr (.inr 103)), some (.inl x1), some (.inl x2), some (.inl x3), none, none, none, none] [] M Q := by
  refine wp_sts 2 (pc' := 34) (ls' := [some (.inr (.inr 103)), some (.inl x1), some (.inl x2), some (.inl x3), none, none, none, none]) (st' := [.inl 64, .inl x3]) (M' := M) rfl ?_
  refine c2_ge rfl (fun c => ?_) (fun c => ?_)
  · replace h := h.1 c
    refine wp_sts 2 (pc' := 75) (ls' := [some (.inr (.inr 103)), some (.inl x1), some (.inl x2), some (.inl x3), none, none, none, none]) (st' := [.inr (.inr 103), .inr (.inr 103)]) (M' := M) rfl ?_
    refine g_getR (j := 112) rfl hS rfl (str_r hS 103 15 112 rfl) (by decide) ?_
    refine wp_sts 1 (pc' := 79) (ls' := [some (.inr (.inr 103)), some (.inl x1), some (.inl x2), some (.inl x3), none, none, none, none]) (st' := [.inl 0, .inr (.inr 112), .inr (.inr 103)]) (M' := M) rfl ?_
    refine g_iald (n := 10) rfl hS rfl (by decide) ?_
    refine wp_sts 1 (pc' := 81) (ls' := [some (.inr (.inr 103)), some (.inl x1), some (.inl x2), some (.inl x3), none, none, none, none]) (st' := [.inr (.inr 103), .inl (M 112 0), .inr (.inr 103)]) (M' := M) rfl ?_
    refine g_getR (j := 112) rfl hS rfl (str_r hS 103 15 112 rfl) (by decide) ?_
    refine wp_sts 1 (pc' := 85) (ls' := [some (.inr (.inr 103)), some (.inl x1), some (.inl x2), some (.inl x3), none, none, none, none]) (st' := [.inl 1, .inr (.inr 112), .inl (M 112 0), .inr (.inr 103)]) (M' := M) rfl ?_
    refine g_iald (n := 10) rfl hS rfl (by decide) ?_
    refine wp_sts 1 (pc' := 87) (ls' := [some (.inr (.inr 103)), some (.inl x1), some (.inl x2), some (.inl x3), none, none, none, none]) (st' := [.inl x2, .inl (M 112 1), .inl (M 112 0), .inr (.inr 103)]) (M' := M) rfl ?_
    obtain ⟨M1, he, hS1, h⟩ := h
    refine g_callV (c := 149) (as := [.inr (.inr 103), .inl (M 112 0), .inl (M 112 1), .inl x2]) (rs := []) rfl rfl hS hd rfl he ?_
    refine wp_sts 4 (pc' := 95) (ls' := [some (.inr (.inr 103)), some (.inl x1), some (.inl x2), some (.inl 0), some (.inl 0), none, none, none]) (st' := []) (M' := M1) rfl ?_
    exact h
  · replace h := h.2 c
    refine wp_sts 1 (pc' := 38) (ls' := [some (.inr (.inr 103)), some (.inl x1), some (.inl x2), some (.inl x3), none, none, none, none]) (st' := [.inr (.inr 103)]) (M' := M) rfl ?_
    refine g_getR (j := 123) rfl hS rfl (str_r hS 103 40 123 rfl) (by decide) ?_
    refine wp_sts 6 (pc' := 47) (ls' := [some (.inr (.inr 103)), some (.inl x1), some (.inl x2), some (.inl x3), none, none, none, none]) (st' := [.inl (ab_and x3 (ab_xor x2 ((-1)))), .inl x3, .inr (.inr 123)]) (M' := M) rfl ?_
    refine c1_ne rfl (fun c => ?_) (fun c => ?_)
    · replace h := h.1 c
      refine wp_sts 1 (pc' := 66) (ls' := [some (.inr (.inr 103)), some (.inl x1), some (.inl x2), some (.inl x3), none, none, none, none]) (st' := [.inl 0, .inl x3, .inr (.inr 123)]) (M' := M) rfl ?_
      exact h
    · replace h := h.2 c
      refine wp_sts 3 (pc' := 53) (ls' := [some (.inr (.inr 103)), some (.inl x1), some (.inl x2), some (.inl x3), none, none, none, none]) (st' := [.inl 0, .inl x3, .inr (.inr 103), .inl x3, .inr (.inr 123)]) (M' := M) rfl ?_
      obtain ⟨r1, M1, he, hS1, h⟩ := h
      refine g_callI (c := 150) (as := [.inr (.inr 103), .inl x3, .inl 0]) (rs := [.inl x3, .inr (.inr 123)]) rfl rfl hS hd rfl he ?_
      refine wp_sts 1 (pc' := 58) (ls' := [some (.inr (.inr 103)), some (.inl x1), some (.inl x2), some (.inl x3), none, none, none, none]) (st' := [.inl 1000000, .inl r1, .inl x3, .inr (.inr 123)]) (M' := M1) rfl ?_
      refine c2_ge rfl (fun c => ?_) (fun c => ?_)
      · replace h := h.1 c
        refine wp_sts 1 (pc' := 66) (ls' := [some (.inr (.inr 103)), some (.inl x1), some (.inl x2), some (.inl x3), none, none, none, none]) (st' := [.inl 0, .inl x3, .inr (.inr 123)]) (M' := M1) rfl ?_
        exact h
      · replace h := h.2 c
        refine wp_sts 2 (pc' := 66) (ls' := [some (.inr (.inr 103)), some (.inl x1), some (.inl x2), some (.inl x3), none, none, none, none]) (st' := [.inl 1, .inl x3, .inr (.inr 123)]) (M' := M1) rfl ?_
        exact h
/- Model.two, at 66 -/
set_option maxRecDepth 100000 in
theorem b156_66 {d t : Nat}  {x1 : Int} {x2 : Int} {x3 : Int} {x101 : Int} {x102 : Int} {M : ab_M} {Q : Option ab_V → ab_M → Prop} (hd : 1 ≤ d) (hS : pu_str t M)  (h : (0 ≤ x101 ∧ x101 < 64) ∧ (x102 = 0 ∨ x102 = 1) ∧ ab_rg (x3 + 1) ∧ ab_wp d 156 31 [some (.inr (.inr 103)), some (.inl x1), some (.inl x2), some (.inl (x3 + 1)), none, none, none, none] [] (ab_w M 123 x101.toNat x102) Q) : ab_wp d 156 66 [some (.inr (.inr 103)), some (.inl x1), some (.inl x2), some (.inl x3), none, none, none, none] [.inl x102, .inl x101, .inr (.inr 123)] M Q := by
  obtain ⟨hf1, h⟩ := h
  obtain ⟨hf2, h⟩ := h
  refine g_bast (n := 64) rfl hS rfl hf1 hf2 ?_
  obtain ⟨hf3, h⟩ := h
  refine w_iinc rfl rfl hf3 ?_
  refine wp_sts 1 (pc' := 31) (ls' := [some (.inr (.inr 103)), some (.inl x1), some (.inl x2), some (.inl (x3 + 1)), none, none, none, none]) (st' := []) (M' := (ab_w M 123 x101.toNat x102)) rfl ?_
  exact h
/- Model.two, at 95 -/
set_option maxRecDepth 100000 in
theorem b156_95 {d t : Nat}  {x1 : Int} {x2 : Int} {x3 : Int} {x4 : Int} {y5 : Option ab_V} {y6 : Option ab_V} {y7 : Option ab_V} {M : ab_M} {Q : Option ab_V → ab_M → Prop} (hd : 1 ≤ d) (hS : pu_str t M)  (h : (64 ≤ x4 → Q (some (.inl x3)) M) ∧ (x4 < 64 → (ab_and x4 (ab_xor x2 ((-1))) ≠ 0 → ab_wp d 156 133 [some (.inr (.inr 103)), some (.inl x1), some (.inl x2), some (.inl x3), some (.inl x4), some (.inl 0), some (.inl 0), y7] [] M Q) ∧ (ab_and x4 (ab_xor x2 ((-1))) = 0 → ∃ r1 M1, ab_ev (d - 1) 150 [.inr (.inr 103), .inl x4, .inl 0] M (some (.inl r1)) M1 ∧ pu_str t M1 ∧ (1000000 ≤ r1 → ab_wp d 156 133 [some (.inr (.inr 103)), some (.inl x1), some (.inl x2), some (.inl x3), some (.inl x4), some (.inl 0), some (.inl 0), y7] [] M1 Q) ∧ (r1 < 1000000 → ab_wp d 156 133 [some (.inr (.inr 103)), some (.inl x1), some (.inl x2), some (.inl x3), some (.inl x4), some (.inl 1), some (.inl 0), y7] [] M1 Q)))) : ab_wp d 156 95 [some (.inr (.inr 103)), some (.inl x1), some (.inl x2), some (.inl x3), some (.inl x4), y5, y6, y7] [] M Q := by
  refine wp_sts 2 (pc' := 99) (ls' := [some (.inr (.inr 103)), some (.inl x1), some (.inl x2), some (.inl x3), some (.inl x4), y5, y6, y7]) (st' := [.inl 64, .inl x4]) (M' := M) rfl ?_
  refine c2_ge rfl (fun c => ?_) (fun c => ?_)
  · replace h := h.1 c
    refine wp_sts 1 (pc' := 204) (ls' := [some (.inr (.inr 103)), some (.inl x1), some (.inl x2), some (.inl x3), some (.inl x4), y5, y6, y7]) (st' := [.inl x3]) (M' := M) rfl ?_
    exact wp_ret rfl rfl (z := (some (.inl x3), M)) rfl h
  · replace h := h.2 c
    refine wp_sts 5 (pc' := 108) (ls' := [some (.inr (.inr 103)), some (.inl x1), some (.inl x2), some (.inl x3), some (.inl x4), y5, y6, y7]) (st' := [.inl (ab_and x4 (ab_xor x2 ((-1))))]) (M' := M) rfl ?_
    refine c1_ne rfl (fun c => ?_) (fun c => ?_)
    · replace h := h.1 c
      refine wp_sts 4 (pc' := 133) (ls' := [some (.inr (.inr 103)), some (.inl x1), some (.inl x2), some (.inl x3), some (.inl x4), some (.inl 0), some (.inl 0), y7]) (st' := []) (M' := M) rfl ?_
      exact h
    · replace h := h.2 c
      refine wp_sts 3 (pc' := 115) (ls' := [some (.inr (.inr 103)), some (.inl x1), some (.inl x2), some (.inl x3), some (.inl x4), y5, y6, y7]) (st' := [.inl 0, .inl x4, .inr (.inr 103)]) (M' := M) rfl ?_
      obtain ⟨r1, M1, he, hS1, h⟩ := h
      refine g_callI (c := 150) (as := [.inr (.inr 103), .inl x4, .inl 0]) (rs := []) rfl rfl hS hd rfl he ?_
      refine wp_sts 1 (pc' := 120) (ls' := [some (.inr (.inr 103)), some (.inl x1), some (.inl x2), some (.inl x3), some (.inl x4), y5, y6, y7]) (st' := [.inl 1000000, .inl r1]) (M' := M1) rfl ?_
      refine c2_ge rfl (fun c => ?_) (fun c => ?_)
      · replace h := h.1 c
        refine wp_sts 4 (pc' := 133) (ls' := [some (.inr (.inr 103)), some (.inl x1), some (.inl x2), some (.inl x3), some (.inl x4), some (.inl 0), some (.inl 0), y7]) (st' := []) (M' := M1) rfl ?_
        exact h
      · replace h := h.2 c
        refine wp_sts 5 (pc' := 133) (ls' := [some (.inr (.inr 103)), some (.inl x1), some (.inl x2), some (.inl x3), some (.inl x4), some (.inl 1), some (.inl 0), y7]) (st' := []) (M' := M1) rfl ?_
        exact h
/- Model.two, at 133 -/
set_option maxRecDepth 100000 in
theorem b156_133 {d t : Nat}  {x1 : Int} {x2 : Int} {x3 : Int} {x4 : Int} {x5 : Int} {x6 : Int} {y7 : Option ab_V} {M : ab_M} {Q : Option ab_V → ab_M → Prop} (hd : 1 ≤ d) (hS : pu_str t M)  (h : (64 ≤ x6 → ab_rg (x4 + 1) ∧ ab_wp d 156 95 [some (.inr (.inr 103)), some (.inl x1), some (.inl x2), some (.inl x3), some (.inl (x4 + 1)), some (.inl x5), some (.inl x6), y7] [] M Q) ∧ (x6 < 64 → (x5 = 0 → ab_rg (x4 + 1) ∧ ab_wp d 156 95 [some (.inr (.inr 103)), some (.inl x1), some (.inl x2), some (.inl x3), some (.inl (x4 + 1)), some (.inl x5), some (.inl x6), y7] [] M Q) ∧ (x5 ≠ 0 → (0 ≤ x6 ∧ x6 < 64) ∧ (M 123 x6.toNat = 0 → ab_wp d 156 176 [some (.inr (.inr 103)), some (.inl x1), some (.inl x2), some (.inl x3), some (.inl x4), some (.inl x5), some (.inl x6), y7] [.inl 0] M Q) ∧ (M 123 x6.toNat ≠ 0 → (ab_and x4 x6 ≠ 0 → ab_wp d 156 176 [some (.inr (.inr 103)), some (.inl x1), some (.inl x2), some (.inl x3), some (.inl x4), some (.inl x5), some (.inl x6), y7] [.inl 0] M Q) ∧ (ab_and x4 x6 = 0 → ∃ r1 M1, ab_ev (d - 1) 130 [.inr (.inr 103), .inl (ab_or x4 x6)] M (some (.inl r1)) M1 ∧ pu_str t M1 ∧ ab_wp d 156 176 [some (.inr (.inr 103)), some (.inl x1), some (.inl x2), some (.inl x3), some (.inl x4), some (.inl x5), some (.inl x6), y7] [.inl r1] M1 Q))))) : ab_wp d 156 133 [some (.inr (.inr 103)), some (.inl x1), some (.inl x2), some (.inl x3), some (.inl x4), some (.inl x5), some (.inl x6), y7] [] M Q := by
  refine wp_sts 2 (pc' := 137) (ls' := [some (.inr (.inr 103)), some (.inl x1), some (.inl x2), some (.inl x3), some (.inl x4), some (.inl x5), some (.inl x6), y7]) (st' := [.inl 64, .inl x6]) (M' := M) rfl ?_
  refine c2_ge rfl (fun c => ?_) (fun c => ?_)
  · replace h := h.1 c
    obtain ⟨hf1, h⟩ := h
    refine w_iinc rfl rfl hf1 ?_
    refine wp_sts 1 (pc' := 95) (ls' := [some (.inr (.inr 103)), some (.inl x1), some (.inl x2), some (.inl x3), some (.inl (x4 + 1)), some (.inl x5), some (.inl x6), y7]) (st' := []) (M' := M) rfl ?_
    exact h
  · replace h := h.2 c
    refine wp_sts 1 (pc' := 142) (ls' := [some (.inr (.inr 103)), some (.inl x1), some (.inl x2), some (.inl x3), some (.inl x4), some (.inl x5), some (.inl x6), y7]) (st' := [.inl x5]) (M' := M) rfl ?_
    refine c1_eq rfl (fun c => ?_) (fun c => ?_)
    · replace h := h.1 c
      obtain ⟨hf1, h⟩ := h
      refine w_iinc rfl rfl hf1 ?_
      refine wp_sts 1 (pc' := 95) (ls' := [some (.inr (.inr 103)), some (.inl x1), some (.inl x2), some (.inl x3), some (.inl (x4 + 1)), some (.inl x5), some (.inl x6), y7]) (st' := []) (M' := M) rfl ?_
      exact h
    · replace h := h.2 c
      refine wp_sts 1 (pc' := 146) (ls' := [some (.inr (.inr 103)), some (.inl x1), some (.inl x2), some (.inl x3), some (.inl x4), some (.inl x5), some (.inl x6), y7]) (st' := [.inr (.inr 103)]) (M' := M) rfl ?_
      refine g_getR (j := 123) rfl hS rfl (str_r hS 103 40 123 rfl) (by decide) ?_
      refine wp_sts 1 (pc' := 151) (ls' := [some (.inr (.inr 103)), some (.inl x1), some (.inl x2), some (.inl x3), some (.inl x4), some (.inl x5), some (.inl x6), y7]) (st' := [.inl x6, .inr (.inr 123)]) (M' := M) rfl ?_
      obtain ⟨hf1, h⟩ := h
      refine g_bald (n := 64) rfl hS rfl hf1 ?_
      refine c1_eq rfl (fun c => ?_) (fun c => ?_)
      · replace h := h.1 c
        refine wp_sts 1 (pc' := 176) (ls' := [some (.inr (.inr 103)), some (.inl x1), some (.inl x2), some (.inl x3), some (.inl x4), some (.inl x5), some (.inl x6), y7]) (st' := [.inl 0]) (M' := M) rfl ?_
        exact h
      · replace h := h.2 c
        refine wp_sts 3 (pc' := 160) (ls' := [some (.inr (.inr 103)), some (.inl x1), some (.inl x2), some (.inl x3), some (.inl x4), some (.inl x5), some (.inl x6), y7]) (st' := [.inl (ab_and x4 x6)]) (M' := M) rfl ?_
        refine c1_ne rfl (fun c => ?_) (fun c => ?_)
        · replace h := h.1 c
          refine wp_sts 1 (pc' := 176) (ls' := [some (.inr (.inr 103)), some (.inl x1), some (.inl x2), some (.inl x3), some (.inl x4), some (.inl x5), some (.inl x6), y7]) (st' := [.inl 0]) (M' := M) rfl ?_
          exact h
        · replace h := h.2 c
          refine wp_sts 4 (pc' := 169) (ls' := [some (.inr (.inr 103)), some (.inl x1), some (.inl x2), some (.inl x3), some (.inl x4), some (.inl x5), some (.inl x6), y7]) (st' := [.inl (ab_or x4 x6), .inr (.inr 103)]) (M' := M) rfl ?_
          obtain ⟨r1, M1, he, hS1, h⟩ := h
          refine g_callI (c := 130) (as := [.inr (.inr 103), .inl (ab_or x4 x6)]) (rs := []) rfl rfl hS hd rfl he ?_
          refine wp_sts 1 (pc' := 176) (ls' := [some (.inr (.inr 103)), some (.inl x1), some (.inl x2), some (.inl x3), some (.inl x4), some (.inl x5), some (.inl x6), y7]) (st' := [.inl r1]) (M' := M1) rfl ?_
          exact h
/- Model.two, at 176 -/
set_option maxRecDepth 100000 in
theorem b156_176 {d t : Nat}  {x1 : Int} {x2 : Int} {x3 : Int} {x4 : Int} {x5 : Int} {x6 : Int} {y7 : Option ab_V} {x100 : Int} {M : ab_M} {Q : Option ab_V → ab_M → Prop} (hd : 1 ≤ d) (hS : pu_str t M)  (h : (x100 ≤ x3 → ab_rg (x6 + 1) ∧ ab_wp d 156 133 [some (.inr (.inr 103)), some (.inl x1), some (.inl x2), some (.inl x3), some (.inl x4), some (.inl x5), some (.inl (x6 + 1)), some (.inl x100)] [] M Q) ∧ (x3 < x100 → ab_rg (x6 + 1) ∧ ab_wp d 156 133 [some (.inr (.inr 103)), some (.inl x1), some (.inl x2), some (.inl x100), some (.inl x4), some (.inl x5), some (.inl (x6 + 1)), some (.inl x100)] [] M Q)) : ab_wp d 156 176 [some (.inr (.inr 103)), some (.inl x1), some (.inl x2), some (.inl x3), some (.inl x4), some (.inl x5), some (.inl x6), y7] [.inl x100] M Q := by
  refine wp_sts 3 (pc' := 181) (ls' := [some (.inr (.inr 103)), some (.inl x1), some (.inl x2), some (.inl x3), some (.inl x4), some (.inl x5), some (.inl x6), some (.inl x100)]) (st' := [.inl x3, .inl x100]) (M' := M) rfl ?_
  refine c2_le rfl (fun c => ?_) (fun c => ?_)
  · replace h := h.1 c
    refine wp_sts 2 (pc' := 191) (ls' := [some (.inr (.inr 103)), some (.inl x1), some (.inl x2), some (.inl x3), some (.inl x4), some (.inl x5), some (.inl x6), some (.inl x100)]) (st' := []) (M' := M) rfl ?_
    obtain ⟨hf1, h⟩ := h
    refine w_iinc rfl rfl hf1 ?_
    refine wp_sts 1 (pc' := 133) (ls' := [some (.inr (.inr 103)), some (.inl x1), some (.inl x2), some (.inl x3), some (.inl x4), some (.inl x5), some (.inl (x6 + 1)), some (.inl x100)]) (st' := []) (M' := M) rfl ?_
    exact h
  · replace h := h.2 c
    refine wp_sts 3 (pc' := 191) (ls' := [some (.inr (.inr 103)), some (.inl x1), some (.inl x2), some (.inl x100), some (.inl x4), some (.inl x5), some (.inl x6), some (.inl x100)]) (st' := []) (M' := M) rfl ?_
    obtain ⟨hf1, h⟩ := h
    refine w_iinc rfl rfl hf1 ?_
    refine wp_sts 1 (pc' := 133) (ls' := [some (.inr (.inr 103)), some (.inl x1), some (.inl x2), some (.inl x100), some (.inl x4), some (.inl x5), some (.inl (x6 + 1)), some (.inl x100)]) (st' := []) (M' := M) rfl ?_
    exact h
/- Model.costOf, at 0 -/
theorem b157_0 {d t : Nat}  {x1 : Int} {M : ab_M} {Q : Option ab_V → ab_M → Prop} (hd : 1 ≤ d) (hS : pu_str t M)  (h : ab_wp d 157 4 [some (.inr (.inr 103)), some (.inl x1), some (.inl 0), some (.inl 0), none] [] M Q) : ab_wp d 157 0 [some (.inr (.inr 103)), some (.inl x1), none, none, none] [] M Q := by
  refine wp_sts 4 (pc' := 4) (ls' := [some (.inr (.inr 103)), some (.inl x1), some (.inl 0), some (.inl 0), none]) (st' := []) (M' := M) rfl ?_
  exact h
/- Model.costOf, at 4 -/
theorem b157_4 {d t : Nat}  {x1 : Int} {x2 : Int} {x3 : Int} {y4 : Option ab_V} {M : ab_M} {Q : Option ab_V → ab_M → Prop} (hd : 1 ≤ d) (hS : pu_str t M)  (h : (M 103 11 ≤ x3 → Q (some (.inl x2)) M) ∧ (x3 < M 103 11 → ab_rg (5 * x3) ∧ ab_rg ((5 * x3) + 4) ∧ (0 ≤ (5 * x3) + 4 ∧ (5 * x3) + 4 < 30) ∧ ∃ r1 M1, ab_ev (d - 1) 108 [.inl x1, .inl x3] M (some (.inl r1)) M1 ∧ pu_str t M1 ∧ (r1 ≠ 0 → (0 ≤ M 109 ((5 * x3) + 4).toNat → ab_wp d 157 49 [some (.inr (.inr 103)), some (.inl x1), some (.inl x2), some (.inl x3), some (.inl (M 109 ((5 * x3) + 4).toNat))] [.inl (M 109 ((5 * x3) + 4).toNat), .inl x2] M1 Q) ∧ (M 109 ((5 * x3) + 4).toNat < 0 → ab_wp d 157 49 [some (.inr (.inr 103)), some (.inl x1), some (.inl x2), some (.inl x3), some (.inl (M 109 ((5 * x3) + 4).toNat))] [.inl 1000000, .inl x2] M1 Q)) ∧ (r1 = 0 → ab_wp d 157 49 [some (.inr (.inr 103)), some (.inl x1), some (.inl x2), some (.inl x3), some (.inl (M 109 ((5 * x3) + 4).toNat))] [.inl 0, .inl x2] M1 Q))) : ab_wp d 157 4 [some (.inr (.inr 103)), some (.inl x1), some (.inl x2), some (.inl x3), y4] [] M Q := by
  refine wp_sts 2 (pc' := 6) (ls' := [some (.inr (.inr 103)), some (.inl x1), some (.inl x2), some (.inl x3), y4]) (st' := [.inr (.inr 103), .inl x3]) (M' := M) rfl ?_
  refine g_getI rfl hS rfl ?_
  refine c2_ge rfl (fun c => ?_) (fun c => ?_)
  · replace h := h.1 c
    refine wp_sts 1 (pc' := 58) (ls' := [some (.inr (.inr 103)), some (.inl x1), some (.inl x2), some (.inl x3), y4]) (st' := [.inl x2]) (M' := M) rfl ?_
    exact wp_ret rfl rfl (z := (some (.inl x2), M)) rfl h
  · replace h := h.2 c
    refine wp_sts 1 (pc' := 13) (ls' := [some (.inr (.inr 103)), some (.inl x1), some (.inl x2), some (.inl x3), y4]) (st' := [.inr (.inr 103)]) (M' := M) rfl ?_
    refine g_getR (j := 109) rfl hS rfl (str_r hS 103 10 109 rfl) (by decide) ?_
    refine wp_sts 2 (pc' := 18) (ls' := [some (.inr (.inr 103)), some (.inl x1), some (.inl x2), some (.inl x3), y4]) (st' := [.inl x3, .inl 5, .inr (.inr 109)]) (M' := M) rfl ?_
    obtain ⟨hf1, h⟩ := h
    refine w_imul rfl hf1 ?_
    refine wp_sts 1 (pc' := 20) (ls' := [some (.inr (.inr 103)), some (.inl x1), some (.inl x2), some (.inl x3), y4]) (st' := [.inl 4, .inl (5 * x3), .inr (.inr 109)]) (M' := M) rfl ?_
    obtain ⟨hf2, h⟩ := h
    refine w_iadd rfl hf2 ?_
    obtain ⟨hf3, h⟩ := h
    refine g_iald (n := 30) rfl hS rfl hf3 ?_
    refine wp_sts 4 (pc' := 27) (ls' := [some (.inr (.inr 103)), some (.inl x1), some (.inl x2), some (.inl x3), some (.inl (M 109 ((5 * x3) + 4).toNat))]) (st' := [.inl x3, .inl x1, .inl x2]) (M' := M) rfl ?_
    obtain ⟨r1, M1, he, hS1, h⟩ := h
    refine g_callI (c := 108) (as := [.inl x1, .inl x3]) (rs := [.inl x2]) rfl rfl hS hd rfl he ?_
    refine c1_ne rfl (fun c => ?_) (fun c => ?_)
    · replace h := h.1 c
      refine wp_sts 1 (pc' := 39) (ls' := [some (.inr (.inr 103)), some (.inl x1), some (.inl x2), some (.inl x3), some (.inl (M 109 ((5 * x3) + 4).toNat))]) (st' := [.inl (M 109 ((5 * x3) + 4).toNat), .inl x2]) (M' := M1) rfl ?_
      refine c1_ge rfl (fun c => ?_) (fun c => ?_)
      · replace h := h.1 c
        refine wp_sts 1 (pc' := 49) (ls' := [some (.inr (.inr 103)), some (.inl x1), some (.inl x2), some (.inl x3), some (.inl (M 109 ((5 * x3) + 4).toNat))]) (st' := [.inl (M 109 ((5 * x3) + 4).toNat), .inl x2]) (M' := M1) rfl ?_
        exact h
      · replace h := h.2 c
        refine wp_sts 2 (pc' := 49) (ls' := [some (.inr (.inr 103)), some (.inl x1), some (.inl x2), some (.inl x3), some (.inl (M 109 ((5 * x3) + 4).toNat))]) (st' := [.inl 1000000, .inl x2]) (M' := M1) rfl ?_
        exact h
    · replace h := h.2 c
      refine wp_sts 2 (pc' := 49) (ls' := [some (.inr (.inr 103)), some (.inl x1), some (.inl x2), some (.inl x3), some (.inl (M 109 ((5 * x3) + 4).toNat))]) (st' := [.inl 0, .inl x2]) (M' := M1) rfl ?_
      exact h
/- Model.costOf, at 49 -/
theorem b157_49 {d t : Nat}  {x1 : Int} {x2 : Int} {x3 : Int} {x4 : Int} {x100 : Int} {x101 : Int} {M : ab_M} {Q : Option ab_V → ab_M → Prop} (hd : 1 ≤ d) (hS : pu_str t M)  (h : ab_rg (x100 + x101) ∧ ab_rg (x3 + 1) ∧ ab_wp d 157 4 [some (.inr (.inr 103)), some (.inl x1), some (.inl (x100 + x101)), some (.inl (x3 + 1)), some (.inl x4)] [] M Q) : ab_wp d 157 49 [some (.inr (.inr 103)), some (.inl x1), some (.inl x2), some (.inl x3), some (.inl x4)] [.inl x101, .inl x100] M Q := by
  obtain ⟨hf1, h⟩ := h
  refine w_iadd rfl hf1 ?_
  refine wp_sts 1 (pc' := 51) (ls' := [some (.inr (.inr 103)), some (.inl x1), some (.inl (x100 + x101)), some (.inl x3), some (.inl x4)]) (st' := []) (M' := M) rfl ?_
  obtain ⟨hf2, h⟩ := h
  refine w_iinc rfl rfl hf2 ?_
  refine wp_sts 1 (pc' := 4) (ls' := [some (.inr (.inr 103)), some (.inl x1), some (.inl (x100 + x101)), some (.inl (x3 + 1)), some (.inl x4)]) (st' := []) (M' := M) rfl ?_
  exact h
/- Model.reword, at 0 -/
theorem b158_0 {d t : Nat}  {x1 : Int} {M : ab_M} {Q : Option ab_V → ab_M → Prop} (hd : 1 ≤ d) (hS : pu_str t M)  (h : ∃ r1 M1, ab_ev (d - 1) 107 [.inr (.inl x1), .inr (.inl 0), .inr (.inl 1)] M (some (.inl r1)) M1 ∧ pu_str t M1 ∧ (r1 ≠ 0 → ∃ r2 M2, ab_ev (d - 1) 129 [.inr (.inr 103), .inl 0] M1 (some (.inl r2)) M2 ∧ pu_str t M2 ∧ ∃ M3, ab_ev (d - 1) 149 [.inr (.inr 103), .inl (M2 112 0), .inl (M2 112 1), .inl r2] M2 none M3 ∧ pu_str t M3 ∧ ab_wp d 158 45 [some (.inr (.inr 103)), some (.inl x1), some (.inl r2), some (.inl ((-1))), some (.inl 1000000), some (.inl 0)] [] M3 Q) ∧ (r1 = 0 → Q (some (.inl ((-1000000002)))) M1)) : ab_wp d 158 0 [some (.inr (.inr 103)), some (.inl x1), none, none, none, none] [] M Q := by
  refine wp_sts 4 (pc' := 4) (ls' := [some (.inr (.inr 103)), some (.inl x1), none, none, none, none]) (st' := [.inr (.inl 1), .inr (.inl 0), .inr (.inl x1)]) (M' := M) rfl ?_
  obtain ⟨r1, M1, he, hS1, h⟩ := h
  refine g_callI (c := 107) (as := [.inr (.inl x1), .inr (.inl 0), .inr (.inl 1)]) (rs := []) rfl rfl hS hd rfl he ?_
  refine c1_ne rfl (fun c => ?_) (fun c => ?_)
  · replace h := h.1 c
    refine wp_sts 2 (pc' := 15) (ls' := [some (.inr (.inr 103)), some (.inl x1), none, none, none, none]) (st' := [.inl 0, .inr (.inr 103)]) (M' := M1) rfl ?_
    obtain ⟨r2, M2, he, hS2, h⟩ := h
    refine g_callI (c := 129) (as := [.inr (.inr 103), .inl 0]) (rs := []) rfl rfl hS1 hd rfl he ?_
    refine wp_sts 3 (pc' := 21) (ls' := [some (.inr (.inr 103)), some (.inl x1), some (.inl r2), none, none, none]) (st' := [.inr (.inr 103), .inr (.inr 103)]) (M' := M2) rfl ?_
    refine g_getR (j := 112) rfl hS2 rfl (str_r hS2 103 15 112 rfl) (by decide) ?_
    refine wp_sts 1 (pc' := 25) (ls' := [some (.inr (.inr 103)), some (.inl x1), some (.inl r2), none, none, none]) (st' := [.inl 0, .inr (.inr 112), .inr (.inr 103)]) (M' := M2) rfl ?_
    refine g_iald (n := 10) rfl hS2 rfl (by decide) ?_
    refine wp_sts 1 (pc' := 27) (ls' := [some (.inr (.inr 103)), some (.inl x1), some (.inl r2), none, none, none]) (st' := [.inr (.inr 103), .inl (M2 112 0), .inr (.inr 103)]) (M' := M2) rfl ?_
    refine g_getR (j := 112) rfl hS2 rfl (str_r hS2 103 15 112 rfl) (by decide) ?_
    refine wp_sts 1 (pc' := 31) (ls' := [some (.inr (.inr 103)), some (.inl x1), some (.inl r2), none, none, none]) (st' := [.inl 1, .inr (.inr 112), .inl (M2 112 0), .inr (.inr 103)]) (M' := M2) rfl ?_
    refine g_iald (n := 10) rfl hS2 rfl (by decide) ?_
    refine wp_sts 1 (pc' := 33) (ls' := [some (.inr (.inr 103)), some (.inl x1), some (.inl r2), none, none, none]) (st' := [.inl r2, .inl (M2 112 1), .inl (M2 112 0), .inr (.inr 103)]) (M' := M2) rfl ?_
    obtain ⟨M3, he, hS3, h⟩ := h
    refine g_callV (c := 149) (as := [.inr (.inr 103), .inl (M2 112 0), .inl (M2 112 1), .inl r2]) (rs := []) rfl rfl hS2 hd rfl he ?_
    refine wp_sts 6 (pc' := 45) (ls' := [some (.inr (.inr 103)), some (.inl x1), some (.inl r2), some (.inl ((-1))), some (.inl 1000000), some (.inl 0)]) (st' := []) (M' := M3) rfl ?_
    exact h
  · replace h := h.2 c
    refine wp_sts 1 (pc' := 12) (ls' := [some (.inr (.inr 103)), some (.inl x1), none, none, none, none]) (st' := [.inl ((-1000000002))]) (M' := M1) rfl ?_
    exact wp_ret rfl rfl (z := (some (.inl ((-1000000002))), M1)) rfl h
/- Model.reword, at 45 -/
theorem b158_45 {d t : Nat}  {x1 : Int} {x2 : Int} {x3 : Int} {x4 : Int} {x5 : Int} {M : ab_M} {Q : Option ab_V → ab_M → Prop} (hd : 1 ≤ d) (hS : pu_str t M)  (h : (64 ≤ x5 → (0 ≤ x3 → (x1 ≠ 0 → Q (some (.inl x4)) M) ∧ (x1 = 0 → Q (some (.inl x3)) M)) ∧ (x3 < 0 → Q (some (.inl ((-1)))) M)) ∧ (x5 < 64 → (ab_and x5 (ab_xor x2 ((-1))) ≠ 0 → ab_rg (x5 + 1) ∧ ab_wp d 158 45 [some (.inr (.inr 103)), some (.inl x1), some (.inl x2), some (.inl x3), some (.inl x4), some (.inl (x5 + 1))] [] M Q) ∧ (ab_and x5 (ab_xor x2 ((-1))) = 0 → ∃ r1 M1, ab_ev (d - 1) 150 [.inr (.inr 103), .inl (ab_and x2 (ab_xor x5 ((-1)))), .inl 0] M (some (.inl r1)) M1 ∧ pu_str t M1 ∧ (1000000 ≤ r1 → ab_rg (x5 + 1) ∧ ab_wp d 158 45 [some (.inr (.inr 103)), some (.inl x1), some (.inl x2), some (.inl x3), some (.inl x4), some (.inl (x5 + 1))] [] M1 Q) ∧ (r1 < 1000000 → ∃ r2 M2, ab_ev (d - 1) 157 [.inr (.inr 103), .inl x5] M1 (some (.inl r2)) M2 ∧ pu_str t M2 ∧ (x4 ≤ r2 → ab_rg (x5 + 1) ∧ ab_wp d 158 45 [some (.inr (.inr 103)), some (.inl x1), some (.inl x2), some (.inl x3), some (.inl x4), some (.inl (x5 + 1))] [] M2 Q) ∧ (r2 < x4 → ∃ r3 M3, ab_ev (d - 1) 157 [.inr (.inr 103), .inl x5] M2 (some (.inl r3)) M3 ∧ pu_str t M3 ∧ ab_rg (x5 + 1) ∧ ab_wp d 158 45 [some (.inr (.inr 103)), some (.inl x1), some (.inl x2), some (.inl x5), some (.inl r3), some (.inl (x5 + 1))] [] M3 Q))))) : ab_wp d 158 45 [some (.inr (.inr 103)), some (.inl x1), some (.inl x2), some (.inl x3), some (.inl x4), some (.inl x5)] [] M Q := by
  refine wp_sts 2 (pc' := 49) (ls' := [some (.inr (.inr 103)), some (.inl x1), some (.inl x2), some (.inl x3), some (.inl x4), some (.inl x5)]) (st' := [.inl 64, .inl x5]) (M' := M) rfl ?_
  refine c2_ge rfl (fun c => ?_) (fun c => ?_)
  · replace h := h.1 c
    refine wp_sts 1 (pc' := 106) (ls' := [some (.inr (.inr 103)), some (.inl x1), some (.inl x2), some (.inl x3), some (.inl x4), some (.inl x5)]) (st' := [.inl x3]) (M' := M) rfl ?_
    refine c1_ge rfl (fun c => ?_) (fun c => ?_)
    · replace h := h.1 c
      refine wp_sts 1 (pc' := 114) (ls' := [some (.inr (.inr 103)), some (.inl x1), some (.inl x2), some (.inl x3), some (.inl x4), some (.inl x5)]) (st' := [.inl x1]) (M' := M) rfl ?_
      refine c1_ne rfl (fun c => ?_) (fun c => ?_)
      · replace h := h.1 c
        refine wp_sts 1 (pc' := 123) (ls' := [some (.inr (.inr 103)), some (.inl x1), some (.inl x2), some (.inl x3), some (.inl x4), some (.inl x5)]) (st' := [.inl x4]) (M' := M) rfl ?_
        exact wp_ret rfl rfl (z := (some (.inl x4), M)) rfl h
      · replace h := h.2 c
        refine wp_sts 2 (pc' := 123) (ls' := [some (.inr (.inr 103)), some (.inl x1), some (.inl x2), some (.inl x3), some (.inl x4), some (.inl x5)]) (st' := [.inl x3]) (M' := M) rfl ?_
        exact wp_ret rfl rfl (z := (some (.inl x3), M)) rfl h
    · replace h := h.2 c
      refine wp_sts 2 (pc' := 123) (ls' := [some (.inr (.inr 103)), some (.inl x1), some (.inl x2), some (.inl x3), some (.inl x4), some (.inl x5)]) (st' := [.inl ((-1))]) (M' := M) rfl ?_
      exact wp_ret rfl rfl (z := (some (.inl ((-1))), M)) rfl h
  · replace h := h.2 c
    refine wp_sts 5 (pc' := 58) (ls' := [some (.inr (.inr 103)), some (.inl x1), some (.inl x2), some (.inl x3), some (.inl x4), some (.inl x5)]) (st' := [.inl (ab_and x5 (ab_xor x2 ((-1))))]) (M' := M) rfl ?_
    refine c1_ne rfl (fun c => ?_) (fun c => ?_)
    · replace h := h.1 c
      obtain ⟨hf1, h⟩ := h
      refine w_iinc rfl rfl hf1 ?_
      refine wp_sts 1 (pc' := 45) (ls' := [some (.inr (.inr 103)), some (.inl x1), some (.inl x2), some (.inl x3), some (.inl x4), some (.inl (x5 + 1))]) (st' := []) (M' := M) rfl ?_
      exact h
    · replace h := h.2 c
      refine wp_sts 7 (pc' := 69) (ls' := [some (.inr (.inr 103)), some (.inl x1), some (.inl x2), some (.inl x3), some (.inl x4), some (.inl x5)]) (st' := [.inl 0, .inl (ab_and x2 (ab_xor x5 ((-1)))), .inr (.inr 103)]) (M' := M) rfl ?_
      obtain ⟨r1, M1, he, hS1, h⟩ := h
      refine g_callI (c := 150) (as := [.inr (.inr 103), .inl (ab_and x2 (ab_xor x5 ((-1)))), .inl 0]) (rs := []) rfl rfl hS hd rfl he ?_
      refine wp_sts 1 (pc' := 74) (ls' := [some (.inr (.inr 103)), some (.inl x1), some (.inl x2), some (.inl x3), some (.inl x4), some (.inl x5)]) (st' := [.inl 1000000, .inl r1]) (M' := M1) rfl ?_
      refine c2_ge rfl (fun c => ?_) (fun c => ?_)
      · replace h := h.1 c
        obtain ⟨hf1, h⟩ := h
        refine w_iinc rfl rfl hf1 ?_
        refine wp_sts 1 (pc' := 45) (ls' := [some (.inr (.inr 103)), some (.inl x1), some (.inl x2), some (.inl x3), some (.inl x4), some (.inl (x5 + 1))]) (st' := []) (M' := M1) rfl ?_
        exact h
      · replace h := h.2 c
        refine wp_sts 2 (pc' := 80) (ls' := [some (.inr (.inr 103)), some (.inl x1), some (.inl x2), some (.inl x3), some (.inl x4), some (.inl x5)]) (st' := [.inl x5, .inr (.inr 103)]) (M' := M1) rfl ?_
        obtain ⟨r2, M2, he, hS2, h⟩ := h
        refine g_callI (c := 157) (as := [.inr (.inr 103), .inl x5]) (rs := []) rfl rfl hS1 hd rfl he ?_
        refine wp_sts 1 (pc' := 85) (ls' := [some (.inr (.inr 103)), some (.inl x1), some (.inl x2), some (.inl x3), some (.inl x4), some (.inl x5)]) (st' := [.inl x4, .inl r2]) (M' := M2) rfl ?_
        refine c2_ge rfl (fun c => ?_) (fun c => ?_)
        · replace h := h.1 c
          obtain ⟨hf1, h⟩ := h
          refine w_iinc rfl rfl hf1 ?_
          refine wp_sts 1 (pc' := 45) (ls' := [some (.inr (.inr 103)), some (.inl x1), some (.inl x2), some (.inl x3), some (.inl x4), some (.inl (x5 + 1))]) (st' := []) (M' := M2) rfl ?_
          exact h
        · replace h := h.2 c
          refine wp_sts 4 (pc' := 94) (ls' := [some (.inr (.inr 103)), some (.inl x1), some (.inl x2), some (.inl x5), some (.inl x4), some (.inl x5)]) (st' := [.inl x5, .inr (.inr 103)]) (M' := M2) rfl ?_
          obtain ⟨r3, M3, he, hS3, h⟩ := h
          refine g_callI (c := 157) (as := [.inr (.inr 103), .inl x5]) (rs := []) rfl rfl hS2 hd rfl he ?_
          refine wp_sts 1 (pc' := 99) (ls' := [some (.inr (.inr 103)), some (.inl x1), some (.inl x2), some (.inl x5), some (.inl r3), some (.inl x5)]) (st' := []) (M' := M3) rfl ?_
          obtain ⟨hf1, h⟩ := h
          refine w_iinc rfl rfl hf1 ?_
          refine wp_sts 1 (pc' := 45) (ls' := [some (.inr (.inr 103)), some (.inl x1), some (.inl x2), some (.inl x5), some (.inl r3), some (.inl (x5 + 1))]) (st' := []) (M' := M3) rfl ?_
          exact h
/- Model.chain, at 0 -/
theorem b159_0 {d t : Nat}  {x1 : Int} {x2 : Int} {x3 : Int} {M : ab_M} {Q : Option ab_V → ab_M → Prop} (hd : 1 ≤ d) (hS : pu_str t M)  (h : ∃ r1 M1, ab_ev (d - 1) 136 [.inr (.inr 103), .inl x1, .inl x2] M (some (.inl r1)) M1 ∧ pu_str t M1 ∧ (r1 ≠ 0 → ∃ r2 M2, ab_ev (d - 1) 107 [.inr (.inl x3), .inr (.inl 0), .inr (.inl 1)] M1 (some (.inl r2)) M2 ∧ pu_str t M2 ∧ (r2 ≠ 0 → ab_wp d 159 37 [some (.inr (.inr 103)), some (.inl x1), some (.inl x2), some (.inl x3), some (.inl ((-1))), some (.inl ((-1))), some (.inl 1), some (.inl 0), none, none] [] M2 Q) ∧ (r2 = 0 → Q (some (.inl ((-1000000002)))) M2)) ∧ (r1 = 0 → Q (some (.inl ((-1000000001)))) M1)) : ab_wp d 159 0 [some (.inr (.inr 103)), some (.inl x1), some (.inl x2), some (.inl x3), none, none, none, none, none, none] [] M Q := by
  refine wp_sts 3 (pc' := 3) (ls' := [some (.inr (.inr 103)), some (.inl x1), some (.inl x2), some (.inl x3), none, none, none, none, none, none]) (st' := [.inl x2, .inl x1, .inr (.inr 103)]) (M' := M) rfl ?_
  obtain ⟨r1, M1, he, hS1, h⟩ := h
  refine g_callI (c := 136) (as := [.inr (.inr 103), .inl x1, .inl x2]) (rs := []) rfl rfl hS hd rfl he ?_
  refine c1_ne rfl (fun c => ?_) (fun c => ?_)
  · replace h := h.1 c
    refine wp_sts 4 (pc' := 16) (ls' := [some (.inr (.inr 103)), some (.inl x1), some (.inl x2), some (.inl x3), none, none, none, none, none, none]) (st' := [.inr (.inl 1), .inr (.inl 0), .inr (.inl x3)]) (M' := M1) rfl ?_
    obtain ⟨r2, M2, he, hS2, h⟩ := h
    refine g_callI (c := 107) (as := [.inr (.inl x3), .inr (.inl 0), .inr (.inl 1)]) (rs := []) rfl rfl hS1 hd rfl he ?_
    refine c1_ne rfl (fun c => ?_) (fun c => ?_)
    · replace h := h.1 c
      refine wp_sts 8 (pc' := 37) (ls' := [some (.inr (.inr 103)), some (.inl x1), some (.inl x2), some (.inl x3), some (.inl ((-1))), some (.inl ((-1))), some (.inl 1), some (.inl 0), none, none]) (st' := []) (M' := M2) rfl ?_
      exact h
    · replace h := h.2 c
      refine wp_sts 1 (pc' := 24) (ls' := [some (.inr (.inr 103)), some (.inl x1), some (.inl x2), some (.inl x3), none, none, none, none, none, none]) (st' := [.inl ((-1000000002))]) (M' := M2) rfl ?_
      exact wp_ret rfl rfl (z := (some (.inl ((-1000000002))), M2)) rfl h
  · replace h := h.2 c
    refine wp_sts 1 (pc' := 11) (ls' := [some (.inr (.inr 103)), some (.inl x1), some (.inl x2), some (.inl x3), none, none, none, none, none, none]) (st' := [.inl ((-1000000001))]) (M' := M1) rfl ?_
    exact wp_ret rfl rfl (z := (some (.inl ((-1000000001))), M1)) rfl h
/- Model.chain, at 37 -/
theorem b159_37 {d t : Nat}  {x1 : Int} {x2 : Int} {x3 : Int} {x4 : Int} {x5 : Int} {x6 : Int} {x7 : Int} {y8 : Option ab_V} {y9 : Option ab_V} {M : ab_M} {Q : Option ab_V → ab_M → Prop} (hd : 1 ≤ d) (hS : pu_str t M)  (h : ab_rg (x7 + 2) ∧ (M 103 9 < x7 + 2 → (x3 ≠ 0 → Q (some (.inl x5)) M) ∧ (x3 = 0 → Q (some (.inl x4)) M)) ∧ (x7 + 2 ≤ M 103 9 → ab_wp d 159 51 [some (.inr (.inr 103)), some (.inl x1), some (.inl x2), some (.inl x3), some (.inl x4), some (.inl x5), some (.inl x6), some (.inl x7), some (.inl 0), y9] [] M Q)) : ab_wp d 159 37 [some (.inr (.inr 103)), some (.inl x1), some (.inl x2), some (.inl x3), some (.inl x4), some (.inl x5), some (.inl x6), some (.inl x7), y8, y9] [] M Q := by
  refine wp_sts 2 (pc' := 40) (ls' := [some (.inr (.inr 103)), some (.inl x1), some (.inl x2), some (.inl x3), some (.inl x4), some (.inl x5), some (.inl x6), some (.inl x7), y8, y9]) (st' := [.inl 2, .inl x7]) (M' := M) rfl ?_
  obtain ⟨hf1, h⟩ := h
  refine w_iadd rfl hf1 ?_
  refine wp_sts 1 (pc' := 42) (ls' := [some (.inr (.inr 103)), some (.inl x1), some (.inl x2), some (.inl x3), some (.inl x4), some (.inl x5), some (.inl x6), some (.inl x7), y8, y9]) (st' := [.inr (.inr 103), .inl (x7 + 2)]) (M' := M) rfl ?_
  refine g_getI rfl hS rfl ?_
  refine c2_gt rfl (fun c => ?_) (fun c => ?_)
  · replace h := h.1 c
    refine wp_sts 1 (pc' := 107) (ls' := [some (.inr (.inr 103)), some (.inl x1), some (.inl x2), some (.inl x3), some (.inl x4), some (.inl x5), some (.inl x6), some (.inl x7), y8, y9]) (st' := [.inl x3]) (M' := M) rfl ?_
    refine c1_ne rfl (fun c => ?_) (fun c => ?_)
    · replace h := h.1 c
      refine wp_sts 1 (pc' := 117) (ls' := [some (.inr (.inr 103)), some (.inl x1), some (.inl x2), some (.inl x3), some (.inl x4), some (.inl x5), some (.inl x6), some (.inl x7), y8, y9]) (st' := [.inl x5]) (M' := M) rfl ?_
      exact wp_ret rfl rfl (z := (some (.inl x5), M)) rfl h
    · replace h := h.2 c
      refine wp_sts 2 (pc' := 117) (ls' := [some (.inr (.inr 103)), some (.inl x1), some (.inl x2), some (.inl x3), some (.inl x4), some (.inl x5), some (.inl x6), some (.inl x7), y8, y9]) (st' := [.inl x4]) (M' := M) rfl ?_
      exact wp_ret rfl rfl (z := (some (.inl x4), M)) rfl h
  · replace h := h.2 c
    refine wp_sts 2 (pc' := 51) (ls' := [some (.inr (.inr 103)), some (.inl x1), some (.inl x2), some (.inl x3), some (.inl x4), some (.inl x5), some (.inl x6), some (.inl x7), some (.inl 0), y9]) (st' := []) (M' := M) rfl ?_
    exact h
/- Model.chain, at 51 -/
theorem b159_51 {d t : Nat}  {x1 : Int} {x2 : Int} {x3 : Int} {x4 : Int} {x5 : Int} {x6 : Int} {x7 : Int} {x8 : Int} {y9 : Option ab_V} {M : ab_M} {Q : Option ab_V → ab_M → Prop} (hd : 1 ≤ d) (hS : pu_str t M)  (h : (x6 ≤ x8 → ab_rg (x6 * 6) ∧ ab_rg (x7 + 1) ∧ ab_wp d 159 37 [some (.inr (.inr 103)), some (.inl x1), some (.inl x2), some (.inl x3), some (.inl x4), some (.inl x5), some (.inl (x6 * 6)), some (.inl (x7 + 1)), some (.inl x8), y9] [] M Q) ∧ (x8 < x6 → ∃ r1 M1, ab_ev (d - 1) 160 [.inr (.inr 103), .inl x1, .inl x2, .inl x8, .inl x7] M (some (.inl r1)) M1 ∧ pu_str t M1 ∧ (r1 ≤ x4 → ab_rg (x8 + 1) ∧ ab_wp d 159 51 [some (.inr (.inr 103)), some (.inl x1), some (.inl x2), some (.inl x3), some (.inl x4), some (.inl x5), some (.inl x6), some (.inl x7), some (.inl (x8 + 1)), some (.inl r1)] [] M1 Q) ∧ (x4 < r1 → ab_rg (x7 + 2) ∧ ab_rg (x8 + 1) ∧ ab_wp d 159 51 [some (.inr (.inr 103)), some (.inl x1), some (.inl x2), some (.inl x3), some (.inl r1), some (.inl (x7 + 2)), some (.inl x6), some (.inl x7), some (.inl (x8 + 1)), some (.inl r1)] [] M1 Q))) : ab_wp d 159 51 [some (.inr (.inr 103)), some (.inl x1), some (.inl x2), some (.inl x3), some (.inl x4), some (.inl x5), some (.inl x6), some (.inl x7), some (.inl x8), y9] [] M Q := by
  refine wp_sts 2 (pc' := 55) (ls' := [some (.inr (.inr 103)), some (.inl x1), some (.inl x2), some (.inl x3), some (.inl x4), some (.inl x5), some (.inl x6), some (.inl x7), some (.inl x8), y9]) (st' := [.inl x6, .inl x8]) (M' := M) rfl ?_
  refine c2_ge rfl (fun c => ?_) (fun c => ?_)
  · replace h := h.1 c
    refine wp_sts 2 (pc' := 97) (ls' := [some (.inr (.inr 103)), some (.inl x1), some (.inl x2), some (.inl x3), some (.inl x4), some (.inl x5), some (.inl x6), some (.inl x7), some (.inl x8), y9]) (st' := [.inl 6, .inl x6]) (M' := M) rfl ?_
    obtain ⟨hf1, h⟩ := h
    refine w_imul rfl hf1 ?_
    refine wp_sts 1 (pc' := 100) (ls' := [some (.inr (.inr 103)), some (.inl x1), some (.inl x2), some (.inl x3), some (.inl x4), some (.inl x5), some (.inl (x6 * 6)), some (.inl x7), some (.inl x8), y9]) (st' := []) (M' := M) rfl ?_
    obtain ⟨hf2, h⟩ := h
    refine w_iinc rfl rfl hf2 ?_
    refine wp_sts 1 (pc' := 37) (ls' := [some (.inr (.inr 103)), some (.inl x1), some (.inl x2), some (.inl x3), some (.inl x4), some (.inl x5), some (.inl (x6 * 6)), some (.inl (x7 + 1)), some (.inl x8), y9]) (st' := []) (M' := M) rfl ?_
    exact h
  · replace h := h.2 c
    refine wp_sts 5 (pc' := 65) (ls' := [some (.inr (.inr 103)), some (.inl x1), some (.inl x2), some (.inl x3), some (.inl x4), some (.inl x5), some (.inl x6), some (.inl x7), some (.inl x8), y9]) (st' := [.inl x7, .inl x8, .inl x2, .inl x1, .inr (.inr 103)]) (M' := M) rfl ?_
    obtain ⟨r1, M1, he, hS1, h⟩ := h
    refine g_callI (c := 160) (as := [.inr (.inr 103), .inl x1, .inl x2, .inl x8, .inl x7]) (rs := []) rfl rfl hS hd rfl he ?_
    refine wp_sts 3 (pc' := 74) (ls' := [some (.inr (.inr 103)), some (.inl x1), some (.inl x2), some (.inl x3), some (.inl x4), some (.inl x5), some (.inl x6), some (.inl x7), some (.inl x8), some (.inl r1)]) (st' := [.inl x4, .inl r1]) (M' := M1) rfl ?_
    refine c2_le rfl (fun c => ?_) (fun c => ?_)
    · replace h := h.1 c
      obtain ⟨hf1, h⟩ := h
      refine w_iinc rfl rfl hf1 ?_
      refine wp_sts 1 (pc' := 51) (ls' := [some (.inr (.inr 103)), some (.inl x1), some (.inl x2), some (.inl x3), some (.inl x4), some (.inl x5), some (.inl x6), some (.inl x7), some (.inl (x8 + 1)), some (.inl r1)]) (st' := []) (M' := M1) rfl ?_
      exact h
    · replace h := h.2 c
      refine wp_sts 4 (pc' := 84) (ls' := [some (.inr (.inr 103)), some (.inl x1), some (.inl x2), some (.inl x3), some (.inl r1), some (.inl x5), some (.inl x6), some (.inl x7), some (.inl x8), some (.inl r1)]) (st' := [.inl 2, .inl x7]) (M' := M1) rfl ?_
      obtain ⟨hf1, h⟩ := h
      refine w_iadd rfl hf1 ?_
      refine wp_sts 1 (pc' := 87) (ls' := [some (.inr (.inr 103)), some (.inl x1), some (.inl x2), some (.inl x3), some (.inl r1), some (.inl (x7 + 2)), some (.inl x6), some (.inl x7), some (.inl x8), some (.inl r1)]) (st' := []) (M' := M1) rfl ?_
      obtain ⟨hf2, h⟩ := h
      refine w_iinc rfl rfl hf2 ?_
      refine wp_sts 1 (pc' := 51) (ls' := [some (.inr (.inr 103)), some (.inl x1), some (.inl x2), some (.inl x3), some (.inl r1), some (.inl (x7 + 2)), some (.inl x6), some (.inl x7), some (.inl (x8 + 1)), some (.inl r1)]) (st' := []) (M' := M1) rfl ?_
      exact h
/- Model.oddsOf, at 0 -/
set_option maxRecDepth 100000 in
theorem b160_0 {d t : Nat}  {x1 : Int} {x2 : Int} {x3 : Int} {x4 : Int} {M : ab_M} {Q : Option ab_V → ab_M → Prop} (hd : 1 ≤ d) (hS : pu_str t M)  (h : ab_wp d 160 23 [some (.inr (.inr 103)), some (.inl x1), some (.inl x2), some (.inl x3), some (.inl x4), some (.inl (ab_or (ab_shl 1 x1) (ab_shl 1 x2))), some (.inl x1), some (.inl x3), some (.inr (.inl 1000000000)), none, some (.inl 0), none] [] M Q) : ab_wp d 160 0 [some (.inr (.inr 103)), some (.inl x1), some (.inl x2), some (.inl x3), some (.inl x4), none, none, none, none, none, none, none] [] M Q := by
  refine wp_sts 12 (pc' := 15) (ls' := [some (.inr (.inr 103)), some (.inl x1), some (.inl x2), some (.inl x3), some (.inl x4), some (.inl (ab_or (ab_shl 1 x1) (ab_shl 1 x2))), some (.inl x1), some (.inl x3), none, none, none, none]) (st' := []) (M' := M) rfl ?_
  refine wp_sts 4 (pc' := 23) (ls' := [some (.inr (.inr 103)), some (.inl x1), some (.inl x2), some (.inl x3), some (.inl x4), some (.inl (ab_or (ab_shl 1 x1) (ab_shl 1 x2))), some (.inl x1), some (.inl x3), some (.inr (.inl 1000000000)), none, some (.inl 0), none]) (st' := []) (M' := M) rfl ?_
  exact h
/- Model.oddsOf, at 23 -/
set_option maxRecDepth 100000 in
theorem b160_23 {d t : Nat}  {x1 : Int} {x2 : Int} {x3 : Int} {x4 : Int} {x5 : Int} {x6 : Int} {x7 : Int} {x8 : Int} {x10 : Int} {y11 : Option ab_V} {M : ab_M} {Q : Option ab_V → ab_M → Prop} (hd : 1 ≤ d) (hS : pu_str t M)  (h : (x4 < x10 → ab_rg (x8) ∧ Q (some (.inl x8)) M) ∧ (x10 ≤ x4 → (x10 ≠ x4 → ab_rg (x7.tdiv 6) ∧ (x4 ≤ x10 → ab_wp d 160 81 [some (.inr (.inr 103)), some (.inl x1), some (.inl x2), some (.inl x3), some (.inl x4), some (.inl x5), some (.inl x6), some (.inl (x7.tdiv 6)), some (.inr (.inl x8)), none, some (.inl x10), some (.inl (x7.tmod 6))] [] M Q) ∧ (x10 < x4 → (M 103 9 ≤ x7.tmod 6 → Q (some (.inl ((-1)))) M) ∧ (x7.tmod 6 < M 103 9 → ∃ r1 M1, ab_ev (d - 1) 108 [.inl x5, .inl (x7.tmod 6)] M (some (.inl r1)) M1 ∧ pu_str t M1 ∧ (r1 ≠ 0 → Q (some (.inl ((-1)))) M1) ∧ (r1 = 0 → ab_wp d 160 81 [some (.inr (.inr 103)), some (.inl x1), some (.inl x2), some (.inl x3), some (.inl x4), some (.inl x5), some (.inl x6), some (.inl (x7.tdiv 6)), some (.inr (.inl x8)), none, some (.inl x10), some (.inl (x7.tmod 6))] [] M1 Q)))) ∧ (x10 = x4 → ab_rg (x7.tdiv 6) ∧ (x4 ≤ x10 → ab_wp d 160 81 [some (.inr (.inr 103)), some (.inl x1), some (.inl x2), some (.inl x3), some (.inl x4), some (.inl x5), some (.inl x6), some (.inl (x7.tdiv 6)), some (.inr (.inl x8)), none, some (.inl x10), some (.inl x2)] [] M Q) ∧ (x10 < x4 → (M 103 9 ≤ x2 → Q (some (.inl ((-1)))) M) ∧ (x2 < M 103 9 → ∃ r1 M1, ab_ev (d - 1) 108 [.inl x5, .inl x2] M (some (.inl r1)) M1 ∧ pu_str t M1 ∧ (r1 ≠ 0 → Q (some (.inl ((-1)))) M1) ∧ (r1 = 0 → ab_wp d 160 81 [some (.inr (.inr 103)), some (.inl x1), some (.inl x2), some (.inl x3), some (.inl x4), some (.inl x5), some (.inl x6), some (.inl (x7.tdiv 6)), some (.inr (.inl x8)), none, some (.inl x10), some (.inl x2)] [] M1 Q)))))) : ab_wp d 160 23 [some (.inr (.inr 103)), some (.inl x1), some (.inl x2), some (.inl x3), some (.inl x4), some (.inl x5), some (.inl x6), some (.inl x7), some (.inr (.inl x8)), none, some (.inl x10), y11] [] M Q := by
  refine wp_sts 2 (pc' := 27) (ls' := [some (.inr (.inr 103)), some (.inl x1), some (.inl x2), some (.inl x3), some (.inl x4), some (.inl x5), some (.inl x6), some (.inl x7), some (.inr (.inl x8)), none, some (.inl x10), y11]) (st' := [.inl x4, .inl x10]) (M' := M) rfl ?_
  refine c2_gt rfl (fun c => ?_) (fun c => ?_)
  · replace h := h.1 c
    refine wp_sts 1 (pc' := 143) (ls' := [some (.inr (.inr 103)), some (.inl x1), some (.inl x2), some (.inl x3), some (.inl x4), some (.inl x5), some (.inl x6), some (.inl x7), some (.inr (.inl x8)), none, some (.inl x10), y11]) (st' := [.inr (.inl x8)]) (M' := M) rfl ?_
    obtain ⟨hf1, h⟩ := h
    refine w_l2i rfl hf1 ?_
    exact wp_ret rfl rfl (z := (some (.inl x8), M)) rfl h
  · replace h := h.2 c
    refine wp_sts 2 (pc' := 34) (ls' := [some (.inr (.inr 103)), some (.inl x1), some (.inl x2), some (.inl x3), some (.inl x4), some (.inl x5), some (.inl x6), some (.inl x7), some (.inr (.inl x8)), none, some (.inl x10), y11]) (st' := [.inl x4, .inl x10]) (M' := M) rfl ?_
    refine c2_ne rfl (fun c => ?_) (fun c => ?_)
    · replace h := h.1 c
      refine wp_sts 2 (pc' := 45) (ls' := [some (.inr (.inr 103)), some (.inl x1), some (.inl x2), some (.inl x3), some (.inl x4), some (.inl x5), some (.inl x6), some (.inl x7), some (.inr (.inl x8)), none, some (.inl x10), y11]) (st' := [.inl 6, .inl x7]) (M' := M) rfl ?_
      obtain ⟨hf1, h⟩ := h
      refine w_irem rfl (by decide) hf1 ?_
      refine wp_sts 3 (pc' := 52) (ls' := [some (.inr (.inr 103)), some (.inl x1), some (.inl x2), some (.inl x3), some (.inl x4), some (.inl x5), some (.inl x6), some (.inl x7), some (.inr (.inl x8)), none, some (.inl x10), some (.inl (x7.tmod 6))]) (st' := [.inl 6, .inl x7]) (M' := M) rfl ?_
      refine w_idiv rfl (by decide) hf1 ?_
      refine wp_sts 3 (pc' := 59) (ls' := [some (.inr (.inr 103)), some (.inl x1), some (.inl x2), some (.inl x3), some (.inl x4), some (.inl x5), some (.inl x6), some (.inl (x7.tdiv 6)), some (.inr (.inl x8)), none, some (.inl x10), some (.inl (x7.tmod 6))]) (st' := [.inl x4, .inl x10]) (M' := M) rfl ?_
      refine c2_ge rfl (fun c => ?_) (fun c => ?_)
      · replace h := h.1 c
        exact h
      · replace h := h.2 c
        refine wp_sts 2 (pc' := 65) (ls' := [some (.inr (.inr 103)), some (.inl x1), some (.inl x2), some (.inl x3), some (.inl x4), some (.inl x5), some (.inl x6), some (.inl (x7.tdiv 6)), some (.inr (.inl x8)), none, some (.inl x10), some (.inl (x7.tmod 6))]) (st' := [.inr (.inr 103), .inl (x7.tmod 6)]) (M' := M) rfl ?_
        refine g_getI rfl hS rfl ?_
        refine c2_ge rfl (fun c => ?_) (fun c => ?_)
        · replace h := h.1 c
          refine wp_sts 1 (pc' := 98) (ls' := [some (.inr (.inr 103)), some (.inl x1), some (.inl x2), some (.inl x3), some (.inl x4), some (.inl x5), some (.inl x6), some (.inl (x7.tdiv 6)), some (.inr (.inl x8)), none, some (.inl x10), some (.inl (x7.tmod 6))]) (st' := [.inl ((-1))]) (M' := M) rfl ?_
          exact wp_ret rfl rfl (z := (some (.inl ((-1))), M)) rfl h
        · replace h := h.2 c
          refine wp_sts 2 (pc' := 75) (ls' := [some (.inr (.inr 103)), some (.inl x1), some (.inl x2), some (.inl x3), some (.inl x4), some (.inl x5), some (.inl x6), some (.inl (x7.tdiv 6)), some (.inr (.inl x8)), none, some (.inl x10), some (.inl (x7.tmod 6))]) (st' := [.inl (x7.tmod 6), .inl x5]) (M' := M) rfl ?_
          obtain ⟨r1, M1, he, hS1, h⟩ := h
          refine g_callI (c := 108) (as := [.inl x5, .inl (x7.tmod 6)]) (rs := []) rfl rfl hS hd rfl he ?_
          refine c1_ne rfl (fun c => ?_) (fun c => ?_)
          · replace h := h.1 c
            refine wp_sts 1 (pc' := 98) (ls' := [some (.inr (.inr 103)), some (.inl x1), some (.inl x2), some (.inl x3), some (.inl x4), some (.inl x5), some (.inl x6), some (.inl (x7.tdiv 6)), some (.inr (.inl x8)), none, some (.inl x10), some (.inl (x7.tmod 6))]) (st' := [.inl ((-1))]) (M' := M1) rfl ?_
            exact wp_ret rfl rfl (z := (some (.inl ((-1))), M1)) rfl h
          · replace h := h.2 c
            exact h
    · replace h := h.2 c
      refine wp_sts 5 (pc' := 52) (ls' := [some (.inr (.inr 103)), some (.inl x1), some (.inl x2), some (.inl x3), some (.inl x4), some (.inl x5), some (.inl x6), some (.inl x7), some (.inr (.inl x8)), none, some (.inl x10), some (.inl x2)]) (st' := [.inl 6, .inl x7]) (M' := M) rfl ?_
      obtain ⟨hf1, h⟩ := h
      refine w_idiv rfl (by decide) hf1 ?_
      refine wp_sts 3 (pc' := 59) (ls' := [some (.inr (.inr 103)), some (.inl x1), some (.inl x2), some (.inl x3), some (.inl x4), some (.inl x5), some (.inl x6), some (.inl (x7.tdiv 6)), some (.inr (.inl x8)), none, some (.inl x10), some (.inl x2)]) (st' := [.inl x4, .inl x10]) (M' := M) rfl ?_
      refine c2_ge rfl (fun c => ?_) (fun c => ?_)
      · replace h := h.1 c
        exact h
      · replace h := h.2 c
        refine wp_sts 2 (pc' := 65) (ls' := [some (.inr (.inr 103)), some (.inl x1), some (.inl x2), some (.inl x3), some (.inl x4), some (.inl x5), some (.inl x6), some (.inl (x7.tdiv 6)), some (.inr (.inl x8)), none, some (.inl x10), some (.inl x2)]) (st' := [.inr (.inr 103), .inl x2]) (M' := M) rfl ?_
        refine g_getI rfl hS rfl ?_
        refine c2_ge rfl (fun c => ?_) (fun c => ?_)
        · replace h := h.1 c
          refine wp_sts 1 (pc' := 98) (ls' := [some (.inr (.inr 103)), some (.inl x1), some (.inl x2), some (.inl x3), some (.inl x4), some (.inl x5), some (.inl x6), some (.inl (x7.tdiv 6)), some (.inr (.inl x8)), none, some (.inl x10), some (.inl x2)]) (st' := [.inl ((-1))]) (M' := M) rfl ?_
          exact wp_ret rfl rfl (z := (some (.inl ((-1))), M)) rfl h
        · replace h := h.2 c
          refine wp_sts 2 (pc' := 75) (ls' := [some (.inr (.inr 103)), some (.inl x1), some (.inl x2), some (.inl x3), some (.inl x4), some (.inl x5), some (.inl x6), some (.inl (x7.tdiv 6)), some (.inr (.inl x8)), none, some (.inl x10), some (.inl x2)]) (st' := [.inl x2, .inl x5]) (M' := M) rfl ?_
          obtain ⟨r1, M1, he, hS1, h⟩ := h
          refine g_callI (c := 108) (as := [.inl x5, .inl x2]) (rs := []) rfl rfl hS hd rfl he ?_
          refine c1_ne rfl (fun c => ?_) (fun c => ?_)
          · replace h := h.1 c
            refine wp_sts 1 (pc' := 98) (ls' := [some (.inr (.inr 103)), some (.inl x1), some (.inl x2), some (.inl x3), some (.inl x4), some (.inl x5), some (.inl x6), some (.inl (x7.tdiv 6)), some (.inr (.inl x8)), none, some (.inl x10), some (.inl x2)]) (st' := [.inl ((-1))]) (M' := M1) rfl ?_
            exact wp_ret rfl rfl (z := (some (.inl ((-1))), M1)) rfl h
          · replace h := h.2 c
            exact h
/- Model.oddsOf, at 81 -/
set_option maxRecDepth 100000 in
theorem b160_81 {d t : Nat}  {x1 : Int} {x2 : Int} {x3 : Int} {x4 : Int} {x5 : Int} {x6 : Int} {x7 : Int} {x8 : Int} {x10 : Int} {x11 : Int} {M : ab_M} {Q : Option ab_V → ab_M → Prop} (hd : 1 ≤ d) (hS : pu_str t M)  (h : ab_rg (6 * x6) ∧ ab_rg ((6 * x6) + x11) ∧ (0 ≤ (6 * x6) + x11 ∧ (6 * x6) + x11 < 36) ∧ (0 ≤ M 110 ((6 * x6) + x11).toNat → ab_rl (x8 * (M 110 ((6 * x6) + x11).toNat)) ∧ ab_rl ((x8 * (M 110 ((6 * x6) + x11).toNat)).tdiv 10) ∧ ab_rg (x10 + 1) ∧ ab_wp d 160 23 [some (.inr (.inr 103)), some (.inl x1), some (.inl x2), some (.inl x3), some (.inl x4), some (.inl (ab_or x5 (ab_shl 1 x11))), some (.inl x11), some (.inl x7), some (.inr (.inl ((x8 * (M 110 ((6 * x6) + x11).toNat)).tdiv 10))), none, some (.inl (x10 + 1)), some (.inl x11)] [] M Q) ∧ (M 110 ((6 * x6) + x11).toNat < 0 → Q (some (.inl ((-1)))) M)) : ab_wp d 160 81 [some (.inr (.inr 103)), some (.inl x1), some (.inl x2), some (.inl x3), some (.inl x4), some (.inl x5), some (.inl x6), some (.inl x7), some (.inr (.inl x8)), none, some (.inl x10), some (.inl x11)] [] M Q := by
  refine wp_sts 1 (pc' := 82) (ls' := [some (.inr (.inr 103)), some (.inl x1), some (.inl x2), some (.inl x3), some (.inl x4), some (.inl x5), some (.inl x6), some (.inl x7), some (.inr (.inl x8)), none, some (.inl x10), some (.inl x11)]) (st' := [.inr (.inr 103)]) (M' := M) rfl ?_
  refine g_getR (j := 110) rfl hS rfl (str_r hS 103 12 110 rfl) (by decide) ?_
  refine wp_sts 2 (pc' := 89) (ls' := [some (.inr (.inr 103)), some (.inl x1), some (.inl x2), some (.inl x3), some (.inl x4), some (.inl x5), some (.inl x6), some (.inl x7), some (.inr (.inl x8)), none, some (.inl x10), some (.inl x11)]) (st' := [.inl x6, .inl 6, .inr (.inr 110)]) (M' := M) rfl ?_
  obtain ⟨hf1, h⟩ := h
  refine w_imul rfl hf1 ?_
  refine wp_sts 1 (pc' := 92) (ls' := [some (.inr (.inr 103)), some (.inl x1), some (.inl x2), some (.inl x3), some (.inl x4), some (.inl x5), some (.inl x6), some (.inl x7), some (.inr (.inl x8)), none, some (.inl x10), some (.inl x11)]) (st' := [.inl x11, .inl (6 * x6), .inr (.inr 110)]) (M' := M) rfl ?_
  obtain ⟨hf2, h⟩ := h
  refine w_iadd rfl hf2 ?_
  obtain ⟨hf3, h⟩ := h
  refine g_iald (n := 36) rfl hS rfl hf3 ?_
  refine c1_ge rfl (fun c => ?_) (fun c => ?_)
  · replace h := h.1 c
    refine wp_sts 2 (pc' := 102) (ls' := [some (.inr (.inr 103)), some (.inl x1), some (.inl x2), some (.inl x3), some (.inl x4), some (.inl x5), some (.inl x6), some (.inl x7), some (.inr (.inl x8)), none, some (.inl x10), some (.inl x11)]) (st' := [.inr (.inr 103), .inr (.inl x8)]) (M' := M) rfl ?_
    refine g_getR (j := 110) rfl hS rfl (str_r hS 103 12 110 rfl) (by decide) ?_
    refine wp_sts 2 (pc' := 109) (ls' := [some (.inr (.inr 103)), some (.inl x1), some (.inl x2), some (.inl x3), some (.inl x4), some (.inl x5), some (.inl x6), some (.inl x7), some (.inr (.inl x8)), none, some (.inl x10), some (.inl x11)]) (st' := [.inl x6, .inl 6, .inr (.inr 110), .inr (.inl x8)]) (M' := M) rfl ?_
    refine w_imul rfl hf1 ?_
    refine wp_sts 1 (pc' := 112) (ls' := [some (.inr (.inr 103)), some (.inl x1), some (.inl x2), some (.inl x3), some (.inl x4), some (.inl x5), some (.inl x6), some (.inl x7), some (.inr (.inl x8)), none, some (.inl x10), some (.inl x11)]) (st' := [.inl x11, .inl (6 * x6), .inr (.inr 110), .inr (.inl x8)]) (M' := M) rfl ?_
    refine w_iadd rfl hf2 ?_
    refine g_iald (n := 36) rfl hS rfl hf3 ?_
    refine wp_sts 1 (pc' := 115) (ls' := [some (.inr (.inr 103)), some (.inl x1), some (.inl x2), some (.inl x3), some (.inl x4), some (.inl x5), some (.inl x6), some (.inl x7), some (.inr (.inl x8)), none, some (.inl x10), some (.inl x11)]) (st' := [.inr (.inl (M 110 ((6 * x6) + x11).toNat)), .inr (.inl x8)]) (M' := M) rfl ?_
    obtain ⟨hf4, h⟩ := h
    refine w_lmul rfl hf4 ?_
    refine wp_sts 1 (pc' := 119) (ls' := [some (.inr (.inr 103)), some (.inl x1), some (.inl x2), some (.inl x3), some (.inl x4), some (.inl x5), some (.inl x6), some (.inl x7), some (.inr (.inl x8)), none, some (.inl x10), some (.inl x11)]) (st' := [.inr (.inl 10), .inr (.inl (x8 * (M 110 ((6 * x6) + x11).toNat)))]) (M' := M) rfl ?_
    obtain ⟨hf5, h⟩ := h
    refine w_ldiv rfl (by decide) hf5 ?_
    refine wp_sts 9 (pc' := 135) (ls' := [some (.inr (.inr 103)), some (.inl x1), some (.inl x2), some (.inl x3), some (.inl x4), some (.inl (ab_or x5 (ab_shl 1 x11))), some (.inl x11), some (.inl x7), some (.inr (.inl ((x8 * (M 110 ((6 * x6) + x11).toNat)).tdiv 10))), none, some (.inl x10), some (.inl x11)]) (st' := []) (M' := M) rfl ?_
    obtain ⟨hf6, h⟩ := h
    refine w_iinc rfl rfl hf6 ?_
    refine wp_sts 1 (pc' := 23) (ls' := [some (.inr (.inr 103)), some (.inl x1), some (.inl x2), some (.inl x3), some (.inl x4), some (.inl (ab_or x5 (ab_shl 1 x11))), some (.inl x11), some (.inl x7), some (.inr (.inl ((x8 * (M 110 ((6 * x6) + x11).toNat)).tdiv 10))), none, some (.inl (x10 + 1)), some (.inl x11)]) (st' := []) (M' := M) rfl ?_
    exact h
  · replace h := h.2 c
    refine wp_sts 1 (pc' := 98) (ls' := [some (.inr (.inr 103)), some (.inl x1), some (.inl x2), some (.inl x3), some (.inl x4), some (.inl x5), some (.inl x6), some (.inl x7), some (.inr (.inl x8)), none, some (.inl x10), some (.inl x11)]) (st' := [.inl ((-1))]) (M' := M) rfl ?_
    exact wp_ret rfl rfl (z := (some (.inl ((-1))), M)) rfl h
/- Model.lost, at 0 -/
theorem b161_0 {d t : Nat}  {x1 : Int} {M : ab_M} {Q : Option ab_V → ab_M → Prop} (hd : 1 ≤ d) (hS : pu_str t M)  (h : ∃ r1 M1, ab_ev (d - 1) 110 [.inr (.inr 103), .inl x1] M (some (.inl r1)) M1 ∧ pu_str t M1 ∧ (r1 ≠ 0 → ab_wp d 161 17 [some (.inr (.inr 103)), some (.inl x1), some (.inl (ab_shl 1 x1)), some (.inl 0), none] [] M1 Q) ∧ (r1 = 0 → Q (some (.inl ((-1000000001)))) M1)) : ab_wp d 161 0 [some (.inr (.inr 103)), some (.inl x1), none, none, none] [] M Q := by
  refine wp_sts 2 (pc' := 2) (ls' := [some (.inr (.inr 103)), some (.inl x1), none, none, none]) (st' := [.inl x1, .inr (.inr 103)]) (M' := M) rfl ?_
  obtain ⟨r1, M1, he, hS1, h⟩ := h
  refine g_callI (c := 110) (as := [.inr (.inr 103), .inl x1]) (rs := []) rfl rfl hS hd rfl he ?_
  refine c1_ne rfl (fun c => ?_) (fun c => ?_)
  · replace h := h.1 c
    refine wp_sts 6 (pc' := 17) (ls' := [some (.inr (.inr 103)), some (.inl x1), some (.inl (ab_shl 1 x1)), some (.inl 0), none]) (st' := []) (M' := M1) rfl ?_
    exact h
  · replace h := h.2 c
    refine wp_sts 1 (pc' := 10) (ls' := [some (.inr (.inr 103)), some (.inl x1), none, none, none]) (st' := [.inl ((-1000000001))]) (M' := M1) rfl ?_
    exact wp_ret rfl rfl (z := (some (.inl ((-1000000001))), M1)) rfl h
/- Model.lost, at 17 -/
theorem b161_17 {d t : Nat}  {x1 : Int} {x2 : Int} {x3 : Int} {y4 : Option ab_V} {M : ab_M} {Q : Option ab_V → ab_M → Prop} (hd : 1 ≤ d) (hS : pu_str t M)  (h : (6 ≤ x3 → ab_rg ((ab_shl 1 (M 103 9)) - 1) ∧ Q (some (.inl (ab_and ((ab_shl 1 (M 103 9)) - 1) (ab_xor x2 ((-1)))))) M) ∧ (x3 < 6 → ab_wp d 161 26 [some (.inr (.inr 103)), some (.inl x1), some (.inl x2), some (.inl x3), some (.inl 0)] [] M Q)) : ab_wp d 161 17 [some (.inr (.inr 103)), some (.inl x1), some (.inl x2), some (.inl x3), y4] [] M Q := by
  refine wp_sts 2 (pc' := 20) (ls' := [some (.inr (.inr 103)), some (.inl x1), some (.inl x2), some (.inl x3), y4]) (st' := [.inl 6, .inl x3]) (M' := M) rfl ?_
  refine c2_ge rfl (fun c => ?_) (fun c => ?_)
  · replace h := h.1 c
    refine wp_sts 2 (pc' := 83) (ls' := [some (.inr (.inr 103)), some (.inl x1), some (.inl x2), some (.inl x3), y4]) (st' := [.inr (.inr 103), .inl 1]) (M' := M) rfl ?_
    refine g_getI rfl hS rfl ?_
    refine wp_sts 2 (pc' := 88) (ls' := [some (.inr (.inr 103)), some (.inl x1), some (.inl x2), some (.inl x3), y4]) (st' := [.inl 1, .inl (ab_shl 1 (M 103 9))]) (M' := M) rfl ?_
    obtain ⟨hf1, h⟩ := h
    refine w_isub rfl hf1 ?_
    refine wp_sts 4 (pc' := 93) (ls' := [some (.inr (.inr 103)), some (.inl x1), some (.inl x2), some (.inl x3), y4]) (st' := [.inl (ab_and ((ab_shl 1 (M 103 9)) - 1) (ab_xor x2 ((-1))))]) (M' := M) rfl ?_
    exact wp_ret rfl rfl (z := (some (.inl (ab_and ((ab_shl 1 (M 103 9)) - 1) (ab_xor x2 ((-1))))), M)) rfl h
  · replace h := h.2 c
    refine wp_sts 2 (pc' := 26) (ls' := [some (.inr (.inr 103)), some (.inl x1), some (.inl x2), some (.inl x3), some (.inl 0)]) (st' := []) (M' := M) rfl ?_
    exact h
/- Model.lost, at 26 -/
theorem b161_26 {d t : Nat}  {x1 : Int} {x2 : Int} {x3 : Int} {x4 : Int} {M : ab_M} {Q : Option ab_V → ab_M → Prop} (hd : 1 ≤ d) (hS : pu_str t M)  (h : (36 ≤ x4 → ab_rg (x3 + 1) ∧ ab_wp d 161 17 [some (.inr (.inr 103)), some (.inl x1), some (.inl x2), some (.inl (x3 + 1)), some (.inl x4)] [] M Q) ∧ (x4 < 36 → ab_rg (x4.tdiv 6) ∧ ∃ r1 M1, ab_ev (d - 1) 108 [.inl x2, .inl (x4.tdiv 6)] M (some (.inl r1)) M1 ∧ pu_str t M1 ∧ (r1 = 0 → ab_rg (x4 + 1) ∧ ab_wp d 161 26 [some (.inr (.inr 103)), some (.inl x1), some (.inl (ab_or x2 0)), some (.inl x3), some (.inl (x4 + 1))] [] M1 Q) ∧ (r1 ≠ 0 → (0 ≤ x4 ∧ x4 < 36) ∧ (M1 110 x4.toNat ≤ 0 → ab_rg (x4 + 1) ∧ ab_wp d 161 26 [some (.inr (.inr 103)), some (.inl x1), some (.inl (ab_or x2 0)), some (.inl x3), some (.inl (x4 + 1))] [] M1 Q) ∧ (0 < M1 110 x4.toNat → ab_rg (x4 + 1) ∧ ab_wp d 161 26 [some (.inr (.inr 103)), some (.inl x1), some (.inl (ab_or x2 (ab_shl 1 (x4.tmod 6)))), some (.inl x3), some (.inl (x4 + 1))] [] M1 Q)))) : ab_wp d 161 26 [some (.inr (.inr 103)), some (.inl x1), some (.inl x2), some (.inl x3), some (.inl x4)] [] M Q := by
  refine wp_sts 2 (pc' := 30) (ls' := [some (.inr (.inr 103)), some (.inl x1), some (.inl x2), some (.inl x3), some (.inl x4)]) (st' := [.inl 36, .inl x4]) (M' := M) rfl ?_
  refine c2_ge rfl (fun c => ?_) (fun c => ?_)
  · replace h := h.1 c
    obtain ⟨hf1, h⟩ := h
    refine w_iinc rfl rfl hf1 ?_
    refine wp_sts 1 (pc' := 17) (ls' := [some (.inr (.inr 103)), some (.inl x1), some (.inl x2), some (.inl (x3 + 1)), some (.inl x4)]) (st' := []) (M' := M) rfl ?_
    exact h
  · replace h := h.2 c
    refine wp_sts 4 (pc' := 39) (ls' := [some (.inr (.inr 103)), some (.inl x1), some (.inl x2), some (.inl x3), some (.inl x4)]) (st' := [.inl 6, .inl x4, .inl x2, .inl x2]) (M' := M) rfl ?_
    obtain ⟨hf1, h⟩ := h
    refine w_idiv rfl (by decide) hf1 ?_
    obtain ⟨r1, M1, he, hS1, h⟩ := h
    refine g_callI (c := 108) (as := [.inl x2, .inl (x4.tdiv 6)]) (rs := [.inl x2]) rfl rfl hS hd rfl he ?_
    refine c1_eq rfl (fun c => ?_) (fun c => ?_)
    · replace h := h.1 c
      refine wp_sts 3 (pc' := 69) (ls' := [some (.inr (.inr 103)), some (.inl x1), some (.inl (ab_or x2 0)), some (.inl x3), some (.inl x4)]) (st' := []) (M' := M1) rfl ?_
      obtain ⟨hf2, h⟩ := h
      refine w_iinc rfl rfl hf2 ?_
      refine wp_sts 1 (pc' := 26) (ls' := [some (.inr (.inr 103)), some (.inl x1), some (.inl (ab_or x2 0)), some (.inl x3), some (.inl (x4 + 1))]) (st' := []) (M' := M1) rfl ?_
      exact h
    · replace h := h.2 c
      refine wp_sts 1 (pc' := 47) (ls' := [some (.inr (.inr 103)), some (.inl x1), some (.inl x2), some (.inl x3), some (.inl x4)]) (st' := [.inr (.inr 103), .inl x2]) (M' := M1) rfl ?_
      refine g_getR (j := 110) rfl hS1 rfl (str_r hS1 103 12 110 rfl) (by decide) ?_
      refine wp_sts 1 (pc' := 52) (ls' := [some (.inr (.inr 103)), some (.inl x1), some (.inl x2), some (.inl x3), some (.inl x4)]) (st' := [.inl x4, .inr (.inr 110), .inl x2]) (M' := M1) rfl ?_
      obtain ⟨hf2, h⟩ := h
      refine g_iald (n := 36) rfl hS1 rfl hf2 ?_
      refine c1_le rfl (fun c => ?_) (fun c => ?_)
      · replace h := h.1 c
        refine wp_sts 3 (pc' := 69) (ls' := [some (.inr (.inr 103)), some (.inl x1), some (.inl (ab_or x2 0)), some (.inl x3), some (.inl x4)]) (st' := []) (M' := M1) rfl ?_
        obtain ⟨hf3, h⟩ := h
        refine w_iinc rfl rfl hf3 ?_
        refine wp_sts 1 (pc' := 26) (ls' := [some (.inr (.inr 103)), some (.inl x1), some (.inl (ab_or x2 0)), some (.inl x3), some (.inl (x4 + 1))]) (st' := []) (M' := M1) rfl ?_
        exact h
      · replace h := h.2 c
        refine wp_sts 3 (pc' := 61) (ls' := [some (.inr (.inr 103)), some (.inl x1), some (.inl x2), some (.inl x3), some (.inl x4)]) (st' := [.inl 6, .inl x4, .inl 1, .inl x2]) (M' := M1) rfl ?_
        refine w_irem rfl (by decide) hf1 ?_
        refine wp_sts 4 (pc' := 69) (ls' := [some (.inr (.inr 103)), some (.inl x1), some (.inl (ab_or x2 (ab_shl 1 (x4.tmod 6)))), some (.inl x3), some (.inl x4)]) (st' := []) (M' := M1) rfl ?_
        obtain ⟨hf3, h⟩ := h
        refine w_iinc rfl rfl hf3 ?_
        refine wp_sts 1 (pc' := 26) (ls' := [some (.inr (.inr 103)), some (.inl x1), some (.inl (ab_or x2 (ab_shl 1 (x4.tmod 6)))), some (.inl x3), some (.inl (x4 + 1))]) (st' := []) (M' := M1) rfl ?_
        exact h
/- Model.bidOf, at 0 -/
theorem b162_0 {d t : Nat}  {x1 : Int} {M : ab_M} {Q : Option ab_V → ab_M → Prop} (hd : 1 ≤ d) (hS : pu_str t M)  (h : (0 ≤ x1 ∧ x1 < 6) ∧ ab_rg ((M 108 x1.toNat) - (M 124 x1.toNat)) ∧ (0 ≤ (M 108 x1.toNat) - (M 124 x1.toNat) → Q (some (.inl ((M 108 x1.toNat) - (M 124 x1.toNat)))) M) ∧ ((M 108 x1.toNat) - (M 124 x1.toNat) < 0 → Q (some (.inl 0)) M)) : ab_wp d 162 0 [some (.inr (.inr 103)), some (.inl x1), none] [] M Q := by
  refine wp_sts 1 (pc' := 1) (ls' := [some (.inr (.inr 103)), some (.inl x1), none]) (st' := [.inr (.inr 103)]) (M' := M) rfl ?_
  refine g_getR (j := 108) rfl hS rfl (str_r hS 103 8 108 rfl) (by decide) ?_
  refine wp_sts 1 (pc' := 5) (ls' := [some (.inr (.inr 103)), some (.inl x1), none]) (st' := [.inl x1, .inr (.inr 108)]) (M' := M) rfl ?_
  obtain ⟨hf1, h⟩ := h
  refine g_iald (n := 6) rfl hS rfl hf1 ?_
  refine wp_sts 1 (pc' := 7) (ls' := [some (.inr (.inr 103)), some (.inl x1), none]) (st' := [.inr (.inr 103), .inl (M 108 x1.toNat)]) (M' := M) rfl ?_
  refine g_getR (j := 124) rfl hS rfl (str_r hS 103 41 124 rfl) (by decide) ?_
  refine wp_sts 1 (pc' := 11) (ls' := [some (.inr (.inr 103)), some (.inl x1), none]) (st' := [.inl x1, .inr (.inr 124), .inl (M 108 x1.toNat)]) (M' := M) rfl ?_
  refine g_iald (n := 6) rfl hS rfl hf1 ?_
  obtain ⟨hf2, h⟩ := h
  refine w_isub rfl hf2 ?_
  refine wp_sts 2 (pc' := 15) (ls' := [some (.inr (.inr 103)), some (.inl x1), some (.inl ((M 108 x1.toNat) - (M 124 x1.toNat)))]) (st' := [.inl ((M 108 x1.toNat) - (M 124 x1.toNat))]) (M' := M) rfl ?_
  refine c1_ge rfl (fun c => ?_) (fun c => ?_)
  · replace h := h.1 c
    refine wp_sts 1 (pc' := 23) (ls' := [some (.inr (.inr 103)), some (.inl x1), some (.inl ((M 108 x1.toNat) - (M 124 x1.toNat)))]) (st' := [.inl ((M 108 x1.toNat) - (M 124 x1.toNat))]) (M' := M) rfl ?_
    exact wp_ret rfl rfl (z := (some (.inl ((M 108 x1.toNat) - (M 124 x1.toNat))), M)) rfl h
  · replace h := h.2 c
    refine wp_sts 2 (pc' := 23) (ls' := [some (.inr (.inr 103)), some (.inl x1), some (.inl ((M 108 x1.toNat) - (M 124 x1.toNat)))]) (st' := [.inl 0]) (M' := M) rfl ?_
    exact wp_ret rfl rfl (z := (some (.inl 0), M)) rfl h
/- Model.sold, at 0 -/
set_option maxRecDepth 100000 in
theorem b163_0 {d t : Nat}  {x1 : Int} {x2 : Int} {x3 : Int} {M : ab_M} {Q : Option ab_V → ab_M → Prop} (hd : 1 ≤ d) (hS : pu_str t M)  (h : ∃ r1 M1, ab_ev (d - 1) 110 [.inr (.inr 103), .inl x2] M (some (.inl r1)) M1 ∧ pu_str t M1 ∧ (r1 ≠ 0 → ∃ r2 M2, ab_ev (d - 1) 107 [.inr (.inl x1), .inr (.inl 1), .inr (.inl 9)] M1 (some (.inl r2)) M2 ∧ pu_str t M2 ∧ (r2 = 0 → Q (some (.inl ((-1000000002)))) M2) ∧ (r2 ≠ 0 → ∃ r3 M3, ab_ev (d - 1) 107 [.inr (.inl x3), .inr (.inl 0), .inr (.inl 1)] M2 (some (.inl r3)) M3 ∧ pu_str t M3 ∧ (r3 ≠ 0 → ab_wp d 163 39 [some (.inr (.inr 103)), some (.inl x1), some (.inl x2), some (.inl x3), some (.inl 0), none, none, none] [] M3 Q) ∧ (r3 = 0 → Q (some (.inl ((-1000000002)))) M3))) ∧ (r1 = 0 → Q (some (.inl ((-1000000001)))) M1)) : ab_wp d 163 0 [some (.inr (.inr 103)), some (.inl x1), some (.inl x2), some (.inl x3), none, none, none, none] [] M Q := by
  refine wp_sts 2 (pc' := 2) (ls' := [some (.inr (.inr 103)), some (.inl x1), some (.inl x2), some (.inl x3), none, none, none, none]) (st' := [.inl x2, .inr (.inr 103)]) (M' := M) rfl ?_
  obtain ⟨r1, M1, he, hS1, h⟩ := h
  refine g_callI (c := 110) (as := [.inr (.inr 103), .inl x2]) (rs := []) rfl rfl hS hd rfl he ?_
  refine c1_ne rfl (fun c => ?_) (fun c => ?_)
  · replace h := h.1 c
    refine wp_sts 4 (pc' := 17) (ls' := [some (.inr (.inr 103)), some (.inl x1), some (.inl x2), some (.inl x3), none, none, none, none]) (st' := [.inr (.inl 9), .inr (.inl 1), .inr (.inl x1)]) (M' := M1) rfl ?_
    obtain ⟨r2, M2, he, hS2, h⟩ := h
    refine g_callI (c := 107) (as := [.inr (.inl x1), .inr (.inl 1), .inr (.inl 9)]) (rs := []) rfl rfl hS1 hd rfl he ?_
    refine c1_eq rfl (fun c => ?_) (fun c => ?_)
    · replace h := h.1 c
      refine wp_sts 1 (pc' := 35) (ls' := [some (.inr (.inr 103)), some (.inl x1), some (.inl x2), some (.inl x3), none, none, none, none]) (st' := [.inl ((-1000000002))]) (M' := M2) rfl ?_
      exact wp_ret rfl rfl (z := (some (.inl ((-1000000002))), M2)) rfl h
    · replace h := h.2 c
      refine wp_sts 4 (pc' := 27) (ls' := [some (.inr (.inr 103)), some (.inl x1), some (.inl x2), some (.inl x3), none, none, none, none]) (st' := [.inr (.inl 1), .inr (.inl 0), .inr (.inl x3)]) (M' := M2) rfl ?_
      obtain ⟨r3, M3, he, hS3, h⟩ := h
      refine g_callI (c := 107) (as := [.inr (.inl x3), .inr (.inl 0), .inr (.inl 1)]) (rs := []) rfl rfl hS2 hd rfl he ?_
      refine c1_ne rfl (fun c => ?_) (fun c => ?_)
      · replace h := h.1 c
        refine wp_sts 2 (pc' := 39) (ls' := [some (.inr (.inr 103)), some (.inl x1), some (.inl x2), some (.inl x3), some (.inl 0), none, none, none]) (st' := []) (M' := M3) rfl ?_
        exact h
      · replace h := h.2 c
        refine wp_sts 1 (pc' := 35) (ls' := [some (.inr (.inr 103)), some (.inl x1), some (.inl x2), some (.inl x3), none, none, none, none]) (st' := [.inl ((-1000000002))]) (M' := M3) rfl ?_
        exact wp_ret rfl rfl (z := (some (.inl ((-1000000002))), M3)) rfl h
  · replace h := h.2 c
    refine wp_sts 1 (pc' := 10) (ls' := [some (.inr (.inr 103)), some (.inl x1), some (.inl x2), some (.inl x3), none, none, none, none]) (st' := [.inl ((-1000000001))]) (M' := M1) rfl ?_
    exact wp_ret rfl rfl (z := (some (.inl ((-1000000001))), M1)) rfl h
/- Model.sold, at 39 -/
set_option maxRecDepth 100000 in
theorem b163_39 {d t : Nat}  {x1 : Int} {x2 : Int} {x3 : Int} {x4 : Int} {M : ab_M} {Q : Option ab_V → ab_M → Prop} (hd : 1 ≤ d) (hS : pu_str t M)  (h : (M 103 9 ≤ x4 → ab_wp d 163 73 [some (.inr (.inr 103)), some (.inl x1), some (.inl x2), some (.inl x3), some (.inl 0), none, none, none] [] M Q) ∧ (x4 < M 103 9 → (0 ≤ x4 ∧ x4 < 6) ∧ ab_rg (x4 + 1) ∧ ab_wp d 163 39 [some (.inr (.inr 103)), some (.inl x1), some (.inl x2), some (.inl x3), some (.inl (x4 + 1)), none, none, none] [] (ab_w (ab_w M 124 x4.toNat 0) 125 x4.toNat 0) Q)) : ab_wp d 163 39 [some (.inr (.inr 103)), some (.inl x1), some (.inl x2), some (.inl x3), some (.inl x4), none, none, none] [] M Q := by
  refine wp_sts 2 (pc' := 42) (ls' := [some (.inr (.inr 103)), some (.inl x1), some (.inl x2), some (.inl x3), some (.inl x4), none, none, none]) (st' := [.inr (.inr 103), .inl x4]) (M' := M) rfl ?_
  refine g_getI rfl hS rfl ?_
  refine c2_ge rfl (fun c => ?_) (fun c => ?_)
  · replace h := h.1 c
    refine wp_sts 2 (pc' := 73) (ls' := [some (.inr (.inr 103)), some (.inl x1), some (.inl x2), some (.inl x3), some (.inl 0), none, none, none]) (st' := []) (M' := M) rfl ?_
    exact h
  · replace h := h.2 c
    refine wp_sts 1 (pc' := 49) (ls' := [some (.inr (.inr 103)), some (.inl x1), some (.inl x2), some (.inl x3), some (.inl x4), none, none, none]) (st' := [.inr (.inr 103)]) (M' := M) rfl ?_
    refine g_getR (j := 124) rfl hS rfl (str_r hS 103 41 124 rfl) (by decide) ?_
    refine wp_sts 2 (pc' := 55) (ls' := [some (.inr (.inr 103)), some (.inl x1), some (.inl x2), some (.inl x3), some (.inl x4), none, none, none]) (st' := [.inl 0, .inl x4, .inr (.inr 124)]) (M' := M) rfl ?_
    obtain ⟨hf1, h⟩ := h
    refine g_iast (n := 6) rfl hS rfl hf1 ?_
    refine wp_sts 1 (pc' := 57) (ls' := [some (.inr (.inr 103)), some (.inl x1), some (.inl x2), some (.inl x3), some (.inl x4), none, none, none]) (st' := [.inr (.inr 103)]) (M' := (ab_w M 124 x4.toNat 0)) rfl ?_
    refine g_getR (j := 125) rfl (str_a (k := 124) (f := x4.toNat) (v := 0) hS rfl) rfl (str_r (str_a (k := 124) (f := x4.toNat) (v := 0) hS rfl) 103 42 125 rfl) (by decide) ?_
    refine wp_sts 2 (pc' := 63) (ls' := [some (.inr (.inr 103)), some (.inl x1), some (.inl x2), some (.inl x3), some (.inl x4), none, none, none]) (st' := [.inl 0, .inl x4, .inr (.inr 125)]) (M' := (ab_w M 124 x4.toNat 0)) rfl ?_
    refine g_iast (n := 6) rfl (str_a (k := 124) (f := x4.toNat) (v := 0) hS rfl) rfl hf1 ?_
    obtain ⟨hf2, h⟩ := h
    refine w_iinc rfl rfl hf2 ?_
    refine wp_sts 1 (pc' := 39) (ls' := [some (.inr (.inr 103)), some (.inl x1), some (.inl x2), some (.inl x3), some (.inl (x4 + 1)), none, none, none]) (st' := []) (M' := (ab_w (ab_w M 124 x4.toNat 0) 125 x4.toNat 0)) rfl ?_
    exact h
/- Model.sold, at 73 -/
set_option maxRecDepth 100000 in
theorem b163_73 {d t : Nat}  {x1 : Int} {x2 : Int} {x3 : Int} {x4 : Int} {y5 : Option ab_V} {y6 : Option ab_V} {y7 : Option ab_V} {M : ab_M} {Q : Option ab_V → ab_M → Prop} (hd : 1 ≤ d) (hS : pu_str t M)  (h : (x1 ≤ x4 → (x3 ≠ 0 → (0 ≤ x2 ∧ x2 < 6) ∧ Q (some (.inl (M 125 x2.toNat))) M) ∧ (x3 = 0 → (0 ≤ x2 ∧ x2 < 6) ∧ Q (some (.inl (M 124 x2.toNat))) M)) ∧ (x4 < x1 → ab_wp d 163 85 [some (.inr (.inr 103)), some (.inl x1), some (.inl x2), some (.inl x3), some (.inl x4), some (.inl 0), some (.inl 1), y7] [] M Q)) : ab_wp d 163 73 [some (.inr (.inr 103)), some (.inl x1), some (.inl x2), some (.inl x3), some (.inl x4), y5, y6, y7] [] M Q := by
  refine wp_sts 2 (pc' := 76) (ls' := [some (.inr (.inr 103)), some (.inl x1), some (.inl x2), some (.inl x3), some (.inl x4), y5, y6, y7]) (st' := [.inl x1, .inl x4]) (M' := M) rfl ?_
  refine c2_ge rfl (fun c => ?_) (fun c => ?_)
  · replace h := h.1 c
    refine wp_sts 1 (pc' := 206) (ls' := [some (.inr (.inr 103)), some (.inl x1), some (.inl x2), some (.inl x3), some (.inl x4), y5, y6, y7]) (st' := [.inl x3]) (M' := M) rfl ?_
    refine c1_ne rfl (fun c => ?_) (fun c => ?_)
    · replace h := h.1 c
      refine wp_sts 1 (pc' := 219) (ls' := [some (.inr (.inr 103)), some (.inl x1), some (.inl x2), some (.inl x3), some (.inl x4), y5, y6, y7]) (st' := [.inr (.inr 103)]) (M' := M) rfl ?_
      refine g_getR (j := 125) rfl hS rfl (str_r hS 103 42 125 rfl) (by decide) ?_
      refine wp_sts 1 (pc' := 223) (ls' := [some (.inr (.inr 103)), some (.inl x1), some (.inl x2), some (.inl x3), some (.inl x4), y5, y6, y7]) (st' := [.inl x2, .inr (.inr 125)]) (M' := M) rfl ?_
      obtain ⟨hf1, h⟩ := h
      refine g_iald (n := 6) rfl hS rfl hf1 ?_
      exact wp_ret rfl rfl (z := (some (.inl (M 125 x2.toNat)), M)) rfl h
    · replace h := h.2 c
      refine wp_sts 1 (pc' := 210) (ls' := [some (.inr (.inr 103)), some (.inl x1), some (.inl x2), some (.inl x3), some (.inl x4), y5, y6, y7]) (st' := [.inr (.inr 103)]) (M' := M) rfl ?_
      refine g_getR (j := 124) rfl hS rfl (str_r hS 103 41 124 rfl) (by decide) ?_
      refine wp_sts 1 (pc' := 214) (ls' := [some (.inr (.inr 103)), some (.inl x1), some (.inl x2), some (.inl x3), some (.inl x4), y5, y6, y7]) (st' := [.inl x2, .inr (.inr 124)]) (M' := M) rfl ?_
      obtain ⟨hf1, h⟩ := h
      refine g_iald (n := 6) rfl hS rfl hf1 ?_
      refine wp_sts 1 (pc' := 224) (ls' := [some (.inr (.inr 103)), some (.inl x1), some (.inl x2), some (.inl x3), some (.inl x4), y5, y6, y7]) (st' := [.inl (M 124 x2.toNat)]) (M' := M) rfl ?_
      exact wp_ret rfl rfl (z := (some (.inl (M 124 x2.toNat)), M)) rfl h
  · replace h := h.2 c
    refine wp_sts 4 (pc' := 85) (ls' := [some (.inr (.inr 103)), some (.inl x1), some (.inl x2), some (.inl x3), some (.inl x4), some (.inl 0), some (.inl 1), y7]) (st' := []) (M' := M) rfl ?_
    exact h
/- Model.sold, at 85 -/
set_option maxRecDepth 100000 in
theorem b163_85 {d t : Nat}  {x1 : Int} {x2 : Int} {x3 : Int} {x4 : Int} {x5 : Int} {x6 : Int} {y7 : Option ab_V} {M : ab_M} {Q : Option ab_V → ab_M → Prop} (hd : 1 ≤ d) (hS : pu_str t M)  (h : (M 103 9 ≤ x6 → ab_wp d 163 130 [some (.inr (.inr 103)), some (.inl x1), some (.inl x2), some (.inl x3), some (.inl x4), some (.inl x5), some (.inl 0), some (.inl 0)] [] M Q) ∧ (x6 < M 103 9 → ∃ r1 M1, ab_ev (d - 1) 162 [.inr (.inr 103), .inl x6] M (some (.inl r1)) M1 ∧ pu_str t M1 ∧ ∃ r2 M2, ab_ev (d - 1) 162 [.inr (.inr 103), .inl x5] M1 (some (.inl r2)) M2 ∧ pu_str t M2 ∧ (r1 ≤ r2 → ab_rg (x6 + 1) ∧ ab_wp d 163 85 [some (.inr (.inr 103)), some (.inl x1), some (.inl x2), some (.inl x3), some (.inl x4), some (.inl x5), some (.inl (x6 + 1)), y7] [] M2 Q) ∧ (r2 < r1 → ab_rg (x6 + 1) ∧ ab_wp d 163 85 [some (.inr (.inr 103)), some (.inl x1), some (.inl x2), some (.inl x3), some (.inl x4), some (.inl x6), some (.inl (x6 + 1)), y7] [] M2 Q))) : ab_wp d 163 85 [some (.inr (.inr 103)), some (.inl x1), some (.inl x2), some (.inl x3), some (.inl x4), some (.inl x5), some (.inl x6), y7] [] M Q := by
  refine wp_sts 2 (pc' := 88) (ls' := [some (.inr (.inr 103)), some (.inl x1), some (.inl x2), some (.inl x3), some (.inl x4), some (.inl x5), some (.inl x6), y7]) (st' := [.inr (.inr 103), .inl x6]) (M' := M) rfl ?_
  refine g_getI rfl hS rfl ?_
  refine c2_ge rfl (fun c => ?_) (fun c => ?_)
  · replace h := h.1 c
    refine wp_sts 4 (pc' := 130) (ls' := [some (.inr (.inr 103)), some (.inl x1), some (.inl x2), some (.inl x3), some (.inl x4), some (.inl x5), some (.inl 0), some (.inl 0)]) (st' := []) (M' := M) rfl ?_
    exact h
  · replace h := h.2 c
    refine wp_sts 2 (pc' := 97) (ls' := [some (.inr (.inr 103)), some (.inl x1), some (.inl x2), some (.inl x3), some (.inl x4), some (.inl x5), some (.inl x6), y7]) (st' := [.inl x6, .inr (.inr 103)]) (M' := M) rfl ?_
    obtain ⟨r1, M1, he, hS1, h⟩ := h
    refine g_callI (c := 162) (as := [.inr (.inr 103), .inl x6]) (rs := []) rfl rfl hS hd rfl he ?_
    refine wp_sts 2 (pc' := 103) (ls' := [some (.inr (.inr 103)), some (.inl x1), some (.inl x2), some (.inl x3), some (.inl x4), some (.inl x5), some (.inl x6), y7]) (st' := [.inl x5, .inr (.inr 103), .inl r1]) (M' := M1) rfl ?_
    obtain ⟨r2, M2, he, hS2, h⟩ := h
    refine g_callI (c := 162) (as := [.inr (.inr 103), .inl x5]) (rs := [.inl r1]) rfl rfl hS1 hd rfl he ?_
    refine c2_le rfl (fun c => ?_) (fun c => ?_)
    · replace h := h.1 c
      refine wp_sts 2 (pc' := 118) (ls' := [some (.inr (.inr 103)), some (.inl x1), some (.inl x2), some (.inl x3), some (.inl x4), some (.inl x5), some (.inl x6), y7]) (st' := []) (M' := M2) rfl ?_
      obtain ⟨hf1, h⟩ := h
      refine w_iinc rfl rfl hf1 ?_
      refine wp_sts 1 (pc' := 85) (ls' := [some (.inr (.inr 103)), some (.inl x1), some (.inl x2), some (.inl x3), some (.inl x4), some (.inl x5), some (.inl (x6 + 1)), y7]) (st' := []) (M' := M2) rfl ?_
      exact h
    · replace h := h.2 c
      refine wp_sts 3 (pc' := 118) (ls' := [some (.inr (.inr 103)), some (.inl x1), some (.inl x2), some (.inl x3), some (.inl x4), some (.inl x6), some (.inl x6), y7]) (st' := []) (M' := M2) rfl ?_
      obtain ⟨hf1, h⟩ := h
      refine w_iinc rfl rfl hf1 ?_
      refine wp_sts 1 (pc' := 85) (ls' := [some (.inr (.inr 103)), some (.inl x1), some (.inl x2), some (.inl x3), some (.inl x4), some (.inl x6), some (.inl (x6 + 1)), y7]) (st' := []) (M' := M2) rfl ?_
      exact h
/- Model.sold, at 130 -/
set_option maxRecDepth 100000 in
theorem b163_130 {d t : Nat}  {x1 : Int} {x2 : Int} {x3 : Int} {x4 : Int} {x5 : Int} {x6 : Int} {x7 : Int} {M : ab_M} {Q : Option ab_V → ab_M → Prop} (hd : 1 ≤ d) (hS : pu_str t M)  (h : (M 103 9 ≤ x7 → (0 ≤ x5 ∧ x5 < 6) ∧ ab_rg ((M 124 x5.toNat) + 1) ∧ ab_rg ((M 125 x5.toNat) + x6) ∧ ab_rg (x4 + 1) ∧ ab_wp d 163 73 [some (.inr (.inr 103)), some (.inl x1), some (.inl x2), some (.inl x3), some (.inl (x4 + 1)), some (.inl x5), some (.inl x6), some (.inl x7)] [] (ab_w (ab_w M 124 x5.toNat ((M 124 x5.toNat) + 1)) 125 x5.toNat ((M 125 x5.toNat) + x6)) Q) ∧ (x7 < M 103 9 → (x7 = x5 → ab_rg (x7 + 1) ∧ ab_wp d 163 130 [some (.inr (.inr 103)), some (.inl x1), some (.inl x2), some (.inl x3), some (.inl x4), some (.inl x5), some (.inl x6), some (.inl (x7 + 1))] [] M Q) ∧ (x7 ≠ x5 → ∃ r1 M1, ab_ev (d - 1) 162 [.inr (.inr 103), .inl x7] M (some (.inl r1)) M1 ∧ pu_str t M1 ∧ (r1 ≤ x6 → ab_rg (x7 + 1) ∧ ab_wp d 163 130 [some (.inr (.inr 103)), some (.inl x1), some (.inl x2), some (.inl x3), some (.inl x4), some (.inl x5), some (.inl x6), some (.inl (x7 + 1))] [] M1 Q) ∧ (x6 < r1 → ∃ r2 M2, ab_ev (d - 1) 162 [.inr (.inr 103), .inl x7] M1 (some (.inl r2)) M2 ∧ pu_str t M2 ∧ ab_rg (x7 + 1) ∧ ab_wp d 163 130 [some (.inr (.inr 103)), some (.inl x1), some (.inl x2), some (.inl x3), some (.inl x4), some (.inl x5), some (.inl r2), some (.inl (x7 + 1))] [] M2 Q)))) : ab_wp d 163 130 [some (.inr (.inr 103)), some (.inl x1), some (.inl x2), some (.inl x3), some (.inl x4), some (.inl x5), some (.inl x6), some (.inl x7)] [] M Q := by
  refine wp_sts 2 (pc' := 133) (ls' := [some (.inr (.inr 103)), some (.inl x1), some (.inl x2), some (.inl x3), some (.inl x4), some (.inl x5), some (.inl x6), some (.inl x7)]) (st' := [.inr (.inr 103), .inl x7]) (M' := M) rfl ?_
  refine g_getI rfl hS rfl ?_
  refine c2_ge rfl (fun c => ?_) (fun c => ?_)
  · replace h := h.1 c
    refine wp_sts 1 (pc' := 177) (ls' := [some (.inr (.inr 103)), some (.inl x1), some (.inl x2), some (.inl x3), some (.inl x4), some (.inl x5), some (.inl x6), some (.inl x7)]) (st' := [.inr (.inr 103)]) (M' := M) rfl ?_
    refine g_getR (j := 124) rfl hS rfl (str_r hS 103 41 124 rfl) (by decide) ?_
    refine wp_sts 2 (pc' := 183) (ls' := [some (.inr (.inr 103)), some (.inl x1), some (.inl x2), some (.inl x3), some (.inl x4), some (.inl x5), some (.inl x6), some (.inl x7)]) (st' := [.inl x5, .inr (.inr 124), .inl x5, .inr (.inr 124)]) (M' := M) rfl ?_
    obtain ⟨hf1, h⟩ := h
    refine g_iald (n := 6) rfl hS rfl hf1 ?_
    refine wp_sts 1 (pc' := 185) (ls' := [some (.inr (.inr 103)), some (.inl x1), some (.inl x2), some (.inl x3), some (.inl x4), some (.inl x5), some (.inl x6), some (.inl x7)]) (st' := [.inl 1, .inl (M 124 x5.toNat), .inl x5, .inr (.inr 124)]) (M' := M) rfl ?_
    obtain ⟨hf2, h⟩ := h
    refine w_iadd rfl hf2 ?_
    refine g_iast (n := 6) rfl hS rfl hf1 ?_
    refine wp_sts 1 (pc' := 188) (ls' := [some (.inr (.inr 103)), some (.inl x1), some (.inl x2), some (.inl x3), some (.inl x4), some (.inl x5), some (.inl x6), some (.inl x7)]) (st' := [.inr (.inr 103)]) (M' := (ab_w M 124 x5.toNat ((M 124 x5.toNat) + 1))) rfl ?_
    refine g_getR (j := 125) rfl (str_a (k := 124) (f := x5.toNat) (v := (M 124 x5.toNat) + 1) hS rfl) rfl (str_r (str_a (k := 124) (f := x5.toNat) (v := (M 124 x5.toNat) + 1) hS rfl) 103 42 125 rfl) (by decide) ?_
    refine wp_sts 2 (pc' := 194) (ls' := [some (.inr (.inr 103)), some (.inl x1), some (.inl x2), some (.inl x3), some (.inl x4), some (.inl x5), some (.inl x6), some (.inl x7)]) (st' := [.inl x5, .inr (.inr 125), .inl x5, .inr (.inr 125)]) (M' := (ab_w M 124 x5.toNat ((M 124 x5.toNat) + 1))) rfl ?_
    refine g_iald (n := 6) rfl (str_a (k := 124) (f := x5.toNat) (v := (M 124 x5.toNat) + 1) hS rfl) rfl hf1 ?_
    refine wp_sts 1 (pc' := 197) (ls' := [some (.inr (.inr 103)), some (.inl x1), some (.inl x2), some (.inl x3), some (.inl x4), some (.inl x5), some (.inl x6), some (.inl x7)]) (st' := [.inl x6, .inl (M 125 x5.toNat), .inl x5, .inr (.inr 125)]) (M' := (ab_w M 124 x5.toNat ((M 124 x5.toNat) + 1))) rfl ?_
    obtain ⟨hf3, h⟩ := h
    refine w_iadd rfl hf3 ?_
    refine g_iast (n := 6) rfl (str_a (k := 124) (f := x5.toNat) (v := (M 124 x5.toNat) + 1) hS rfl) rfl hf1 ?_
    obtain ⟨hf4, h⟩ := h
    refine w_iinc rfl rfl hf4 ?_
    refine wp_sts 1 (pc' := 73) (ls' := [some (.inr (.inr 103)), some (.inl x1), some (.inl x2), some (.inl x3), some (.inl (x4 + 1)), some (.inl x5), some (.inl x6), some (.inl x7)]) (st' := []) (M' := (ab_w (ab_w M 124 x5.toNat ((M 124 x5.toNat) + 1)) 125 x5.toNat ((M 125 x5.toNat) + x6))) rfl ?_
    exact h
  · replace h := h.2 c
    refine wp_sts 2 (pc' := 143) (ls' := [some (.inr (.inr 103)), some (.inl x1), some (.inl x2), some (.inl x3), some (.inl x4), some (.inl x5), some (.inl x6), some (.inl x7)]) (st' := [.inl x5, .inl x7]) (M' := M) rfl ?_
    refine c2_eq rfl (fun c => ?_) (fun c => ?_)
    · replace h := h.1 c
      refine wp_sts 2 (pc' := 170) (ls' := [some (.inr (.inr 103)), some (.inl x1), some (.inl x2), some (.inl x3), some (.inl x4), some (.inl x5), some (.inl x6), some (.inl x7)]) (st' := []) (M' := M) rfl ?_
      obtain ⟨hf1, h⟩ := h
      refine w_iinc rfl rfl hf1 ?_
      refine wp_sts 1 (pc' := 130) (ls' := [some (.inr (.inr 103)), some (.inl x1), some (.inl x2), some (.inl x3), some (.inl x4), some (.inl x5), some (.inl x6), some (.inl (x7 + 1))]) (st' := []) (M' := M) rfl ?_
      exact h
    · replace h := h.2 c
      refine wp_sts 2 (pc' := 149) (ls' := [some (.inr (.inr 103)), some (.inl x1), some (.inl x2), some (.inl x3), some (.inl x4), some (.inl x5), some (.inl x6), some (.inl x7)]) (st' := [.inl x7, .inr (.inr 103)]) (M' := M) rfl ?_
      obtain ⟨r1, M1, he, hS1, h⟩ := h
      refine g_callI (c := 162) (as := [.inr (.inr 103), .inl x7]) (rs := []) rfl rfl hS hd rfl he ?_
      refine wp_sts 1 (pc' := 154) (ls' := [some (.inr (.inr 103)), some (.inl x1), some (.inl x2), some (.inl x3), some (.inl x4), some (.inl x5), some (.inl x6), some (.inl x7)]) (st' := [.inl x6, .inl r1]) (M' := M1) rfl ?_
      refine c2_le rfl (fun c => ?_) (fun c => ?_)
      · replace h := h.1 c
        refine wp_sts 2 (pc' := 170) (ls' := [some (.inr (.inr 103)), some (.inl x1), some (.inl x2), some (.inl x3), some (.inl x4), some (.inl x5), some (.inl x6), some (.inl x7)]) (st' := []) (M' := M1) rfl ?_
        obtain ⟨hf1, h⟩ := h
        refine w_iinc rfl rfl hf1 ?_
        refine wp_sts 1 (pc' := 130) (ls' := [some (.inr (.inr 103)), some (.inl x1), some (.inl x2), some (.inl x3), some (.inl x4), some (.inl x5), some (.inl x6), some (.inl (x7 + 1))]) (st' := []) (M' := M1) rfl ?_
        exact h
      · replace h := h.2 c
        refine wp_sts 2 (pc' := 160) (ls' := [some (.inr (.inr 103)), some (.inl x1), some (.inl x2), some (.inl x3), some (.inl x4), some (.inl x5), some (.inl x6), some (.inl x7)]) (st' := [.inl x7, .inr (.inr 103)]) (M' := M1) rfl ?_
        obtain ⟨r2, M2, he, hS2, h⟩ := h
        refine g_callI (c := 162) (as := [.inr (.inr 103), .inl x7]) (rs := []) rfl rfl hS1 hd rfl he ?_
        refine wp_sts 2 (pc' := 170) (ls' := [some (.inr (.inr 103)), some (.inl x1), some (.inl x2), some (.inl x3), some (.inl x4), some (.inl x5), some (.inl r2), some (.inl x7)]) (st' := []) (M' := M2) rfl ?_
        obtain ⟨hf1, h⟩ := h
        refine w_iinc rfl rfl hf1 ?_
        refine wp_sts 1 (pc' := 130) (ls' := [some (.inr (.inr 103)), some (.inl x1), some (.inl x2), some (.inl x3), some (.inl x4), some (.inl x5), some (.inl r2), some (.inl (x7 + 1))]) (st' := []) (M' := M2) rfl ?_
        exact h
/- Model.leads, at 0 -/
theorem b164_0 {d t : Nat}  {x1 : Int} {x2 : Int} {M : ab_M} {Q : Option ab_V → ab_M → Prop} (hd : 1 ≤ d) (hS : pu_str t M)  (h : (x1 = x2 → Q (some (.inl 1)) M) ∧ (x1 ≠ x2 → ab_rg (7 * x1) ∧ ab_rg ((7 * x1) + x2) ∧ (0 ≤ (7 * x1) + x2 ∧ (7 * x1) + x2 < 49) ∧ (M 106 ((7 * x1) + x2).toNat = 0 → Q (some (.inl 0)) M) ∧ (M 106 ((7 * x1) + x2).toNat ≠ 0 → Q (some (.inl 1)) M))) : ab_wp d 164 0 [some (.inr (.inr 103)), some (.inl x1), some (.inl x2)] [] M Q := by
  refine wp_sts 2 (pc' := 2) (ls' := [some (.inr (.inr 103)), some (.inl x1), some (.inl x2)]) (st' := [.inl x2, .inl x1]) (M' := M) rfl ?_
  refine c2_eq rfl (fun c => ?_) (fun c => ?_)
  · replace h := h.1 c
    refine wp_sts 2 (pc' := 24) (ls' := [some (.inr (.inr 103)), some (.inl x1), some (.inl x2)]) (st' := [.inl 1]) (M' := M) rfl ?_
    exact g_retB rfl (by decide) h
  · replace h := h.2 c
    refine wp_sts 1 (pc' := 6) (ls' := [some (.inr (.inr 103)), some (.inl x1), some (.inl x2)]) (st' := [.inr (.inr 103)]) (M' := M) rfl ?_
    refine g_getR (j := 106) rfl hS rfl (str_r hS 103 6 106 rfl) (by decide) ?_
    refine wp_sts 2 (pc' := 12) (ls' := [some (.inr (.inr 103)), some (.inl x1), some (.inl x2)]) (st' := [.inl x1, .inl 7, .inr (.inr 106)]) (M' := M) rfl ?_
    obtain ⟨hf1, h⟩ := h
    refine w_imul rfl hf1 ?_
    refine wp_sts 1 (pc' := 14) (ls' := [some (.inr (.inr 103)), some (.inl x1), some (.inl x2)]) (st' := [.inl x2, .inl (7 * x1), .inr (.inr 106)]) (M' := M) rfl ?_
    obtain ⟨hf2, h⟩ := h
    refine w_iadd rfl hf2 ?_
    obtain ⟨hf3, h⟩ := h
    refine g_bald (n := 49) rfl hS rfl hf3 ?_
    refine c1_eq rfl (fun c => ?_) (fun c => ?_)
    · replace h := h.1 c
      refine wp_sts 1 (pc' := 24) (ls' := [some (.inr (.inr 103)), some (.inl x1), some (.inl x2)]) (st' := [.inl 0]) (M' := M) rfl ?_
      exact g_retB rfl (by decide) h
    · replace h := h.2 c
      refine wp_sts 2 (pc' := 24) (ls' := [some (.inr (.inr 103)), some (.inl x1), some (.inl x2)]) (st' := [.inl 1]) (M' := M) rfl ?_
      exact g_retB rfl (by decide) h
/- Model.escapesFrom, at 0 -/
theorem b165_0 {d t : Nat}  {x1 : Int} {x2 : Int} {x3 : Int} {M : ab_M} {Q : Option ab_V → ab_M → Prop} (hd : 1 ≤ d) (hS : pu_str t M)  (h : ab_wp d 165 7 [some (.inr (.inr 103)), some (.inl x1), some (.inl x2), some (.inl x3), some (.inl 1000000), some (.inl 0), none, none, none] [] M Q) : ab_wp d 165 0 [some (.inr (.inr 103)), some (.inl x1), some (.inl x2), some (.inl x3), none, none, none, none, none] [] M Q := by
  refine wp_sts 4 (pc' := 7) (ls' := [some (.inr (.inr 103)), some (.inl x1), some (.inl x2), some (.inl x3), some (.inl 1000000), some (.inl 0), none, none, none]) (st' := []) (M' := M) rfl ?_
  exact h
/- Model.escapesFrom, at 7 -/
theorem b165_7 {d t : Nat}  {x1 : Int} {x2 : Int} {x3 : Int} {x4 : Int} {x5 : Int} {y6 : Option ab_V} {y7 : Option ab_V} {y8 : Option ab_V} {M : ab_M} {Q : Option ab_V → ab_M → Prop} (hd : 1 ≤ d) (hS : pu_str t M)  (h : (M 103 3 ≤ x5 → (x4 ≤ 1000000 → Q (some (.inl x4)) M) ∧ (1000000 < x4 → Q (some (.inl 1000000)) M)) ∧ (x5 < M 103 3 → ∃ r1 M1, ab_ev (d - 1) 164 [.inr (.inr 103), .inl x1, .inl x5] M (some (.inl r1)) M1 ∧ pu_str t M1 ∧ (r1 = 0 → ab_rg (x5 + 1) ∧ ab_wp d 165 7 [some (.inr (.inr 103)), some (.inl x1), some (.inl x2), some (.inl x3), some (.inl x4), some (.inl (x5 + 1)), y6, y7, y8] [] M1 Q) ∧ (r1 ≠ 0 → (x5 = x2 → ab_rg (x5 + 1) ∧ ab_wp d 165 7 [some (.inr (.inr 103)), some (.inl x1), some (.inl x2), some (.inl x3), some (.inl x4), some (.inl (x5 + 1)), y6, y7, y8] [] M1 Q) ∧ (x5 ≠ x2 → (x5 ≠ x3 → ab_wp d 165 48 [some (.inr (.inr 103)), some (.inl x1), some (.inl x2), some (.inl x3), some (.inl x4), some (.inl x5), some (.inl 0), some (.inl 0), y8] [] M1 Q) ∧ (x5 = x3 → ab_wp d 165 48 [some (.inr (.inr 103)), some (.inl x1), some (.inl x2), some (.inl x3), some (.inl x4), some (.inl x5), some (.inl 1), some (.inl 0), y8] [] M1 Q))))) : ab_wp d 165 7 [some (.inr (.inr 103)), some (.inl x1), some (.inl x2), some (.inl x3), some (.inl x4), some (.inl x5), y6, y7, y8] [] M Q := by
  refine wp_sts 2 (pc' := 10) (ls' := [some (.inr (.inr 103)), some (.inl x1), some (.inl x2), some (.inl x3), some (.inl x4), some (.inl x5), y6, y7, y8]) (st' := [.inr (.inr 103), .inl x5]) (M' := M) rfl ?_
  refine g_getI rfl hS rfl ?_
  refine c2_ge rfl (fun c => ?_) (fun c => ?_)
  · replace h := h.1 c
    refine wp_sts 2 (pc' := 154) (ls' := [some (.inr (.inr 103)), some (.inl x1), some (.inl x2), some (.inl x3), some (.inl x4), some (.inl x5), y6, y7, y8]) (st' := [.inl 1000000, .inl x4]) (M' := M) rfl ?_
    refine c2_le rfl (fun c => ?_) (fun c => ?_)
    · replace h := h.1 c
      refine wp_sts 1 (pc' := 164) (ls' := [some (.inr (.inr 103)), some (.inl x1), some (.inl x2), some (.inl x3), some (.inl x4), some (.inl x5), y6, y7, y8]) (st' := [.inl x4]) (M' := M) rfl ?_
      exact wp_ret rfl rfl (z := (some (.inl x4), M)) rfl h
    · replace h := h.2 c
      refine wp_sts 2 (pc' := 164) (ls' := [some (.inr (.inr 103)), some (.inl x1), some (.inl x2), some (.inl x3), some (.inl x4), some (.inl x5), y6, y7, y8]) (st' := [.inl 1000000]) (M' := M) rfl ?_
      exact wp_ret rfl rfl (z := (some (.inl 1000000), M)) rfl h
  · replace h := h.2 c
    refine wp_sts 3 (pc' := 20) (ls' := [some (.inr (.inr 103)), some (.inl x1), some (.inl x2), some (.inl x3), some (.inl x4), some (.inl x5), y6, y7, y8]) (st' := [.inl x5, .inl x1, .inr (.inr 103)]) (M' := M) rfl ?_
    obtain ⟨r1, M1, he, hS1, h⟩ := h
    refine g_callI (c := 164) (as := [.inr (.inr 103), .inl x1, .inl x5]) (rs := []) rfl rfl hS hd rfl he ?_
    refine c1_eq rfl (fun c => ?_) (fun c => ?_)
    · replace h := h.1 c
      obtain ⟨hf1, h⟩ := h
      refine w_iinc rfl rfl hf1 ?_
      refine wp_sts 1 (pc' := 7) (ls' := [some (.inr (.inr 103)), some (.inl x1), some (.inl x2), some (.inl x3), some (.inl x4), some (.inl (x5 + 1)), y6, y7, y8]) (st' := []) (M' := M1) rfl ?_
      exact h
    · replace h := h.2 c
      refine wp_sts 2 (pc' := 29) (ls' := [some (.inr (.inr 103)), some (.inl x1), some (.inl x2), some (.inl x3), some (.inl x4), some (.inl x5), y6, y7, y8]) (st' := [.inl x2, .inl x5]) (M' := M1) rfl ?_
      refine c2_eq rfl (fun c => ?_) (fun c => ?_)
      · replace h := h.1 c
        obtain ⟨hf1, h⟩ := h
        refine w_iinc rfl rfl hf1 ?_
        refine wp_sts 1 (pc' := 7) (ls' := [some (.inr (.inr 103)), some (.inl x1), some (.inl x2), some (.inl x3), some (.inl x4), some (.inl (x5 + 1)), y6, y7, y8]) (st' := []) (M' := M1) rfl ?_
        exact h
      · replace h := h.2 c
        refine wp_sts 2 (pc' := 35) (ls' := [some (.inr (.inr 103)), some (.inl x1), some (.inl x2), some (.inl x3), some (.inl x4), some (.inl x5), y6, y7, y8]) (st' := [.inl x3, .inl x5]) (M' := M1) rfl ?_
        refine c2_ne rfl (fun c => ?_) (fun c => ?_)
        · replace h := h.1 c
          refine wp_sts 4 (pc' := 48) (ls' := [some (.inr (.inr 103)), some (.inl x1), some (.inl x2), some (.inl x3), some (.inl x4), some (.inl x5), some (.inl 0), some (.inl 0), y8]) (st' := []) (M' := M1) rfl ?_
          exact h
        · replace h := h.2 c
          refine wp_sts 5 (pc' := 48) (ls' := [some (.inr (.inr 103)), some (.inl x1), some (.inl x2), some (.inl x3), some (.inl x4), some (.inl x5), some (.inl 1), some (.inl 0), y8]) (st' := []) (M' := M1) rfl ?_
          exact h
/- Model.escapesFrom, at 48 -/
theorem b165_48 {d t : Nat}  {x1 : Int} {x2 : Int} {x3 : Int} {x4 : Int} {x5 : Int} {x6 : Int} {x7 : Int} {y8 : Option ab_V} {M : ab_M} {Q : Option ab_V → ab_M → Prop} (hd : 1 ≤ d) (hS : pu_str t M)  (h : (M 103 3 ≤ x7 → (x4 ≤ x6 → ab_rg (x5 + 1) ∧ ab_wp d 165 7 [some (.inr (.inr 103)), some (.inl x1), some (.inl x2), some (.inl x3), some (.inl x4), some (.inl (x5 + 1)), some (.inl x6), some (.inl x7), y8] [] M Q) ∧ (x6 < x4 → ab_rg (x5 + 1) ∧ ab_wp d 165 7 [some (.inr (.inr 103)), some (.inl x1), some (.inl x2), some (.inl x3), some (.inl x6), some (.inl (x5 + 1)), some (.inl x6), some (.inl x7), y8] [] M Q)) ∧ (x7 < M 103 3 → (x5 = x3 → (x4 ≤ x6 → ab_rg (x5 + 1) ∧ ab_wp d 165 7 [some (.inr (.inr 103)), some (.inl x1), some (.inl x2), some (.inl x3), some (.inl x4), some (.inl (x5 + 1)), some (.inl x6), some (.inl x7), y8] [] M Q) ∧ (x6 < x4 → ab_rg (x5 + 1) ∧ ab_wp d 165 7 [some (.inr (.inr 103)), some (.inl x1), some (.inl x2), some (.inl x3), some (.inl x6), some (.inl (x5 + 1)), some (.inl x6), some (.inl x7), y8] [] M Q)) ∧ (x5 ≠ x3 → ∃ r1 M1, ab_ev (d - 1) 164 [.inr (.inr 103), .inl x2, .inl x7] M (some (.inl r1)) M1 ∧ pu_str t M1 ∧ (r1 ≠ 0 → (x7 ≠ x5 → ab_rg (7 * x5) ∧ ab_rg ((7 * x5) + x7) ∧ (0 ≤ (7 * x5) + x7 ∧ (7 * x5) + x7 < 49) ∧ ab_rg ((M1 126 ((7 * x5) + x7).toNat) + 1) ∧ ab_wp d 165 104 [some (.inr (.inr 103)), some (.inl x1), some (.inl x2), some (.inl x3), some (.inl x4), some (.inl x5), some (.inl x6), some (.inl x7), y8] [.inl ((M1 126 ((7 * x5) + x7).toNat) + 1)] M1 Q) ∧ (x7 = x5 → ab_wp d 165 104 [some (.inr (.inr 103)), some (.inl x1), some (.inl x2), some (.inl x3), some (.inl x4), some (.inl x5), some (.inl x6), some (.inl x7), y8] [.inl 1000000] M1 Q)) ∧ (r1 = 0 → ab_wp d 165 104 [some (.inr (.inr 103)), some (.inl x1), some (.inl x2), some (.inl x3), some (.inl x4), some (.inl x5), some (.inl x6), some (.inl x7), y8] [.inl 0] M1 Q)))) : ab_wp d 165 48 [some (.inr (.inr 103)), some (.inl x1), some (.inl x2), some (.inl x3), some (.inl x4), some (.inl x5), some (.inl x6), some (.inl x7), y8] [] M Q := by
  refine wp_sts 2 (pc' := 51) (ls' := [some (.inr (.inr 103)), some (.inl x1), some (.inl x2), some (.inl x3), some (.inl x4), some (.inl x5), some (.inl x6), some (.inl x7), y8]) (st' := [.inr (.inr 103), .inl x7]) (M' := M) rfl ?_
  refine g_getI rfl hS rfl ?_
  refine c2_ge rfl (fun c => ?_) (fun c => ?_)
  · replace h := h.1 c
    refine wp_sts 2 (pc' := 132) (ls' := [some (.inr (.inr 103)), some (.inl x1), some (.inl x2), some (.inl x3), some (.inl x4), some (.inl x5), some (.inl x6), some (.inl x7), y8]) (st' := [.inl x4, .inl x6]) (M' := M) rfl ?_
    refine c2_ge rfl (fun c => ?_) (fun c => ?_)
    · replace h := h.1 c
      refine wp_sts 2 (pc' := 144) (ls' := [some (.inr (.inr 103)), some (.inl x1), some (.inl x2), some (.inl x3), some (.inl x4), some (.inl x5), some (.inl x6), some (.inl x7), y8]) (st' := []) (M' := M) rfl ?_
      obtain ⟨hf1, h⟩ := h
      refine w_iinc rfl rfl hf1 ?_
      refine wp_sts 1 (pc' := 7) (ls' := [some (.inr (.inr 103)), some (.inl x1), some (.inl x2), some (.inl x3), some (.inl x4), some (.inl (x5 + 1)), some (.inl x6), some (.inl x7), y8]) (st' := []) (M' := M) rfl ?_
      exact h
    · replace h := h.2 c
      refine wp_sts 3 (pc' := 144) (ls' := [some (.inr (.inr 103)), some (.inl x1), some (.inl x2), some (.inl x3), some (.inl x6), some (.inl x5), some (.inl x6), some (.inl x7), y8]) (st' := []) (M' := M) rfl ?_
      obtain ⟨hf1, h⟩ := h
      refine w_iinc rfl rfl hf1 ?_
      refine wp_sts 1 (pc' := 7) (ls' := [some (.inr (.inr 103)), some (.inl x1), some (.inl x2), some (.inl x3), some (.inl x6), some (.inl (x5 + 1)), some (.inl x6), some (.inl x7), y8]) (st' := []) (M' := M) rfl ?_
      exact h
  · replace h := h.2 c
    refine wp_sts 2 (pc' := 60) (ls' := [some (.inr (.inr 103)), some (.inl x1), some (.inl x2), some (.inl x3), some (.inl x4), some (.inl x5), some (.inl x6), some (.inl x7), y8]) (st' := [.inl x3, .inl x5]) (M' := M) rfl ?_
    refine c2_eq rfl (fun c => ?_) (fun c => ?_)
    · replace h := h.1 c
      refine wp_sts 2 (pc' := 132) (ls' := [some (.inr (.inr 103)), some (.inl x1), some (.inl x2), some (.inl x3), some (.inl x4), some (.inl x5), some (.inl x6), some (.inl x7), y8]) (st' := [.inl x4, .inl x6]) (M' := M) rfl ?_
      refine c2_ge rfl (fun c => ?_) (fun c => ?_)
      · replace h := h.1 c
        refine wp_sts 2 (pc' := 144) (ls' := [some (.inr (.inr 103)), some (.inl x1), some (.inl x2), some (.inl x3), some (.inl x4), some (.inl x5), some (.inl x6), some (.inl x7), y8]) (st' := []) (M' := M) rfl ?_
        obtain ⟨hf1, h⟩ := h
        refine w_iinc rfl rfl hf1 ?_
        refine wp_sts 1 (pc' := 7) (ls' := [some (.inr (.inr 103)), some (.inl x1), some (.inl x2), some (.inl x3), some (.inl x4), some (.inl (x5 + 1)), some (.inl x6), some (.inl x7), y8]) (st' := []) (M' := M) rfl ?_
        exact h
      · replace h := h.2 c
        refine wp_sts 3 (pc' := 144) (ls' := [some (.inr (.inr 103)), some (.inl x1), some (.inl x2), some (.inl x3), some (.inl x6), some (.inl x5), some (.inl x6), some (.inl x7), y8]) (st' := []) (M' := M) rfl ?_
        obtain ⟨hf1, h⟩ := h
        refine w_iinc rfl rfl hf1 ?_
        refine wp_sts 1 (pc' := 7) (ls' := [some (.inr (.inr 103)), some (.inl x1), some (.inl x2), some (.inl x3), some (.inl x6), some (.inl (x5 + 1)), some (.inl x6), some (.inl x7), y8]) (st' := []) (M' := M) rfl ?_
        exact h
    · replace h := h.2 c
      refine wp_sts 3 (pc' := 67) (ls' := [some (.inr (.inr 103)), some (.inl x1), some (.inl x2), some (.inl x3), some (.inl x4), some (.inl x5), some (.inl x6), some (.inl x7), y8]) (st' := [.inl x7, .inl x2, .inr (.inr 103)]) (M' := M) rfl ?_
      obtain ⟨r1, M1, he, hS1, h⟩ := h
      refine g_callI (c := 164) (as := [.inr (.inr 103), .inl x2, .inl x7]) (rs := []) rfl rfl hS hd rfl he ?_
      refine c1_ne rfl (fun c => ?_) (fun c => ?_)
      · replace h := h.1 c
        refine wp_sts 2 (pc' := 81) (ls' := [some (.inr (.inr 103)), some (.inl x1), some (.inl x2), some (.inl x3), some (.inl x4), some (.inl x5), some (.inl x6), some (.inl x7), y8]) (st' := [.inl x5, .inl x7]) (M' := M1) rfl ?_
        refine c2_ne rfl (fun c => ?_) (fun c => ?_)
        · replace h := h.1 c
          refine wp_sts 1 (pc' := 90) (ls' := [some (.inr (.inr 103)), some (.inl x1), some (.inl x2), some (.inl x3), some (.inl x4), some (.inl x5), some (.inl x6), some (.inl x7), y8]) (st' := [.inr (.inr 103)]) (M' := M1) rfl ?_
          refine g_getR (j := 126) rfl hS1 rfl (str_r hS1 103 43 126 rfl) (by decide) ?_
          refine wp_sts 2 (pc' := 97) (ls' := [some (.inr (.inr 103)), some (.inl x1), some (.inl x2), some (.inl x3), some (.inl x4), some (.inl x5), some (.inl x6), some (.inl x7), y8]) (st' := [.inl x5, .inl 7, .inr (.inr 126)]) (M' := M1) rfl ?_
          obtain ⟨hf1, h⟩ := h
          refine w_imul rfl hf1 ?_
          refine wp_sts 1 (pc' := 100) (ls' := [some (.inr (.inr 103)), some (.inl x1), some (.inl x2), some (.inl x3), some (.inl x4), some (.inl x5), some (.inl x6), some (.inl x7), y8]) (st' := [.inl x7, .inl (7 * x5), .inr (.inr 126)]) (M' := M1) rfl ?_
          obtain ⟨hf2, h⟩ := h
          refine w_iadd rfl hf2 ?_
          obtain ⟨hf3, h⟩ := h
          refine g_iald (n := 49) rfl hS1 rfl hf3 ?_
          refine wp_sts 1 (pc' := 103) (ls' := [some (.inr (.inr 103)), some (.inl x1), some (.inl x2), some (.inl x3), some (.inl x4), some (.inl x5), some (.inl x6), some (.inl x7), y8]) (st' := [.inl 1, .inl (M1 126 ((7 * x5) + x7).toNat)]) (M' := M1) rfl ?_
          obtain ⟨hf4, h⟩ := h
          refine w_iadd rfl hf4 ?_
          exact h
        · replace h := h.2 c
          refine wp_sts 2 (pc' := 104) (ls' := [some (.inr (.inr 103)), some (.inl x1), some (.inl x2), some (.inl x3), some (.inl x4), some (.inl x5), some (.inl x6), some (.inl x7), y8]) (st' := [.inl 1000000]) (M' := M1) rfl ?_
          exact h
      · replace h := h.2 c
        refine wp_sts 2 (pc' := 104) (ls' := [some (.inr (.inr 103)), some (.inl x1), some (.inl x2), some (.inl x3), some (.inl x4), some (.inl x5), some (.inl x6), some (.inl x7), y8]) (st' := [.inl 0]) (M' := M1) rfl ?_
        exact h
/- Model.escapesFrom, at 104 -/
theorem b165_104 {d t : Nat}  {x1 : Int} {x2 : Int} {x3 : Int} {x4 : Int} {x5 : Int} {x6 : Int} {x7 : Int} {y8 : Option ab_V} {x100 : Int} {M : ab_M} {Q : Option ab_V → ab_M → Prop} (hd : 1 ≤ d) (hS : pu_str t M)  (h : (x100 ≤ x6 → ab_rg (x7 + 1) ∧ ab_wp d 165 48 [some (.inr (.inr 103)), some (.inl x1), some (.inl x2), some (.inl x3), some (.inl x4), some (.inl x5), some (.inl x6), some (.inl (x7 + 1)), some (.inl x100)] [] M Q) ∧ (x6 < x100 → ab_rg (x7 + 1) ∧ ab_wp d 165 48 [some (.inr (.inr 103)), some (.inl x1), some (.inl x2), some (.inl x3), some (.inl x4), some (.inl x5), some (.inl x100), some (.inl (x7 + 1)), some (.inl x100)] [] M Q)) : ab_wp d 165 104 [some (.inr (.inr 103)), some (.inl x1), some (.inl x2), some (.inl x3), some (.inl x4), some (.inl x5), some (.inl x6), some (.inl x7), y8] [.inl x100] M Q := by
  refine wp_sts 3 (pc' := 110) (ls' := [some (.inr (.inr 103)), some (.inl x1), some (.inl x2), some (.inl x3), some (.inl x4), some (.inl x5), some (.inl x6), some (.inl x7), some (.inl x100)]) (st' := [.inl x6, .inl x100]) (M' := M) rfl ?_
  refine c2_le rfl (fun c => ?_) (fun c => ?_)
  · replace h := h.1 c
    refine wp_sts 2 (pc' := 122) (ls' := [some (.inr (.inr 103)), some (.inl x1), some (.inl x2), some (.inl x3), some (.inl x4), some (.inl x5), some (.inl x6), some (.inl x7), some (.inl x100)]) (st' := []) (M' := M) rfl ?_
    obtain ⟨hf1, h⟩ := h
    refine w_iinc rfl rfl hf1 ?_
    refine wp_sts 1 (pc' := 48) (ls' := [some (.inr (.inr 103)), some (.inl x1), some (.inl x2), some (.inl x3), some (.inl x4), some (.inl x5), some (.inl x6), some (.inl (x7 + 1)), some (.inl x100)]) (st' := []) (M' := M) rfl ?_
    exact h
  · replace h := h.2 c
    refine wp_sts 3 (pc' := 122) (ls' := [some (.inr (.inr 103)), some (.inl x1), some (.inl x2), some (.inl x3), some (.inl x4), some (.inl x5), some (.inl x100), some (.inl x7), some (.inl x100)]) (st' := []) (M' := M) rfl ?_
    obtain ⟨hf1, h⟩ := h
    refine w_iinc rfl rfl hf1 ?_
    refine wp_sts 1 (pc' := 48) (ls' := [some (.inr (.inr 103)), some (.inl x1), some (.inl x2), some (.inl x3), some (.inl x4), some (.inl x5), some (.inl x100), some (.inl (x7 + 1)), some (.inl x100)]) (st' := []) (M' := M) rfl ?_
    exact h
/- Model.catchesFrom, at 0 -/
theorem b166_0 {d t : Nat}  {x1 : Int} {x2 : Int} {x3 : Int} {M : ab_M} {Q : Option ab_V → ab_M → Prop} (hd : 1 ≤ d) (hS : pu_str t M)  (h : ab_wp d 166 6 [some (.inr (.inr 103)), some (.inl x1), some (.inl x2), some (.inl x3), some (.inl 0), some (.inl 0), none, none, none] [] M Q) : ab_wp d 166 0 [some (.inr (.inr 103)), some (.inl x1), some (.inl x2), some (.inl x3), none, none, none, none, none] [] M Q := by
  refine wp_sts 4 (pc' := 6) (ls' := [some (.inr (.inr 103)), some (.inl x1), some (.inl x2), some (.inl x3), some (.inl 0), some (.inl 0), none, none, none]) (st' := []) (M' := M) rfl ?_
  exact h
/- Model.catchesFrom, at 6 -/
theorem b166_6 {d t : Nat}  {x1 : Int} {x2 : Int} {x3 : Int} {x4 : Int} {x5 : Int} {y6 : Option ab_V} {y7 : Option ab_V} {y8 : Option ab_V} {M : ab_M} {Q : Option ab_V → ab_M → Prop} (hd : 1 ≤ d) (hS : pu_str t M)  (h : (M 103 3 ≤ x5 → (x4 ≤ 1000000 → Q (some (.inl x4)) M) ∧ (1000000 < x4 → Q (some (.inl 1000000)) M)) ∧ (x5 < M 103 3 → ∃ r1 M1, ab_ev (d - 1) 164 [.inr (.inr 103), .inl x1, .inl x5] M (some (.inl r1)) M1 ∧ pu_str t M1 ∧ (r1 = 0 → ab_rg (x5 + 1) ∧ ab_wp d 166 6 [some (.inr (.inr 103)), some (.inl x1), some (.inl x2), some (.inl x3), some (.inl x4), some (.inl (x5 + 1)), y6, y7, y8] [] M1 Q) ∧ (r1 ≠ 0 → (x5 ≠ x2 → ab_wp d 166 42 [some (.inr (.inr 103)), some (.inl x1), some (.inl x2), some (.inl x3), some (.inl x4), some (.inl x5), some (.inl 1000000), some (.inl 0), y8] [] M1 Q) ∧ (x5 = x2 → ab_wp d 166 42 [some (.inr (.inr 103)), some (.inl x1), some (.inl x2), some (.inl x3), some (.inl x4), some (.inl x5), some (.inl 1), some (.inl 0), y8] [] M1 Q)))) : ab_wp d 166 6 [some (.inr (.inr 103)), some (.inl x1), some (.inl x2), some (.inl x3), some (.inl x4), some (.inl x5), y6, y7, y8] [] M Q := by
  refine wp_sts 2 (pc' := 9) (ls' := [some (.inr (.inr 103)), some (.inl x1), some (.inl x2), some (.inl x3), some (.inl x4), some (.inl x5), y6, y7, y8]) (st' := [.inr (.inr 103), .inl x5]) (M' := M) rfl ?_
  refine g_getI rfl hS rfl ?_
  refine c2_ge rfl (fun c => ?_) (fun c => ?_)
  · replace h := h.1 c
    refine wp_sts 2 (pc' := 154) (ls' := [some (.inr (.inr 103)), some (.inl x1), some (.inl x2), some (.inl x3), some (.inl x4), some (.inl x5), y6, y7, y8]) (st' := [.inl 1000000, .inl x4]) (M' := M) rfl ?_
    refine c2_le rfl (fun c => ?_) (fun c => ?_)
    · replace h := h.1 c
      refine wp_sts 1 (pc' := 164) (ls' := [some (.inr (.inr 103)), some (.inl x1), some (.inl x2), some (.inl x3), some (.inl x4), some (.inl x5), y6, y7, y8]) (st' := [.inl x4]) (M' := M) rfl ?_
      exact wp_ret rfl rfl (z := (some (.inl x4), M)) rfl h
    · replace h := h.2 c
      refine wp_sts 2 (pc' := 164) (ls' := [some (.inr (.inr 103)), some (.inl x1), some (.inl x2), some (.inl x3), some (.inl x4), some (.inl x5), y6, y7, y8]) (st' := [.inl 1000000]) (M' := M) rfl ?_
      exact wp_ret rfl rfl (z := (some (.inl 1000000), M)) rfl h
  · replace h := h.2 c
    refine wp_sts 3 (pc' := 19) (ls' := [some (.inr (.inr 103)), some (.inl x1), some (.inl x2), some (.inl x3), some (.inl x4), some (.inl x5), y6, y7, y8]) (st' := [.inl x5, .inl x1, .inr (.inr 103)]) (M' := M) rfl ?_
    obtain ⟨r1, M1, he, hS1, h⟩ := h
    refine g_callI (c := 164) (as := [.inr (.inr 103), .inl x1, .inl x5]) (rs := []) rfl rfl hS hd rfl he ?_
    refine c1_eq rfl (fun c => ?_) (fun c => ?_)
    · replace h := h.1 c
      obtain ⟨hf1, h⟩ := h
      refine w_iinc rfl rfl hf1 ?_
      refine wp_sts 1 (pc' := 6) (ls' := [some (.inr (.inr 103)), some (.inl x1), some (.inl x2), some (.inl x3), some (.inl x4), some (.inl (x5 + 1)), y6, y7, y8]) (st' := []) (M' := M1) rfl ?_
      exact h
    · replace h := h.2 c
      refine wp_sts 2 (pc' := 28) (ls' := [some (.inr (.inr 103)), some (.inl x1), some (.inl x2), some (.inl x3), some (.inl x4), some (.inl x5), y6, y7, y8]) (st' := [.inl x2, .inl x5]) (M' := M1) rfl ?_
      refine c2_ne rfl (fun c => ?_) (fun c => ?_)
      · replace h := h.1 c
        refine wp_sts 4 (pc' := 42) (ls' := [some (.inr (.inr 103)), some (.inl x1), some (.inl x2), some (.inl x3), some (.inl x4), some (.inl x5), some (.inl 1000000), some (.inl 0), y8]) (st' := []) (M' := M1) rfl ?_
        exact h
      · replace h := h.2 c
        refine wp_sts 5 (pc' := 42) (ls' := [some (.inr (.inr 103)), some (.inl x1), some (.inl x2), some (.inl x3), some (.inl x4), some (.inl x5), some (.inl 1), some (.inl 0), y8]) (st' := []) (M' := M1) rfl ?_
        exact h
/- Model.catchesFrom, at 42 -/
theorem b166_42 {d t : Nat}  {x1 : Int} {x2 : Int} {x3 : Int} {x4 : Int} {x5 : Int} {x6 : Int} {x7 : Int} {y8 : Option ab_V} {M : ab_M} {Q : Option ab_V → ab_M → Prop} (hd : 1 ≤ d) (hS : pu_str t M)  (h : (M 103 3 ≤ x7 → ab_wp d 166 128 [some (.inr (.inr 103)), some (.inl x1), some (.inl x2), some (.inl x3), some (.inl x4), some (.inl x5), some (.inl x6), some (.inl x7), y8] [] M Q) ∧ (x7 < M 103 3 → (x5 = x2 → ab_wp d 166 128 [some (.inr (.inr 103)), some (.inl x1), some (.inl x2), some (.inl x3), some (.inl x4), some (.inl x5), some (.inl x6), some (.inl x7), y8] [] M Q) ∧ (x5 ≠ x2 → (x5 = x3 → ab_wp d 166 128 [some (.inr (.inr 103)), some (.inl x1), some (.inl x2), some (.inl x3), some (.inl x4), some (.inl x5), some (.inl x6), some (.inl x7), y8] [] M Q) ∧ (x5 ≠ x3 → ∃ r1 M1, ab_ev (d - 1) 164 [.inr (.inr 103), .inl x2, .inl x7] M (some (.inl r1)) M1 ∧ pu_str t M1 ∧ (r1 ≠ 0 → (x7 ≠ x5 → ab_rg (7 * x5) ∧ ab_rg ((7 * x5) + x7) ∧ (0 ≤ (7 * x5) + x7 ∧ (7 * x5) + x7 < 49) ∧ ab_rg ((M1 127 ((7 * x5) + x7).toNat) + 1) ∧ ab_wp d 166 104 [some (.inr (.inr 103)), some (.inl x1), some (.inl x2), some (.inl x3), some (.inl x4), some (.inl x5), some (.inl x6), some (.inl x7), y8] [.inl ((M1 127 ((7 * x5) + x7).toNat) + 1)] M1 Q) ∧ (x7 = x5 → ab_wp d 166 104 [some (.inr (.inr 103)), some (.inl x1), some (.inl x2), some (.inl x3), some (.inl x4), some (.inl x5), some (.inl x6), some (.inl x7), y8] [.inl 1] M1 Q)) ∧ (r1 = 0 → ab_wp d 166 104 [some (.inr (.inr 103)), some (.inl x1), some (.inl x2), some (.inl x3), some (.inl x4), some (.inl x5), some (.inl x6), some (.inl x7), y8] [.inl 1000000] M1 Q))))) : ab_wp d 166 42 [some (.inr (.inr 103)), some (.inl x1), some (.inl x2), some (.inl x3), some (.inl x4), some (.inl x5), some (.inl x6), some (.inl x7), y8] [] M Q := by
  refine wp_sts 2 (pc' := 45) (ls' := [some (.inr (.inr 103)), some (.inl x1), some (.inl x2), some (.inl x3), some (.inl x4), some (.inl x5), some (.inl x6), some (.inl x7), y8]) (st' := [.inr (.inr 103), .inl x7]) (M' := M) rfl ?_
  refine g_getI rfl hS rfl ?_
  refine c2_ge rfl (fun c => ?_) (fun c => ?_)
  · replace h := h.1 c
    exact h
  · replace h := h.2 c
    refine wp_sts 2 (pc' := 54) (ls' := [some (.inr (.inr 103)), some (.inl x1), some (.inl x2), some (.inl x3), some (.inl x4), some (.inl x5), some (.inl x6), some (.inl x7), y8]) (st' := [.inl x2, .inl x5]) (M' := M) rfl ?_
    refine c2_eq rfl (fun c => ?_) (fun c => ?_)
    · replace h := h.1 c
      exact h
    · replace h := h.2 c
      refine wp_sts 2 (pc' := 60) (ls' := [some (.inr (.inr 103)), some (.inl x1), some (.inl x2), some (.inl x3), some (.inl x4), some (.inl x5), some (.inl x6), some (.inl x7), y8]) (st' := [.inl x3, .inl x5]) (M' := M) rfl ?_
      refine c2_eq rfl (fun c => ?_) (fun c => ?_)
      · replace h := h.1 c
        exact h
      · replace h := h.2 c
        refine wp_sts 3 (pc' := 67) (ls' := [some (.inr (.inr 103)), some (.inl x1), some (.inl x2), some (.inl x3), some (.inl x4), some (.inl x5), some (.inl x6), some (.inl x7), y8]) (st' := [.inl x7, .inl x2, .inr (.inr 103)]) (M' := M) rfl ?_
        obtain ⟨r1, M1, he, hS1, h⟩ := h
        refine g_callI (c := 164) (as := [.inr (.inr 103), .inl x2, .inl x7]) (rs := []) rfl rfl hS hd rfl he ?_
        refine c1_ne rfl (fun c => ?_) (fun c => ?_)
        · replace h := h.1 c
          refine wp_sts 2 (pc' := 82) (ls' := [some (.inr (.inr 103)), some (.inl x1), some (.inl x2), some (.inl x3), some (.inl x4), some (.inl x5), some (.inl x6), some (.inl x7), y8]) (st' := [.inl x5, .inl x7]) (M' := M1) rfl ?_
          refine c2_ne rfl (fun c => ?_) (fun c => ?_)
          · replace h := h.1 c
            refine wp_sts 1 (pc' := 90) (ls' := [some (.inr (.inr 103)), some (.inl x1), some (.inl x2), some (.inl x3), some (.inl x4), some (.inl x5), some (.inl x6), some (.inl x7), y8]) (st' := [.inr (.inr 103)]) (M' := M1) rfl ?_
            refine g_getR (j := 127) rfl hS1 rfl (str_r hS1 103 44 127 rfl) (by decide) ?_
            refine wp_sts 2 (pc' := 97) (ls' := [some (.inr (.inr 103)), some (.inl x1), some (.inl x2), some (.inl x3), some (.inl x4), some (.inl x5), some (.inl x6), some (.inl x7), y8]) (st' := [.inl x5, .inl 7, .inr (.inr 127)]) (M' := M1) rfl ?_
            obtain ⟨hf1, h⟩ := h
            refine w_imul rfl hf1 ?_
            refine wp_sts 1 (pc' := 100) (ls' := [some (.inr (.inr 103)), some (.inl x1), some (.inl x2), some (.inl x3), some (.inl x4), some (.inl x5), some (.inl x6), some (.inl x7), y8]) (st' := [.inl x7, .inl (7 * x5), .inr (.inr 127)]) (M' := M1) rfl ?_
            obtain ⟨hf2, h⟩ := h
            refine w_iadd rfl hf2 ?_
            obtain ⟨hf3, h⟩ := h
            refine g_iald (n := 49) rfl hS1 rfl hf3 ?_
            refine wp_sts 1 (pc' := 103) (ls' := [some (.inr (.inr 103)), some (.inl x1), some (.inl x2), some (.inl x3), some (.inl x4), some (.inl x5), some (.inl x6), some (.inl x7), y8]) (st' := [.inl 1, .inl (M1 127 ((7 * x5) + x7).toNat)]) (M' := M1) rfl ?_
            obtain ⟨hf4, h⟩ := h
            refine w_iadd rfl hf4 ?_
            exact h
          · replace h := h.2 c
            refine wp_sts 2 (pc' := 104) (ls' := [some (.inr (.inr 103)), some (.inl x1), some (.inl x2), some (.inl x3), some (.inl x4), some (.inl x5), some (.inl x6), some (.inl x7), y8]) (st' := [.inl 1]) (M' := M1) rfl ?_
            exact h
        · replace h := h.2 c
          refine wp_sts 2 (pc' := 104) (ls' := [some (.inr (.inr 103)), some (.inl x1), some (.inl x2), some (.inl x3), some (.inl x4), some (.inl x5), some (.inl x6), some (.inl x7), y8]) (st' := [.inl 1000000]) (M' := M1) rfl ?_
          exact h
/- Model.catchesFrom, at 104 -/
theorem b166_104 {d t : Nat}  {x1 : Int} {x2 : Int} {x3 : Int} {x4 : Int} {x5 : Int} {x6 : Int} {x7 : Int} {y8 : Option ab_V} {x100 : Int} {M : ab_M} {Q : Option ab_V → ab_M → Prop} (hd : 1 ≤ d) (hS : pu_str t M)  (h : (x6 ≤ x100 → ab_rg (x7 + 1) ∧ ab_wp d 166 42 [some (.inr (.inr 103)), some (.inl x1), some (.inl x2), some (.inl x3), some (.inl x4), some (.inl x5), some (.inl x6), some (.inl (x7 + 1)), some (.inl x100)] [] M Q) ∧ (x100 < x6 → ab_rg (x7 + 1) ∧ ab_wp d 166 42 [some (.inr (.inr 103)), some (.inl x1), some (.inl x2), some (.inl x3), some (.inl x4), some (.inl x5), some (.inl x100), some (.inl (x7 + 1)), some (.inl x100)] [] M Q)) : ab_wp d 166 104 [some (.inr (.inr 103)), some (.inl x1), some (.inl x2), some (.inl x3), some (.inl x4), some (.inl x5), some (.inl x6), some (.inl x7), y8] [.inl x100] M Q := by
  refine wp_sts 3 (pc' := 110) (ls' := [some (.inr (.inr 103)), some (.inl x1), some (.inl x2), some (.inl x3), some (.inl x4), some (.inl x5), some (.inl x6), some (.inl x7), some (.inl x100)]) (st' := [.inl x6, .inl x100]) (M' := M) rfl ?_
  refine c2_ge rfl (fun c => ?_) (fun c => ?_)
  · replace h := h.1 c
    refine wp_sts 2 (pc' := 122) (ls' := [some (.inr (.inr 103)), some (.inl x1), some (.inl x2), some (.inl x3), some (.inl x4), some (.inl x5), some (.inl x6), some (.inl x7), some (.inl x100)]) (st' := []) (M' := M) rfl ?_
    obtain ⟨hf1, h⟩ := h
    refine w_iinc rfl rfl hf1 ?_
    refine wp_sts 1 (pc' := 42) (ls' := [some (.inr (.inr 103)), some (.inl x1), some (.inl x2), some (.inl x3), some (.inl x4), some (.inl x5), some (.inl x6), some (.inl (x7 + 1)), some (.inl x100)]) (st' := []) (M' := M) rfl ?_
    exact h
  · replace h := h.2 c
    refine wp_sts 3 (pc' := 122) (ls' := [some (.inr (.inr 103)), some (.inl x1), some (.inl x2), some (.inl x3), some (.inl x4), some (.inl x5), some (.inl x100), some (.inl x7), some (.inl x100)]) (st' := []) (M' := M) rfl ?_
    obtain ⟨hf1, h⟩ := h
    refine w_iinc rfl rfl hf1 ?_
    refine wp_sts 1 (pc' := 42) (ls' := [some (.inr (.inr 103)), some (.inl x1), some (.inl x2), some (.inl x3), some (.inl x4), some (.inl x5), some (.inl x100), some (.inl (x7 + 1)), some (.inl x100)]) (st' := []) (M' := M) rfl ?_
    exact h
/- Model.catchesFrom, at 128 -/
theorem b166_128 {d t : Nat}  {x1 : Int} {x2 : Int} {x3 : Int} {x4 : Int} {x5 : Int} {x6 : Int} {x7 : Int} {y8 : Option ab_V} {M : ab_M} {Q : Option ab_V → ab_M → Prop} (hd : 1 ≤ d) (hS : pu_str t M)  (h : (x6 ≤ x4 → ab_rg (x5 + 1) ∧ ab_wp d 166 6 [some (.inr (.inr 103)), some (.inl x1), some (.inl x2), some (.inl x3), some (.inl x4), some (.inl (x5 + 1)), some (.inl x6), some (.inl x7), y8] [] M Q) ∧ (x4 < x6 → ab_rg (x5 + 1) ∧ ab_wp d 166 6 [some (.inr (.inr 103)), some (.inl x1), some (.inl x2), some (.inl x3), some (.inl x6), some (.inl (x5 + 1)), some (.inl x6), some (.inl x7), y8] [] M Q)) : ab_wp d 166 128 [some (.inr (.inr 103)), some (.inl x1), some (.inl x2), some (.inl x3), some (.inl x4), some (.inl x5), some (.inl x6), some (.inl x7), y8] [] M Q := by
  refine wp_sts 2 (pc' := 132) (ls' := [some (.inr (.inr 103)), some (.inl x1), some (.inl x2), some (.inl x3), some (.inl x4), some (.inl x5), some (.inl x6), some (.inl x7), y8]) (st' := [.inl x4, .inl x6]) (M' := M) rfl ?_
  refine c2_le rfl (fun c => ?_) (fun c => ?_)
  · replace h := h.1 c
    refine wp_sts 2 (pc' := 144) (ls' := [some (.inr (.inr 103)), some (.inl x1), some (.inl x2), some (.inl x3), some (.inl x4), some (.inl x5), some (.inl x6), some (.inl x7), y8]) (st' := []) (M' := M) rfl ?_
    obtain ⟨hf1, h⟩ := h
    refine w_iinc rfl rfl hf1 ?_
    refine wp_sts 1 (pc' := 6) (ls' := [some (.inr (.inr 103)), some (.inl x1), some (.inl x2), some (.inl x3), some (.inl x4), some (.inl (x5 + 1)), some (.inl x6), some (.inl x7), y8]) (st' := []) (M' := M) rfl ?_
    exact h
  · replace h := h.2 c
    refine wp_sts 3 (pc' := 144) (ls' := [some (.inr (.inr 103)), some (.inl x1), some (.inl x2), some (.inl x3), some (.inl x6), some (.inl x5), some (.inl x6), some (.inl x7), y8]) (st' := []) (M' := M) rfl ?_
    obtain ⟨hf1, h⟩ := h
    refine w_iinc rfl rfl hf1 ?_
    refine wp_sts 1 (pc' := 6) (ls' := [some (.inr (.inr 103)), some (.inl x1), some (.inl x2), some (.inl x3), some (.inl x6), some (.inl (x5 + 1)), some (.inl x6), some (.inl x7), y8]) (st' := []) (M' := M) rfl ?_
    exact h
/- Model.findThief, at 0 -/
set_option maxRecDepth 100000 in
theorem b167_0 {d t : Nat}  {x1 : Int} {M : ab_M} {Q : Option ab_V → ab_M → Prop} (hd : 1 ≤ d) (hS : pu_str t M)  (h : ab_wp d 167 2 [some (.inr (.inr 103)), some (.inl x1), some (.inl 0), none, none, none] [] M Q) : ab_wp d 167 0 [some (.inr (.inr 103)), some (.inl x1), none, none, none, none] [] M Q := by
  refine wp_sts 2 (pc' := 2) (ls' := [some (.inr (.inr 103)), some (.inl x1), some (.inl 0), none, none, none]) (st' := []) (M' := M) rfl ?_
  exact h
/- Model.findThief, at 2 -/
set_option maxRecDepth 100000 in
theorem b167_2 {d t : Nat}  {x1 : Int} {x2 : Int} {y3 : Option ab_V} {y4 : Option ab_V} {M : ab_M} {Q : Option ab_V → ab_M → Prop} (hd : 1 ≤ d) (hS : pu_str t M)  (h : (49 ≤ x2 → ab_wp d 167 68 [some (.inr (.inr 103)), some (.inl x1), some (.inl 0), y3, y4, none] [] M Q) ∧ (x2 < 49 → ab_rg (x2.tdiv 7) ∧ (x2.tdiv 7 ≠ x1 → ab_wp d 167 41 [some (.inr (.inr 103)), some (.inl x1), some (.inl x2), some (.inl (x2.tdiv 7)), some (.inl (x2.tmod 7)), none] [.inl 1000000, .inl x2, .inr (.inr 126)] M Q) ∧ (x2.tdiv 7 = x1 → (x2.tdiv 7 = x2.tmod 7 → ab_wp d 167 41 [some (.inr (.inr 103)), some (.inl x1), some (.inl x2), some (.inl (x2.tdiv 7)), some (.inl (x2.tmod 7)), none] [.inl 1000000, .inl x2, .inr (.inr 126)] M Q) ∧ (x2.tdiv 7 ≠ x2.tmod 7 → ab_wp d 167 41 [some (.inr (.inr 103)), some (.inl x1), some (.inl x2), some (.inl (x2.tdiv 7)), some (.inl (x2.tmod 7)), none] [.inl 0, .inl x2, .inr (.inr 126)] M Q)))) : ab_wp d 167 2 [some (.inr (.inr 103)), some (.inl x1), some (.inl x2), y3, y4, none] [] M Q := by
  refine wp_sts 2 (pc' := 5) (ls' := [some (.inr (.inr 103)), some (.inl x1), some (.inl x2), y3, y4, none]) (st' := [.inl 49, .inl x2]) (M' := M) rfl ?_
  refine c2_ge rfl (fun c => ?_) (fun c => ?_)
  · replace h := h.1 c
    refine wp_sts 2 (pc' := 68) (ls' := [some (.inr (.inr 103)), some (.inl x1), some (.inl 0), y3, y4, none]) (st' := []) (M' := M) rfl ?_
    exact h
  · replace h := h.2 c
    refine wp_sts 2 (pc' := 11) (ls' := [some (.inr (.inr 103)), some (.inl x1), some (.inl x2), y3, y4, none]) (st' := [.inl 7, .inl x2]) (M' := M) rfl ?_
    obtain ⟨hf1, h⟩ := h
    refine w_idiv rfl (by decide) hf1 ?_
    refine wp_sts 3 (pc' := 16) (ls' := [some (.inr (.inr 103)), some (.inl x1), some (.inl x2), some (.inl (x2.tdiv 7)), y4, none]) (st' := [.inl 7, .inl x2]) (M' := M) rfl ?_
    refine w_irem rfl (by decide) hf1 ?_
    refine wp_sts 2 (pc' := 20) (ls' := [some (.inr (.inr 103)), some (.inl x1), some (.inl x2), some (.inl (x2.tdiv 7)), some (.inl (x2.tmod 7)), none]) (st' := [.inr (.inr 103)]) (M' := M) rfl ?_
    refine g_getR (j := 126) rfl hS rfl (str_r hS 103 43 126 rfl) (by decide) ?_
    refine wp_sts 3 (pc' := 26) (ls' := [some (.inr (.inr 103)), some (.inl x1), some (.inl x2), some (.inl (x2.tdiv 7)), some (.inl (x2.tmod 7)), none]) (st' := [.inl x1, .inl (x2.tdiv 7), .inl x2, .inr (.inr 126)]) (M' := M) rfl ?_
    refine c2_ne rfl (fun c => ?_) (fun c => ?_)
    · replace h := h.1 c
      refine wp_sts 1 (pc' := 41) (ls' := [some (.inr (.inr 103)), some (.inl x1), some (.inl x2), some (.inl (x2.tdiv 7)), some (.inl (x2.tmod 7)), none]) (st' := [.inl 1000000, .inl x2, .inr (.inr 126)]) (M' := M) rfl ?_
      exact h
    · replace h := h.2 c
      refine wp_sts 2 (pc' := 32) (ls' := [some (.inr (.inr 103)), some (.inl x1), some (.inl x2), some (.inl (x2.tdiv 7)), some (.inl (x2.tmod 7)), none]) (st' := [.inl (x2.tmod 7), .inl (x2.tdiv 7), .inl x2, .inr (.inr 126)]) (M' := M) rfl ?_
      refine c2_eq rfl (fun c => ?_) (fun c => ?_)
      · replace h := h.1 c
        refine wp_sts 1 (pc' := 41) (ls' := [some (.inr (.inr 103)), some (.inl x1), some (.inl x2), some (.inl (x2.tdiv 7)), some (.inl (x2.tmod 7)), none]) (st' := [.inl 1000000, .inl x2, .inr (.inr 126)]) (M' := M) rfl ?_
        exact h
      · replace h := h.2 c
        refine wp_sts 2 (pc' := 41) (ls' := [some (.inr (.inr 103)), some (.inl x1), some (.inl x2), some (.inl (x2.tdiv 7)), some (.inl (x2.tmod 7)), none]) (st' := [.inl 0, .inl x2, .inr (.inr 126)]) (M' := M) rfl ?_
        exact h
/- Model.findThief, at 41 -/
set_option maxRecDepth 100000 in
theorem b167_41 {d t : Nat}  {x1 : Int} {x2 : Int} {x3 : Int} {x4 : Int} {x101 : Int} {x102 : Int} {M : ab_M} {Q : Option ab_V → ab_M → Prop} (hd : 1 ≤ d) (hS : pu_str t M)  (h : (0 ≤ x101 ∧ x101 < 49) ∧ (x3 ≠ x4 → (0 ≤ x2 ∧ x2 < 49) ∧ ab_rg (x2 + 1) ∧ ab_wp d 167 2 [some (.inr (.inr 103)), some (.inl x1), some (.inl (x2 + 1)), some (.inl x3), some (.inl x4), none] [] (ab_w (ab_w M 126 x101.toNat x102) 127 x2.toNat 1000000) Q) ∧ (x3 = x4 → (0 ≤ x2 ∧ x2 < 49) ∧ ab_rg (x2 + 1) ∧ ab_wp d 167 2 [some (.inr (.inr 103)), some (.inl x1), some (.inl (x2 + 1)), some (.inl x3), some (.inl x4), none] [] (ab_w (ab_w M 126 x101.toNat x102) 127 x2.toNat 0) Q)) : ab_wp d 167 41 [some (.inr (.inr 103)), some (.inl x1), some (.inl x2), some (.inl x3), some (.inl x4), none] [.inl x102, .inl x101, .inr (.inr 126)] M Q := by
  obtain ⟨hf1, h⟩ := h
  refine g_iast (n := 49) rfl hS rfl hf1 ?_
  refine wp_sts 1 (pc' := 43) (ls' := [some (.inr (.inr 103)), some (.inl x1), some (.inl x2), some (.inl x3), some (.inl x4), none]) (st' := [.inr (.inr 103)]) (M' := (ab_w M 126 x101.toNat x102)) rfl ?_
  refine g_getR (j := 127) rfl (str_a (k := 126) (f := x101.toNat) (v := x102) hS rfl) rfl (str_r (str_a (k := 126) (f := x101.toNat) (v := x102) hS rfl) 103 44 127 rfl) (by decide) ?_
  refine wp_sts 3 (pc' := 50) (ls' := [some (.inr (.inr 103)), some (.inl x1), some (.inl x2), some (.inl x3), some (.inl x4), none]) (st' := [.inl x4, .inl x3, .inl x2, .inr (.inr 127)]) (M' := (ab_w M 126 x101.toNat x102)) rfl ?_
  refine c2_ne rfl (fun c => ?_) (fun c => ?_)
  · replace h := h.1 c
    refine wp_sts 1 (pc' := 59) (ls' := [some (.inr (.inr 103)), some (.inl x1), some (.inl x2), some (.inl x3), some (.inl x4), none]) (st' := [.inl 1000000, .inl x2, .inr (.inr 127)]) (M' := (ab_w M 126 x101.toNat x102)) rfl ?_
    obtain ⟨hf2, h⟩ := h
    refine g_iast (n := 49) rfl (str_a (k := 126) (f := x101.toNat) (v := x102) hS rfl) rfl hf2 ?_
    obtain ⟨hf3, h⟩ := h
    refine w_iinc rfl rfl hf3 ?_
    refine wp_sts 1 (pc' := 2) (ls' := [some (.inr (.inr 103)), some (.inl x1), some (.inl (x2 + 1)), some (.inl x3), some (.inl x4), none]) (st' := []) (M' := (ab_w (ab_w M 126 x101.toNat x102) 127 x2.toNat 1000000)) rfl ?_
    exact h
  · replace h := h.2 c
    refine wp_sts 2 (pc' := 59) (ls' := [some (.inr (.inr 103)), some (.inl x1), some (.inl x2), some (.inl x3), some (.inl x4), none]) (st' := [.inl 0, .inl x2, .inr (.inr 127)]) (M' := (ab_w M 126 x101.toNat x102)) rfl ?_
    obtain ⟨hf2, h⟩ := h
    refine g_iast (n := 49) rfl (str_a (k := 126) (f := x101.toNat) (v := x102) hS rfl) rfl hf2 ?_
    obtain ⟨hf3, h⟩ := h
    refine w_iinc rfl rfl hf3 ?_
    refine wp_sts 1 (pc' := 2) (ls' := [some (.inr (.inr 103)), some (.inl x1), some (.inl (x2 + 1)), some (.inl x3), some (.inl x4), none]) (st' := []) (M' := (ab_w (ab_w M 126 x101.toNat x102) 127 x2.toNat 0)) rfl ?_
    exact h
/- Model.findThief, at 68 -/
set_option maxRecDepth 100000 in
theorem b167_68 {d t : Nat}  {x1 : Int} {x2 : Int} {y3 : Option ab_V} {y4 : Option ab_V} {y5 : Option ab_V} {M : ab_M} {Q : Option ab_V → ab_M → Prop} (hd : 1 ≤ d) (hS : pu_str t M)  (h : (60 ≤ x2 → Q none M) ∧ (x2 < 60 → ab_wp d 167 76 [some (.inr (.inr 103)), some (.inl x1), some (.inl x2), some (.inl 0), y4, y5] [] M Q)) : ab_wp d 167 68 [some (.inr (.inr 103)), some (.inl x1), some (.inl x2), y3, y4, y5] [] M Q := by
  refine wp_sts 2 (pc' := 71) (ls' := [some (.inr (.inr 103)), some (.inl x1), some (.inl x2), y3, y4, y5]) (st' := [.inl 60, .inl x2]) (M' := M) rfl ?_
  refine c2_ge rfl (fun c => ?_) (fun c => ?_)
  · replace h := h.1 c
    exact wp_ret rfl rfl rfl h
  · replace h := h.2 c
    refine wp_sts 2 (pc' := 76) (ls' := [some (.inr (.inr 103)), some (.inl x1), some (.inl x2), some (.inl 0), y4, y5]) (st' := []) (M' := M) rfl ?_
    exact h
/- Model.findThief, at 76 -/
set_option maxRecDepth 100000 in
theorem b167_76 {d t : Nat}  {x1 : Int} {x2 : Int} {x3 : Int} {y4 : Option ab_V} {y5 : Option ab_V} {M : ab_M} {Q : Option ab_V → ab_M → Prop} (hd : 1 ≤ d) (hS : pu_str t M)  (h : (49 ≤ x3 → ab_rg (x2 + 1) ∧ ab_wp d 167 68 [some (.inr (.inr 103)), some (.inl x1), some (.inl (x2 + 1)), some (.inl x3), y4, y5] [] M Q) ∧ (x3 < 49 → ab_rg (x3.tdiv 7) ∧ (M 103 3 ≤ x3.tdiv 7 → ab_rg (x3 + 1) ∧ ab_wp d 167 76 [some (.inr (.inr 103)), some (.inl x1), some (.inl x2), some (.inl (x3 + 1)), some (.inl (x3.tdiv 7)), some (.inl (x3.tmod 7))] [] M Q) ∧ (x3.tdiv 7 < M 103 3 → (M 103 3 ≤ x3.tmod 7 → ab_rg (x3 + 1) ∧ ab_wp d 167 76 [some (.inr (.inr 103)), some (.inl x1), some (.inl x2), some (.inl (x3 + 1)), some (.inl (x3.tdiv 7)), some (.inl (x3.tmod 7))] [] M Q) ∧ (x3.tmod 7 < M 103 3 → (x3.tdiv 7 = x3.tmod 7 → ab_rg (x3 + 1) ∧ ab_wp d 167 76 [some (.inr (.inr 103)), some (.inl x1), some (.inl x2), some (.inl (x3 + 1)), some (.inl (x3.tdiv 7)), some (.inl (x3.tmod 7))] [] M Q) ∧ (x3.tdiv 7 ≠ x3.tmod 7 → (x3.tdiv 7 = x1 → ab_rg (x3 + 1) ∧ ab_wp d 167 76 [some (.inr (.inr 103)), some (.inl x1), some (.inl x2), some (.inl (x3 + 1)), some (.inl (x3.tdiv 7)), some (.inl (x3.tmod 7))] [] M Q) ∧ (x3.tdiv 7 ≠ x1 → ∃ r1 M1, ab_ev (d - 1) 165 [.inr (.inr 103), .inl (x3.tdiv 7), .inl (x3.tmod 7), .inl x1] M (some (.inl r1)) M1 ∧ pu_str t M1 ∧ (0 ≤ x3 ∧ x3 < 49) ∧ ∃ r2 M2, ab_ev (d - 1) 166 [.inr (.inr 103), .inl (x3.tdiv 7), .inl (x3.tmod 7), .inl x1] (ab_w M1 126 x3.toNat r1) (some (.inl r2)) M2 ∧ pu_str t M2 ∧ ab_rg (x3 + 1) ∧ ab_wp d 167 76 [some (.inr (.inr 103)), some (.inl x1), some (.inl x2), some (.inl (x3 + 1)), some (.inl (x3.tdiv 7)), some (.inl (x3.tmod 7))] [] (ab_w M2 127 x3.toNat r2) Q)))))) : ab_wp d 167 76 [some (.inr (.inr 103)), some (.inl x1), some (.inl x2), some (.inl x3), y4, y5] [] M Q := by
  refine wp_sts 2 (pc' := 79) (ls' := [some (.inr (.inr 103)), some (.inl x1), some (.inl x2), some (.inl x3), y4, y5]) (st' := [.inl 49, .inl x3]) (M' := M) rfl ?_
  refine c2_ge rfl (fun c => ?_) (fun c => ?_)
  · replace h := h.1 c
    obtain ⟨hf1, h⟩ := h
    refine w_iinc rfl rfl hf1 ?_
    refine wp_sts 1 (pc' := 68) (ls' := [some (.inr (.inr 103)), some (.inl x1), some (.inl (x2 + 1)), some (.inl x3), y4, y5]) (st' := []) (M' := M) rfl ?_
    exact h
  · replace h := h.2 c
    refine wp_sts 2 (pc' := 85) (ls' := [some (.inr (.inr 103)), some (.inl x1), some (.inl x2), some (.inl x3), y4, y5]) (st' := [.inl 7, .inl x3]) (M' := M) rfl ?_
    obtain ⟨hf1, h⟩ := h
    refine w_idiv rfl (by decide) hf1 ?_
    refine wp_sts 3 (pc' := 91) (ls' := [some (.inr (.inr 103)), some (.inl x1), some (.inl x2), some (.inl x3), some (.inl (x3.tdiv 7)), y5]) (st' := [.inl 7, .inl x3]) (M' := M) rfl ?_
    refine w_irem rfl (by decide) hf1 ?_
    refine wp_sts 3 (pc' := 97) (ls' := [some (.inr (.inr 103)), some (.inl x1), some (.inl x2), some (.inl x3), some (.inl (x3.tdiv 7)), some (.inl (x3.tmod 7))]) (st' := [.inr (.inr 103), .inl (x3.tdiv 7)]) (M' := M) rfl ?_
    refine g_getI rfl hS rfl ?_
    refine c2_ge rfl (fun c => ?_) (fun c => ?_)
    · replace h := h.1 c
      obtain ⟨hf2, h⟩ := h
      refine w_iinc rfl rfl hf2 ?_
      refine wp_sts 1 (pc' := 76) (ls' := [some (.inr (.inr 103)), some (.inl x1), some (.inl x2), some (.inl (x3 + 1)), some (.inl (x3.tdiv 7)), some (.inl (x3.tmod 7))]) (st' := []) (M' := M) rfl ?_
      exact h
    · replace h := h.2 c
      refine wp_sts 2 (pc' := 106) (ls' := [some (.inr (.inr 103)), some (.inl x1), some (.inl x2), some (.inl x3), some (.inl (x3.tdiv 7)), some (.inl (x3.tmod 7))]) (st' := [.inr (.inr 103), .inl (x3.tmod 7)]) (M' := M) rfl ?_
      refine g_getI rfl hS rfl ?_
      refine c2_ge rfl (fun c => ?_) (fun c => ?_)
      · replace h := h.1 c
        obtain ⟨hf2, h⟩ := h
        refine w_iinc rfl rfl hf2 ?_
        refine wp_sts 1 (pc' := 76) (ls' := [some (.inr (.inr 103)), some (.inl x1), some (.inl x2), some (.inl (x3 + 1)), some (.inl (x3.tdiv 7)), some (.inl (x3.tmod 7))]) (st' := []) (M' := M) rfl ?_
        exact h
      · replace h := h.2 c
        refine wp_sts 2 (pc' := 116) (ls' := [some (.inr (.inr 103)), some (.inl x1), some (.inl x2), some (.inl x3), some (.inl (x3.tdiv 7)), some (.inl (x3.tmod 7))]) (st' := [.inl (x3.tmod 7), .inl (x3.tdiv 7)]) (M' := M) rfl ?_
        refine c2_eq rfl (fun c => ?_) (fun c => ?_)
        · replace h := h.1 c
          obtain ⟨hf2, h⟩ := h
          refine w_iinc rfl rfl hf2 ?_
          refine wp_sts 1 (pc' := 76) (ls' := [some (.inr (.inr 103)), some (.inl x1), some (.inl x2), some (.inl (x3 + 1)), some (.inl (x3.tdiv 7)), some (.inl (x3.tmod 7))]) (st' := []) (M' := M) rfl ?_
          exact h
        · replace h := h.2 c
          refine wp_sts 2 (pc' := 122) (ls' := [some (.inr (.inr 103)), some (.inl x1), some (.inl x2), some (.inl x3), some (.inl (x3.tdiv 7)), some (.inl (x3.tmod 7))]) (st' := [.inl x1, .inl (x3.tdiv 7)]) (M' := M) rfl ?_
          refine c2_eq rfl (fun c => ?_) (fun c => ?_)
          · replace h := h.1 c
            obtain ⟨hf2, h⟩ := h
            refine w_iinc rfl rfl hf2 ?_
            refine wp_sts 1 (pc' := 76) (ls' := [some (.inr (.inr 103)), some (.inl x1), some (.inl x2), some (.inl (x3 + 1)), some (.inl (x3.tdiv 7)), some (.inl (x3.tmod 7))]) (st' := []) (M' := M) rfl ?_
            exact h
          · replace h := h.2 c
            refine wp_sts 1 (pc' := 126) (ls' := [some (.inr (.inr 103)), some (.inl x1), some (.inl x2), some (.inl x3), some (.inl (x3.tdiv 7)), some (.inl (x3.tmod 7))]) (st' := [.inr (.inr 103)]) (M' := M) rfl ?_
            refine g_getR (j := 126) rfl hS rfl (str_r hS 103 43 126 rfl) (by decide) ?_
            refine wp_sts 5 (pc' := 136) (ls' := [some (.inr (.inr 103)), some (.inl x1), some (.inl x2), some (.inl x3), some (.inl (x3.tdiv 7)), some (.inl (x3.tmod 7))]) (st' := [.inl x1, .inl (x3.tmod 7), .inl (x3.tdiv 7), .inr (.inr 103), .inl x3, .inr (.inr 126)]) (M' := M) rfl ?_
            obtain ⟨r1, M1, he, hS1, h⟩ := h
            refine g_callI (c := 165) (as := [.inr (.inr 103), .inl (x3.tdiv 7), .inl (x3.tmod 7), .inl x1]) (rs := [.inl x3, .inr (.inr 126)]) rfl rfl hS hd rfl he ?_
            obtain ⟨hf2, h⟩ := h
            refine g_iast (n := 49) rfl hS1 rfl hf2 ?_
            refine wp_sts 1 (pc' := 141) (ls' := [some (.inr (.inr 103)), some (.inl x1), some (.inl x2), some (.inl x3), some (.inl (x3.tdiv 7)), some (.inl (x3.tmod 7))]) (st' := [.inr (.inr 103)]) (M' := (ab_w M1 126 x3.toNat r1)) rfl ?_
            refine g_getR (j := 127) rfl (str_a (k := 126) (f := x3.toNat) (v := r1) hS1 rfl) rfl (str_r (str_a (k := 126) (f := x3.toNat) (v := r1) hS1 rfl) 103 44 127 rfl) (by decide) ?_
            refine wp_sts 5 (pc' := 151) (ls' := [some (.inr (.inr 103)), some (.inl x1), some (.inl x2), some (.inl x3), some (.inl (x3.tdiv 7)), some (.inl (x3.tmod 7))]) (st' := [.inl x1, .inl (x3.tmod 7), .inl (x3.tdiv 7), .inr (.inr 103), .inl x3, .inr (.inr 127)]) (M' := (ab_w M1 126 x3.toNat r1)) rfl ?_
            obtain ⟨r2, M2, he, hS2, h⟩ := h
            refine g_callI (c := 166) (as := [.inr (.inr 103), .inl (x3.tdiv 7), .inl (x3.tmod 7), .inl x1]) (rs := [.inl x3, .inr (.inr 127)]) rfl rfl (str_a (k := 126) (f := x3.toNat) (v := r1) hS1 rfl) hd rfl he ?_
            refine g_iast (n := 49) rfl hS2 rfl hf2 ?_
            obtain ⟨hf3, h⟩ := h
            refine w_iinc rfl rfl hf3 ?_
            refine wp_sts 1 (pc' := 76) (ls' := [some (.inr (.inr 103)), some (.inl x1), some (.inl x2), some (.inl (x3 + 1)), some (.inl (x3.tdiv 7)), some (.inl (x3.tmod 7))]) (st' := []) (M' := (ab_w M2 127 x3.toNat r2)) rfl ?_
            exact h
/- Model.thief, at 0 -/
theorem b168_0 {d t : Nat}  {x1 : Int} {x2 : Int} {x3 : Int} {x4 : Int} {M : ab_M} {Q : Option ab_V → ab_M → Prop} (hd : 1 ≤ d) (hS : pu_str t M)  (h : ∃ r1 M1, ab_ev (d - 1) 109 [.inr (.inr 103), .inl x1] M (some (.inl r1)) M1 ∧ pu_str t M1 ∧ (r1 = 0 → Q (some (.inl ((-1000000001)))) M1) ∧ (r1 ≠ 0 → ∃ r2 M2, ab_ev (d - 1) 109 [.inr (.inr 103), .inl x2] M1 (some (.inl r2)) M2 ∧ pu_str t M2 ∧ (r2 = 0 → Q (some (.inl ((-1000000001)))) M2) ∧ (r2 ≠ 0 → ∃ r3 M3, ab_ev (d - 1) 109 [.inr (.inr 103), .inl x3] M2 (some (.inl r3)) M3 ∧ pu_str t M3 ∧ (r3 ≠ 0 → ∃ r4 M4, ab_ev (d - 1) 107 [.inr (.inl x4), .inr (.inl 0), .inr (.inl 1)] M3 (some (.inl r4)) M4 ∧ pu_str t M4 ∧ (r4 ≠ 0 → ∃ M5, ab_ev (d - 1) 167 [.inr (.inr 103), .inl x3] M4 none M5 ∧ pu_str t M5 ∧ ab_rg (7 * x1) ∧ ab_rg ((7 * x1) + x2) ∧ (0 ≤ (7 * x1) + x2 ∧ (7 * x1) + x2 < 49) ∧ (1000000 ≤ M5 126 ((7 * x1) + x2).toNat → (1000000 ≤ M5 127 ((7 * x1) + x2).toNat → ab_wp d 168 87 [some (.inr (.inr 103)), some (.inl x1), some (.inl x2), some (.inl x3), some (.inl x4), some (.inl ((7 * x1) + x2)), none] [.inl 0] M5 Q) ∧ (M5 127 ((7 * x1) + x2).toNat < 1000000 → ab_wp d 168 87 [some (.inr (.inr 103)), some (.inl x1), some (.inl x2), some (.inl x3), some (.inl x4), some (.inl ((7 * x1) + x2)), none] [.inl 2] M5 Q)) ∧ (M5 126 ((7 * x1) + x2).toNat < 1000000 → ab_wp d 168 87 [some (.inr (.inr 103)), some (.inl x1), some (.inl x2), some (.inl x3), some (.inl x4), some (.inl ((7 * x1) + x2)), none] [.inl 1] M5 Q)) ∧ (r4 = 0 → Q (some (.inl ((-1000000002)))) M4)) ∧ (r3 = 0 → Q (some (.inl ((-1000000001)))) M3)))) : ab_wp d 168 0 [some (.inr (.inr 103)), some (.inl x1), some (.inl x2), some (.inl x3), some (.inl x4), none, none] [] M Q := by
  refine wp_sts 2 (pc' := 2) (ls' := [some (.inr (.inr 103)), some (.inl x1), some (.inl x2), some (.inl x3), some (.inl x4), none, none]) (st' := [.inl x1, .inr (.inr 103)]) (M' := M) rfl ?_
  obtain ⟨r1, M1, he, hS1, h⟩ := h
  refine g_callI (c := 109) (as := [.inr (.inr 103), .inl x1]) (rs := []) rfl rfl hS hd rfl he ?_
  refine c1_eq rfl (fun c => ?_) (fun c => ?_)
  · replace h := h.1 c
    refine wp_sts 1 (pc' := 26) (ls' := [some (.inr (.inr 103)), some (.inl x1), some (.inl x2), some (.inl x3), some (.inl x4), none, none]) (st' := [.inl ((-1000000001))]) (M' := M1) rfl ?_
    exact wp_ret rfl rfl (z := (some (.inl ((-1000000001))), M1)) rfl h
  · replace h := h.2 c
    refine wp_sts 2 (pc' := 10) (ls' := [some (.inr (.inr 103)), some (.inl x1), some (.inl x2), some (.inl x3), some (.inl x4), none, none]) (st' := [.inl x2, .inr (.inr 103)]) (M' := M1) rfl ?_
    obtain ⟨r2, M2, he, hS2, h⟩ := h
    refine g_callI (c := 109) (as := [.inr (.inr 103), .inl x2]) (rs := []) rfl rfl hS1 hd rfl he ?_
    refine c1_eq rfl (fun c => ?_) (fun c => ?_)
    · replace h := h.1 c
      refine wp_sts 1 (pc' := 26) (ls' := [some (.inr (.inr 103)), some (.inl x1), some (.inl x2), some (.inl x3), some (.inl x4), none, none]) (st' := [.inl ((-1000000001))]) (M' := M2) rfl ?_
      exact wp_ret rfl rfl (z := (some (.inl ((-1000000001))), M2)) rfl h
    · replace h := h.2 c
      refine wp_sts 2 (pc' := 18) (ls' := [some (.inr (.inr 103)), some (.inl x1), some (.inl x2), some (.inl x3), some (.inl x4), none, none]) (st' := [.inl x3, .inr (.inr 103)]) (M' := M2) rfl ?_
      obtain ⟨r3, M3, he, hS3, h⟩ := h
      refine g_callI (c := 109) (as := [.inr (.inr 103), .inl x3]) (rs := []) rfl rfl hS2 hd rfl he ?_
      refine c1_ne rfl (fun c => ?_) (fun c => ?_)
      · replace h := h.1 c
        refine wp_sts 4 (pc' := 32) (ls' := [some (.inr (.inr 103)), some (.inl x1), some (.inl x2), some (.inl x3), some (.inl x4), none, none]) (st' := [.inr (.inl 1), .inr (.inl 0), .inr (.inl x4)]) (M' := M3) rfl ?_
        obtain ⟨r4, M4, he, hS4, h⟩ := h
        refine g_callI (c := 107) (as := [.inr (.inl x4), .inr (.inl 0), .inr (.inl 1)]) (rs := []) rfl rfl hS3 hd rfl he ?_
        refine c1_ne rfl (fun c => ?_) (fun c => ?_)
        · replace h := h.1 c
          refine wp_sts 2 (pc' := 43) (ls' := [some (.inr (.inr 103)), some (.inl x1), some (.inl x2), some (.inl x3), some (.inl x4), none, none]) (st' := [.inl x3, .inr (.inr 103)]) (M' := M4) rfl ?_
          obtain ⟨M5, he, hS5, h⟩ := h
          refine g_callV (c := 167) (as := [.inr (.inr 103), .inl x3]) (rs := []) rfl rfl hS4 hd rfl he ?_
          refine wp_sts 2 (pc' := 49) (ls' := [some (.inr (.inr 103)), some (.inl x1), some (.inl x2), some (.inl x3), some (.inl x4), none, none]) (st' := [.inl x1, .inl 7]) (M' := M5) rfl ?_
          obtain ⟨hf1, h⟩ := h
          refine w_imul rfl hf1 ?_
          refine wp_sts 1 (pc' := 51) (ls' := [some (.inr (.inr 103)), some (.inl x1), some (.inl x2), some (.inl x3), some (.inl x4), none, none]) (st' := [.inl x2, .inl (7 * x1)]) (M' := M5) rfl ?_
          obtain ⟨hf2, h⟩ := h
          refine w_iadd rfl hf2 ?_
          refine wp_sts 2 (pc' := 55) (ls' := [some (.inr (.inr 103)), some (.inl x1), some (.inl x2), some (.inl x3), some (.inl x4), some (.inl ((7 * x1) + x2)), none]) (st' := [.inr (.inr 103)]) (M' := M5) rfl ?_
          refine g_getR (j := 126) rfl hS5 rfl (str_r hS5 103 43 126 rfl) (by decide) ?_
          refine wp_sts 1 (pc' := 60) (ls' := [some (.inr (.inr 103)), some (.inl x1), some (.inl x2), some (.inl x3), some (.inl x4), some (.inl ((7 * x1) + x2)), none]) (st' := [.inl ((7 * x1) + x2), .inr (.inr 126)]) (M' := M5) rfl ?_
          obtain ⟨hf3, h⟩ := h
          refine g_iald (n := 49) rfl hS5 rfl hf3 ?_
          refine wp_sts 1 (pc' := 63) (ls' := [some (.inr (.inr 103)), some (.inl x1), some (.inl x2), some (.inl x3), some (.inl x4), some (.inl ((7 * x1) + x2)), none]) (st' := [.inl 1000000, .inl (M5 126 ((7 * x1) + x2).toNat)]) (M' := M5) rfl ?_
          refine c2_ge rfl (fun c => ?_) (fun c => ?_)
          · replace h := h.1 c
            refine wp_sts 1 (pc' := 71) (ls' := [some (.inr (.inr 103)), some (.inl x1), some (.inl x2), some (.inl x3), some (.inl x4), some (.inl ((7 * x1) + x2)), none]) (st' := [.inr (.inr 103)]) (M' := M5) rfl ?_
            refine g_getR (j := 127) rfl hS5 rfl (str_r hS5 103 44 127 rfl) (by decide) ?_
            refine wp_sts 1 (pc' := 76) (ls' := [some (.inr (.inr 103)), some (.inl x1), some (.inl x2), some (.inl x3), some (.inl x4), some (.inl ((7 * x1) + x2)), none]) (st' := [.inl ((7 * x1) + x2), .inr (.inr 127)]) (M' := M5) rfl ?_
            refine g_iald (n := 49) rfl hS5 rfl hf3 ?_
            refine wp_sts 1 (pc' := 79) (ls' := [some (.inr (.inr 103)), some (.inl x1), some (.inl x2), some (.inl x3), some (.inl x4), some (.inl ((7 * x1) + x2)), none]) (st' := [.inl 1000000, .inl (M5 127 ((7 * x1) + x2).toNat)]) (M' := M5) rfl ?_
            refine c2_ge rfl (fun c => ?_) (fun c => ?_)
            · replace h := h.1 c
              refine wp_sts 1 (pc' := 87) (ls' := [some (.inr (.inr 103)), some (.inl x1), some (.inl x2), some (.inl x3), some (.inl x4), some (.inl ((7 * x1) + x2)), none]) (st' := [.inl 0]) (M' := M5) rfl ?_
              exact h
            · replace h := h.2 c
              refine wp_sts 2 (pc' := 87) (ls' := [some (.inr (.inr 103)), some (.inl x1), some (.inl x2), some (.inl x3), some (.inl x4), some (.inl ((7 * x1) + x2)), none]) (st' := [.inl 2]) (M' := M5) rfl ?_
              exact h
          · replace h := h.2 c
            refine wp_sts 2 (pc' := 87) (ls' := [some (.inr (.inr 103)), some (.inl x1), some (.inl x2), some (.inl x3), some (.inl x4), some (.inl ((7 * x1) + x2)), none]) (st' := [.inl 1]) (M' := M5) rfl ?_
            exact h
        · replace h := h.2 c
          refine wp_sts 1 (pc' := 40) (ls' := [some (.inr (.inr 103)), some (.inl x1), some (.inl x2), some (.inl x3), some (.inl x4), none, none]) (st' := [.inl ((-1000000002))]) (M' := M4) rfl ?_
          exact wp_ret rfl rfl (z := (some (.inl ((-1000000002))), M4)) rfl h
      · replace h := h.2 c
        refine wp_sts 1 (pc' := 26) (ls' := [some (.inr (.inr 103)), some (.inl x1), some (.inl x2), some (.inl x3), some (.inl x4), none, none]) (st' := [.inl ((-1000000001))]) (M' := M3) rfl ?_
        exact wp_ret rfl rfl (z := (some (.inl ((-1000000001))), M3)) rfl h
/- Model.thief, at 87 -/
theorem b168_87 {d t : Nat}  {x1 : Int} {x2 : Int} {x3 : Int} {x4 : Int} {x5 : Int} {x100 : Int} {M : ab_M} {Q : Option ab_V → ab_M → Prop} (hd : 1 ≤ d) (hS : pu_str t M)  (h : (x4 ≠ 0 → (x100 ≠ 1 → (x100 ≠ 2 → Q (some (.inl ((-1)))) M) ∧ (x100 = 2 → (0 ≤ x5 ∧ x5 < 49) ∧ Q (some (.inl (M 127 x5.toNat))) M)) ∧ (x100 = 1 → (0 ≤ x5 ∧ x5 < 49) ∧ Q (some (.inl (M 126 x5.toNat))) M)) ∧ (x4 = 0 → Q (some (.inl x100)) M)) : ab_wp d 168 87 [some (.inr (.inr 103)), some (.inl x1), some (.inl x2), some (.inl x3), some (.inl x4), some (.inl x5), none] [.inl x100] M Q := by
  refine wp_sts 2 (pc' := 91) (ls' := [some (.inr (.inr 103)), some (.inl x1), some (.inl x2), some (.inl x3), some (.inl x4), some (.inl x5), some (.inl x100)]) (st' := [.inl x4]) (M' := M) rfl ?_
  refine c1_ne rfl (fun c => ?_) (fun c => ?_)
  · replace h := h.1 c
    refine wp_sts 2 (pc' := 102) (ls' := [some (.inr (.inr 103)), some (.inl x1), some (.inl x2), some (.inl x3), some (.inl x4), some (.inl x5), some (.inl x100)]) (st' := [.inl 1, .inl x100]) (M' := M) rfl ?_
    refine c2_ne rfl (fun c => ?_) (fun c => ?_)
    · replace h := h.1 c
      refine wp_sts 2 (pc' := 118) (ls' := [some (.inr (.inr 103)), some (.inl x1), some (.inl x2), some (.inl x3), some (.inl x4), some (.inl x5), some (.inl x100)]) (st' := [.inl 2, .inl x100]) (M' := M) rfl ?_
      refine c2_ne rfl (fun c => ?_) (fun c => ?_)
      · replace h := h.1 c
        refine wp_sts 1 (pc' := 132) (ls' := [some (.inr (.inr 103)), some (.inl x1), some (.inl x2), some (.inl x3), some (.inl x4), some (.inl x5), some (.inl x100)]) (st' := [.inl ((-1))]) (M' := M) rfl ?_
        exact wp_ret rfl rfl (z := (some (.inl ((-1))), M)) rfl h
      · replace h := h.2 c
        refine wp_sts 1 (pc' := 122) (ls' := [some (.inr (.inr 103)), some (.inl x1), some (.inl x2), some (.inl x3), some (.inl x4), some (.inl x5), some (.inl x100)]) (st' := [.inr (.inr 103)]) (M' := M) rfl ?_
        refine g_getR (j := 127) rfl hS rfl (str_r hS 103 44 127 rfl) (by decide) ?_
        refine wp_sts 1 (pc' := 127) (ls' := [some (.inr (.inr 103)), some (.inl x1), some (.inl x2), some (.inl x3), some (.inl x4), some (.inl x5), some (.inl x100)]) (st' := [.inl x5, .inr (.inr 127)]) (M' := M) rfl ?_
        obtain ⟨hf1, h⟩ := h
        refine g_iald (n := 49) rfl hS rfl hf1 ?_
        refine wp_sts 1 (pc' := 132) (ls' := [some (.inr (.inr 103)), some (.inl x1), some (.inl x2), some (.inl x3), some (.inl x4), some (.inl x5), some (.inl x100)]) (st' := [.inl (M 127 x5.toNat)]) (M' := M) rfl ?_
        exact wp_ret rfl rfl (z := (some (.inl (M 127 x5.toNat)), M)) rfl h
    · replace h := h.2 c
      refine wp_sts 1 (pc' := 106) (ls' := [some (.inr (.inr 103)), some (.inl x1), some (.inl x2), some (.inl x3), some (.inl x4), some (.inl x5), some (.inl x100)]) (st' := [.inr (.inr 103)]) (M' := M) rfl ?_
      refine g_getR (j := 126) rfl hS rfl (str_r hS 103 43 126 rfl) (by decide) ?_
      refine wp_sts 1 (pc' := 111) (ls' := [some (.inr (.inr 103)), some (.inl x1), some (.inl x2), some (.inl x3), some (.inl x4), some (.inl x5), some (.inl x100)]) (st' := [.inl x5, .inr (.inr 126)]) (M' := M) rfl ?_
      obtain ⟨hf1, h⟩ := h
      refine g_iald (n := 49) rfl hS rfl hf1 ?_
      refine wp_sts 1 (pc' := 132) (ls' := [some (.inr (.inr 103)), some (.inl x1), some (.inl x2), some (.inl x3), some (.inl x4), some (.inl x5), some (.inl x100)]) (st' := [.inl (M 126 x5.toNat)]) (M' := M) rfl ?_
      exact wp_ret rfl rfl (z := (some (.inl (M 126 x5.toNat)), M)) rfl h
  · replace h := h.2 c
    refine wp_sts 2 (pc' := 132) (ls' := [some (.inr (.inr 103)), some (.inl x1), some (.inl x2), some (.inl x3), some (.inl x4), some (.inl x5), some (.inl x100)]) (st' := [.inl x100]) (M' := M) rfl ?_
    exact wp_ret rfl rfl (z := (some (.inl x100), M)) rfl h
