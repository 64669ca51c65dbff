/-! blocks -/
/- Model.in, at 0 -/
theorem b107_0 {d t : Nat}  {x0 : Int} {x2 : Int} {x4 : Int} {M : ab_M} {Q : Option ab_V → ab_M → Prop} (hd : 1 ≤ d) (hS : pu_str t M)  (h : ((if x0 < x2 then -1 else if x0 = x2 then 0 else 1) < 0 → Q (some (.inl 0)) M) ∧ (0 ≤ (if x0 < x2 then -1 else if x0 = x2 then 0 else 1) → (0 < (if x0 < x4 then -1 else if x0 = x4 then 0 else 1) → Q (some (.inl 0)) M) ∧ ((if x0 < x4 then -1 else if x0 = x4 then 0 else 1) ≤ 0 → Q (some (.inl 1)) M))) : ab_wp d 107 0 [some (.inr (.inl x0)), none, some (.inr (.inl x2)), none, some (.inr (.inl x4)), none] [] M Q := by
  refine wp_sts 3 (pc' := 3) (ls' := [some (.inr (.inl x0)), none, some (.inr (.inl x2)), none, some (.inr (.inl x4)), none]) (st' := [.inl (if x0 < x2 then -1 else if x0 = x2 then 0 else 1)]) (M' := M) rfl ?_
  refine c1_lt rfl (fun c => ?_) (fun c => ?_)
  · replace h := h.1 c
    refine wp_sts 1 (pc' := 18) (ls' := [some (.inr (.inl x0)), none, some (.inr (.inl x2)), none, some (.inr (.inl x4)), none]) (st' := [.inl 0]) (M' := M) rfl ?_
    exact g_retB rfl (by decide) h
  · replace h := h.2 c
    refine wp_sts 3 (pc' := 10) (ls' := [some (.inr (.inl x0)), none, some (.inr (.inl x2)), none, some (.inr (.inl x4)), none]) (st' := [.inl (if x0 < x4 then -1 else if x0 = x4 then 0 else 1)]) (M' := M) rfl ?_
    refine c1_gt rfl (fun c => ?_) (fun c => ?_)
    · replace h := h.1 c
      refine wp_sts 1 (pc' := 18) (ls' := [some (.inr (.inl x0)), none, some (.inr (.inl x2)), none, some (.inr (.inl x4)), none]) (st' := [.inl 0]) (M' := M) rfl ?_
      exact g_retB rfl (by decide) h
    · replace h := h.2 c
      refine wp_sts 2 (pc' := 18) (ls' := [some (.inr (.inl x0)), none, some (.inr (.inl x2)), none, some (.inr (.inl x4)), none]) (st' := [.inl 1]) (M' := M) rfl ?_
      exact g_retB rfl (by decide) h
/- Model.has, at 0 -/
theorem b108_0 {d t : Nat}  {x0 : Int} {x1 : Int} {M : ab_M} {Q : Option ab_V → ab_M → Prop} (hd : 1 ≤ d) (hS : pu_str t M)  (h : (ab_and (ab_shr x0 x1) 1 ≠ 1 → Q (some (.inl 0)) M) ∧ (ab_and (ab_shr x0 x1) 1 = 1 → Q (some (.inl 1)) M)) : ab_wp d 108 0 [some (.inl x0), some (.inl x1)] [] M Q := by
  refine wp_sts 6 (pc' := 6) (ls' := [some (.inl x0), some (.inl x1)]) (st' := [.inl 1, .inl (ab_and (ab_shr x0 x1) 1)]) (M' := M) rfl ?_
  refine c2_ne rfl (fun c => ?_) (fun c => ?_)
  · replace h := h.1 c
    refine wp_sts 1 (pc' := 14) (ls' := [some (.inl x0), some (.inl x1)]) (st' := [.inl 0]) (M' := M) rfl ?_
    exact g_retB rfl (by decide) h
  · replace h := h.2 c
    refine wp_sts 2 (pc' := 14) (ls' := [some (.inl x0), some (.inl x1)]) (st' := [.inl 1]) (M' := M) rfl ?_
    exact g_retB rfl (by decide) h
/- Model.isSquare, at 0 -/
theorem b109_0 {d t : Nat}  {x1 : Int} {M : ab_M} {Q : Option ab_V → ab_M → Prop} (hd : 1 ≤ d) (hS : pu_str t M)  (h : ab_rg ((M 103 3) - 1) ∧ ∃ r1 M1, ab_ev (d - 1) 107 [.inr (.inl x1), .inr (.inl 0), .inr (.inl ((M 103 3) - 1))] M (some (.inl r1)) M1 ∧ pu_str t M1 ∧ (r1 = 0 ∨ r1 = 1) ∧ Q (some (.inl r1)) M1) : ab_wp d 109 0 [some (.inr (.inr 103)), some (.inl x1)] [] M Q := by
  refine wp_sts 4 (pc' := 4) (ls' := [some (.inr (.inr 103)), some (.inl x1)]) (st' := [.inr (.inr 103), .inr (.inl 0), .inr (.inl x1)]) (M' := M) rfl ?_
  refine g_getI rfl hS rfl ?_
  refine wp_sts 1 (pc' := 8) (ls' := [some (.inr (.inr 103)), some (.inl x1)]) (st' := [.inl 1, .inl (M 103 3), .inr (.inl 0), .inr (.inl x1)]) (M' := M) rfl ?_
  obtain ⟨hf1, h⟩ := h
  refine w_isub rfl hf1 ?_
  refine wp_sts 1 (pc' := 10) (ls' := [some (.inr (.inr 103)), some (.inl x1)]) (st' := [.inr (.inl ((M 103 3) - 1)), .inr (.inl 0), .inr (.inl x1)]) (M' := M) rfl ?_
  obtain ⟨r1, M1, he, hS1, h⟩ := h
  refine g_callI (c := 107) (as := [.inr (.inl x1), .inr (.inl 0), .inr (.inl ((M 103 3) - 1))]) (rs := []) rfl rfl hS hd rfl he ?_
  exact g_retB rfl h.1 h.2
/- Model.isPerson, at 0 -/
theorem b110_0 {d t : Nat}  {x1 : Int} {M : ab_M} {Q : Option ab_V → ab_M → Prop} (hd : 1 ≤ d) (hS : pu_str t M)  (h : ab_rg ((M 103 9) - 1) ∧ ∃ r1 M1, ab_ev (d - 1) 107 [.inr (.inl x1), .inr (.inl 0), .inr (.inl ((M 103 9) - 1))] M (some (.inl r1)) M1 ∧ pu_str t M1 ∧ (r1 = 0 ∨ r1 = 1) ∧ Q (some (.inl r1)) M1) : ab_wp d 110 0 [some (.inr (.inr 103)), some (.inl x1)] [] M Q := by
  refine wp_sts 4 (pc' := 4) (ls' := [some (.inr (.inr 103)), some (.inl x1)]) (st' := [.inr (.inr 103), .inr (.inl 0), .inr (.inl x1)]) (M' := M) rfl ?_
  refine g_getI rfl hS rfl ?_
  refine wp_sts 1 (pc' := 8) (ls' := [some (.inr (.inr 103)), some (.inl x1)]) (st' := [.inl 1, .inl (M 103 9), .inr (.inl 0), .inr (.inl x1)]) (M' := M) rfl ?_
  obtain ⟨hf1, h⟩ := h
  refine w_isub rfl hf1 ?_
  refine wp_sts 1 (pc' := 10) (ls' := [some (.inr (.inr 103)), some (.inl x1)]) (st' := [.inr (.inl ((M 103 9) - 1)), .inr (.inl 0), .inr (.inl x1)]) (M' := M) rfl ?_
  obtain ⟨r1, M1, he, hS1, h⟩ := h
  refine g_callI (c := 107) (as := [.inr (.inl x1), .inr (.inl 0), .inr (.inl ((M 103 9) - 1))]) (rs := []) rfl rfl hS hd rfl he ?_
  exact g_retB rfl h.1 h.2
/- Model.isDeed, at 0 -/
theorem b111_0 {d t : Nat}  {x1 : Int} {M : ab_M} {Q : Option ab_V → ab_M → Prop} (hd : 1 ≤ d) (hS : pu_str t M)  (h : ab_rg ((M 103 11) - 1) ∧ ∃ r1 M1, ab_ev (d - 1) 107 [.inr (.inl x1), .inr (.inl 0), .inr (.inl ((M 103 11) - 1))] M (some (.inl r1)) M1 ∧ pu_str t M1 ∧ (r1 = 0 ∨ r1 = 1) ∧ Q (some (.inl r1)) M1) : ab_wp d 111 0 [some (.inr (.inr 103)), some (.inl x1)] [] M Q := by
  refine wp_sts 4 (pc' := 4) (ls' := [some (.inr (.inr 103)), some (.inl x1)]) (st' := [.inr (.inr 103), .inr (.inl 0), .inr (.inl x1)]) (M' := M) rfl ?_
  refine g_getI rfl hS rfl ?_
  refine wp_sts 1 (pc' := 8) (ls' := [some (.inr (.inr 103)), some (.inl x1)]) (st' := [.inl 1, .inl (M 103 11), .inr (.inl 0), .inr (.inl x1)]) (M' := M) rfl ?_
  obtain ⟨hf1, h⟩ := h
  refine w_isub rfl hf1 ?_
  refine wp_sts 1 (pc' := 10) (ls' := [some (.inr (.inr 103)), some (.inl x1)]) (st' := [.inr (.inl ((M 103 11) - 1)), .inr (.inl 0), .inr (.inl x1)]) (M' := M) rfl ?_
  obtain ⟨r1, M1, he, hS1, h⟩ := h
  refine g_callI (c := 107) (as := [.inr (.inl x1), .inr (.inl 0), .inr (.inl ((M 103 11) - 1))]) (rs := []) rfl rfl hS hd rfl he ?_
  exact g_retB rfl h.1 h.2
/- Model.feed, at 0 -/
theorem b112_0 {d t : Nat}  {x1 : Int} {M : ab_M} {Q : Option ab_V → ab_M → Prop} (hd : 1 ≤ d) (hS : pu_str t M)  (h : ∃ r1 M1, ab_ev (d - 1) 107 [.inr (.inl x1), .inr (.inl 0), .inr (.inl 255)] M (some (.inl r1)) M1 ∧ pu_str t M1 ∧ (r1 ≠ 0 → (M1 103 1 ≠ 250 → (0 ≤ M1 103 1 ∧ M1 103 1 < 250) ∧ ab_rg ((M1 103 1) + 1) ∧ Q (some (.inl ((M1 103 1) + 1))) (ab_w (ab_w M1 104 (M1 103 1).toNat x1) 103 1 ((M1 103 1) + 1))) ∧ (M1 103 1 = 250 → Q (some (.inl ((-1000000004)))) M1)) ∧ (r1 = 0 → Q (some (.inl ((-1000000002)))) M1)) : ab_wp d 112 0 [some (.inr (.inr 103)), some (.inl x1)] [] M Q := by
  refine wp_sts 4 (pc' := 6) (ls' := [some (.inr (.inr 103)), some (.inl x1)]) (st' := [.inr (.inl 255), .inr (.inl 0), .inr (.inl x1)]) (M' := M) rfl ?_
  obtain ⟨r1, M1, he, hS1, h⟩ := h
  refine g_callI (c := 107) (as := [.inr (.inl x1), .inr (.inl 0), .inr (.inl 255)]) (rs := []) rfl rfl hS hd rfl he ?_
  refine c1_ne rfl (fun c => ?_) (fun c => ?_)
  · replace h := h.1 c
    refine wp_sts 1 (pc' := 16) (ls' := [some (.inr (.inr 103)), some (.inl x1)]) (st' := [.inr (.inr 103)]) (M' := M1) rfl ?_
    refine g_getI rfl hS1 rfl ?_
    refine wp_sts 1 (pc' := 22) (ls' := [some (.inr (.inr 103)), some (.inl x1)]) (st' := [.inl 250, .inl (M1 103 1)]) (M' := M1) rfl ?_
    refine c2_ne rfl (fun c => ?_) (fun c => ?_)
    · replace h := h.1 c
      refine wp_sts 1 (pc' := 29) (ls' := [some (.inr (.inr 103)), some (.inl x1)]) (st' := [.inr (.inr 103)]) (M' := M1) rfl ?_
      refine g_getR (j := 104) rfl hS1 rfl (str_r hS1 103 0 104 rfl) (by decide) ?_
      refine wp_sts 1 (pc' := 33) (ls' := [some (.inr (.inr 103)), some (.inl x1)]) (st' := [.inr (.inr 103), .inr (.inr 104)]) (M' := M1) rfl ?_
      refine g_getI rfl hS1 rfl ?_
      refine wp_sts 1 (pc' := 37) (ls' := [some (.inr (.inr 103)), some (.inl x1)]) (st' := [.inl x1, .inl (M1 103 1), .inr (.inr 104)]) (M' := M1) rfl ?_
      obtain ⟨hf1, h⟩ := h
      refine g_iast (n := 250) rfl hS1 rfl hf1 ?_
      refine wp_sts 2 (pc' := 40) (ls' := [some (.inr (.inr 103)), some (.inl x1)]) (st' := [.inr (.inr 103), .inr (.inr 103)]) (M' := (ab_w M1 104 (M1 103 1).toNat x1)) rfl ?_
      refine g_getI rfl (str_a (k := 104) (f := (M1 103 1).toNat) (v := x1) hS1 rfl) rfl ?_
      refine wp_sts 1 (pc' := 44) (ls' := [some (.inr (.inr 103)), some (.inl x1)]) (st' := [.inl 1, .inl (M1 103 1), .inr (.inr 103)]) (M' := (ab_w M1 104 (M1 103 1).toNat x1)) rfl ?_
      obtain ⟨hf2, h⟩ := h
      refine w_iadd rfl hf2 ?_
      refine g_putI rfl (str_a (k := 104) (f := (M1 103 1).toNat) (v := x1) hS1 rfl) rfl ?_
      refine wp_sts 1 (pc' := 49) (ls' := [some (.inr (.inr 103)), some (.inl x1)]) (st' := [.inr (.inr 103)]) (M' := (ab_w (ab_w M1 104 (M1 103 1).toNat x1) 103 1 ((M1 103 1) + 1))) rfl ?_
      refine g_getI rfl (str_w (k := 103) (f := 1) (v := (M1 103 1) + 1) (str_a (k := 104) (f := (M1 103 1).toNat) (v := x1) hS1 rfl) rfl) rfl ?_
      exact wp_ret rfl rfl (z := (some (.inl ((M1 103 1) + 1)), (ab_w (ab_w M1 104 (M1 103 1).toNat x1) 103 1 ((M1 103 1) + 1)))) rfl h
    · replace h := h.2 c
      refine wp_sts 1 (pc' := 27) (ls' := [some (.inr (.inr 103)), some (.inl x1)]) (st' := [.inl ((-1000000004))]) (M' := M1) rfl ?_
      exact wp_ret rfl rfl (z := (some (.inl ((-1000000004))), M1)) rfl h
  · replace h := h.2 c
    refine wp_sts 1 (pc' := 14) (ls' := [some (.inr (.inr 103)), some (.inl x1)]) (st' := [.inl ((-1000000002))]) (M' := M1) rfl ?_
    exact wp_ret rfl rfl (z := (some (.inl ((-1000000002))), M1)) rfl h
/- Model.nextToken, at 0 -/
set_option maxRecDepth 100000 in
theorem b113_0 {d t : Nat}   {M : ab_M} {Q : Option ab_V → ab_M → Prop} (hd : 1 ≤ d) (hS : pu_str t M)  (h : (M 103 1 ≤ M 103 20 → (M 103 20 ≠ M 103 1 → ab_wp d 113 63 [some (.inr (.inr 103))] [.inl 0, .inr (.inr 103)] (ab_w M 103 23 (M 103 20)) Q) ∧ (M 103 20 = M 103 1 → ab_wp d 113 63 [some (.inr (.inr 103))] [.inl 3, .inr (.inr 103)] (ab_w M 103 23 (M 103 20)) Q)) ∧ (M 103 20 < M 103 1 → (0 ≤ M 103 20 ∧ M 103 20 < 250) ∧ (M 104 (M 103 20).toNat ≠ 32 → (M 103 20 ≠ M 103 1 → ab_wp d 113 63 [some (.inr (.inr 103))] [.inl 0, .inr (.inr 103)] (ab_w M 103 23 (M 103 20)) Q) ∧ (M 103 20 = M 103 1 → ab_wp d 113 63 [some (.inr (.inr 103))] [.inl 3, .inr (.inr 103)] (ab_w M 103 23 (M 103 20)) Q)) ∧ (M 104 (M 103 20).toNat = 32 → ab_rg ((M 103 20) + 1) ∧ ab_wp d 113 0 [some (.inr (.inr 103))] [] (ab_w M 103 20 ((M 103 20) + 1)) Q))) : ab_wp d 113 0 [some (.inr (.inr 103))] [] M Q := by
  refine wp_sts 1 (pc' := 1) (ls' := [some (.inr (.inr 103))]) (st' := [.inr (.inr 103)]) (M' := M) rfl ?_
  refine g_getI rfl hS rfl ?_
  refine wp_sts 1 (pc' := 5) (ls' := [some (.inr (.inr 103))]) (st' := [.inr (.inr 103), .inl (M 103 20)]) (M' := M) rfl ?_
  refine g_getI rfl hS rfl ?_
  refine c2_ge rfl (fun c => ?_) (fun c => ?_)
  · replace h := h.1 c
    refine wp_sts 2 (pc' := 40) (ls' := [some (.inr (.inr 103))]) (st' := [.inr (.inr 103), .inr (.inr 103)]) (M' := M) rfl ?_
    refine g_getI rfl hS rfl ?_
    refine g_putI rfl hS rfl ?_
    refine wp_sts 2 (pc' := 48) (ls' := [some (.inr (.inr 103))]) (st' := [.inr (.inr 103), .inr (.inr 103)]) (M' := (ab_w M 103 23 (M 103 20))) rfl ?_
    refine g_getI rfl (str_w (k := 103) (f := 23) (v := M 103 20) hS rfl) rfl ?_
    refine wp_sts 1 (pc' := 52) (ls' := [some (.inr (.inr 103))]) (st' := [.inr (.inr 103), .inl (M 103 20), .inr (.inr 103)]) (M' := (ab_w M 103 23 (M 103 20))) rfl ?_
    refine g_getI rfl (str_w (k := 103) (f := 23) (v := M 103 20) hS rfl) rfl ?_
    refine c2_ne rfl (fun c => ?_) (fun c => ?_)
    · replace h := h.1 c
      refine wp_sts 1 (pc' := 63) (ls' := [some (.inr (.inr 103))]) (st' := [.inl 0, .inr (.inr 103)]) (M' := (ab_w M 103 23 (M 103 20))) rfl ?_
      exact h
    · replace h := h.2 c
      refine wp_sts 2 (pc' := 63) (ls' := [some (.inr (.inr 103))]) (st' := [.inl 3, .inr (.inr 103)]) (M' := (ab_w M 103 23 (M 103 20))) rfl ?_
      exact h
  · replace h := h.2 c
    refine wp_sts 1 (pc' := 12) (ls' := [some (.inr (.inr 103))]) (st' := [.inr (.inr 103)]) (M' := M) rfl ?_
    refine g_getR (j := 104) rfl hS rfl (str_r hS 103 0 104 rfl) (by decide) ?_
    refine wp_sts 1 (pc' := 16) (ls' := [some (.inr (.inr 103))]) (st' := [.inr (.inr 103), .inr (.inr 104)]) (M' := M) rfl ?_
    refine g_getI rfl hS rfl ?_
    obtain ⟨hf1, h⟩ := h
    refine g_iald (n := 250) rfl hS rfl hf1 ?_
    refine wp_sts 1 (pc' := 22) (ls' := [some (.inr (.inr 103))]) (st' := [.inl 32, .inl (M 104 (M 103 20).toNat)]) (M' := M) rfl ?_
    refine c2_ne rfl (fun c => ?_) (fun c => ?_)
    · replace h := h.1 c
      refine wp_sts 2 (pc' := 40) (ls' := [some (.inr (.inr 103))]) (st' := [.inr (.inr 103), .inr (.inr 103)]) (M' := M) rfl ?_
      refine g_getI rfl hS rfl ?_
      refine g_putI rfl hS rfl ?_
      refine wp_sts 2 (pc' := 48) (ls' := [some (.inr (.inr 103))]) (st' := [.inr (.inr 103), .inr (.inr 103)]) (M' := (ab_w M 103 23 (M 103 20))) rfl ?_
      refine g_getI rfl (str_w (k := 103) (f := 23) (v := M 103 20) hS rfl) rfl ?_
      refine wp_sts 1 (pc' := 52) (ls' := [some (.inr (.inr 103))]) (st' := [.inr (.inr 103), .inl (M 103 20), .inr (.inr 103)]) (M' := (ab_w M 103 23 (M 103 20))) rfl ?_
      refine g_getI rfl (str_w (k := 103) (f := 23) (v := M 103 20) hS rfl) rfl ?_
      refine c2_ne rfl (fun c => ?_) (fun c => ?_)
      · replace h := h.1 c
        refine wp_sts 1 (pc' := 63) (ls' := [some (.inr (.inr 103))]) (st' := [.inl 0, .inr (.inr 103)]) (M' := (ab_w M 103 23 (M 103 20))) rfl ?_
        exact h
      · replace h := h.2 c
        refine wp_sts 2 (pc' := 63) (ls' := [some (.inr (.inr 103))]) (st' := [.inl 3, .inr (.inr 103)]) (M' := (ab_w M 103 23 (M 103 20))) rfl ?_
        exact h
    · replace h := h.2 c
      refine wp_sts 2 (pc' := 27) (ls' := [some (.inr (.inr 103))]) (st' := [.inr (.inr 103), .inr (.inr 103)]) (M' := M) rfl ?_
      refine g_getI rfl hS rfl ?_
      refine wp_sts 1 (pc' := 31) (ls' := [some (.inr (.inr 103))]) (st' := [.inl 1, .inl (M 103 20), .inr (.inr 103)]) (M' := M) rfl ?_
      obtain ⟨hf2, h⟩ := h
      refine w_iadd rfl hf2 ?_
      refine g_putI rfl hS rfl ?_
      refine wp_sts 1 (pc' := 0) (ls' := [some (.inr (.inr 103))]) (st' := []) (M' := (ab_w M 103 20 ((M 103 20) + 1))) rfl ?_
      exact h
/- Model.nextToken, at 63 -/
set_option maxRecDepth 100000 in
theorem b113_63 {d t : Nat}  {x101 : Int} {M : ab_M} {Q : Option ab_V → ab_M → Prop} (hd : 1 ≤ d) (hS : pu_str t M)  (h : ab_wp d 113 71 [some (.inr (.inr 103))] [] (ab_w (ab_w M 103 21 x101) 103 22 0) Q) : ab_wp d 113 63 [some (.inr (.inr 103))] [.inl x101, .inr (.inr 103)] M Q := by
  refine g_putI rfl hS rfl ?_
  refine wp_sts 2 (pc' := 68) (ls' := [some (.inr (.inr 103))]) (st' := [.inl 0, .inr (.inr 103)]) (M' := (ab_w M 103 21 x101)) rfl ?_
  refine g_putI rfl (str_w (k := 103) (f := 21) (v := x101) hS rfl) rfl ?_
  exact h
/- Model.nextToken, at 71 -/
set_option maxRecDepth 100000 in
theorem b113_71 {d t : Nat}   {M : ab_M} {Q : Option ab_V → ab_M → Prop} (hd : 1 ≤ d) (hS : pu_str t M)  (h : (M 103 1 ≤ M 103 20 → (M 103 21 ≠ 2 → ab_wp d 113 190 [some (.inr (.inr 103))] [] M Q) ∧ (M 103 21 = 2 → ab_rg ((M 103 20) - (M 103 23)) ∧ ((M 103 20) - (M 103 23) ≤ 3 → ab_wp d 113 190 [some (.inr (.inr 103))] [] M Q) ∧ (3 < (M 103 20) - (M 103 23) → ab_wp d 113 190 [some (.inr (.inr 103))] [] (ab_w M 103 22 1000000) Q))) ∧ (M 103 20 < M 103 1 → (0 ≤ M 103 20 ∧ M 103 20 < 250) ∧ ∃ r1 M1, ab_ev (d - 1) 107 [.inr (.inl (M 104 (M 103 20).toNat)), .inr (.inl 48), .inr (.inl 57)] M (some (.inl r1)) M1 ∧ pu_str t M1 ∧ (r1 = 0 → (M1 103 21 ≠ 2 → ab_wp d 113 190 [some (.inr (.inr 103))] [] M1 Q) ∧ (M1 103 21 = 2 → ab_rg ((M1 103 20) - (M1 103 23)) ∧ ((M1 103 20) - (M1 103 23) ≤ 3 → ab_wp d 113 190 [some (.inr (.inr 103))] [] M1 Q) ∧ (3 < (M1 103 20) - (M1 103 23) → ab_wp d 113 190 [some (.inr (.inr 103))] [] (ab_w M1 103 22 1000000) Q))) ∧ (r1 ≠ 0 → (M1 103 22 ≤ 9999 → ab_rg (10 * (M1 103 22)) ∧ (0 ≤ M1 103 20 ∧ M1 103 20 < 250) ∧ ab_rg ((10 * (M1 103 22)) + (M1 104 (M1 103 20).toNat)) ∧ ab_rg (((10 * (M1 103 22)) + (M1 104 (M1 103 20).toNat)) - 48) ∧ ab_wp d 113 142 [some (.inr (.inr 103))] [.inl (((10 * (M1 103 22)) + (M1 104 (M1 103 20).toNat)) - 48), .inr (.inr 103)] M1 Q) ∧ (9999 < M1 103 22 → ab_wp d 113 142 [some (.inr (.inr 103))] [.inl (M1 103 22), .inr (.inr 103)] M1 Q)))) : ab_wp d 113 71 [some (.inr (.inr 103))] [] M Q := by
  refine wp_sts 1 (pc' := 72) (ls' := [some (.inr (.inr 103))]) (st' := [.inr (.inr 103)]) (M' := M) rfl ?_
  refine g_getI rfl hS rfl ?_
  refine wp_sts 1 (pc' := 76) (ls' := [some (.inr (.inr 103))]) (st' := [.inr (.inr 103), .inl (M 103 20)]) (M' := M) rfl ?_
  refine g_getI rfl hS rfl ?_
  refine c2_ge rfl (fun c => ?_) (fun c => ?_)
  · replace h := h.1 c
    refine wp_sts 1 (pc' := 164) (ls' := [some (.inr (.inr 103))]) (st' := [.inr (.inr 103)]) (M' := M) rfl ?_
    refine g_getI rfl hS rfl ?_
    refine wp_sts 1 (pc' := 168) (ls' := [some (.inr (.inr 103))]) (st' := [.inl 2, .inl (M 103 21)]) (M' := M) rfl ?_
    refine c2_ne rfl (fun c => ?_) (fun c => ?_)
    · replace h := h.1 c
      exact h
    · replace h := h.2 c
      refine wp_sts 1 (pc' := 172) (ls' := [some (.inr (.inr 103))]) (st' := [.inr (.inr 103)]) (M' := M) rfl ?_
      refine g_getI rfl hS rfl ?_
      refine wp_sts 1 (pc' := 176) (ls' := [some (.inr (.inr 103))]) (st' := [.inr (.inr 103), .inl (M 103 20)]) (M' := M) rfl ?_
      refine g_getI rfl hS rfl ?_
      obtain ⟨hf1, h⟩ := h
      refine w_isub rfl hf1 ?_
      refine wp_sts 1 (pc' := 181) (ls' := [some (.inr (.inr 103))]) (st' := [.inl 3, .inl ((M 103 20) - (M 103 23))]) (M' := M) rfl ?_
      refine c2_le rfl (fun c => ?_) (fun c => ?_)
      · replace h := h.1 c
        exact h
      · replace h := h.2 c
        refine wp_sts 2 (pc' := 187) (ls' := [some (.inr (.inr 103))]) (st' := [.inl 1000000, .inr (.inr 103)]) (M' := M) rfl ?_
        refine g_putI rfl hS rfl ?_
        exact h
  · replace h := h.2 c
    refine wp_sts 1 (pc' := 83) (ls' := [some (.inr (.inr 103))]) (st' := [.inr (.inr 103)]) (M' := M) rfl ?_
    refine g_getR (j := 104) rfl hS rfl (str_r hS 103 0 104 rfl) (by decide) ?_
    refine wp_sts 1 (pc' := 87) (ls' := [some (.inr (.inr 103))]) (st' := [.inr (.inr 103), .inr (.inr 104)]) (M' := M) rfl ?_
    refine g_getI rfl hS rfl ?_
    obtain ⟨hf1, h⟩ := h
    refine g_iald (n := 250) rfl hS rfl hf1 ?_
    refine wp_sts 3 (pc' := 98) (ls' := [some (.inr (.inr 103))]) (st' := [.inr (.inl 57), .inr (.inl 48), .inr (.inl (M 104 (M 103 20).toNat))]) (M' := M) rfl ?_
    obtain ⟨r1, M1, he, hS1, h⟩ := h
    refine g_callI (c := 107) (as := [.inr (.inl (M 104 (M 103 20).toNat)), .inr (.inl 48), .inr (.inl 57)]) (rs := []) rfl rfl hS hd rfl he ?_
    refine c1_eq rfl (fun c => ?_) (fun c => ?_)
    · replace h := h.1 c
      refine wp_sts 1 (pc' := 164) (ls' := [some (.inr (.inr 103))]) (st' := [.inr (.inr 103)]) (M' := M1) rfl ?_
      refine g_getI rfl hS1 rfl ?_
      refine wp_sts 1 (pc' := 168) (ls' := [some (.inr (.inr 103))]) (st' := [.inl 2, .inl (M1 103 21)]) (M' := M1) rfl ?_
      refine c2_ne rfl (fun c => ?_) (fun c => ?_)
      · replace h := h.1 c
        exact h
      · replace h := h.2 c
        refine wp_sts 1 (pc' := 172) (ls' := [some (.inr (.inr 103))]) (st' := [.inr (.inr 103)]) (M' := M1) rfl ?_
        refine g_getI rfl hS1 rfl ?_
        refine wp_sts 1 (pc' := 176) (ls' := [some (.inr (.inr 103))]) (st' := [.inr (.inr 103), .inl (M1 103 20)]) (M' := M1) rfl ?_
        refine g_getI rfl hS1 rfl ?_
        obtain ⟨hf2, h⟩ := h
        refine w_isub rfl hf2 ?_
        refine wp_sts 1 (pc' := 181) (ls' := [some (.inr (.inr 103))]) (st' := [.inl 3, .inl ((M1 103 20) - (M1 103 23))]) (M' := M1) rfl ?_
        refine c2_le rfl (fun c => ?_) (fun c => ?_)
        · replace h := h.1 c
          exact h
        · replace h := h.2 c
          refine wp_sts 2 (pc' := 187) (ls' := [some (.inr (.inr 103))]) (st' := [.inl 1000000, .inr (.inr 103)]) (M' := M1) rfl ?_
          refine g_putI rfl hS1 rfl ?_
          exact h
    · replace h := h.2 c
      refine wp_sts 2 (pc' := 106) (ls' := [some (.inr (.inr 103))]) (st' := [.inr (.inr 103), .inr (.inr 103)]) (M' := M1) rfl ?_
      refine g_getI rfl hS1 rfl ?_
      refine wp_sts 1 (pc' := 112) (ls' := [some (.inr (.inr 103))]) (st' := [.inl 9999, .inl (M1 103 22), .inr (.inr 103)]) (M' := M1) rfl ?_
      refine c2_le rfl (fun c => ?_) (fun c => ?_)
      · replace h := h.1 c
        refine wp_sts 2 (pc' := 125) (ls' := [some (.inr (.inr 103))]) (st' := [.inr (.inr 103), .inl 10, .inr (.inr 103)]) (M' := M1) rfl ?_
        refine g_getI rfl hS1 rfl ?_
        obtain ⟨hf2, h⟩ := h
        refine w_imul rfl hf2 ?_
        refine wp_sts 1 (pc' := 130) (ls' := [some (.inr (.inr 103))]) (st' := [.inr (.inr 103), .inl (10 * (M1 103 22)), .inr (.inr 103)]) (M' := M1) rfl ?_
        refine g_getR (j := 104) rfl hS1 rfl (str_r hS1 103 0 104 rfl) (by decide) ?_
        refine wp_sts 1 (pc' := 134) (ls' := [some (.inr (.inr 103))]) (st' := [.inr (.inr 103), .inr (.inr 104), .inl (10 * (M1 103 22)), .inr (.inr 103)]) (M' := M1) rfl ?_
        refine g_getI rfl hS1 rfl ?_
        obtain ⟨hf3, h⟩ := h
        refine g_iald (n := 250) rfl hS1 rfl hf3 ?_
        obtain ⟨hf4, h⟩ := h
        refine w_iadd rfl hf4 ?_
        refine wp_sts 1 (pc' := 141) (ls' := [some (.inr (.inr 103))]) (st' := [.inl 48, .inl ((10 * (M1 103 22)) + (M1 104 (M1 103 20).toNat)), .inr (.inr 103)]) (M' := M1) rfl ?_
        obtain ⟨hf5, h⟩ := h
        refine w_isub rfl hf5 ?_
        exact h
      · replace h := h.2 c
        refine wp_sts 1 (pc' := 116) (ls' := [some (.inr (.inr 103))]) (st' := [.inr (.inr 103), .inr (.inr 103)]) (M' := M1) rfl ?_
        refine g_getI rfl hS1 rfl ?_
        refine wp_sts 1 (pc' := 142) (ls' := [some (.inr (.inr 103))]) (st' := [.inl (M1 103 22), .inr (.inr 103)]) (M' := M1) rfl ?_
        exact h
/- Model.nextToken, at 142 -/
set_option maxRecDepth 100000 in
theorem b113_142 {d t : Nat}  {x101 : Int} {M : ab_M} {Q : Option ab_V → ab_M → Prop} (hd : 1 ≤ d) (hS : pu_str t M)  (h : ab_rg ((M 103 20) + 1) ∧ ab_wp d 113 71 [some (.inr (.inr 103))] [] (ab_w (ab_w (ab_w M 103 22 x101) 103 21 2) 103 20 ((M 103 20) + 1)) Q) : ab_wp d 113 142 [some (.inr (.inr 103))] [.inl x101, .inr (.inr 103)] M Q := by
  refine g_putI rfl hS rfl ?_
  refine wp_sts 2 (pc' := 147) (ls' := [some (.inr (.inr 103))]) (st' := [.inl 2, .inr (.inr 103)]) (M' := (ab_w M 103 22 x101)) rfl ?_
  refine g_putI rfl (str_w (k := 103) (f := 22) (v := x101) hS rfl) rfl ?_
  refine wp_sts 2 (pc' := 152) (ls' := [some (.inr (.inr 103))]) (st' := [.inr (.inr 103), .inr (.inr 103)]) (M' := (ab_w (ab_w M 103 22 x101) 103 21 2)) rfl ?_
  refine g_getI rfl (str_w (k := 103) (f := 21) (v := 2) (str_w (k := 103) (f := 22) (v := x101) hS rfl) rfl) rfl ?_
  refine wp_sts 1 (pc' := 156) (ls' := [some (.inr (.inr 103))]) (st' := [.inl 1, .inl (M 103 20), .inr (.inr 103)]) (M' := (ab_w (ab_w M 103 22 x101) 103 21 2)) rfl ?_
  obtain ⟨hf1, h⟩ := h
  refine w_iadd rfl hf1 ?_
  refine g_putI rfl (str_w (k := 103) (f := 21) (v := 2) (str_w (k := 103) (f := 22) (v := x101) hS rfl) rfl) rfl ?_
  refine wp_sts 1 (pc' := 71) (ls' := [some (.inr (.inr 103))]) (st' := []) (M' := (ab_w (ab_w (ab_w M 103 22 x101) 103 21 2) 103 20 ((M 103 20) + 1))) rfl ?_
  exact h
/- Model.nextToken, at 190 -/
set_option maxRecDepth 100000 in
theorem b113_190 {d t : Nat}   {M : ab_M} {Q : Option ab_V → ab_M → Prop} (hd : 1 ≤ d) (hS : pu_str t M)  (h : (M 103 21 ≠ 0 → Q none M) ∧ (M 103 21 = 0 → (0 ≤ M 103 20 ∧ M 103 20 < 250) ∧ ab_rg ((M 103 20) + 1) ∧ Q none (ab_w (ab_w (ab_w M 103 21 1) 103 22 (M 104 (M 103 20).toNat)) 103 20 ((M 103 20) + 1)))) : ab_wp d 113 190 [some (.inr (.inr 103))] [] M Q := by
  refine wp_sts 1 (pc' := 191) (ls' := [some (.inr (.inr 103))]) (st' := [.inr (.inr 103)]) (M' := M) rfl ?_
  refine g_getI rfl hS rfl ?_
  refine c1_ne rfl (fun c => ?_) (fun c => ?_)
  · replace h := h.1 c
    exact wp_ret rfl rfl rfl h
  · replace h := h.2 c
    refine wp_sts 2 (pc' := 199) (ls' := [some (.inr (.inr 103))]) (st' := [.inl 1, .inr (.inr 103)]) (M' := M) rfl ?_
    refine g_putI rfl hS rfl ?_
    refine wp_sts 2 (pc' := 204) (ls' := [some (.inr (.inr 103))]) (st' := [.inr (.inr 103), .inr (.inr 103)]) (M' := (ab_w M 103 21 1)) rfl ?_
    refine g_getR (j := 104) rfl (str_w (k := 103) (f := 21) (v := 1) hS rfl) rfl (str_r (str_w (k := 103) (f := 21) (v := 1) hS rfl) 103 0 104 rfl) (by decide) ?_
    refine wp_sts 1 (pc' := 208) (ls' := [some (.inr (.inr 103))]) (st' := [.inr (.inr 103), .inr (.inr 104), .inr (.inr 103)]) (M' := (ab_w M 103 21 1)) rfl ?_
    refine g_getI rfl (str_w (k := 103) (f := 21) (v := 1) hS rfl) rfl ?_
    obtain ⟨hf1, h⟩ := h
    refine g_iald (n := 250) rfl (str_w (k := 103) (f := 21) (v := 1) hS rfl) rfl hf1 ?_
    refine g_putI rfl (str_w (k := 103) (f := 21) (v := 1) hS rfl) rfl ?_
    refine wp_sts 2 (pc' := 217) (ls' := [some (.inr (.inr 103))]) (st' := [.inr (.inr 103), .inr (.inr 103)]) (M' := (ab_w (ab_w M 103 21 1) 103 22 (M 104 (M 103 20).toNat))) rfl ?_
    refine g_getI rfl (str_w (k := 103) (f := 22) (v := M 104 (M 103 20).toNat) (str_w (k := 103) (f := 21) (v := 1) hS rfl) rfl) rfl ?_
    refine wp_sts 1 (pc' := 221) (ls' := [some (.inr (.inr 103))]) (st' := [.inl 1, .inl (M 103 20), .inr (.inr 103)]) (M' := (ab_w (ab_w M 103 21 1) 103 22 (M 104 (M 103 20).toNat))) rfl ?_
    obtain ⟨hf2, h⟩ := h
    refine w_iadd rfl hf2 ?_
    refine g_putI rfl (str_w (k := 103) (f := 22) (v := M 104 (M 103 20).toNat) (str_w (k := 103) (f := 21) (v := 1) hS rfl) rfl) rfl ?_
    exact wp_ret rfl rfl rfl h
/- Model.faults, at 0 -/
theorem b114_0 {d t : Nat}  {x1 : Int} {M : ab_M} {Q : Option ab_V → ab_M → Prop} (hd : 1 ≤ d) (hS : pu_str t M)  (h : Q (some (.inl 0)) (ab_w M 103 24 x1)) : ab_wp d 114 0 [some (.inr (.inr 103)), some (.inl x1)] [] M Q := by
  refine wp_sts 2 (pc' := 2) (ls' := [some (.inr (.inr 103)), some (.inl x1)]) (st' := [.inl x1, .inr (.inr 103)]) (M' := M) rfl ?_
  refine g_putI rfl hS rfl ?_
  refine wp_sts 1 (pc' := 6) (ls' := [some (.inr (.inr 103)), some (.inl x1)]) (st' := [.inl 0]) (M' := (ab_w M 103 24 x1)) rfl ?_
  exact g_retB rfl (by decide) h
/- Model.takes, at 0 -/
theorem b115_0 {d t : Nat}  {x1 : Int} {M : ab_M} {Q : Option ab_V → ab_M → Prop} (hd : 1 ≤ d) (hS : pu_str t M)  (h : (M 103 21 ≠ 1 → ∃ r1 M1, ab_ev (d - 1) 114 [.inr (.inr 103), .inl 1] M (some (.inl r1)) M1 ∧ pu_str t M1 ∧ (r1 = 0 ∨ r1 = 1) ∧ Q (some (.inl r1)) M1) ∧ (M 103 21 = 1 → (M 103 22 = x1 → ∃ M1, ab_ev (d - 1) 113 [.inr (.inr 103)] M none M1 ∧ pu_str t M1 ∧ Q (some (.inl 1)) M1) ∧ (M 103 22 ≠ x1 → ∃ r1 M1, ab_ev (d - 1) 114 [.inr (.inr 103), .inl 1] M (some (.inl r1)) M1 ∧ pu_str t M1 ∧ (r1 = 0 ∨ r1 = 1) ∧ Q (some (.inl r1)) M1))) : ab_wp d 115 0 [some (.inr (.inr 103)), some (.inl x1)] [] M Q := by
  refine wp_sts 1 (pc' := 1) (ls' := [some (.inr (.inr 103)), some (.inl x1)]) (st' := [.inr (.inr 103)]) (M' := M) rfl ?_
  refine g_getI rfl hS rfl ?_
  refine wp_sts 1 (pc' := 5) (ls' := [some (.inr (.inr 103)), some (.inl x1)]) (st' := [.inl 1, .inl (M 103 21)]) (M' := M) rfl ?_
  refine c2_ne rfl (fun c => ?_) (fun c => ?_)
  · replace h := h.1 c
    refine wp_sts 2 (pc' := 18) (ls' := [some (.inr (.inr 103)), some (.inl x1)]) (st' := [.inl 1, .inr (.inr 103)]) (M' := M) rfl ?_
    obtain ⟨r1, M1, he, hS1, h⟩ := h
    refine g_callI (c := 114) (as := [.inr (.inr 103), .inl 1]) (rs := []) rfl rfl hS hd rfl he ?_
    exact g_retB rfl h.1 h.2
  · replace h := h.2 c
    refine wp_sts 1 (pc' := 9) (ls' := [some (.inr (.inr 103)), some (.inl x1)]) (st' := [.inr (.inr 103)]) (M' := M) rfl ?_
    refine g_getI rfl hS rfl ?_
    refine wp_sts 1 (pc' := 13) (ls' := [some (.inr (.inr 103)), some (.inl x1)]) (st' := [.inl x1, .inl (M 103 22)]) (M' := M) rfl ?_
    refine c2_eq rfl (fun c => ?_) (fun c => ?_)
    · replace h := h.1 c
      refine wp_sts 1 (pc' := 23) (ls' := [some (.inr (.inr 103)), some (.inl x1)]) (st' := [.inr (.inr 103)]) (M' := M) rfl ?_
      obtain ⟨M1, he, hS1, h⟩ := h
      refine g_callV (c := 113) (as := [.inr (.inr 103)]) (rs := []) rfl rfl hS hd rfl he ?_
      refine wp_sts 1 (pc' := 27) (ls' := [some (.inr (.inr 103)), some (.inl x1)]) (st' := [.inl 1]) (M' := M1) rfl ?_
      exact g_retB rfl (by decide) h
    · replace h := h.2 c
      refine wp_sts 2 (pc' := 18) (ls' := [some (.inr (.inr 103)), some (.inl x1)]) (st' := [.inl 1, .inr (.inr 103)]) (M' := M) rfl ?_
      obtain ⟨r1, M1, he, hS1, h⟩ := h
      refine g_callI (c := 114) (as := [.inr (.inr 103), .inl 1]) (rs := []) rfl rfl hS hd rfl he ?_
      exact g_retB rfl h.1 h.2
/- Model.isNumber, at 0 -/
theorem b116_0 {d t : Nat}  {x1 : Int} {x2 : Int} {M : ab_M} {Q : Option ab_V → ab_M → Prop} (hd : 1 ≤ d) (hS : pu_str t M)  (h : (M 103 21 ≠ 2 → ∃ r1 M1, ab_ev (d - 1) 114 [.inr (.inr 103), .inl 1] M (some (.inl r1)) M1 ∧ pu_str t M1 ∧ (r1 = 0 ∨ r1 = 1) ∧ Q (some (.inl r1)) M1) ∧ (M 103 21 = 2 → ∃ r1 M1, ab_ev (d - 1) 107 [.inr (.inl (M 103 22)), .inr (.inl x1), .inr (.inl x2)] M (some (.inl r1)) M1 ∧ pu_str t M1 ∧ (r1 ≠ 0 → Q (some (.inl 1)) M1) ∧ (r1 = 0 → ∃ r2 M2, ab_ev (d - 1) 114 [.inr (.inr 103), .inl 2] M1 (some (.inl r2)) M2 ∧ pu_str t M2 ∧ (r2 = 0 → Q (some (.inl 0)) M2) ∧ (r2 ≠ 0 → Q (some (.inl 1)) M2)))) : ab_wp d 116 0 [some (.inr (.inr 103)), some (.inl x1), some (.inl x2)] [] M Q := by
  refine wp_sts 1 (pc' := 1) (ls' := [some (.inr (.inr 103)), some (.inl x1), some (.inl x2)]) (st' := [.inr (.inr 103)]) (M' := M) rfl ?_
  refine g_getI rfl hS rfl ?_
  refine wp_sts 1 (pc' := 5) (ls' := [some (.inr (.inr 103)), some (.inl x1), some (.inl x2)]) (st' := [.inl 2, .inl (M 103 21)]) (M' := M) rfl ?_
  refine c2_ne rfl (fun c => ?_) (fun c => ?_)
  · replace h := h.1 c
    refine wp_sts 2 (pc' := 41) (ls' := [some (.inr (.inr 103)), some (.inl x1), some (.inl x2)]) (st' := [.inl 1, .inr (.inr 103)]) (M' := M) rfl ?_
    obtain ⟨r1, M1, he, hS1, h⟩ := h
    refine g_callI (c := 114) (as := [.inr (.inr 103), .inl 1]) (rs := []) rfl rfl hS hd rfl he ?_
    exact g_retB rfl h.1 h.2
  · replace h := h.2 c
    refine wp_sts 1 (pc' := 9) (ls' := [some (.inr (.inr 103)), some (.inl x1), some (.inl x2)]) (st' := [.inr (.inr 103)]) (M' := M) rfl ?_
    refine g_getI rfl hS rfl ?_
    refine wp_sts 5 (pc' := 17) (ls' := [some (.inr (.inr 103)), some (.inl x1), some (.inl x2)]) (st' := [.inr (.inl x2), .inr (.inl x1), .inr (.inl (M 103 22))]) (M' := M) rfl ?_
    obtain ⟨r1, M1, he, hS1, h⟩ := h
    refine g_callI (c := 107) (as := [.inr (.inl (M 103 22)), .inr (.inl x1), .inr (.inl x2)]) (rs := []) rfl rfl hS hd rfl he ?_
    refine c1_ne rfl (fun c => ?_) (fun c => ?_)
    · replace h := h.1 c
      refine wp_sts 2 (pc' := 44) (ls' := [some (.inr (.inr 103)), some (.inl x1), some (.inl x2)]) (st' := [.inl 1]) (M' := M1) rfl ?_
      exact g_retB rfl (by decide) h
    · replace h := h.2 c
      refine wp_sts 2 (pc' := 25) (ls' := [some (.inr (.inr 103)), some (.inl x1), some (.inl x2)]) (st' := [.inl 2, .inr (.inr 103)]) (M' := M1) rfl ?_
      obtain ⟨r2, M2, he, hS2, h⟩ := h
      refine g_callI (c := 114) (as := [.inr (.inr 103), .inl 2]) (rs := []) rfl rfl hS1 hd rfl he ?_
      refine c1_eq rfl (fun c => ?_) (fun c => ?_)
      · replace h := h.1 c
        refine wp_sts 2 (pc' := 44) (ls' := [some (.inr (.inr 103)), some (.inl x1), some (.inl x2)]) (st' := [.inl 0]) (M' := M2) rfl ?_
        exact g_retB rfl (by decide) h
      · replace h := h.2 c
        refine wp_sts 2 (pc' := 44) (ls' := [some (.inr (.inr 103)), some (.inl x1), some (.inl x2)]) (st' := [.inl 1]) (M' := M2) rfl ?_
        exact g_retB rfl (by decide) h
/- Model.taken, at 0 -/
theorem b117_0 {d t : Nat}   {M : ab_M} {Q : Option ab_V → ab_M → Prop} (hd : 1 ≤ d) (hS : pu_str t M)  (h : ∃ M1, ab_ev (d - 1) 113 [.inr (.inr 103)] M none M1 ∧ pu_str t M1 ∧ Q (some (.inl (M 103 22))) M1) : ab_wp d 117 0 [some (.inr (.inr 103)), none] [] M Q := by
  refine wp_sts 1 (pc' := 1) (ls' := [some (.inr (.inr 103)), none]) (st' := [.inr (.inr 103)]) (M' := M) rfl ?_
  refine g_getI rfl hS rfl ?_
  refine wp_sts 2 (pc' := 6) (ls' := [some (.inr (.inr 103)), some (.inl (M 103 22))]) (st' := [.inr (.inr 103)]) (M' := M) rfl ?_
  obtain ⟨M1, he, hS1, h⟩ := h
  refine g_callV (c := 113) (as := [.inr (.inr 103)]) (rs := []) rfl rfl hS hd rfl he ?_
  refine wp_sts 1 (pc' := 10) (ls' := [some (.inr (.inr 103)), some (.inl (M 103 22))]) (st' := [.inl (M 103 22)]) (M' := M1) rfl ?_
  exact wp_ret rfl rfl (z := (some (.inl (M 103 22)), M1)) rfl h
/- Model.readWay, at 0 -/
set_option maxRecDepth 100000 in
theorem b118_0 {d t : Nat}   {M : ab_M} {Q : Option ab_V → ab_M → Prop} (hd : 1 ≤ d) (hS : pu_str t M)  (h : (M 103 28 ≠ 10 → ∃ M1, ab_ev (d - 1) 113 [.inr (.inr 103)] M none M1 ∧ pu_str t M1 ∧ ab_rg ((M1 103 25) - 1) ∧ ∃ r2 M2, ab_ev (d - 1) 116 [.inr (.inr 103), .inl 0, .inl ((M1 103 25) - 1)] M1 (some (.inl r2)) M2 ∧ pu_str t M2 ∧ (r2 ≠ 0 → ∃ r3 M3, ab_ev (d - 1) 117 [.inr (.inr 103)] M2 (some (.inl r3)) M3 ∧ pu_str t M3 ∧ ab_rg ((M3 103 25) - 1) ∧ ∃ r4 M4, ab_ev (d - 1) 116 [.inr (.inr 103), .inl 0, .inl ((M3 103 25) - 1)] M3 (some (.inl r4)) M4 ∧ pu_str t M4 ∧ (r4 = 0 → Q (some (.inl 0)) M4) ∧ (r4 ≠ 0 → (r3 = M4 103 22 → ∃ r5 M5, ab_ev (d - 1) 114 [.inr (.inr 103), .inl 4] M4 (some (.inl r5)) M5 ∧ pu_str t M5 ∧ (r5 ≠ 0 → ab_wp d 118 89 [some (.inr (.inr 103)), some (.inl r3), none] [] M5 Q) ∧ (r5 = 0 → Q (some (.inl 0)) M5)) ∧ (r3 ≠ M4 103 22 → ab_rg (7 * r3) ∧ ab_rg ((7 * r3) + (M4 103 22)) ∧ (0 ≤ (7 * r3) + (M4 103 22) ∧ (7 * r3) + (M4 103 22) < 49) ∧ (M4 115 ((7 * r3) + (M4 103 22)).toNat ≤ 0 → ab_wp d 118 89 [some (.inr (.inr 103)), some (.inl r3), none] [] M4 Q) ∧ (0 < M4 115 ((7 * r3) + (M4 103 22)).toNat → ∃ r5 M5, ab_ev (d - 1) 114 [.inr (.inr 103), .inl 4] M4 (some (.inl r5)) M5 ∧ pu_str t M5 ∧ (r5 ≠ 0 → ab_wp d 118 89 [some (.inr (.inr 103)), some (.inl r3), none] [] M5 Q) ∧ (r5 = 0 → Q (some (.inl 0)) M5))))) ∧ (r2 = 0 → Q (some (.inl 0)) M2)) ∧ (M 103 28 = 10 → ∃ r1 M1, ab_ev (d - 1) 114 [.inr (.inr 103), .inl 3] M (some (.inl r1)) M1 ∧ pu_str t M1 ∧ (r1 = 0 ∨ r1 = 1) ∧ Q (some (.inl r1)) M1)) : ab_wp d 118 0 [some (.inr (.inr 103)), none, none] [] M Q := by
  refine wp_sts 1 (pc' := 1) (ls' := [some (.inr (.inr 103)), none, none]) (st' := [.inr (.inr 103)]) (M' := M) rfl ?_
  refine g_getI rfl hS rfl ?_
  refine wp_sts 1 (pc' := 6) (ls' := [some (.inr (.inr 103)), none, none]) (st' := [.inl 10, .inl (M 103 28)]) (M' := M) rfl ?_
  refine c2_ne rfl (fun c => ?_) (fun c => ?_)
  · replace h := h.1 c
    refine wp_sts 1 (pc' := 16) (ls' := [some (.inr (.inr 103)), none, none]) (st' := [.inr (.inr 103)]) (M' := M) rfl ?_
    obtain ⟨M1, he, hS1, h⟩ := h
    refine g_callV (c := 113) (as := [.inr (.inr 103)]) (rs := []) rfl rfl hS hd rfl he ?_
    refine wp_sts 3 (pc' := 22) (ls' := [some (.inr (.inr 103)), none, none]) (st' := [.inr (.inr 103), .inl 0, .inr (.inr 103)]) (M' := M1) rfl ?_
    refine g_getI rfl hS1 rfl ?_
    refine wp_sts 1 (pc' := 26) (ls' := [some (.inr (.inr 103)), none, none]) (st' := [.inl 1, .inl (M1 103 25), .inl 0, .inr (.inr 103)]) (M' := M1) rfl ?_
    obtain ⟨hf1, h⟩ := h
    refine w_isub rfl hf1 ?_
    obtain ⟨r2, M2, he, hS2, h⟩ := h
    refine g_callI (c := 116) (as := [.inr (.inr 103), .inl 0, .inl ((M1 103 25) - 1)]) (rs := []) rfl rfl hS1 hd rfl he ?_
    refine c1_ne rfl (fun c => ?_) (fun c => ?_)
    · replace h := h.1 c
      refine wp_sts 1 (pc' := 36) (ls' := [some (.inr (.inr 103)), none, none]) (st' := [.inr (.inr 103)]) (M' := M2) rfl ?_
      obtain ⟨r3, M3, he, hS3, h⟩ := h
      refine g_callI (c := 117) (as := [.inr (.inr 103)]) (rs := []) rfl rfl hS2 hd rfl he ?_
      refine wp_sts 4 (pc' := 43) (ls' := [some (.inr (.inr 103)), some (.inl r3), none]) (st' := [.inr (.inr 103), .inl 0, .inr (.inr 103)]) (M' := M3) rfl ?_
      refine g_getI rfl hS3 rfl ?_
      refine wp_sts 1 (pc' := 47) (ls' := [some (.inr (.inr 103)), some (.inl r3), none]) (st' := [.inl 1, .inl (M3 103 25), .inl 0, .inr (.inr 103)]) (M' := M3) rfl ?_
      obtain ⟨hf2, h⟩ := h
      refine w_isub rfl hf2 ?_
      obtain ⟨r4, M4, he, hS4, h⟩ := h
      refine g_callI (c := 116) (as := [.inr (.inr 103), .inl 0, .inl ((M3 103 25) - 1)]) (rs := []) rfl rfl hS3 hd rfl he ?_
      refine c1_eq rfl (fun c => ?_) (fun c => ?_)
      · replace h := h.1 c
        refine wp_sts 1 (pc' := 88) (ls' := [some (.inr (.inr 103)), some (.inl r3), none]) (st' := [.inl 0]) (M' := M4) rfl ?_
        exact g_retB rfl (by decide) h
      · replace h := h.2 c
        refine wp_sts 2 (pc' := 56) (ls' := [some (.inr (.inr 103)), some (.inl r3), none]) (st' := [.inr (.inr 103), .inl r3]) (M' := M4) rfl ?_
        refine g_getI rfl hS4 rfl ?_
        refine c2_eq rfl (fun c => ?_) (fun c => ?_)
        · replace h := h.1 c
          refine wp_sts 2 (pc' := 81) (ls' := [some (.inr (.inr 103)), some (.inl r3), none]) (st' := [.inl 4, .inr (.inr 103)]) (M' := M4) rfl ?_
          obtain ⟨r5, M5, he, hS5, h⟩ := h
          refine g_callI (c := 114) (as := [.inr (.inr 103), .inl 4]) (rs := []) rfl rfl hS4 hd rfl he ?_
          refine c1_ne rfl (fun c => ?_) (fun c => ?_)
          · replace h := h.1 c
            exact h
          · replace h := h.2 c
            refine wp_sts 1 (pc' := 88) (ls' := [some (.inr (.inr 103)), some (.inl r3), none]) (st' := [.inl 0]) (M' := M5) rfl ?_
            exact g_retB rfl (by decide) h
        · replace h := h.2 c
          refine wp_sts 1 (pc' := 63) (ls' := [some (.inr (.inr 103)), some (.inl r3), none]) (st' := [.inr (.inr 103)]) (M' := M4) rfl ?_
          refine g_getR (j := 115) rfl hS4 rfl (str_r hS4 103 27 115 rfl) (by decide) ?_
          refine wp_sts 2 (pc' := 69) (ls' := [some (.inr (.inr 103)), some (.inl r3), none]) (st' := [.inl r3, .inl 7, .inr (.inr 115)]) (M' := M4) rfl ?_
          obtain ⟨hf3, h⟩ := h
          refine w_imul rfl hf3 ?_
          refine wp_sts 1 (pc' := 71) (ls' := [some (.inr (.inr 103)), some (.inl r3), none]) (st' := [.inr (.inr 103), .inl (7 * r3), .inr (.inr 115)]) (M' := M4) rfl ?_
          refine g_getI rfl hS4 rfl ?_
          obtain ⟨hf4, h⟩ := h
          refine w_iadd rfl hf4 ?_
          obtain ⟨hf5, h⟩ := h
          refine g_iald (n := 49) rfl hS4 rfl hf5 ?_
          refine c1_le rfl (fun c => ?_) (fun c => ?_)
          · replace h := h.1 c
            exact h
          · replace h := h.2 c
            refine wp_sts 2 (pc' := 81) (ls' := [some (.inr (.inr 103)), some (.inl r3), none]) (st' := [.inl 4, .inr (.inr 103)]) (M' := M4) rfl ?_
            obtain ⟨r5, M5, he, hS5, h⟩ := h
            refine g_callI (c := 114) (as := [.inr (.inr 103), .inl 4]) (rs := []) rfl rfl hS4 hd rfl he ?_
            refine c1_ne rfl (fun c => ?_) (fun c => ?_)
            · replace h := h.1 c
              exact h
            · replace h := h.2 c
              refine wp_sts 1 (pc' := 88) (ls' := [some (.inr (.inr 103)), some (.inl r3), none]) (st' := [.inl 0]) (M' := M5) rfl ?_
              exact g_retB rfl (by decide) h
    · replace h := h.2 c
      refine wp_sts 1 (pc' := 34) (ls' := [some (.inr (.inr 103)), none, none]) (st' := [.inl 0]) (M' := M2) rfl ?_
      exact g_retB rfl (by decide) h
  · replace h := h.2 c
    refine wp_sts 2 (pc' := 11) (ls' := [some (.inr (.inr 103)), none, none]) (st' := [.inl 3, .inr (.inr 103)]) (M' := M) rfl ?_
    obtain ⟨r1, M1, he, hS1, h⟩ := h
    refine g_callI (c := 114) (as := [.inr (.inr 103), .inl 3]) (rs := []) rfl rfl hS hd rfl he ?_
    exact g_retB rfl h.1 h.2
/- Model.readWay, at 89 -/
set_option maxRecDepth 100000 in
theorem b118_89 {d t : Nat}  {x1 : Int} {M : ab_M} {Q : Option ab_V → ab_M → Prop} (hd : 1 ≤ d) (hS : pu_str t M)  (h : ∃ r1 M1, ab_ev (d - 1) 117 [.inr (.inr 103)] M (some (.inl r1)) M1 ∧ pu_str t M1 ∧ ∃ r2 M2, ab_ev (d - 1) 116 [.inr (.inr 103), .inl 1, .inl 30] M1 (some (.inl r2)) M2 ∧ pu_str t M2 ∧ (r2 ≠ 0 → ab_rg (7 * x1) ∧ ab_rg ((7 * x1) + r1) ∧ (0 ≤ (7 * x1) + r1 ∧ (7 * x1) + r1 < 49) ∧ ab_rg (7 * r1) ∧ ab_rg ((7 * r1) + x1) ∧ ∃ r3 M3, ab_ev (d - 1) 117 [.inr (.inr 103)] (ab_w M2 115 ((7 * x1) + r1).toNat (M2 103 22)) (some (.inl r3)) M3 ∧ pu_str t M3 ∧ (0 ≤ (7 * r1) + x1 ∧ (7 * r1) + x1 < 49) ∧ ab_rg ((M3 103 28) + 1) ∧ ∃ r4 M4, ab_ev (d - 1) 115 [.inr (.inr 103), .inl 59] (ab_w (ab_w M3 115 ((7 * r1) + x1).toNat r3) 103 28 ((M3 103 28) + 1)) (some (.inl r4)) M4 ∧ pu_str t M4 ∧ (r4 = 0 ∨ r4 = 1) ∧ Q (some (.inl r4)) M4) ∧ (r2 = 0 → Q (some (.inl 0)) M2)) : ab_wp d 118 89 [some (.inr (.inr 103)), some (.inl x1), none] [] M Q := by
  refine wp_sts 1 (pc' := 90) (ls' := [some (.inr (.inr 103)), some (.inl x1), none]) (st' := [.inr (.inr 103)]) (M' := M) rfl ?_
  obtain ⟨r1, M1, he, hS1, h⟩ := h
  refine g_callI (c := 117) (as := [.inr (.inr 103)]) (rs := []) rfl rfl hS hd rfl he ?_
  refine wp_sts 4 (pc' := 98) (ls' := [some (.inr (.inr 103)), some (.inl x1), some (.inl r1)]) (st' := [.inl 30, .inl 1, .inr (.inr 103)]) (M' := M1) rfl ?_
  obtain ⟨r2, M2, he, hS2, h⟩ := h
  refine g_callI (c := 116) (as := [.inr (.inr 103), .inl 1, .inl 30]) (rs := []) rfl rfl hS1 hd rfl he ?_
  refine c1_ne rfl (fun c => ?_) (fun c => ?_)
  · replace h := h.1 c
    refine wp_sts 1 (pc' := 107) (ls' := [some (.inr (.inr 103)), some (.inl x1), some (.inl r1)]) (st' := [.inr (.inr 103)]) (M' := M2) rfl ?_
    refine g_getR (j := 115) rfl hS2 rfl (str_r hS2 103 27 115 rfl) (by decide) ?_
    refine wp_sts 2 (pc' := 113) (ls' := [some (.inr (.inr 103)), some (.inl x1), some (.inl r1)]) (st' := [.inl x1, .inl 7, .inr (.inr 115)]) (M' := M2) rfl ?_
    obtain ⟨hf1, h⟩ := h
    refine w_imul rfl hf1 ?_
    refine wp_sts 1 (pc' := 115) (ls' := [some (.inr (.inr 103)), some (.inl x1), some (.inl r1)]) (st' := [.inl r1, .inl (7 * x1), .inr (.inr 115)]) (M' := M2) rfl ?_
    obtain ⟨hf2, h⟩ := h
    refine w_iadd rfl hf2 ?_
    refine wp_sts 1 (pc' := 117) (ls' := [some (.inr (.inr 103)), some (.inl x1), some (.inl r1)]) (st' := [.inr (.inr 103), .inl ((7 * x1) + r1), .inr (.inr 115)]) (M' := M2) rfl ?_
    refine g_getI rfl hS2 rfl ?_
    obtain ⟨hf3, h⟩ := h
    refine g_iast (n := 49) rfl hS2 rfl hf3 ?_
    refine wp_sts 1 (pc' := 122) (ls' := [some (.inr (.inr 103)), some (.inl x1), some (.inl r1)]) (st' := [.inr (.inr 103)]) (M' := (ab_w M2 115 ((7 * x1) + r1).toNat (M2 103 22))) rfl ?_
    refine g_getR (j := 115) rfl (str_a (k := 115) (f := ((7 * x1) + r1).toNat) (v := M2 103 22) hS2 rfl) rfl (str_r (str_a (k := 115) (f := ((7 * x1) + r1).toNat) (v := M2 103 22) hS2 rfl) 103 27 115 rfl) (by decide) ?_
    refine wp_sts 2 (pc' := 128) (ls' := [some (.inr (.inr 103)), some (.inl x1), some (.inl r1)]) (st' := [.inl r1, .inl 7, .inr (.inr 115)]) (M' := (ab_w M2 115 ((7 * x1) + r1).toNat (M2 103 22))) rfl ?_
    obtain ⟨hf4, h⟩ := h
    refine w_imul rfl hf4 ?_
    refine wp_sts 1 (pc' := 130) (ls' := [some (.inr (.inr 103)), some (.inl x1), some (.inl r1)]) (st' := [.inl x1, .inl (7 * r1), .inr (.inr 115)]) (M' := (ab_w M2 115 ((7 * x1) + r1).toNat (M2 103 22))) rfl ?_
    obtain ⟨hf5, h⟩ := h
    refine w_iadd rfl hf5 ?_
    refine wp_sts 1 (pc' := 132) (ls' := [some (.inr (.inr 103)), some (.inl x1), some (.inl r1)]) (st' := [.inr (.inr 103), .inl ((7 * r1) + x1), .inr (.inr 115)]) (M' := (ab_w M2 115 ((7 * x1) + r1).toNat (M2 103 22))) rfl ?_
    obtain ⟨r3, M3, he, hS3, h⟩ := h
    refine g_callI (c := 117) (as := [.inr (.inr 103)]) (rs := [.inl ((7 * r1) + x1), .inr (.inr 115)]) rfl rfl (str_a (k := 115) (f := ((7 * x1) + r1).toNat) (v := M2 103 22) hS2 rfl) hd rfl he ?_
    obtain ⟨hf6, h⟩ := h
    refine g_iast (n := 49) rfl hS3 rfl hf6 ?_
    refine wp_sts 2 (pc' := 138) (ls' := [some (.inr (.inr 103)), some (.inl x1), some (.inl r1)]) (st' := [.inr (.inr 103), .inr (.inr 103)]) (M' := (ab_w M3 115 ((7 * r1) + x1).toNat r3)) rfl ?_
    refine g_getI rfl (str_a (k := 115) (f := ((7 * r1) + x1).toNat) (v := r3) hS3 rfl) rfl ?_
    refine wp_sts 1 (pc' := 142) (ls' := [some (.inr (.inr 103)), some (.inl x1), some (.inl r1)]) (st' := [.inl 1, .inl (M3 103 28), .inr (.inr 103)]) (M' := (ab_w M3 115 ((7 * r1) + x1).toNat r3)) rfl ?_
    obtain ⟨hf7, h⟩ := h
    refine w_iadd rfl hf7 ?_
    refine g_putI rfl (str_a (k := 115) (f := ((7 * r1) + x1).toNat) (v := r3) hS3 rfl) rfl ?_
    refine wp_sts 2 (pc' := 149) (ls' := [some (.inr (.inr 103)), some (.inl x1), some (.inl r1)]) (st' := [.inl 59, .inr (.inr 103)]) (M' := (ab_w (ab_w M3 115 ((7 * r1) + x1).toNat r3) 103 28 ((M3 103 28) + 1))) rfl ?_
    obtain ⟨r4, M4, he, hS4, h⟩ := h
    refine g_callI (c := 115) (as := [.inr (.inr 103), .inl 59]) (rs := []) rfl rfl (str_w (k := 103) (f := 28) (v := (M3 103 28) + 1) (str_a (k := 115) (f := ((7 * r1) + x1).toNat) (v := r3) hS3 rfl) rfl) hd rfl he ?_
    exact g_retB rfl h.1 h.2
  · replace h := h.2 c
    refine wp_sts 1 (pc' := 105) (ls' := [some (.inr (.inr 103)), some (.inl x1), some (.inl r1)]) (st' := [.inl 0]) (M' := M2) rfl ?_
    exact g_retB rfl (by decide) h
/- Model.readPerson, at 0 -/
theorem b119_0 {d t : Nat}   {M : ab_M} {Q : Option ab_V → ab_M → Prop} (hd : 1 ≤ d) (hS : pu_str t M)  (h : (M 103 30 ≠ 6 → ∃ M1, ab_ev (d - 1) 113 [.inr (.inr 103)] M none M1 ∧ pu_str t M1 ∧ ab_rg ((M1 103 25) - 1) ∧ ∃ r2 M2, ab_ev (d - 1) 116 [.inr (.inr 103), .inl 0, .inl ((M1 103 25) - 1)] M1 (some (.inl r2)) M2 ∧ pu_str t M2 ∧ (r2 ≠ 0 → ab_rg (2 * (M2 103 30)) ∧ ∃ r3 M3, ab_ev (d - 1) 117 [.inr (.inr 103)] M2 (some (.inl r3)) M3 ∧ pu_str t M3 ∧ (0 ≤ 2 * (M2 103 30) ∧ 2 * (M2 103 30) < 12) ∧ ∃ r4 M4, ab_ev (d - 1) 116 [.inr (.inr 103), .inl 0, .inl 99] (ab_w M3 116 (2 * (M2 103 30)).toNat r3) (some (.inl r4)) M4 ∧ pu_str t M4 ∧ (r4 ≠ 0 → ab_rg (2 * (M4 103 30)) ∧ ab_rg ((2 * (M4 103 30)) + 1) ∧ ∃ r5 M5, ab_ev (d - 1) 117 [.inr (.inr 103)] M4 (some (.inl r5)) M5 ∧ pu_str t M5 ∧ (0 ≤ (2 * (M4 103 30)) + 1 ∧ (2 * (M4 103 30)) + 1 < 12) ∧ ab_rg ((M5 103 30) + 1) ∧ ∃ r6 M6, ab_ev (d - 1) 115 [.inr (.inr 103), .inl 59] (ab_w (ab_w M5 116 ((2 * (M4 103 30)) + 1).toNat r5) 103 30 ((M5 103 30) + 1)) (some (.inl r6)) M6 ∧ pu_str t M6 ∧ (r6 = 0 ∨ r6 = 1) ∧ Q (some (.inl r6)) M6) ∧ (r4 = 0 → Q (some (.inl 0)) M4)) ∧ (r2 = 0 → Q (some (.inl 0)) M2)) ∧ (M 103 30 = 6 → ∃ r1 M1, ab_ev (d - 1) 114 [.inr (.inr 103), .inl 3] M (some (.inl r1)) M1 ∧ pu_str t M1 ∧ (r1 = 0 ∨ r1 = 1) ∧ Q (some (.inl r1)) M1)) : ab_wp d 119 0 [some (.inr (.inr 103))] [] M Q := by
  refine wp_sts 1 (pc' := 1) (ls' := [some (.inr (.inr 103))]) (st' := [.inr (.inr 103)]) (M' := M) rfl ?_
  refine g_getI rfl hS rfl ?_
  refine wp_sts 1 (pc' := 6) (ls' := [some (.inr (.inr 103))]) (st' := [.inl 6, .inl (M 103 30)]) (M' := M) rfl ?_
  refine c2_ne rfl (fun c => ?_) (fun c => ?_)
  · replace h := h.1 c
    refine wp_sts 1 (pc' := 16) (ls' := [some (.inr (.inr 103))]) (st' := [.inr (.inr 103)]) (M' := M) rfl ?_
    obtain ⟨M1, he, hS1, h⟩ := h
    refine g_callV (c := 113) (as := [.inr (.inr 103)]) (rs := []) rfl rfl hS hd rfl he ?_
    refine wp_sts 3 (pc' := 22) (ls' := [some (.inr (.inr 103))]) (st' := [.inr (.inr 103), .inl 0, .inr (.inr 103)]) (M' := M1) rfl ?_
    refine g_getI rfl hS1 rfl ?_
    refine wp_sts 1 (pc' := 26) (ls' := [some (.inr (.inr 103))]) (st' := [.inl 1, .inl (M1 103 25), .inl 0, .inr (.inr 103)]) (M' := M1) rfl ?_
    obtain ⟨hf1, h⟩ := h
    refine w_isub rfl hf1 ?_
    obtain ⟨r2, M2, he, hS2, h⟩ := h
    refine g_callI (c := 116) (as := [.inr (.inr 103), .inl 0, .inl ((M1 103 25) - 1)]) (rs := []) rfl rfl hS1 hd rfl he ?_
    refine c1_ne rfl (fun c => ?_) (fun c => ?_)
    · replace h := h.1 c
      refine wp_sts 1 (pc' := 36) (ls' := [some (.inr (.inr 103))]) (st' := [.inr (.inr 103)]) (M' := M2) rfl ?_
      refine g_getR (j := 116) rfl hS2 rfl (str_r hS2 103 29 116 rfl) (by decide) ?_
      refine wp_sts 2 (pc' := 41) (ls' := [some (.inr (.inr 103))]) (st' := [.inr (.inr 103), .inl 2, .inr (.inr 116)]) (M' := M2) rfl ?_
      refine g_getI rfl hS2 rfl ?_
      obtain ⟨hf2, h⟩ := h
      refine w_imul rfl hf2 ?_
      refine wp_sts 1 (pc' := 46) (ls' := [some (.inr (.inr 103))]) (st' := [.inr (.inr 103), .inl (2 * (M2 103 30)), .inr (.inr 116)]) (M' := M2) rfl ?_
      obtain ⟨r3, M3, he, hS3, h⟩ := h
      refine g_callI (c := 117) (as := [.inr (.inr 103)]) (rs := [.inl (2 * (M2 103 30)), .inr (.inr 116)]) rfl rfl hS2 hd rfl he ?_
      obtain ⟨hf3, h⟩ := h
      refine g_iast (n := 12) rfl hS3 rfl hf3 ?_
      refine wp_sts 3 (pc' := 54) (ls' := [some (.inr (.inr 103))]) (st' := [.inl 99, .inl 0, .inr (.inr 103)]) (M' := (ab_w M3 116 (2 * (M2 103 30)).toNat r3)) rfl ?_
      obtain ⟨r4, M4, he, hS4, h⟩ := h
      refine g_callI (c := 116) (as := [.inr (.inr 103), .inl 0, .inl 99]) (rs := []) rfl rfl (str_a (k := 116) (f := (2 * (M2 103 30)).toNat) (v := r3) hS3 rfl) hd rfl he ?_
      refine c1_ne rfl (fun c => ?_) (fun c => ?_)
      · replace h := h.1 c
        refine wp_sts 1 (pc' := 63) (ls' := [some (.inr (.inr 103))]) (st' := [.inr (.inr 103)]) (M' := M4) rfl ?_
        refine g_getR (j := 116) rfl hS4 rfl (str_r hS4 103 29 116 rfl) (by decide) ?_
        refine wp_sts 2 (pc' := 68) (ls' := [some (.inr (.inr 103))]) (st' := [.inr (.inr 103), .inl 2, .inr (.inr 116)]) (M' := M4) rfl ?_
        refine g_getI rfl hS4 rfl ?_
        obtain ⟨hf4, h⟩ := h
        refine w_imul rfl hf4 ?_
        refine wp_sts 1 (pc' := 73) (ls' := [some (.inr (.inr 103))]) (st' := [.inl 1, .inl (2 * (M4 103 30)), .inr (.inr 116)]) (M' := M4) rfl ?_
        obtain ⟨hf5, h⟩ := h
        refine w_iadd rfl hf5 ?_
        refine wp_sts 1 (pc' := 75) (ls' := [some (.inr (.inr 103))]) (st' := [.inr (.inr 103), .inl ((2 * (M4 103 30)) + 1), .inr (.inr 116)]) (M' := M4) rfl ?_
        obtain ⟨r5, M5, he, hS5, h⟩ := h
        refine g_callI (c := 117) (as := [.inr (.inr 103)]) (rs := [.inl ((2 * (M4 103 30)) + 1), .inr (.inr 116)]) rfl rfl hS4 hd rfl he ?_
        obtain ⟨hf6, h⟩ := h
        refine g_iast (n := 12) rfl hS5 rfl hf6 ?_
        refine wp_sts 2 (pc' := 81) (ls' := [some (.inr (.inr 103))]) (st' := [.inr (.inr 103), .inr (.inr 103)]) (M' := (ab_w M5 116 ((2 * (M4 103 30)) + 1).toNat r5)) rfl ?_
        refine g_getI rfl (str_a (k := 116) (f := ((2 * (M4 103 30)) + 1).toNat) (v := r5) hS5 rfl) rfl ?_
        refine wp_sts 1 (pc' := 85) (ls' := [some (.inr (.inr 103))]) (st' := [.inl 1, .inl (M5 103 30), .inr (.inr 103)]) (M' := (ab_w M5 116 ((2 * (M4 103 30)) + 1).toNat r5)) rfl ?_
        obtain ⟨hf7, h⟩ := h
        refine w_iadd rfl hf7 ?_
        refine g_putI rfl (str_a (k := 116) (f := ((2 * (M4 103 30)) + 1).toNat) (v := r5) hS5 rfl) rfl ?_
        refine wp_sts 2 (pc' := 92) (ls' := [some (.inr (.inr 103))]) (st' := [.inl 59, .inr (.inr 103)]) (M' := (ab_w (ab_w M5 116 ((2 * (M4 103 30)) + 1).toNat r5) 103 30 ((M5 103 30) + 1))) rfl ?_
        obtain ⟨r6, M6, he, hS6, h⟩ := h
        refine g_callI (c := 115) (as := [.inr (.inr 103), .inl 59]) (rs := []) rfl rfl (str_w (k := 103) (f := 30) (v := (M5 103 30) + 1) (str_a (k := 116) (f := ((2 * (M4 103 30)) + 1).toNat) (v := r5) hS5 rfl) rfl) hd rfl he ?_
        exact g_retB rfl h.1 h.2
      · replace h := h.2 c
        refine wp_sts 1 (pc' := 61) (ls' := [some (.inr (.inr 103))]) (st' := [.inl 0]) (M' := M4) rfl ?_
        exact g_retB rfl (by decide) h
    · replace h := h.2 c
      refine wp_sts 1 (pc' := 34) (ls' := [some (.inr (.inr 103))]) (st' := [.inl 0]) (M' := M2) rfl ?_
      exact g_retB rfl (by decide) h
  · replace h := h.2 c
    refine wp_sts 2 (pc' := 11) (ls' := [some (.inr (.inr 103))]) (st' := [.inl 3, .inr (.inr 103)]) (M' := M) rfl ?_
    obtain ⟨r1, M1, he, hS1, h⟩ := h
    refine g_callI (c := 114) (as := [.inr (.inr 103), .inl 3]) (rs := []) rfl rfl hS hd rfl he ?_
    exact g_retB rfl h.1 h.2
/- Model.readDeed, at 0 -/
set_option maxRecDepth 100000 in
theorem b120_0 {d t : Nat}   {M : ab_M} {Q : Option ab_V → ab_M → Prop} (hd : 1 ≤ d) (hS : pu_str t M)  (h : (M 103 32 ≠ 6 → ∃ M1, ab_ev (d - 1) 113 [.inr (.inr 103)] M none M1 ∧ pu_str t M1 ∧ ab_wp d 120 21 [some (.inr (.inr 103)), some (.inl 0), none, none] [] M1 Q) ∧ (M 103 32 = 6 → ∃ r1 M1, ab_ev (d - 1) 114 [.inr (.inr 103), .inl 3] M (some (.inl r1)) M1 ∧ pu_str t M1 ∧ (r1 = 0 ∨ r1 = 1) ∧ Q (some (.inl r1)) M1)) : ab_wp d 120 0 [some (.inr (.inr 103)), none, none, none] [] M Q := by
  refine wp_sts 1 (pc' := 1) (ls' := [some (.inr (.inr 103)), none, none, none]) (st' := [.inr (.inr 103)]) (M' := M) rfl ?_
  refine g_getI rfl hS rfl ?_
  refine wp_sts 1 (pc' := 6) (ls' := [some (.inr (.inr 103)), none, none, none]) (st' := [.inl 6, .inl (M 103 32)]) (M' := M) rfl ?_
  refine c2_ne rfl (fun c => ?_) (fun c => ?_)
  · replace h := h.1 c
    refine wp_sts 1 (pc' := 16) (ls' := [some (.inr (.inr 103)), none, none, none]) (st' := [.inr (.inr 103)]) (M' := M) rfl ?_
    obtain ⟨M1, he, hS1, h⟩ := h
    refine g_callV (c := 113) (as := [.inr (.inr 103)]) (rs := []) rfl rfl hS hd rfl he ?_
    refine wp_sts 2 (pc' := 21) (ls' := [some (.inr (.inr 103)), some (.inl 0), none, none]) (st' := []) (M' := M1) rfl ?_
    exact h
  · replace h := h.2 c
    refine wp_sts 2 (pc' := 11) (ls' := [some (.inr (.inr 103)), none, none, none]) (st' := [.inl 3, .inr (.inr 103)]) (M' := M) rfl ?_
    obtain ⟨r1, M1, he, hS1, h⟩ := h
    refine g_callI (c := 114) (as := [.inr (.inr 103), .inl 3]) (rs := []) rfl rfl hS hd rfl he ?_
    exact g_retB rfl h.1 h.2
/- Model.readDeed, at 21 -/
set_option maxRecDepth 100000 in
theorem b120_21 {d t : Nat}  {x1 : Int} {y2 : Option ab_V} {y3 : Option ab_V} {M : ab_M} {Q : Option ab_V → ab_M → Prop} (hd : 1 ≤ d) (hS : pu_str t M)  (h : (4 ≤ x1 → ab_rg (5 * (M 103 32)) ∧ ab_rg ((5 * (M 103 32)) + 4) ∧ (0 ≤ (5 * (M 103 32)) + 4 ∧ (5 * (M 103 32)) + 4 < 30) ∧ ab_rg ((M 103 32) + 1) ∧ ∃ r1 M1, ab_ev (d - 1) 115 [.inr (.inr 103), .inl 59] (ab_w (ab_w M 117 ((5 * (M 103 32)) + 4).toNat ((-1))) 103 32 ((M 103 32) + 1)) (some (.inl r1)) M1 ∧ pu_str t M1 ∧ (r1 = 0 ∨ r1 = 1) ∧ Q (some (.inl r1)) M1) ∧ (x1 < 4 → (x1 = 1 → ab_wp d 120 41 [some (.inr (.inr 103)), some (.inl x1), y2, y3] [.inl 1] M Q) ∧ (x1 ≠ 1 → (x1 ≠ 2 → ab_wp d 120 41 [some (.inr (.inr 103)), some (.inl x1), y2, y3] [.inl 0] M Q) ∧ (x1 = 2 → ab_wp d 120 41 [some (.inr (.inr 103)), some (.inl x1), y2, y3] [.inl 1] M Q)))) : ab_wp d 120 21 [some (.inr (.inr 103)), some (.inl x1), y2, y3] [] M Q := by
  refine wp_sts 2 (pc' := 23) (ls' := [some (.inr (.inr 103)), some (.inl x1), y2, y3]) (st' := [.inl 4, .inl x1]) (M' := M) rfl ?_
  refine c2_ge rfl (fun c => ?_) (fun c => ?_)
  · replace h := h.1 c
    refine wp_sts 1 (pc' := 114) (ls' := [some (.inr (.inr 103)), some (.inl x1), y2, y3]) (st' := [.inr (.inr 103)]) (M' := M) rfl ?_
    refine g_getR (j := 117) rfl hS rfl (str_r hS 103 31 117 rfl) (by decide) ?_
    refine wp_sts 2 (pc' := 119) (ls' := [some (.inr (.inr 103)), some (.inl x1), y2, y3]) (st' := [.inr (.inr 103), .inl 5, .inr (.inr 117)]) (M' := M) rfl ?_
    refine g_getI rfl hS rfl ?_
    obtain ⟨hf1, h⟩ := h
    refine w_imul rfl hf1 ?_
    refine wp_sts 1 (pc' := 124) (ls' := [some (.inr (.inr 103)), some (.inl x1), y2, y3]) (st' := [.inl 4, .inl (5 * (M 103 32)), .inr (.inr 117)]) (M' := M) rfl ?_
    obtain ⟨hf2, h⟩ := h
    refine w_iadd rfl hf2 ?_
    refine wp_sts 1 (pc' := 126) (ls' := [some (.inr (.inr 103)), some (.inl x1), y2, y3]) (st' := [.inl ((-1)), .inl ((5 * (M 103 32)) + 4), .inr (.inr 117)]) (M' := M) rfl ?_
    obtain ⟨hf3, h⟩ := h
    refine g_iast (n := 30) rfl hS rfl hf3 ?_
    refine wp_sts 2 (pc' := 129) (ls' := [some (.inr (.inr 103)), some (.inl x1), y2, y3]) (st' := [.inr (.inr 103), .inr (.inr 103)]) (M' := (ab_w M 117 ((5 * (M 103 32)) + 4).toNat ((-1)))) rfl ?_
    refine g_getI rfl (str_a (k := 117) (f := ((5 * (M 103 32)) + 4).toNat) (v := (-1)) hS rfl) rfl ?_
    refine wp_sts 1 (pc' := 133) (ls' := [some (.inr (.inr 103)), some (.inl x1), y2, y3]) (st' := [.inl 1, .inl (M 103 32), .inr (.inr 103)]) (M' := (ab_w M 117 ((5 * (M 103 32)) + 4).toNat ((-1)))) rfl ?_
    obtain ⟨hf4, h⟩ := h
    refine w_iadd rfl hf4 ?_
    refine g_putI rfl (str_a (k := 117) (f := ((5 * (M 103 32)) + 4).toNat) (v := (-1)) hS rfl) rfl ?_
    refine wp_sts 2 (pc' := 140) (ls' := [some (.inr (.inr 103)), some (.inl x1), y2, y3]) (st' := [.inl 59, .inr (.inr 103)]) (M' := (ab_w (ab_w M 117 ((5 * (M 103 32)) + 4).toNat ((-1))) 103 32 ((M 103 32) + 1))) rfl ?_
    obtain ⟨r1, M1, he, hS1, h⟩ := h
    refine g_callI (c := 115) (as := [.inr (.inr 103), .inl 59]) (rs := []) rfl rfl (str_w (k := 103) (f := 32) (v := (M 103 32) + 1) (str_a (k := 117) (f := ((5 * (M 103 32)) + 4).toNat) (v := (-1)) hS rfl) rfl) hd rfl he ?_
    exact g_retB rfl h.1 h.2
  · replace h := h.2 c
    refine wp_sts 2 (pc' := 28) (ls' := [some (.inr (.inr 103)), some (.inl x1), y2, y3]) (st' := [.inl 1, .inl x1]) (M' := M) rfl ?_
    refine c2_eq rfl (fun c => ?_) (fun c => ?_)
    · replace h := h.1 c
      refine wp_sts 2 (pc' := 41) (ls' := [some (.inr (.inr 103)), some (.inl x1), y2, y3]) (st' := [.inl 1]) (M' := M) rfl ?_
      exact h
    · replace h := h.2 c
      refine wp_sts 2 (pc' := 33) (ls' := [some (.inr (.inr 103)), some (.inl x1), y2, y3]) (st' := [.inl 2, .inl x1]) (M' := M) rfl ?_
      refine c2_ne rfl (fun c => ?_) (fun c => ?_)
      · replace h := h.1 c
        refine wp_sts 1 (pc' := 41) (ls' := [some (.inr (.inr 103)), some (.inl x1), y2, y3]) (st' := [.inl 0]) (M' := M) rfl ?_
        exact h
      · replace h := h.2 c
        refine wp_sts 2 (pc' := 41) (ls' := [some (.inr (.inr 103)), some (.inl x1), y2, y3]) (st' := [.inl 1]) (M' := M) rfl ?_
        exact h
/- Model.readDeed, at 41 -/
set_option maxRecDepth 100000 in
theorem b120_41 {d t : Nat}  {x1 : Int} {y2 : Option ab_V} {y3 : Option ab_V} {x100 : Int} {M : ab_M} {Q : Option ab_V → ab_M → Prop} (hd : 1 ≤ d) (hS : pu_str t M)  (h : (x1 ≠ 0 → (x1 ≠ 1 → (x1 ≠ 2 → ab_wp d 120 78 [some (.inr (.inr 103)), some (.inl x1), some (.inl x100), y3] [.inl 99] M Q) ∧ (x1 = 2 → ab_wp d 120 78 [some (.inr (.inr 103)), some (.inl x1), some (.inl x100), y3] [.inl 999] M Q)) ∧ (x1 = 1 → ab_wp d 120 78 [some (.inr (.inr 103)), some (.inl x1), some (.inl x100), y3] [.inl 30] M Q)) ∧ (x1 = 0 → ab_rg ((M 103 30) - 1) ∧ ab_wp d 120 78 [some (.inr (.inr 103)), some (.inl x1), some (.inl x100), y3] [.inl ((M 103 30) - 1)] M Q)) : ab_wp d 120 41 [some (.inr (.inr 103)), some (.inl x1), y2, y3] [.inl x100] M Q := by
  refine wp_sts 2 (pc' := 43) (ls' := [some (.inr (.inr 103)), some (.inl x1), some (.inl x100), y3]) (st' := [.inl x1]) (M' := M) rfl ?_
  refine c1_ne rfl (fun c => ?_) (fun c => ?_)
  · replace h := h.1 c
    refine wp_sts 2 (pc' := 57) (ls' := [some (.inr (.inr 103)), some (.inl x1), some (.inl x100), y3]) (st' := [.inl 1, .inl x1]) (M' := M) rfl ?_
    refine c2_ne rfl (fun c => ?_) (fun c => ?_)
    · replace h := h.1 c
      refine wp_sts 2 (pc' := 67) (ls' := [some (.inr (.inr 103)), some (.inl x1), some (.inl x100), y3]) (st' := [.inl 2, .inl x1]) (M' := M) rfl ?_
      refine c2_ne rfl (fun c => ?_) (fun c => ?_)
      · replace h := h.1 c
        refine wp_sts 1 (pc' := 78) (ls' := [some (.inr (.inr 103)), some (.inl x1), some (.inl x100), y3]) (st' := [.inl 99]) (M' := M) rfl ?_
        exact h
      · replace h := h.2 c
        refine wp_sts 2 (pc' := 78) (ls' := [some (.inr (.inr 103)), some (.inl x1), some (.inl x100), y3]) (st' := [.inl 999]) (M' := M) rfl ?_
        exact h
    · replace h := h.2 c
      refine wp_sts 2 (pc' := 78) (ls' := [some (.inr (.inr 103)), some (.inl x1), some (.inl x100), y3]) (st' := [.inl 30]) (M' := M) rfl ?_
      exact h
  · replace h := h.2 c
    refine wp_sts 1 (pc' := 47) (ls' := [some (.inr (.inr 103)), some (.inl x1), some (.inl x100), y3]) (st' := [.inr (.inr 103)]) (M' := M) rfl ?_
    refine g_getI rfl hS rfl ?_
    refine wp_sts 1 (pc' := 51) (ls' := [some (.inr (.inr 103)), some (.inl x1), some (.inl x100), y3]) (st' := [.inl 1, .inl (M 103 30)]) (M' := M) rfl ?_
    obtain ⟨hf1, h⟩ := h
    refine w_isub rfl hf1 ?_
    refine wp_sts 1 (pc' := 78) (ls' := [some (.inr (.inr 103)), some (.inl x1), some (.inl x100), y3]) (st' := [.inl ((M 103 30) - 1)]) (M' := M) rfl ?_
    exact h
/- Model.readDeed, at 78 -/
set_option maxRecDepth 100000 in
theorem b120_78 {d t : Nat}  {x1 : Int} {x2 : Int} {y3 : Option ab_V} {x100 : Int} {M : ab_M} {Q : Option ab_V → ab_M → Prop} (hd : 1 ≤ d) (hS : pu_str t M)  (h : ∃ r1 M1, ab_ev (d - 1) 116 [.inr (.inr 103), .inl x2, .inl x100] M (some (.inl r1)) M1 ∧ pu_str t M1 ∧ (r1 ≠ 0 → ab_rg (5 * (M1 103 32)) ∧ ab_rg ((5 * (M1 103 32)) + x1) ∧ ∃ r2 M2, ab_ev (d - 1) 117 [.inr (.inr 103)] M1 (some (.inl r2)) M2 ∧ pu_str t M2 ∧ (0 ≤ (5 * (M1 103 32)) + x1 ∧ (5 * (M1 103 32)) + x1 < 30) ∧ ab_rg (x1 + 1) ∧ ab_wp d 120 21 [some (.inr (.inr 103)), some (.inl (x1 + 1)), some (.inl x2), some (.inl x100)] [] (ab_w M2 117 ((5 * (M1 103 32)) + x1).toNat r2) Q) ∧ (r1 = 0 → Q (some (.inl 0)) M1)) : ab_wp d 120 78 [some (.inr (.inr 103)), some (.inl x1), some (.inl x2), y3] [.inl x100] M Q := by
  refine wp_sts 4 (pc' := 82) (ls' := [some (.inr (.inr 103)), some (.inl x1), some (.inl x2), some (.inl x100)]) (st' := [.inl x100, .inl x2, .inr (.inr 103)]) (M' := M) rfl ?_
  obtain ⟨r1, M1, he, hS1, h⟩ := h
  refine g_callI (c := 116) (as := [.inr (.inr 103), .inl x2, .inl x100]) (rs := []) rfl rfl hS hd rfl he ?_
  refine c1_ne rfl (fun c => ?_) (fun c => ?_)
  · replace h := h.1 c
    refine wp_sts 1 (pc' := 91) (ls' := [some (.inr (.inr 103)), some (.inl x1), some (.inl x2), some (.inl x100)]) (st' := [.inr (.inr 103)]) (M' := M1) rfl ?_
    refine g_getR (j := 117) rfl hS1 rfl (str_r hS1 103 31 117 rfl) (by decide) ?_
    refine wp_sts 2 (pc' := 96) (ls' := [some (.inr (.inr 103)), some (.inl x1), some (.inl x2), some (.inl x100)]) (st' := [.inr (.inr 103), .inl 5, .inr (.inr 117)]) (M' := M1) rfl ?_
    refine g_getI rfl hS1 rfl ?_
    obtain ⟨hf1, h⟩ := h
    refine w_imul rfl hf1 ?_
    refine wp_sts 1 (pc' := 101) (ls' := [some (.inr (.inr 103)), some (.inl x1), some (.inl x2), some (.inl x100)]) (st' := [.inl x1, .inl (5 * (M1 103 32)), .inr (.inr 117)]) (M' := M1) rfl ?_
    obtain ⟨hf2, h⟩ := h
    refine w_iadd rfl hf2 ?_
    refine wp_sts 1 (pc' := 103) (ls' := [some (.inr (.inr 103)), some (.inl x1), some (.inl x2), some (.inl x100)]) (st' := [.inr (.inr 103), .inl ((5 * (M1 103 32)) + x1), .inr (.inr 117)]) (M' := M1) rfl ?_
    obtain ⟨r2, M2, he, hS2, h⟩ := h
    refine g_callI (c := 117) (as := [.inr (.inr 103)]) (rs := [.inl ((5 * (M1 103 32)) + x1), .inr (.inr 117)]) rfl rfl hS1 hd rfl he ?_
    obtain ⟨hf3, h⟩ := h
    refine g_iast (n := 30) rfl hS2 rfl hf3 ?_
    obtain ⟨hf4, h⟩ := h
    refine w_iinc rfl rfl hf4 ?_
    refine wp_sts 1 (pc' := 21) (ls' := [some (.inr (.inr 103)), some (.inl (x1 + 1)), some (.inl x2), some (.inl x100)]) (st' := []) (M' := (ab_w M2 117 ((5 * (M1 103 32)) + x1).toNat r2)) rfl ?_
    exact h
  · replace h := h.2 c
    refine wp_sts 1 (pc' := 89) (ls' := [some (.inr (.inr 103)), some (.inl x1), some (.inl x2), some (.inl x100)]) (st' := [.inl 0]) (M' := M1) rfl ?_
    exact g_retB rfl (by decide) h
/- Model.readReword, at 0 -/
theorem b121_0 {d t : Nat}   {M : ab_M} {Q : Option ab_V → ab_M → Prop} (hd : 1 ≤ d) (hS : pu_str t M)  (h : ∃ M1, ab_ev (d - 1) 113 [.inr (.inr 103)] M none M1 ∧ pu_str t M1 ∧ ab_rg ((M1 103 32) - 1) ∧ ∃ r2 M2, ab_ev (d - 1) 116 [.inr (.inr 103), .inl 0, .inl ((M1 103 32) - 1)] M1 (some (.inl r2)) M2 ∧ pu_str t M2 ∧ (r2 = 0 → Q (some (.inl 0)) M2) ∧ (r2 ≠ 0 → ab_rg (5 * (M2 103 22)) ∧ ab_rg ((5 * (M2 103 22)) + 4) ∧ (0 ≤ (5 * (M2 103 22)) + 4 ∧ (5 * (M2 103 22)) + 4 < 30) ∧ (M2 117 ((5 * (M2 103 22)) + 4).toNat < 0 → ∃ r3 M3, ab_ev (d - 1) 117 [.inr (.inr 103)] M2 (some (.inl r3)) M3 ∧ pu_str t M3 ∧ ∃ r4 M4, ab_ev (d - 1) 116 [.inr (.inr 103), .inl 0, .inl 99] M3 (some (.inl r4)) M4 ∧ pu_str t M4 ∧ (r4 ≠ 0 → ab_rg (5 * r3) ∧ ab_rg ((5 * r3) + 4) ∧ ∃ r5 M5, ab_ev (d - 1) 117 [.inr (.inr 103)] M4 (some (.inl r5)) M5 ∧ pu_str t M5 ∧ (0 ≤ (5 * r3) + 4 ∧ (5 * r3) + 4 < 30) ∧ ∃ r6 M6, ab_ev (d - 1) 115 [.inr (.inr 103), .inl 59] (ab_w M5 117 ((5 * r3) + 4).toNat r5) (some (.inl r6)) M6 ∧ pu_str t M6 ∧ (r6 = 0 ∨ r6 = 1) ∧ Q (some (.inl r6)) M6) ∧ (r4 = 0 → Q (some (.inl 0)) M4)) ∧ (0 ≤ M2 117 ((5 * (M2 103 22)) + 4).toNat → ∃ r3 M3, ab_ev (d - 1) 114 [.inr (.inr 103), .inl 4] M2 (some (.inl r3)) M3 ∧ pu_str t M3 ∧ (r3 ≠ 0 → ∃ r4 M4, ab_ev (d - 1) 117 [.inr (.inr 103)] M3 (some (.inl r4)) M4 ∧ pu_str t M4 ∧ ∃ r5 M5, ab_ev (d - 1) 116 [.inr (.inr 103), .inl 0, .inl 99] M4 (some (.inl r5)) M5 ∧ pu_str t M5 ∧ (r5 ≠ 0 → ab_rg (5 * r4) ∧ ab_rg ((5 * r4) + 4) ∧ ∃ r6 M6, ab_ev (d - 1) 117 [.inr (.inr 103)] M5 (some (.inl r6)) M6 ∧ pu_str t M6 ∧ (0 ≤ (5 * r4) + 4 ∧ (5 * r4) + 4 < 30) ∧ ∃ r7 M7, ab_ev (d - 1) 115 [.inr (.inr 103), .inl 59] (ab_w M6 117 ((5 * r4) + 4).toNat r6) (some (.inl r7)) M7 ∧ pu_str t M7 ∧ (r7 = 0 ∨ r7 = 1) ∧ Q (some (.inl r7)) M7) ∧ (r5 = 0 → Q (some (.inl 0)) M5)) ∧ (r3 = 0 → Q (some (.inl 0)) M3)))) : ab_wp d 121 0 [some (.inr (.inr 103)), none] [] M Q := by
  refine wp_sts 1 (pc' := 1) (ls' := [some (.inr (.inr 103)), none]) (st' := [.inr (.inr 103)]) (M' := M) rfl ?_
  obtain ⟨M1, he, hS1, h⟩ := h
  refine g_callV (c := 113) (as := [.inr (.inr 103)]) (rs := []) rfl rfl hS hd rfl he ?_
  refine wp_sts 3 (pc' := 7) (ls' := [some (.inr (.inr 103)), none]) (st' := [.inr (.inr 103), .inl 0, .inr (.inr 103)]) (M' := M1) rfl ?_
  refine g_getI rfl hS1 rfl ?_
  refine wp_sts 1 (pc' := 11) (ls' := [some (.inr (.inr 103)), none]) (st' := [.inl 1, .inl (M1 103 32), .inl 0, .inr (.inr 103)]) (M' := M1) rfl ?_
  obtain ⟨hf1, h⟩ := h
  refine w_isub rfl hf1 ?_
  obtain ⟨r2, M2, he, hS2, h⟩ := h
  refine g_callI (c := 116) (as := [.inr (.inr 103), .inl 0, .inl ((M1 103 32) - 1)]) (rs := []) rfl rfl hS1 hd rfl he ?_
  refine c1_eq rfl (fun c => ?_) (fun c => ?_)
  · replace h := h.1 c
    refine wp_sts 1 (pc' := 43) (ls' := [some (.inr (.inr 103)), none]) (st' := [.inl 0]) (M' := M2) rfl ?_
    exact g_retB rfl (by decide) h
  · replace h := h.2 c
    refine wp_sts 1 (pc' := 19) (ls' := [some (.inr (.inr 103)), none]) (st' := [.inr (.inr 103)]) (M' := M2) rfl ?_
    refine g_getR (j := 117) rfl hS2 rfl (str_r hS2 103 31 117 rfl) (by decide) ?_
    refine wp_sts 2 (pc' := 24) (ls' := [some (.inr (.inr 103)), none]) (st' := [.inr (.inr 103), .inl 5, .inr (.inr 117)]) (M' := M2) rfl ?_
    refine g_getI rfl hS2 rfl ?_
    obtain ⟨hf2, h⟩ := h
    refine w_imul rfl hf2 ?_
    refine wp_sts 1 (pc' := 29) (ls' := [some (.inr (.inr 103)), none]) (st' := [.inl 4, .inl (5 * (M2 103 22)), .inr (.inr 117)]) (M' := M2) rfl ?_
    obtain ⟨hf3, h⟩ := h
    refine w_iadd rfl hf3 ?_
    obtain ⟨hf4, h⟩ := h
    refine g_iald (n := 30) rfl hS2 rfl hf4 ?_
    refine c1_lt rfl (fun c => ?_) (fun c => ?_)
    · replace h := h.1 c
      refine wp_sts 1 (pc' := 45) (ls' := [some (.inr (.inr 103)), none]) (st' := [.inr (.inr 103)]) (M' := M2) rfl ?_
      obtain ⟨r3, M3, he, hS3, h⟩ := h
      refine g_callI (c := 117) (as := [.inr (.inr 103)]) (rs := []) rfl rfl hS2 hd rfl he ?_
      refine wp_sts 4 (pc' := 53) (ls' := [some (.inr (.inr 103)), some (.inl r3)]) (st' := [.inl 99, .inl 0, .inr (.inr 103)]) (M' := M3) rfl ?_
      obtain ⟨r4, M4, he, hS4, h⟩ := h
      refine g_callI (c := 116) (as := [.inr (.inr 103), .inl 0, .inl 99]) (rs := []) rfl rfl hS3 hd rfl he ?_
      refine c1_ne rfl (fun c => ?_) (fun c => ?_)
      · replace h := h.1 c
        refine wp_sts 1 (pc' := 62) (ls' := [some (.inr (.inr 103)), some (.inl r3)]) (st' := [.inr (.inr 103)]) (M' := M4) rfl ?_
        refine g_getR (j := 117) rfl hS4 rfl (str_r hS4 103 31 117 rfl) (by decide) ?_
        refine wp_sts 2 (pc' := 67) (ls' := [some (.inr (.inr 103)), some (.inl r3)]) (st' := [.inl r3, .inl 5, .inr (.inr 117)]) (M' := M4) rfl ?_
        obtain ⟨hf5, h⟩ := h
        refine w_imul rfl hf5 ?_
        refine wp_sts 1 (pc' := 69) (ls' := [some (.inr (.inr 103)), some (.inl r3)]) (st' := [.inl 4, .inl (5 * r3), .inr (.inr 117)]) (M' := M4) rfl ?_
        obtain ⟨hf6, h⟩ := h
        refine w_iadd rfl hf6 ?_
        refine wp_sts 1 (pc' := 71) (ls' := [some (.inr (.inr 103)), some (.inl r3)]) (st' := [.inr (.inr 103), .inl ((5 * r3) + 4), .inr (.inr 117)]) (M' := M4) rfl ?_
        obtain ⟨r5, M5, he, hS5, h⟩ := h
        refine g_callI (c := 117) (as := [.inr (.inr 103)]) (rs := [.inl ((5 * r3) + 4), .inr (.inr 117)]) rfl rfl hS4 hd rfl he ?_
        obtain ⟨hf7, h⟩ := h
        refine g_iast (n := 30) rfl hS5 rfl hf7 ?_
        refine wp_sts 2 (pc' := 78) (ls' := [some (.inr (.inr 103)), some (.inl r3)]) (st' := [.inl 59, .inr (.inr 103)]) (M' := (ab_w M5 117 ((5 * r3) + 4).toNat r5)) rfl ?_
        obtain ⟨r6, M6, he, hS6, h⟩ := h
        refine g_callI (c := 115) (as := [.inr (.inr 103), .inl 59]) (rs := []) rfl rfl (str_a (k := 117) (f := ((5 * r3) + 4).toNat) (v := r5) hS5 rfl) hd rfl he ?_
        exact g_retB rfl h.1 h.2
      · replace h := h.2 c
        refine wp_sts 1 (pc' := 60) (ls' := [some (.inr (.inr 103)), some (.inl r3)]) (st' := [.inl 0]) (M' := M4) rfl ?_
        exact g_retB rfl (by decide) h
    · replace h := h.2 c
      refine wp_sts 2 (pc' := 36) (ls' := [some (.inr (.inr 103)), none]) (st' := [.inl 4, .inr (.inr 103)]) (M' := M2) rfl ?_
      obtain ⟨r3, M3, he, hS3, h⟩ := h
      refine g_callI (c := 114) (as := [.inr (.inr 103), .inl 4]) (rs := []) rfl rfl hS2 hd rfl he ?_
      refine c1_ne rfl (fun c => ?_) (fun c => ?_)
      · replace h := h.1 c
        refine wp_sts 1 (pc' := 45) (ls' := [some (.inr (.inr 103)), none]) (st' := [.inr (.inr 103)]) (M' := M3) rfl ?_
        obtain ⟨r4, M4, he, hS4, h⟩ := h
        refine g_callI (c := 117) (as := [.inr (.inr 103)]) (rs := []) rfl rfl hS3 hd rfl he ?_
        refine wp_sts 4 (pc' := 53) (ls' := [some (.inr (.inr 103)), some (.inl r4)]) (st' := [.inl 99, .inl 0, .inr (.inr 103)]) (M' := M4) rfl ?_
        obtain ⟨r5, M5, he, hS5, h⟩ := h
        refine g_callI (c := 116) (as := [.inr (.inr 103), .inl 0, .inl 99]) (rs := []) rfl rfl hS4 hd rfl he ?_
        refine c1_ne rfl (fun c => ?_) (fun c => ?_)
        · replace h := h.1 c
          refine wp_sts 1 (pc' := 62) (ls' := [some (.inr (.inr 103)), some (.inl r4)]) (st' := [.inr (.inr 103)]) (M' := M5) rfl ?_
          refine g_getR (j := 117) rfl hS5 rfl (str_r hS5 103 31 117 rfl) (by decide) ?_
          refine wp_sts 2 (pc' := 67) (ls' := [some (.inr (.inr 103)), some (.inl r4)]) (st' := [.inl r4, .inl 5, .inr (.inr 117)]) (M' := M5) rfl ?_
          obtain ⟨hf5, h⟩ := h
          refine w_imul rfl hf5 ?_
          refine wp_sts 1 (pc' := 69) (ls' := [some (.inr (.inr 103)), some (.inl r4)]) (st' := [.inl 4, .inl (5 * r4), .inr (.inr 117)]) (M' := M5) rfl ?_
          obtain ⟨hf6, h⟩ := h
          refine w_iadd rfl hf6 ?_
          refine wp_sts 1 (pc' := 71) (ls' := [some (.inr (.inr 103)), some (.inl r4)]) (st' := [.inr (.inr 103), .inl ((5 * r4) + 4), .inr (.inr 117)]) (M' := M5) rfl ?_
          obtain ⟨r6, M6, he, hS6, h⟩ := h
          refine g_callI (c := 117) (as := [.inr (.inr 103)]) (rs := [.inl ((5 * r4) + 4), .inr (.inr 117)]) rfl rfl hS5 hd rfl he ?_
          obtain ⟨hf7, h⟩ := h
          refine g_iast (n := 30) rfl hS6 rfl hf7 ?_
          refine wp_sts 2 (pc' := 78) (ls' := [some (.inr (.inr 103)), some (.inl r4)]) (st' := [.inl 59, .inr (.inr 103)]) (M' := (ab_w M6 117 ((5 * r4) + 4).toNat r6)) rfl ?_
          obtain ⟨r7, M7, he, hS7, h⟩ := h
          refine g_callI (c := 115) (as := [.inr (.inr 103), .inl 59]) (rs := []) rfl rfl (str_a (k := 117) (f := ((5 * r4) + 4).toNat) (v := r6) hS6 rfl) hd rfl he ?_
          exact g_retB rfl h.1 h.2
        · replace h := h.2 c
          refine wp_sts 1 (pc' := 60) (ls' := [some (.inr (.inr 103)), some (.inl r4)]) (st' := [.inl 0]) (M' := M5) rfl ?_
          exact g_retB rfl (by decide) h
      · replace h := h.2 c
        refine wp_sts 1 (pc' := 43) (ls' := [some (.inr (.inr 103)), none]) (st' := [.inl 0]) (M' := M3) rfl ?_
        exact g_retB rfl (by decide) h
/- Model.readTrust, at 0 -/
set_option maxRecDepth 100000 in
theorem b122_0 {d t : Nat}   {M : ab_M} {Q : Option ab_V → ab_M → Prop} (hd : 1 ≤ d) (hS : pu_str t M)  (h : (M 103 34 ≠ 12 → ∃ M1, ab_ev (d - 1) 113 [.inr (.inr 103)] M none M1 ∧ pu_str t M1 ∧ ab_rg ((M1 103 30) - 1) ∧ ∃ r2 M2, ab_ev (d - 1) 116 [.inr (.inr 103), .inl 0, .inl ((M1 103 30) - 1)] M1 (some (.inl r2)) M2 ∧ pu_str t M2 ∧ (r2 ≠ 0 → ∃ r3 M3, ab_ev (d - 1) 117 [.inr (.inr 103)] M2 (some (.inl r3)) M3 ∧ pu_str t M3 ∧ ab_rg ((M3 103 30) - 1) ∧ ∃ r4 M4, ab_ev (d - 1) 116 [.inr (.inr 103), .inl 0, .inl ((M3 103 30) - 1)] M3 (some (.inl r4)) M4 ∧ pu_str t M4 ∧ (r4 = 0 → Q (some (.inl 0)) M4) ∧ (r4 ≠ 0 → (r3 = M4 103 22 → ∃ r5 M5, ab_ev (d - 1) 114 [.inr (.inr 103), .inl 4] M4 (some (.inl r5)) M5 ∧ pu_str t M5 ∧ (r5 ≠ 0 → ab_wp d 122 89 [some (.inr (.inr 103)), some (.inl r3), none] [] M5 Q) ∧ (r5 = 0 → Q (some (.inl 0)) M5)) ∧ (r3 ≠ M4 103 22 → ab_rg (6 * r3) ∧ ab_rg ((6 * r3) + (M4 103 22)) ∧ (0 ≤ (6 * r3) + (M4 103 22) ∧ (6 * r3) + (M4 103 22) < 36) ∧ (M4 118 ((6 * r3) + (M4 103 22)).toNat < 0 → ab_wp d 122 89 [some (.inr (.inr 103)), some (.inl r3), none] [] M4 Q) ∧ (0 ≤ M4 118 ((6 * r3) + (M4 103 22)).toNat → ∃ r5 M5, ab_ev (d - 1) 114 [.inr (.inr 103), .inl 4] M4 (some (.inl r5)) M5 ∧ pu_str t M5 ∧ (r5 ≠ 0 → ab_wp d 122 89 [some (.inr (.inr 103)), some (.inl r3), none] [] M5 Q) ∧ (r5 = 0 → Q (some (.inl 0)) M5))))) ∧ (r2 = 0 → Q (some (.inl 0)) M2)) ∧ (M 103 34 = 12 → ∃ r1 M1, ab_ev (d - 1) 114 [.inr (.inr 103), .inl 3] M (some (.inl r1)) M1 ∧ pu_str t M1 ∧ (r1 = 0 ∨ r1 = 1) ∧ Q (some (.inl r1)) M1)) : ab_wp d 122 0 [some (.inr (.inr 103)), none, none] [] M Q := by
  refine wp_sts 1 (pc' := 1) (ls' := [some (.inr (.inr 103)), none, none]) (st' := [.inr (.inr 103)]) (M' := M) rfl ?_
  refine g_getI rfl hS rfl ?_
  refine wp_sts 1 (pc' := 6) (ls' := [some (.inr (.inr 103)), none, none]) (st' := [.inl 12, .inl (M 103 34)]) (M' := M) rfl ?_
  refine c2_ne rfl (fun c => ?_) (fun c => ?_)
  · replace h := h.1 c
    refine wp_sts 1 (pc' := 16) (ls' := [some (.inr (.inr 103)), none, none]) (st' := [.inr (.inr 103)]) (M' := M) rfl ?_
    obtain ⟨M1, he, hS1, h⟩ := h
    refine g_callV (c := 113) (as := [.inr (.inr 103)]) (rs := []) rfl rfl hS hd rfl he ?_
    refine wp_sts 3 (pc' := 22) (ls' := [some (.inr (.inr 103)), none, none]) (st' := [.inr (.inr 103), .inl 0, .inr (.inr 103)]) (M' := M1) rfl ?_
    refine g_getI rfl hS1 rfl ?_
    refine wp_sts 1 (pc' := 26) (ls' := [some (.inr (.inr 103)), none, none]) (st' := [.inl 1, .inl (M1 103 30), .inl 0, .inr (.inr 103)]) (M' := M1) rfl ?_
    obtain ⟨hf1, h⟩ := h
    refine w_isub rfl hf1 ?_
    obtain ⟨r2, M2, he, hS2, h⟩ := h
    refine g_callI (c := 116) (as := [.inr (.inr 103), .inl 0, .inl ((M1 103 30) - 1)]) (rs := []) rfl rfl hS1 hd rfl he ?_
    refine c1_ne rfl (fun c => ?_) (fun c => ?_)
    · replace h := h.1 c
      refine wp_sts 1 (pc' := 36) (ls' := [some (.inr (.inr 103)), none, none]) (st' := [.inr (.inr 103)]) (M' := M2) rfl ?_
      obtain ⟨r3, M3, he, hS3, h⟩ := h
      refine g_callI (c := 117) (as := [.inr (.inr 103)]) (rs := []) rfl rfl hS2 hd rfl he ?_
      refine wp_sts 4 (pc' := 43) (ls' := [some (.inr (.inr 103)), some (.inl r3), none]) (st' := [.inr (.inr 103), .inl 0, .inr (.inr 103)]) (M' := M3) rfl ?_
      refine g_getI rfl hS3 rfl ?_
      refine wp_sts 1 (pc' := 47) (ls' := [some (.inr (.inr 103)), some (.inl r3), none]) (st' := [.inl 1, .inl (M3 103 30), .inl 0, .inr (.inr 103)]) (M' := M3) rfl ?_
      obtain ⟨hf2, h⟩ := h
      refine w_isub rfl hf2 ?_
      obtain ⟨r4, M4, he, hS4, h⟩ := h
      refine g_callI (c := 116) (as := [.inr (.inr 103), .inl 0, .inl ((M3 103 30) - 1)]) (rs := []) rfl rfl hS3 hd rfl he ?_
      refine c1_eq rfl (fun c => ?_) (fun c => ?_)
      · replace h := h.1 c
        refine wp_sts 1 (pc' := 88) (ls' := [some (.inr (.inr 103)), some (.inl r3), none]) (st' := [.inl 0]) (M' := M4) rfl ?_
        exact g_retB rfl (by decide) h
      · replace h := h.2 c
        refine wp_sts 2 (pc' := 56) (ls' := [some (.inr (.inr 103)), some (.inl r3), none]) (st' := [.inr (.inr 103), .inl r3]) (M' := M4) rfl ?_
        refine g_getI rfl hS4 rfl ?_
        refine c2_eq rfl (fun c => ?_) (fun c => ?_)
        · replace h := h.1 c
          refine wp_sts 2 (pc' := 81) (ls' := [some (.inr (.inr 103)), some (.inl r3), none]) (st' := [.inl 4, .inr (.inr 103)]) (M' := M4) rfl ?_
          obtain ⟨r5, M5, he, hS5, h⟩ := h
          refine g_callI (c := 114) (as := [.inr (.inr 103), .inl 4]) (rs := []) rfl rfl hS4 hd rfl he ?_
          refine c1_ne rfl (fun c => ?_) (fun c => ?_)
          · replace h := h.1 c
            exact h
          · replace h := h.2 c
            refine wp_sts 1 (pc' := 88) (ls' := [some (.inr (.inr 103)), some (.inl r3), none]) (st' := [.inl 0]) (M' := M5) rfl ?_
            exact g_retB rfl (by decide) h
        · replace h := h.2 c
          refine wp_sts 1 (pc' := 63) (ls' := [some (.inr (.inr 103)), some (.inl r3), none]) (st' := [.inr (.inr 103)]) (M' := M4) rfl ?_
          refine g_getR (j := 118) rfl hS4 rfl (str_r hS4 103 33 118 rfl) (by decide) ?_
          refine wp_sts 2 (pc' := 69) (ls' := [some (.inr (.inr 103)), some (.inl r3), none]) (st' := [.inl r3, .inl 6, .inr (.inr 118)]) (M' := M4) rfl ?_
          obtain ⟨hf3, h⟩ := h
          refine w_imul rfl hf3 ?_
          refine wp_sts 1 (pc' := 71) (ls' := [some (.inr (.inr 103)), some (.inl r3), none]) (st' := [.inr (.inr 103), .inl (6 * r3), .inr (.inr 118)]) (M' := M4) rfl ?_
          refine g_getI rfl hS4 rfl ?_
          obtain ⟨hf4, h⟩ := h
          refine w_iadd rfl hf4 ?_
          obtain ⟨hf5, h⟩ := h
          refine g_iald (n := 36) rfl hS4 rfl hf5 ?_
          refine c1_lt rfl (fun c => ?_) (fun c => ?_)
          · replace h := h.1 c
            exact h
          · replace h := h.2 c
            refine wp_sts 2 (pc' := 81) (ls' := [some (.inr (.inr 103)), some (.inl r3), none]) (st' := [.inl 4, .inr (.inr 103)]) (M' := M4) rfl ?_
            obtain ⟨r5, M5, he, hS5, h⟩ := h
            refine g_callI (c := 114) (as := [.inr (.inr 103), .inl 4]) (rs := []) rfl rfl hS4 hd rfl he ?_
            refine c1_ne rfl (fun c => ?_) (fun c => ?_)
            · replace h := h.1 c
              exact h
            · replace h := h.2 c
              refine wp_sts 1 (pc' := 88) (ls' := [some (.inr (.inr 103)), some (.inl r3), none]) (st' := [.inl 0]) (M' := M5) rfl ?_
              exact g_retB rfl (by decide) h
    · replace h := h.2 c
      refine wp_sts 1 (pc' := 34) (ls' := [some (.inr (.inr 103)), none, none]) (st' := [.inl 0]) (M' := M2) rfl ?_
      exact g_retB rfl (by decide) h
  · replace h := h.2 c
    refine wp_sts 2 (pc' := 11) (ls' := [some (.inr (.inr 103)), none, none]) (st' := [.inl 3, .inr (.inr 103)]) (M' := M) rfl ?_
    obtain ⟨r1, M1, he, hS1, h⟩ := h
    refine g_callI (c := 114) (as := [.inr (.inr 103), .inl 3]) (rs := []) rfl rfl hS hd rfl he ?_
    exact g_retB rfl h.1 h.2
/- Model.readTrust, at 89 -/
set_option maxRecDepth 100000 in
theorem b122_89 {d t : Nat}  {x1 : Int} {M : ab_M} {Q : Option ab_V → ab_M → Prop} (hd : 1 ≤ d) (hS : pu_str t M)  (h : ∃ r1 M1, ab_ev (d - 1) 117 [.inr (.inr 103)] M (some (.inl r1)) M1 ∧ pu_str t M1 ∧ ∃ r2 M2, ab_ev (d - 1) 116 [.inr (.inr 103), .inl 0, .inl 10] M1 (some (.inl r2)) M2 ∧ pu_str t M2 ∧ (r2 ≠ 0 → ab_rg (6 * x1) ∧ ab_rg ((6 * x1) + r1) ∧ ∃ r3 M3, ab_ev (d - 1) 117 [.inr (.inr 103)] M2 (some (.inl r3)) M3 ∧ pu_str t M3 ∧ (0 ≤ (6 * x1) + r1 ∧ (6 * x1) + r1 < 36) ∧ ab_rg ((M3 103 34) + 1) ∧ ∃ r4 M4, ab_ev (d - 1) 115 [.inr (.inr 103), .inl 59] (ab_w (ab_w M3 118 ((6 * x1) + r1).toNat r3) 103 34 ((M3 103 34) + 1)) (some (.inl r4)) M4 ∧ pu_str t M4 ∧ (r4 = 0 ∨ r4 = 1) ∧ Q (some (.inl r4)) M4) ∧ (r2 = 0 → Q (some (.inl 0)) M2)) : ab_wp d 122 89 [some (.inr (.inr 103)), some (.inl x1), none] [] M Q := by
  refine wp_sts 1 (pc' := 90) (ls' := [some (.inr (.inr 103)), some (.inl x1), none]) (st' := [.inr (.inr 103)]) (M' := M) rfl ?_
  obtain ⟨r1, M1, he, hS1, h⟩ := h
  refine g_callI (c := 117) (as := [.inr (.inr 103)]) (rs := []) rfl rfl hS hd rfl he ?_
  refine wp_sts 4 (pc' := 98) (ls' := [some (.inr (.inr 103)), some (.inl x1), some (.inl r1)]) (st' := [.inl 10, .inl 0, .inr (.inr 103)]) (M' := M1) rfl ?_
  obtain ⟨r2, M2, he, hS2, h⟩ := h
  refine g_callI (c := 116) (as := [.inr (.inr 103), .inl 0, .inl 10]) (rs := []) rfl rfl hS1 hd rfl he ?_
  refine c1_ne rfl (fun c => ?_) (fun c => ?_)
  · replace h := h.1 c
    refine wp_sts 1 (pc' := 107) (ls' := [some (.inr (.inr 103)), some (.inl x1), some (.inl r1)]) (st' := [.inr (.inr 103)]) (M' := M2) rfl ?_
    refine g_getR (j := 118) rfl hS2 rfl (str_r hS2 103 33 118 rfl) (by decide) ?_
    refine wp_sts 2 (pc' := 113) (ls' := [some (.inr (.inr 103)), some (.inl x1), some (.inl r1)]) (st' := [.inl x1, .inl 6, .inr (.inr 118)]) (M' := M2) rfl ?_
    obtain ⟨hf1, h⟩ := h
    refine w_imul rfl hf1 ?_
    refine wp_sts 1 (pc' := 115) (ls' := [some (.inr (.inr 103)), some (.inl x1), some (.inl r1)]) (st' := [.inl r1, .inl (6 * x1), .inr (.inr 118)]) (M' := M2) rfl ?_
    obtain ⟨hf2, h⟩ := h
    refine w_iadd rfl hf2 ?_
    refine wp_sts 1 (pc' := 117) (ls' := [some (.inr (.inr 103)), some (.inl x1), some (.inl r1)]) (st' := [.inr (.inr 103), .inl ((6 * x1) + r1), .inr (.inr 118)]) (M' := M2) rfl ?_
    obtain ⟨r3, M3, he, hS3, h⟩ := h
    refine g_callI (c := 117) (as := [.inr (.inr 103)]) (rs := [.inl ((6 * x1) + r1), .inr (.inr 118)]) rfl rfl hS2 hd rfl he ?_
    obtain ⟨hf3, h⟩ := h
    refine g_iast (n := 36) rfl hS3 rfl hf3 ?_
    refine wp_sts 2 (pc' := 123) (ls' := [some (.inr (.inr 103)), some (.inl x1), some (.inl r1)]) (st' := [.inr (.inr 103), .inr (.inr 103)]) (M' := (ab_w M3 118 ((6 * x1) + r1).toNat r3)) rfl ?_
    refine g_getI rfl (str_a (k := 118) (f := ((6 * x1) + r1).toNat) (v := r3) hS3 rfl) rfl ?_
    refine wp_sts 1 (pc' := 127) (ls' := [some (.inr (.inr 103)), some (.inl x1), some (.inl r1)]) (st' := [.inl 1, .inl (M3 103 34), .inr (.inr 103)]) (M' := (ab_w M3 118 ((6 * x1) + r1).toNat r3)) rfl ?_
    obtain ⟨hf4, h⟩ := h
    refine w_iadd rfl hf4 ?_
    refine g_putI rfl (str_a (k := 118) (f := ((6 * x1) + r1).toNat) (v := r3) hS3 rfl) rfl ?_
    refine wp_sts 2 (pc' := 134) (ls' := [some (.inr (.inr 103)), some (.inl x1), some (.inl r1)]) (st' := [.inl 59, .inr (.inr 103)]) (M' := (ab_w (ab_w M3 118 ((6 * x1) + r1).toNat r3) 103 34 ((M3 103 34) + 1))) rfl ?_
    obtain ⟨r4, M4, he, hS4, h⟩ := h
    refine g_callI (c := 115) (as := [.inr (.inr 103), .inl 59]) (rs := []) rfl rfl (str_w (k := 103) (f := 34) (v := (M3 103 34) + 1) (str_a (k := 118) (f := ((6 * x1) + r1).toNat) (v := r3) hS3 rfl) rfl) hd rfl he ?_
    exact g_retB rfl h.1 h.2
  · replace h := h.2 c
    refine wp_sts 1 (pc' := 105) (ls' := [some (.inr (.inr 103)), some (.inl x1), some (.inl r1)]) (st' := [.inl 0]) (M' := M2) rfl ?_
    exact g_retB rfl (by decide) h
/- Model.readOther, at 0 -/
theorem b123_0 {d t : Nat}   {M : ab_M} {Q : Option ab_V → ab_M → Prop} (hd : 1 ≤ d) (hS : pu_str t M)  (h : (M 103 36 ≠ 4 → ∃ M1, ab_ev (d - 1) 113 [.inr (.inr 103)] M none M1 ∧ pu_str t M1 ∧ ∃ r2 M2, ab_ev (d - 1) 116 [.inr (.inr 103), .inl 1, .inl 63] M1 (some (.inl r2)) M2 ∧ pu_str t M2 ∧ (r2 = 0 → Q (some (.inl 0)) M2) ∧ (r2 ≠ 0 → (ab_shr (M2 103 22) (M2 103 32) = 0 → ∃ r3 M3, ab_ev (d - 1) 117 [.inr (.inr 103)] M2 (some (.inl r3)) M3 ∧ pu_str t M3 ∧ (0 ≤ M2 103 36 ∧ M2 103 36 < 4) ∧ ab_rg ((M3 103 36) + 1) ∧ ∃ r4 M4, ab_ev (d - 1) 115 [.inr (.inr 103), .inl 59] (ab_w (ab_w M3 119 (M2 103 36).toNat r3) 103 36 ((M3 103 36) + 1)) (some (.inl r4)) M4 ∧ pu_str t M4 ∧ (r4 = 0 ∨ r4 = 1) ∧ Q (some (.inl r4)) M4) ∧ (ab_shr (M2 103 22) (M2 103 32) ≠ 0 → ∃ r3 M3, ab_ev (d - 1) 114 [.inr (.inr 103), .inl 2] M2 (some (.inl r3)) M3 ∧ pu_str t M3 ∧ (r3 ≠ 0 → ∃ r4 M4, ab_ev (d - 1) 117 [.inr (.inr 103)] M3 (some (.inl r4)) M4 ∧ pu_str t M4 ∧ (0 ≤ M3 103 36 ∧ M3 103 36 < 4) ∧ ab_rg ((M4 103 36) + 1) ∧ ∃ r5 M5, ab_ev (d - 1) 115 [.inr (.inr 103), .inl 59] (ab_w (ab_w M4 119 (M3 103 36).toNat r4) 103 36 ((M4 103 36) + 1)) (some (.inl r5)) M5 ∧ pu_str t M5 ∧ (r5 = 0 ∨ r5 = 1) ∧ Q (some (.inl r5)) M5) ∧ (r3 = 0 → Q (some (.inl 0)) M3)))) ∧ (M 103 36 = 4 → ∃ r1 M1, ab_ev (d - 1) 114 [.inr (.inr 103), .inl 3] M (some (.inl r1)) M1 ∧ pu_str t M1 ∧ (r1 = 0 ∨ r1 = 1) ∧ Q (some (.inl r1)) M1)) : ab_wp d 123 0 [some (.inr (.inr 103))] [] M Q := by
  refine wp_sts 1 (pc' := 1) (ls' := [some (.inr (.inr 103))]) (st' := [.inr (.inr 103)]) (M' := M) rfl ?_
  refine g_getI rfl hS rfl ?_
  refine wp_sts 1 (pc' := 5) (ls' := [some (.inr (.inr 103))]) (st' := [.inl 4, .inl (M 103 36)]) (M' := M) rfl ?_
  refine c2_ne rfl (fun c => ?_) (fun c => ?_)
  · replace h := h.1 c
    refine wp_sts 1 (pc' := 15) (ls' := [some (.inr (.inr 103))]) (st' := [.inr (.inr 103)]) (M' := M) rfl ?_
    obtain ⟨M1, he, hS1, h⟩ := h
    refine g_callV (c := 113) (as := [.inr (.inr 103)]) (rs := []) rfl rfl hS hd rfl he ?_
    refine wp_sts 3 (pc' := 22) (ls' := [some (.inr (.inr 103))]) (st' := [.inl 63, .inl 1, .inr (.inr 103)]) (M' := M1) rfl ?_
    obtain ⟨r2, M2, he, hS2, h⟩ := h
    refine g_callI (c := 116) (as := [.inr (.inr 103), .inl 1, .inl 63]) (rs := []) rfl rfl hS1 hd rfl he ?_
    refine c1_eq rfl (fun c => ?_) (fun c => ?_)
    · replace h := h.1 c
      refine wp_sts 1 (pc' := 49) (ls' := [some (.inr (.inr 103))]) (st' := [.inl 0]) (M' := M2) rfl ?_
      exact g_retB rfl (by decide) h
    · replace h := h.2 c
      refine wp_sts 1 (pc' := 29) (ls' := [some (.inr (.inr 103))]) (st' := [.inr (.inr 103)]) (M' := M2) rfl ?_
      refine g_getI rfl hS2 rfl ?_
      refine wp_sts 1 (pc' := 33) (ls' := [some (.inr (.inr 103))]) (st' := [.inr (.inr 103), .inl (M2 103 22)]) (M' := M2) rfl ?_
      refine g_getI rfl hS2 rfl ?_
      refine wp_sts 1 (pc' := 37) (ls' := [some (.inr (.inr 103))]) (st' := [.inl (ab_shr (M2 103 22) (M2 103 32))]) (M' := M2) rfl ?_
      refine c1_eq rfl (fun c => ?_) (fun c => ?_)
      · replace h := h.1 c
        refine wp_sts 1 (pc' := 51) (ls' := [some (.inr (.inr 103))]) (st' := [.inr (.inr 103)]) (M' := M2) rfl ?_
        refine g_getR (j := 119) rfl hS2 rfl (str_r hS2 103 35 119 rfl) (by decide) ?_
        refine wp_sts 1 (pc' := 55) (ls' := [some (.inr (.inr 103))]) (st' := [.inr (.inr 103), .inr (.inr 119)]) (M' := M2) rfl ?_
        refine g_getI rfl hS2 rfl ?_
        refine wp_sts 1 (pc' := 59) (ls' := [some (.inr (.inr 103))]) (st' := [.inr (.inr 103), .inl (M2 103 36), .inr (.inr 119)]) (M' := M2) rfl ?_
        obtain ⟨r3, M3, he, hS3, h⟩ := h
        refine g_callI (c := 117) (as := [.inr (.inr 103)]) (rs := [.inl (M2 103 36), .inr (.inr 119)]) rfl rfl hS2 hd rfl he ?_
        obtain ⟨hf1, h⟩ := h
        refine g_iast (n := 4) rfl hS3 rfl hf1 ?_
        refine wp_sts 2 (pc' := 65) (ls' := [some (.inr (.inr 103))]) (st' := [.inr (.inr 103), .inr (.inr 103)]) (M' := (ab_w M3 119 (M2 103 36).toNat r3)) rfl ?_
        refine g_getI rfl (str_a (k := 119) (f := (M2 103 36).toNat) (v := r3) hS3 rfl) rfl ?_
        refine wp_sts 1 (pc' := 69) (ls' := [some (.inr (.inr 103))]) (st' := [.inl 1, .inl (M3 103 36), .inr (.inr 103)]) (M' := (ab_w M3 119 (M2 103 36).toNat r3)) rfl ?_
        obtain ⟨hf2, h⟩ := h
        refine w_iadd rfl hf2 ?_
        refine g_putI rfl (str_a (k := 119) (f := (M2 103 36).toNat) (v := r3) hS3 rfl) rfl ?_
        refine wp_sts 2 (pc' := 76) (ls' := [some (.inr (.inr 103))]) (st' := [.inl 59, .inr (.inr 103)]) (M' := (ab_w (ab_w M3 119 (M2 103 36).toNat r3) 103 36 ((M3 103 36) + 1))) rfl ?_
        obtain ⟨r4, M4, he, hS4, h⟩ := h
        refine g_callI (c := 115) (as := [.inr (.inr 103), .inl 59]) (rs := []) rfl rfl (str_w (k := 103) (f := 36) (v := (M3 103 36) + 1) (str_a (k := 119) (f := (M2 103 36).toNat) (v := r3) hS3 rfl) rfl) hd rfl he ?_
        exact g_retB rfl h.1 h.2
      · replace h := h.2 c
        refine wp_sts 2 (pc' := 42) (ls' := [some (.inr (.inr 103))]) (st' := [.inl 2, .inr (.inr 103)]) (M' := M2) rfl ?_
        obtain ⟨r3, M3, he, hS3, h⟩ := h
        refine g_callI (c := 114) (as := [.inr (.inr 103), .inl 2]) (rs := []) rfl rfl hS2 hd rfl he ?_
        refine c1_ne rfl (fun c => ?_) (fun c => ?_)
        · replace h := h.1 c
          refine wp_sts 1 (pc' := 51) (ls' := [some (.inr (.inr 103))]) (st' := [.inr (.inr 103)]) (M' := M3) rfl ?_
          refine g_getR (j := 119) rfl hS3 rfl (str_r hS3 103 35 119 rfl) (by decide) ?_
          refine wp_sts 1 (pc' := 55) (ls' := [some (.inr (.inr 103))]) (st' := [.inr (.inr 103), .inr (.inr 119)]) (M' := M3) rfl ?_
          refine g_getI rfl hS3 rfl ?_
          refine wp_sts 1 (pc' := 59) (ls' := [some (.inr (.inr 103))]) (st' := [.inr (.inr 103), .inl (M3 103 36), .inr (.inr 119)]) (M' := M3) rfl ?_
          obtain ⟨r4, M4, he, hS4, h⟩ := h
          refine g_callI (c := 117) (as := [.inr (.inr 103)]) (rs := [.inl (M3 103 36), .inr (.inr 119)]) rfl rfl hS3 hd rfl he ?_
          obtain ⟨hf1, h⟩ := h
          refine g_iast (n := 4) rfl hS4 rfl hf1 ?_
          refine wp_sts 2 (pc' := 65) (ls' := [some (.inr (.inr 103))]) (st' := [.inr (.inr 103), .inr (.inr 103)]) (M' := (ab_w M4 119 (M3 103 36).toNat r4)) rfl ?_
          refine g_getI rfl (str_a (k := 119) (f := (M3 103 36).toNat) (v := r4) hS4 rfl) rfl ?_
          refine wp_sts 1 (pc' := 69) (ls' := [some (.inr (.inr 103))]) (st' := [.inl 1, .inl (M4 103 36), .inr (.inr 103)]) (M' := (ab_w M4 119 (M3 103 36).toNat r4)) rfl ?_
          obtain ⟨hf2, h⟩ := h
          refine w_iadd rfl hf2 ?_
          refine g_putI rfl (str_a (k := 119) (f := (M3 103 36).toNat) (v := r4) hS4 rfl) rfl ?_
          refine wp_sts 2 (pc' := 76) (ls' := [some (.inr (.inr 103))]) (st' := [.inl 59, .inr (.inr 103)]) (M' := (ab_w (ab_w M4 119 (M3 103 36).toNat r4) 103 36 ((M4 103 36) + 1))) rfl ?_
          obtain ⟨r5, M5, he, hS5, h⟩ := h
          refine g_callI (c := 115) (as := [.inr (.inr 103), .inl 59]) (rs := []) rfl rfl (str_w (k := 103) (f := 36) (v := (M4 103 36) + 1) (str_a (k := 119) (f := (M3 103 36).toNat) (v := r4) hS4 rfl) rfl) hd rfl he ?_
          exact g_retB rfl h.1 h.2
        · replace h := h.2 c
          refine wp_sts 1 (pc' := 49) (ls' := [some (.inr (.inr 103))]) (st' := [.inl 0]) (M' := M3) rfl ?_
          exact g_retB rfl (by decide) h
  · replace h := h.2 c
    refine wp_sts 2 (pc' := 10) (ls' := [some (.inr (.inr 103))]) (st' := [.inl 3, .inr (.inr 103)]) (M' := M) rfl ?_
    obtain ⟨r1, M1, he, hS1, h⟩ := h
    refine g_callI (c := 114) (as := [.inr (.inr 103), .inl 3]) (rs := []) rfl rfl hS hd rfl he ?_
    exact g_retB rfl h.1 h.2
/- Model.readTown, at 0 -/
set_option maxRecDepth 100000 in
theorem b124_0 {d t : Nat}   {M : ab_M} {Q : Option ab_V → ab_M → Prop} (hd : 1 ≤ d) (hS : pu_str t M)  (h : ab_wp d 124 42 [some (.inr (.inr 103)), some (.inl 0), none] [] (ab_w (ab_w (ab_w (ab_w (ab_w (ab_w (ab_w (ab_w M 103 20 0) 103 25 0) 103 26 0) 103 28 0) 103 30 0) 103 32 0) 103 34 0) 103 36 0) Q) : ab_wp d 124 0 [some (.inr (.inr 103)), none, none] [] M Q := by
  refine wp_sts 2 (pc' := 2) (ls' := [some (.inr (.inr 103)), none, none]) (st' := [.inl 0, .inr (.inr 103)]) (M' := M) rfl ?_
  refine g_putI rfl hS rfl ?_
  refine wp_sts 2 (pc' := 7) (ls' := [some (.inr (.inr 103)), none, none]) (st' := [.inl 0, .inr (.inr 103)]) (M' := (ab_w M 103 20 0)) rfl ?_
  refine g_putI rfl (str_w (k := 103) (f := 20) (v := 0) hS rfl) rfl ?_
  refine wp_sts 2 (pc' := 12) (ls' := [some (.inr (.inr 103)), none, none]) (st' := [.inl 0, .inr (.inr 103)]) (M' := (ab_w (ab_w M 103 20 0) 103 25 0)) rfl ?_
  refine g_putI rfl (str_w (k := 103) (f := 25) (v := 0) (str_w (k := 103) (f := 20) (v := 0) hS rfl) rfl) rfl ?_
  refine wp_sts 2 (pc' := 17) (ls' := [some (.inr (.inr 103)), none, none]) (st' := [.inl 0, .inr (.inr 103)]) (M' := (ab_w (ab_w (ab_w M 103 20 0) 103 25 0) 103 26 0)) rfl ?_
  refine g_putI rfl (str_w (k := 103) (f := 26) (v := 0) (str_w (k := 103) (f := 25) (v := 0) (str_w (k := 103) (f := 20) (v := 0) hS rfl) rfl) rfl) rfl ?_
  refine wp_sts 2 (pc' := 22) (ls' := [some (.inr (.inr 103)), none, none]) (st' := [.inl 0, .inr (.inr 103)]) (M' := (ab_w (ab_w (ab_w (ab_w M 103 20 0) 103 25 0) 103 26 0) 103 28 0)) rfl ?_
  refine g_putI rfl (str_w (k := 103) (f := 28) (v := 0) (str_w (k := 103) (f := 26) (v := 0) (str_w (k := 103) (f := 25) (v := 0) (str_w (k := 103) (f := 20) (v := 0) hS rfl) rfl) rfl) rfl) rfl ?_
  refine wp_sts 2 (pc' := 27) (ls' := [some (.inr (.inr 103)), none, none]) (st' := [.inl 0, .inr (.inr 103)]) (M' := (ab_w (ab_w (ab_w (ab_w (ab_w M 103 20 0) 103 25 0) 103 26 0) 103 28 0) 103 30 0)) rfl ?_
  refine g_putI rfl (str_w (k := 103) (f := 30) (v := 0) (str_w (k := 103) (f := 28) (v := 0) (str_w (k := 103) (f := 26) (v := 0) (str_w (k := 103) (f := 25) (v := 0) (str_w (k := 103) (f := 20) (v := 0) hS rfl) rfl) rfl) rfl) rfl) rfl ?_
  refine wp_sts 2 (pc' := 32) (ls' := [some (.inr (.inr 103)), none, none]) (st' := [.inl 0, .inr (.inr 103)]) (M' := (ab_w (ab_w (ab_w (ab_w (ab_w (ab_w M 103 20 0) 103 25 0) 103 26 0) 103 28 0) 103 30 0) 103 32 0)) rfl ?_
  refine g_putI rfl (str_w (k := 103) (f := 32) (v := 0) (str_w (k := 103) (f := 30) (v := 0) (str_w (k := 103) (f := 28) (v := 0) (str_w (k := 103) (f := 26) (v := 0) (str_w (k := 103) (f := 25) (v := 0) (str_w (k := 103) (f := 20) (v := 0) hS rfl) rfl) rfl) rfl) rfl) rfl) rfl ?_
  refine wp_sts 2 (pc' := 37) (ls' := [some (.inr (.inr 103)), none, none]) (st' := [.inl 0, .inr (.inr 103)]) (M' := (ab_w (ab_w (ab_w (ab_w (ab_w (ab_w (ab_w M 103 20 0) 103 25 0) 103 26 0) 103 28 0) 103 30 0) 103 32 0) 103 34 0)) rfl ?_
  refine g_putI rfl (str_w (k := 103) (f := 34) (v := 0) (str_w (k := 103) (f := 32) (v := 0) (str_w (k := 103) (f := 30) (v := 0) (str_w (k := 103) (f := 28) (v := 0) (str_w (k := 103) (f := 26) (v := 0) (str_w (k := 103) (f := 25) (v := 0) (str_w (k := 103) (f := 20) (v := 0) hS rfl) rfl) rfl) rfl) rfl) rfl) rfl) rfl ?_
  refine wp_sts 2 (pc' := 42) (ls' := [some (.inr (.inr 103)), some (.inl 0), none]) (st' := []) (M' := (ab_w (ab_w (ab_w (ab_w (ab_w (ab_w (ab_w (ab_w M 103 20 0) 103 25 0) 103 26 0) 103 28 0) 103 30 0) 103 32 0) 103 34 0) 103 36 0)) rfl ?_
  exact h
/- Model.readTown, at 42 -/
set_option maxRecDepth 100000 in
theorem b124_42 {d t : Nat}  {x1 : Int} {M : ab_M} {Q : Option ab_V → ab_M → Prop} (hd : 1 ≤ d) (hS : pu_str t M)  (h : (49 ≤ x1 → ab_wp d 124 63 [some (.inr (.inr 103)), some (.inl 0), none] [] M Q) ∧ (x1 < 49 → (0 ≤ x1 ∧ x1 < 49) ∧ ab_rg (x1 + 1) ∧ ab_wp d 124 42 [some (.inr (.inr 103)), some (.inl (x1 + 1)), none] [] (ab_w M 115 x1.toNat 0) Q)) : ab_wp d 124 42 [some (.inr (.inr 103)), some (.inl x1), none] [] M Q := by
  refine wp_sts 2 (pc' := 45) (ls' := [some (.inr (.inr 103)), some (.inl x1), none]) (st' := [.inl 49, .inl x1]) (M' := M) rfl ?_
  refine c2_ge rfl (fun c => ?_) (fun c => ?_)
  · replace h := h.1 c
    refine wp_sts 2 (pc' := 63) (ls' := [some (.inr (.inr 103)), some (.inl 0), none]) (st' := []) (M' := M) rfl ?_
    exact h
  · replace h := h.2 c
    refine wp_sts 1 (pc' := 49) (ls' := [some (.inr (.inr 103)), some (.inl x1), none]) (st' := [.inr (.inr 103)]) (M' := M) rfl ?_
    refine g_getR (j := 115) rfl hS rfl (str_r hS 103 27 115 rfl) (by decide) ?_
    refine wp_sts 2 (pc' := 54) (ls' := [some (.inr (.inr 103)), some (.inl x1), none]) (st' := [.inl 0, .inl x1, .inr (.inr 115)]) (M' := M) rfl ?_
    obtain ⟨hf1, h⟩ := h
    refine g_iast (n := 49) rfl hS rfl hf1 ?_
    obtain ⟨hf2, h⟩ := h
    refine w_iinc rfl rfl hf2 ?_
    refine wp_sts 1 (pc' := 42) (ls' := [some (.inr (.inr 103)), some (.inl (x1 + 1)), none]) (st' := []) (M' := (ab_w M 115 x1.toNat 0)) rfl ?_
    exact h
/- Model.readTown, at 63 -/
set_option maxRecDepth 100000 in
theorem b124_63 {d t : Nat}  {x1 : Int} {M : ab_M} {Q : Option ab_V → ab_M → Prop} (hd : 1 ≤ d) (hS : pu_str t M)  (h : (36 ≤ x1 → ∃ M1, ab_ev (d - 1) 113 [.inr (.inr 103)] M none M1 ∧ pu_str t M1 ∧ (M1 103 21 ≠ 3 → ∃ r2 M2, ab_ev (d - 1) 115 [.inr (.inr 103), .inl 116] M1 (some (.inl r2)) M2 ∧ pu_str t M2 ∧ (r2 = 0 → Q (some (.inl 0)) M2) ∧ (r2 ≠ 0 → ∃ r3 M3, ab_ev (d - 1) 116 [.inr (.inr 103), .inl 1, .inl 7] M2 (some (.inl r3)) M3 ∧ pu_str t M3 ∧ (r3 ≠ 0 → ∃ r4 M4, ab_ev (d - 1) 117 [.inr (.inr 103)] M3 (some (.inl r4)) M4 ∧ pu_str t M4 ∧ ab_rg (r4 - 1) ∧ ∃ r5 M5, ab_ev (d - 1) 116 [.inr (.inr 103), .inl 0, .inl (r4 - 1)] (ab_w M4 103 25 r4) (some (.inl r5)) M5 ∧ pu_str t M5 ∧ (r5 ≠ 0 → ∃ r6 M6, ab_ev (d - 1) 117 [.inr (.inr 103)] M5 (some (.inl r6)) M6 ∧ pu_str t M6 ∧ ∃ r7 M7, ab_ev (d - 1) 115 [.inr (.inr 103), .inl 59] (ab_w M6 103 26 r6) (some (.inl r7)) M7 ∧ pu_str t M7 ∧ (r7 ≠ 0 → ab_wp d 124 162 [some (.inr (.inr 103)), some (.inl 1), none] [] M7 Q) ∧ (r7 = 0 → Q (some (.inl 0)) M7)) ∧ (r5 = 0 → Q (some (.inl 0)) M5)) ∧ (r3 = 0 → Q (some (.inl 0)) M3))) ∧ (M1 103 21 = 3 → Q (some (.inl 1)) M1)) ∧ (x1 < 36 → (0 ≤ x1 ∧ x1 < 36) ∧ ab_rg (x1 + 1) ∧ ab_wp d 124 63 [some (.inr (.inr 103)), some (.inl (x1 + 1)), none] [] (ab_w M 118 x1.toNat ((-1))) Q)) : ab_wp d 124 63 [some (.inr (.inr 103)), some (.inl x1), none] [] M Q := by
  refine wp_sts 2 (pc' := 66) (ls' := [some (.inr (.inr 103)), some (.inl x1), none]) (st' := [.inl 36, .inl x1]) (M' := M) rfl ?_
  refine c2_ge rfl (fun c => ?_) (fun c => ?_)
  · replace h := h.1 c
    refine wp_sts 1 (pc' := 83) (ls' := [some (.inr (.inr 103)), some (.inl x1), none]) (st' := [.inr (.inr 103)]) (M' := M) rfl ?_
    obtain ⟨M1, he, hS1, h⟩ := h
    refine g_callV (c := 113) (as := [.inr (.inr 103)]) (rs := []) rfl rfl hS hd rfl he ?_
    refine wp_sts 1 (pc' := 87) (ls' := [some (.inr (.inr 103)), some (.inl x1), none]) (st' := [.inr (.inr 103)]) (M' := M1) rfl ?_
    refine g_getI rfl hS1 rfl ?_
    refine wp_sts 1 (pc' := 91) (ls' := [some (.inr (.inr 103)), some (.inl x1), none]) (st' := [.inl 3, .inl (M1 103 21)]) (M' := M1) rfl ?_
    refine c2_ne rfl (fun c => ?_) (fun c => ?_)
    · replace h := h.1 c
      refine wp_sts 2 (pc' := 99) (ls' := [some (.inr (.inr 103)), some (.inl x1), none]) (st' := [.inl 116, .inr (.inr 103)]) (M' := M1) rfl ?_
      obtain ⟨r2, M2, he, hS2, h⟩ := h
      refine g_callI (c := 115) (as := [.inr (.inr 103), .inl 116]) (rs := []) rfl rfl hS1 hd rfl he ?_
      refine c1_eq rfl (fun c => ?_) (fun c => ?_)
      · replace h := h.1 c
        refine wp_sts 1 (pc' := 116) (ls' := [some (.inr (.inr 103)), some (.inl x1), none]) (st' := [.inl 0]) (M' := M2) rfl ?_
        exact g_retB rfl (by decide) h
      · replace h := h.2 c
        refine wp_sts 3 (pc' := 109) (ls' := [some (.inr (.inr 103)), some (.inl x1), none]) (st' := [.inl 7, .inl 1, .inr (.inr 103)]) (M' := M2) rfl ?_
        obtain ⟨r3, M3, he, hS3, h⟩ := h
        refine g_callI (c := 116) (as := [.inr (.inr 103), .inl 1, .inl 7]) (rs := []) rfl rfl hS2 hd rfl he ?_
        refine c1_ne rfl (fun c => ?_) (fun c => ?_)
        · replace h := h.1 c
          refine wp_sts 2 (pc' := 119) (ls' := [some (.inr (.inr 103)), some (.inl x1), none]) (st' := [.inr (.inr 103), .inr (.inr 103)]) (M' := M3) rfl ?_
          obtain ⟨r4, M4, he, hS4, h⟩ := h
          refine g_callI (c := 117) (as := [.inr (.inr 103)]) (rs := [.inr (.inr 103)]) rfl rfl hS3 hd rfl he ?_
          refine g_putI rfl hS4 rfl ?_
          refine wp_sts 3 (pc' := 128) (ls' := [some (.inr (.inr 103)), some (.inl x1), none]) (st' := [.inr (.inr 103), .inl 0, .inr (.inr 103)]) (M' := (ab_w M4 103 25 r4)) rfl ?_
          refine g_getI rfl (str_w (k := 103) (f := 25) (v := r4) hS4 rfl) rfl ?_
          refine wp_sts 1 (pc' := 132) (ls' := [some (.inr (.inr 103)), some (.inl x1), none]) (st' := [.inl 1, .inl r4, .inl 0, .inr (.inr 103)]) (M' := (ab_w M4 103 25 r4)) rfl ?_
          obtain ⟨hf1, h⟩ := h
          refine w_isub rfl hf1 ?_
          obtain ⟨r5, M5, he, hS5, h⟩ := h
          refine g_callI (c := 116) (as := [.inr (.inr 103), .inl 0, .inl (r4 - 1)]) (rs := []) rfl rfl (str_w (k := 103) (f := 25) (v := r4) hS4 rfl) hd rfl he ?_
          refine c1_ne rfl (fun c => ?_) (fun c => ?_)
          · replace h := h.1 c
            refine wp_sts 2 (pc' := 143) (ls' := [some (.inr (.inr 103)), some (.inl x1), none]) (st' := [.inr (.inr 103), .inr (.inr 103)]) (M' := M5) rfl ?_
            obtain ⟨r6, M6, he, hS6, h⟩ := h
            refine g_callI (c := 117) (as := [.inr (.inr 103)]) (rs := [.inr (.inr 103)]) rfl rfl hS5 hd rfl he ?_
            refine g_putI rfl hS6 rfl ?_
            refine wp_sts 2 (pc' := 152) (ls' := [some (.inr (.inr 103)), some (.inl x1), none]) (st' := [.inl 59, .inr (.inr 103)]) (M' := (ab_w M6 103 26 r6)) rfl ?_
            obtain ⟨r7, M7, he, hS7, h⟩ := h
            refine g_callI (c := 115) (as := [.inr (.inr 103), .inl 59]) (rs := []) rfl rfl (str_w (k := 103) (f := 26) (v := r6) hS6 rfl) hd rfl he ?_
            refine c1_ne rfl (fun c => ?_) (fun c => ?_)
            · replace h := h.1 c
              refine wp_sts 2 (pc' := 162) (ls' := [some (.inr (.inr 103)), some (.inl 1), none]) (st' := []) (M' := M7) rfl ?_
              exact h
            · replace h := h.2 c
              refine wp_sts 1 (pc' := 159) (ls' := [some (.inr (.inr 103)), some (.inl x1), none]) (st' := [.inl 0]) (M' := M7) rfl ?_
              exact g_retB rfl (by decide) h
          · replace h := h.2 c
            refine wp_sts 1 (pc' := 140) (ls' := [some (.inr (.inr 103)), some (.inl x1), none]) (st' := [.inl 0]) (M' := M5) rfl ?_
            exact g_retB rfl (by decide) h
        · replace h := h.2 c
          refine wp_sts 1 (pc' := 116) (ls' := [some (.inr (.inr 103)), some (.inl x1), none]) (st' := [.inl 0]) (M' := M3) rfl ?_
          exact g_retB rfl (by decide) h
    · replace h := h.2 c
      refine wp_sts 1 (pc' := 95) (ls' := [some (.inr (.inr 103)), some (.inl x1), none]) (st' := [.inl 1]) (M' := M1) rfl ?_
      exact g_retB rfl (by decide) h
  · replace h := h.2 c
    refine wp_sts 1 (pc' := 70) (ls' := [some (.inr (.inr 103)), some (.inl x1), none]) (st' := [.inr (.inr 103)]) (M' := M) rfl ?_
    refine g_getR (j := 118) rfl hS rfl (str_r hS 103 33 118 rfl) (by decide) ?_
    refine wp_sts 2 (pc' := 75) (ls' := [some (.inr (.inr 103)), some (.inl x1), none]) (st' := [.inl ((-1)), .inl x1, .inr (.inr 118)]) (M' := M) rfl ?_
    obtain ⟨hf1, h⟩ := h
    refine g_iast (n := 36) rfl hS rfl hf1 ?_
    obtain ⟨hf2, h⟩ := h
    refine w_iinc rfl rfl hf2 ?_
    refine wp_sts 1 (pc' := 63) (ls' := [some (.inr (.inr 103)), some (.inl (x1 + 1)), none]) (st' := []) (M' := (ab_w M 118 x1.toNat ((-1)))) rfl ?_
    exact h
/- Model.readTown, at 162 -/
set_option maxRecDepth 100000 in
theorem b124_162 {d t : Nat}  {x1 : Int} {y2 : Option ab_V} {M : ab_M} {Q : Option ab_V → ab_M → Prop} (hd : 1 ≤ d) (hS : pu_str t M)  (h : (x1 = 0 → (x1 = 0 ∨ x1 = 1) ∧ Q (some (.inl x1)) M) ∧ (x1 ≠ 0 → (M 103 21 = 3 → (x1 = 0 ∨ x1 = 1) ∧ Q (some (.inl x1)) M) ∧ (M 103 21 ≠ 3 → (M 103 21 ≠ 1 → ab_wp d 124 281 [some (.inr (.inr 103)), some (.inl x1), some (.inl 0)] [.inl 1, .inr (.inr 103)] M Q) ∧ (M 103 21 = 1 → (M 103 22 ≠ 119 → (M 103 22 ≠ 112 → (M 103 22 ≠ 100 → (M 103 22 ≠ 114 → (M 103 22 ≠ 113 → (M 103 22 ≠ 111 → (M 103 22 ≠ 116 → ab_wp d 124 281 [some (.inr (.inr 103)), some (.inl x1), some (.inl (M 103 22))] [.inl 1, .inr (.inr 103)] M Q) ∧ (M 103 22 = 116 → ab_wp d 124 281 [some (.inr (.inr 103)), some (.inl x1), some (.inl (M 103 22))] [.inl 3, .inr (.inr 103)] M Q)) ∧ (M 103 22 = 111 → ∃ r1 M1, ab_ev (d - 1) 123 [.inr (.inr 103)] M (some (.inl r1)) M1 ∧ pu_str t M1 ∧ ab_wp d 124 162 [some (.inr (.inr 103)), some (.inl r1), some (.inl (M 103 22))] [] M1 Q)) ∧ (M 103 22 = 113 → ∃ r1 M1, ab_ev (d - 1) 122 [.inr (.inr 103)] M (some (.inl r1)) M1 ∧ pu_str t M1 ∧ ab_wp d 124 162 [some (.inr (.inr 103)), some (.inl r1), some (.inl (M 103 22))] [] M1 Q)) ∧ (M 103 22 = 114 → ∃ r1 M1, ab_ev (d - 1) 121 [.inr (.inr 103)] M (some (.inl r1)) M1 ∧ pu_str t M1 ∧ ab_wp d 124 162 [some (.inr (.inr 103)), some (.inl r1), some (.inl (M 103 22))] [] M1 Q)) ∧ (M 103 22 = 100 → ∃ r1 M1, ab_ev (d - 1) 120 [.inr (.inr 103)] M (some (.inl r1)) M1 ∧ pu_str t M1 ∧ ab_wp d 124 162 [some (.inr (.inr 103)), some (.inl r1), some (.inl (M 103 22))] [] M1 Q)) ∧ (M 103 22 = 112 → ∃ r1 M1, ab_ev (d - 1) 119 [.inr (.inr 103)] M (some (.inl r1)) M1 ∧ pu_str t M1 ∧ ab_wp d 124 162 [some (.inr (.inr 103)), some (.inl r1), some (.inl (M 103 22))] [] M1 Q)) ∧ (M 103 22 = 119 → ∃ r1 M1, ab_ev (d - 1) 118 [.inr (.inr 103)] M (some (.inl r1)) M1 ∧ pu_str t M1 ∧ ab_wp d 124 162 [some (.inr (.inr 103)), some (.inl r1), some (.inl (M 103 22))] [] M1 Q))))) : ab_wp d 124 162 [some (.inr (.inr 103)), some (.inl x1), y2] [] M Q := by
  refine wp_sts 1 (pc' := 163) (ls' := [some (.inr (.inr 103)), some (.inl x1), y2]) (st' := [.inl x1]) (M' := M) rfl ?_
  refine c1_eq rfl (fun c => ?_) (fun c => ?_)
  · replace h := h.1 c
    refine wp_sts 1 (pc' := 289) (ls' := [some (.inr (.inr 103)), some (.inl x1), y2]) (st' := [.inl x1]) (M' := M) rfl ?_
    exact g_retB rfl h.1 h.2
  · replace h := h.2 c
    refine wp_sts 1 (pc' := 167) (ls' := [some (.inr (.inr 103)), some (.inl x1), y2]) (st' := [.inr (.inr 103)]) (M' := M) rfl ?_
    refine g_getI rfl hS rfl ?_
    refine wp_sts 1 (pc' := 171) (ls' := [some (.inr (.inr 103)), some (.inl x1), y2]) (st' := [.inl 3, .inl (M 103 21)]) (M' := M) rfl ?_
    refine c2_eq rfl (fun c => ?_) (fun c => ?_)
    · replace h := h.1 c
      refine wp_sts 1 (pc' := 289) (ls' := [some (.inr (.inr 103)), some (.inl x1), y2]) (st' := [.inl x1]) (M' := M) rfl ?_
      exact g_retB rfl h.1 h.2
    · replace h := h.2 c
      refine wp_sts 1 (pc' := 175) (ls' := [some (.inr (.inr 103)), some (.inl x1), y2]) (st' := [.inr (.inr 103)]) (M' := M) rfl ?_
      refine g_getI rfl hS rfl ?_
      refine wp_sts 1 (pc' := 179) (ls' := [some (.inr (.inr 103)), some (.inl x1), y2]) (st' := [.inl 1, .inl (M 103 21)]) (M' := M) rfl ?_
      refine c2_ne rfl (fun c => ?_) (fun c => ?_)
      · replace h := h.1 c
        refine wp_sts 4 (pc' := 194) (ls' := [some (.inr (.inr 103)), some (.inl x1), some (.inl 0)]) (st' := [.inl 119, .inl 0]) (M' := M) rfl ?_
        refine c2_ne rfl (fun _ => ?_) (fun c => absurd c (by decide))
        refine wp_sts 2 (pc' := 207) (ls' := [some (.inr (.inr 103)), some (.inl x1), some (.inl 0)]) (st' := [.inl 112, .inl 0]) (M' := M) rfl ?_
        refine c2_ne rfl (fun _ => ?_) (fun c => absurd c (by decide))
        refine wp_sts 2 (pc' := 220) (ls' := [some (.inr (.inr 103)), some (.inl x1), some (.inl 0)]) (st' := [.inl 100, .inl 0]) (M' := M) rfl ?_
        refine c2_ne rfl (fun _ => ?_) (fun c => absurd c (by decide))
        refine wp_sts 2 (pc' := 233) (ls' := [some (.inr (.inr 103)), some (.inl x1), some (.inl 0)]) (st' := [.inl 114, .inl 0]) (M' := M) rfl ?_
        refine c2_ne rfl (fun _ => ?_) (fun c => absurd c (by decide))
        refine wp_sts 2 (pc' := 246) (ls' := [some (.inr (.inr 103)), some (.inl x1), some (.inl 0)]) (st' := [.inl 113, .inl 0]) (M' := M) rfl ?_
        refine c2_ne rfl (fun _ => ?_) (fun c => absurd c (by decide))
        refine wp_sts 2 (pc' := 259) (ls' := [some (.inr (.inr 103)), some (.inl x1), some (.inl 0)]) (st' := [.inl 111, .inl 0]) (M' := M) rfl ?_
        refine c2_ne rfl (fun _ => ?_) (fun c => absurd c (by decide))
        refine wp_sts 3 (pc' := 273) (ls' := [some (.inr (.inr 103)), some (.inl x1), some (.inl 0)]) (st' := [.inl 116, .inl 0, .inr (.inr 103)]) (M' := M) rfl ?_
        refine c2_ne rfl (fun _ => ?_) (fun c => absurd c (by decide))
        refine wp_sts 1 (pc' := 281) (ls' := [some (.inr (.inr 103)), some (.inl x1), some (.inl 0)]) (st' := [.inl 1, .inr (.inr 103)]) (M' := M) rfl ?_
        exact h
      · replace h := h.2 c
        refine wp_sts 1 (pc' := 183) (ls' := [some (.inr (.inr 103)), some (.inl x1), y2]) (st' := [.inr (.inr 103)]) (M' := M) rfl ?_
        refine g_getI rfl hS rfl ?_
        refine wp_sts 4 (pc' := 194) (ls' := [some (.inr (.inr 103)), some (.inl x1), some (.inl (M 103 22))]) (st' := [.inl 119, .inl (M 103 22)]) (M' := M) rfl ?_
        refine c2_ne rfl (fun c => ?_) (fun c => ?_)
        · replace h := h.1 c
          refine wp_sts 2 (pc' := 207) (ls' := [some (.inr (.inr 103)), some (.inl x1), some (.inl (M 103 22))]) (st' := [.inl 112, .inl (M 103 22)]) (M' := M) rfl ?_
          refine c2_ne rfl (fun c => ?_) (fun c => ?_)
          · replace h := h.1 c
            refine wp_sts 2 (pc' := 220) (ls' := [some (.inr (.inr 103)), some (.inl x1), some (.inl (M 103 22))]) (st' := [.inl 100, .inl (M 103 22)]) (M' := M) rfl ?_
            refine c2_ne rfl (fun c => ?_) (fun c => ?_)
            · replace h := h.1 c
              refine wp_sts 2 (pc' := 233) (ls' := [some (.inr (.inr 103)), some (.inl x1), some (.inl (M 103 22))]) (st' := [.inl 114, .inl (M 103 22)]) (M' := M) rfl ?_
              refine c2_ne rfl (fun c => ?_) (fun c => ?_)
              · replace h := h.1 c
                refine wp_sts 2 (pc' := 246) (ls' := [some (.inr (.inr 103)), some (.inl x1), some (.inl (M 103 22))]) (st' := [.inl 113, .inl (M 103 22)]) (M' := M) rfl ?_
                refine c2_ne rfl (fun c => ?_) (fun c => ?_)
                · replace h := h.1 c
                  refine wp_sts 2 (pc' := 259) (ls' := [some (.inr (.inr 103)), some (.inl x1), some (.inl (M 103 22))]) (st' := [.inl 111, .inl (M 103 22)]) (M' := M) rfl ?_
                  refine c2_ne rfl (fun c => ?_) (fun c => ?_)
                  · replace h := h.1 c
                    refine wp_sts 3 (pc' := 273) (ls' := [some (.inr (.inr 103)), some (.inl x1), some (.inl (M 103 22))]) (st' := [.inl 116, .inl (M 103 22), .inr (.inr 103)]) (M' := M) rfl ?_
                    refine c2_ne rfl (fun c => ?_) (fun c => ?_)
                    · replace h := h.1 c
                      refine wp_sts 1 (pc' := 281) (ls' := [some (.inr (.inr 103)), some (.inl x1), some (.inl (M 103 22))]) (st' := [.inl 1, .inr (.inr 103)]) (M' := M) rfl ?_
                      exact h
                    · replace h := h.2 c
                      refine wp_sts 2 (pc' := 281) (ls' := [some (.inr (.inr 103)), some (.inl x1), some (.inl (M 103 22))]) (st' := [.inl 3, .inr (.inr 103)]) (M' := M) rfl ?_
                      exact h
                  · replace h := h.2 c
                    refine wp_sts 1 (pc' := 263) (ls' := [some (.inr (.inr 103)), some (.inl x1), some (.inl (M 103 22))]) (st' := [.inr (.inr 103)]) (M' := M) rfl ?_
                    obtain ⟨r1, M1, he, hS1, h⟩ := h
                    refine g_callI (c := 123) (as := [.inr (.inr 103)]) (rs := []) rfl rfl hS hd rfl he ?_
                    refine wp_sts 3 (pc' := 162) (ls' := [some (.inr (.inr 103)), some (.inl r1), some (.inl (M 103 22))]) (st' := []) (M' := M1) rfl ?_
                    exact h
                · replace h := h.2 c
                  refine wp_sts 1 (pc' := 250) (ls' := [some (.inr (.inr 103)), some (.inl x1), some (.inl (M 103 22))]) (st' := [.inr (.inr 103)]) (M' := M) rfl ?_
                  obtain ⟨r1, M1, he, hS1, h⟩ := h
                  refine g_callI (c := 122) (as := [.inr (.inr 103)]) (rs := []) rfl rfl hS hd rfl he ?_
                  refine wp_sts 3 (pc' := 162) (ls' := [some (.inr (.inr 103)), some (.inl r1), some (.inl (M 103 22))]) (st' := []) (M' := M1) rfl ?_
                  exact h
              · replace h := h.2 c
                refine wp_sts 1 (pc' := 237) (ls' := [some (.inr (.inr 103)), some (.inl x1), some (.inl (M 103 22))]) (st' := [.inr (.inr 103)]) (M' := M) rfl ?_
                obtain ⟨r1, M1, he, hS1, h⟩ := h
                refine g_callI (c := 121) (as := [.inr (.inr 103)]) (rs := []) rfl rfl hS hd rfl he ?_
                refine wp_sts 3 (pc' := 162) (ls' := [some (.inr (.inr 103)), some (.inl r1), some (.inl (M 103 22))]) (st' := []) (M' := M1) rfl ?_
                exact h
            · replace h := h.2 c
              refine wp_sts 1 (pc' := 224) (ls' := [some (.inr (.inr 103)), some (.inl x1), some (.inl (M 103 22))]) (st' := [.inr (.inr 103)]) (M' := M) rfl ?_
              obtain ⟨r1, M1, he, hS1, h⟩ := h
              refine g_callI (c := 120) (as := [.inr (.inr 103)]) (rs := []) rfl rfl hS hd rfl he ?_
              refine wp_sts 3 (pc' := 162) (ls' := [some (.inr (.inr 103)), some (.inl r1), some (.inl (M 103 22))]) (st' := []) (M' := M1) rfl ?_
              exact h
          · replace h := h.2 c
            refine wp_sts 1 (pc' := 211) (ls' := [some (.inr (.inr 103)), some (.inl x1), some (.inl (M 103 22))]) (st' := [.inr (.inr 103)]) (M' := M) rfl ?_
            obtain ⟨r1, M1, he, hS1, h⟩ := h
            refine g_callI (c := 119) (as := [.inr (.inr 103)]) (rs := []) rfl rfl hS hd rfl he ?_
            refine wp_sts 3 (pc' := 162) (ls' := [some (.inr (.inr 103)), some (.inl r1), some (.inl (M 103 22))]) (st' := []) (M' := M1) rfl ?_
            exact h
        · replace h := h.2 c
          refine wp_sts 1 (pc' := 198) (ls' := [some (.inr (.inr 103)), some (.inl x1), some (.inl (M 103 22))]) (st' := [.inr (.inr 103)]) (M' := M) rfl ?_
          obtain ⟨r1, M1, he, hS1, h⟩ := h
          refine g_callI (c := 118) (as := [.inr (.inr 103)]) (rs := []) rfl rfl hS hd rfl he ?_
          refine wp_sts 3 (pc' := 162) (ls' := [some (.inr (.inr 103)), some (.inl r1), some (.inl (M 103 22))]) (st' := []) (M' := M1) rfl ?_
          exact h
/- Model.readTown, at 281 -/
set_option maxRecDepth 100000 in
theorem b124_281 {d t : Nat}  {x1 : Int} {x2 : Int} {x101 : Int} {M : ab_M} {Q : Option ab_V → ab_M → Prop} (hd : 1 ≤ d) (hS : pu_str t M)  (h : ∃ r1 M1, ab_ev (d - 1) 114 [.inr (.inr 103), .inl x101] M (some (.inl r1)) M1 ∧ pu_str t M1 ∧ ab_wp d 124 162 [some (.inr (.inr 103)), some (.inl r1), some (.inl x2)] [] M1 Q) : ab_wp d 124 281 [some (.inr (.inr 103)), some (.inl x1), some (.inl x2)] [.inl x101, .inr (.inr 103)] M Q := by
  obtain ⟨r1, M1, he, hS1, h⟩ := h
  refine g_callI (c := 114) (as := [.inr (.inr 103), .inl x101]) (rs := []) rfl rfl hS hd rfl he ?_
  refine wp_sts 2 (pc' := 162) (ls' := [some (.inr (.inr 103)), some (.inl r1), some (.inl x2)]) (st' := []) (M' := M1) rfl ?_
  exact h
/- Model.findFars, at 0 -/
set_option maxRecDepth 100000 in
theorem b125_0 {d t : Nat}   {M : ab_M} {Q : Option ab_V → ab_M → Prop} (hd : 1 ≤ d) (hS : pu_str t M)  (h : ab_wp d 125 2 [some (.inr (.inr 103)), some (.inl 0), none, none] [] M Q) : ab_wp d 125 0 [some (.inr (.inr 103)), none, none, none] [] M Q := by
  refine wp_sts 2 (pc' := 2) (ls' := [some (.inr (.inr 103)), some (.inl 0), none, none]) (st' := []) (M' := M) rfl ?_
  exact h
/- Model.findFars, at 2 -/
set_option maxRecDepth 100000 in
theorem b125_2 {d t : Nat}  {x1 : Int} {M : ab_M} {Q : Option ab_V → ab_M → Prop} (hd : 1 ≤ d) (hS : pu_str t M)  (h : (49 ≤ x1 → ab_wp d 125 77 [some (.inr (.inr 103)), some (.inl 0), none, none] [] M Q) ∧ (x1 < 49 → (0 ≤ x1 ∧ x1 < 49) ∧ (M 115 x1.toNat ≤ 0 → ab_wp d 125 27 [some (.inr (.inr 103)), some (.inl x1), none, none] [.inl 0, .inl x1, .inr (.inr 106)] M Q) ∧ (0 < M 115 x1.toNat → ab_wp d 125 27 [some (.inr (.inr 103)), some (.inl x1), none, none] [.inl 1, .inl x1, .inr (.inr 106)] M Q))) : ab_wp d 125 2 [some (.inr (.inr 103)), some (.inl x1), none, none] [] M Q := by
  refine wp_sts 2 (pc' := 5) (ls' := [some (.inr (.inr 103)), some (.inl x1), none, none]) (st' := [.inl 49, .inl x1]) (M' := M) rfl ?_
  refine c2_ge rfl (fun c => ?_) (fun c => ?_)
  · replace h := h.1 c
    refine wp_sts 2 (pc' := 77) (ls' := [some (.inr (.inr 103)), some (.inl 0), none, none]) (st' := []) (M' := M) rfl ?_
    exact h
  · replace h := h.2 c
    refine wp_sts 1 (pc' := 9) (ls' := [some (.inr (.inr 103)), some (.inl x1), none, none]) (st' := [.inr (.inr 103)]) (M' := M) rfl ?_
    refine g_getR (j := 106) rfl hS rfl (str_r hS 103 6 106 rfl) (by decide) ?_
    refine wp_sts 2 (pc' := 14) (ls' := [some (.inr (.inr 103)), some (.inl x1), none, none]) (st' := [.inr (.inr 103), .inl x1, .inr (.inr 106)]) (M' := M) rfl ?_
    refine g_getR (j := 115) rfl hS rfl (str_r hS 103 27 115 rfl) (by decide) ?_
    refine wp_sts 1 (pc' := 18) (ls' := [some (.inr (.inr 103)), some (.inl x1), none, none]) (st' := [.inl x1, .inr (.inr 115), .inl x1, .inr (.inr 106)]) (M' := M) rfl ?_
    obtain ⟨hf1, h⟩ := h
    refine g_iald (n := 49) rfl hS rfl hf1 ?_
    refine c1_le rfl (fun c => ?_) (fun c => ?_)
    · replace h := h.1 c
      refine wp_sts 1 (pc' := 27) (ls' := [some (.inr (.inr 103)), some (.inl x1), none, none]) (st' := [.inl 0, .inl x1, .inr (.inr 106)]) (M' := M) rfl ?_
      exact h
    · replace h := h.2 c
      refine wp_sts 2 (pc' := 27) (ls' := [some (.inr (.inr 103)), some (.inl x1), none, none]) (st' := [.inl 1, .inl x1, .inr (.inr 106)]) (M' := M) rfl ?_
      exact h
/- Model.findFars, at 27 -/
set_option maxRecDepth 100000 in
theorem b125_27 {d t : Nat}  {x1 : Int} {x101 : Int} {x102 : Int} {M : ab_M} {Q : Option ab_V → ab_M → Prop} (hd : 1 ≤ d) (hS : pu_str t M)  (h : (0 ≤ x101 ∧ x101 < 49) ∧ (x102 = 0 ∨ x102 = 1) ∧ ab_rg (x1.tdiv 7) ∧ (x1.tdiv 7 ≠ x1.tmod 7 → (0 ≤ x1 ∧ x1 < 49) ∧ (M 115 x1.toNat ≤ 0 → ab_wp d 125 68 [some (.inr (.inr 103)), some (.inl x1), none, none] [.inl 1000000, .inl x1, .inr (.inr 105)] (ab_w M 106 x101.toNat x102) Q) ∧ (0 < M 115 x1.toNat → ab_wp d 125 68 [some (.inr (.inr 103)), some (.inl x1), none, none] [.inl (M 115 x1.toNat), .inl x1, .inr (.inr 105)] (ab_w M 106 x101.toNat x102) Q)) ∧ (x1.tdiv 7 = x1.tmod 7 → ab_wp d 125 68 [some (.inr (.inr 103)), some (.inl x1), none, none] [.inl 0, .inl x1, .inr (.inr 105)] (ab_w M 106 x101.toNat x102) Q)) : ab_wp d 125 27 [some (.inr (.inr 103)), some (.inl x1), none, none] [.inl x102, .inl x101, .inr (.inr 106)] M Q := by
  obtain ⟨hf1, h⟩ := h
  obtain ⟨hf2, h⟩ := h
  refine g_bast (n := 49) rfl hS rfl hf1 hf2 ?_
  refine wp_sts 1 (pc' := 29) (ls' := [some (.inr (.inr 103)), some (.inl x1), none, none]) (st' := [.inr (.inr 103)]) (M' := (ab_w M 106 x101.toNat x102)) rfl ?_
  refine g_getR (j := 105) rfl (str_a (k := 106) (f := x101.toNat) (v := x102) hS rfl) rfl (str_r (str_a (k := 106) (f := x101.toNat) (v := x102) hS rfl) 103 5 105 rfl) (by decide) ?_
  refine wp_sts 3 (pc' := 36) (ls' := [some (.inr (.inr 103)), some (.inl x1), none, none]) (st' := [.inl 7, .inl x1, .inl x1, .inr (.inr 105)]) (M' := (ab_w M 106 x101.toNat x102)) rfl ?_
  obtain ⟨hf3, h⟩ := h
  refine w_idiv rfl (by decide) hf3 ?_
  refine wp_sts 2 (pc' := 40) (ls' := [some (.inr (.inr 103)), some (.inl x1), none, none]) (st' := [.inl 7, .inl x1, .inl (x1.tdiv 7), .inl x1, .inr (.inr 105)]) (M' := (ab_w M 106 x101.toNat x102)) rfl ?_
  refine w_irem rfl (by decide) hf3 ?_
  refine c2_ne rfl (fun c => ?_) (fun c => ?_)
  · replace h := h.1 c
    refine wp_sts 1 (pc' := 49) (ls' := [some (.inr (.inr 103)), some (.inl x1), none, none]) (st' := [.inr (.inr 103), .inl x1, .inr (.inr 105)]) (M' := (ab_w M 106 x101.toNat x102)) rfl ?_
    refine g_getR (j := 115) rfl (str_a (k := 106) (f := x101.toNat) (v := x102) hS rfl) rfl (str_r (str_a (k := 106) (f := x101.toNat) (v := x102) hS rfl) 103 27 115 rfl) (by decide) ?_
    refine wp_sts 1 (pc' := 53) (ls' := [some (.inr (.inr 103)), some (.inl x1), none, none]) (st' := [.inl x1, .inr (.inr 115), .inl x1, .inr (.inr 105)]) (M' := (ab_w M 106 x101.toNat x102)) rfl ?_
    obtain ⟨hf4, h⟩ := h
    refine g_iald (n := 49) rfl (str_a (k := 106) (f := x101.toNat) (v := x102) hS rfl) rfl hf4 ?_
    refine c1_le rfl (fun c => ?_) (fun c => ?_)
    · replace h := h.1 c
      refine wp_sts 1 (pc' := 68) (ls' := [some (.inr (.inr 103)), some (.inl x1), none, none]) (st' := [.inl 1000000, .inl x1, .inr (.inr 105)]) (M' := (ab_w M 106 x101.toNat x102)) rfl ?_
      exact h
    · replace h := h.2 c
      refine wp_sts 1 (pc' := 58) (ls' := [some (.inr (.inr 103)), some (.inl x1), none, none]) (st' := [.inr (.inr 103), .inl x1, .inr (.inr 105)]) (M' := (ab_w M 106 x101.toNat x102)) rfl ?_
      refine g_getR (j := 115) rfl (str_a (k := 106) (f := x101.toNat) (v := x102) hS rfl) rfl (str_r (str_a (k := 106) (f := x101.toNat) (v := x102) hS rfl) 103 27 115 rfl) (by decide) ?_
      refine wp_sts 1 (pc' := 62) (ls' := [some (.inr (.inr 103)), some (.inl x1), none, none]) (st' := [.inl x1, .inr (.inr 115), .inl x1, .inr (.inr 105)]) (M' := (ab_w M 106 x101.toNat x102)) rfl ?_
      refine g_iald (n := 49) rfl (str_a (k := 106) (f := x101.toNat) (v := x102) hS rfl) rfl hf4 ?_
      refine wp_sts 1 (pc' := 68) (ls' := [some (.inr (.inr 103)), some (.inl x1), none, none]) (st' := [.inl (M 115 x1.toNat), .inl x1, .inr (.inr 105)]) (M' := (ab_w M 106 x101.toNat x102)) rfl ?_
      exact h
  · replace h := h.2 c
    refine wp_sts 2 (pc' := 68) (ls' := [some (.inr (.inr 103)), some (.inl x1), none, none]) (st' := [.inl 0, .inl x1, .inr (.inr 105)]) (M' := (ab_w M 106 x101.toNat x102)) rfl ?_
    exact h
/- Model.findFars, at 68 -/
set_option maxRecDepth 100000 in
theorem b125_68 {d t : Nat}  {x1 : Int} {x101 : Int} {x102 : Int} {M : ab_M} {Q : Option ab_V → ab_M → Prop} (hd : 1 ≤ d) (hS : pu_str t M)  (h : (0 ≤ x101 ∧ x101 < 49) ∧ ab_rg (x1 + 1) ∧ ab_wp d 125 2 [some (.inr (.inr 103)), some (.inl (x1 + 1)), none, none] [] (ab_w M 105 x101.toNat x102) Q) : ab_wp d 125 68 [some (.inr (.inr 103)), some (.inl x1), none, none] [.inl x102, .inl x101, .inr (.inr 105)] M Q := by
  obtain ⟨hf1, h⟩ := h
  refine g_iast (n := 49) rfl hS rfl hf1 ?_
  obtain ⟨hf2, h⟩ := h
  refine w_iinc rfl rfl hf2 ?_
  refine wp_sts 1 (pc' := 2) (ls' := [some (.inr (.inr 103)), some (.inl (x1 + 1)), none, none]) (st' := []) (M' := (ab_w M 105 x101.toNat x102)) rfl ?_
  exact h
/- Model.findFars, at 77 -/
set_option maxRecDepth 100000 in
theorem b125_77 {d t : Nat}  {x1 : Int} {y2 : Option ab_V} {y3 : Option ab_V} {M : ab_M} {Q : Option ab_V → ab_M → Prop} (hd : 1 ≤ d) (hS : pu_str t M)  (h : (7 ≤ x1 → Q none M) ∧ (x1 < 7 → ab_wp d 125 85 [some (.inr (.inr 103)), some (.inl x1), some (.inl 0), y3] [] M Q)) : ab_wp d 125 77 [some (.inr (.inr 103)), some (.inl x1), y2, y3] [] M Q := by
  refine wp_sts 2 (pc' := 80) (ls' := [some (.inr (.inr 103)), some (.inl x1), y2, y3]) (st' := [.inl 7, .inl x1]) (M' := M) rfl ?_
  refine c2_ge rfl (fun c => ?_) (fun c => ?_)
  · replace h := h.1 c
    exact wp_ret rfl rfl rfl h
  · replace h := h.2 c
    refine wp_sts 2 (pc' := 85) (ls' := [some (.inr (.inr 103)), some (.inl x1), some (.inl 0), y3]) (st' := []) (M' := M) rfl ?_
    exact h
/- Model.findFars, at 85 -/
set_option maxRecDepth 100000 in
theorem b125_85 {d t : Nat}  {x1 : Int} {x2 : Int} {y3 : Option ab_V} {M : ab_M} {Q : Option ab_V → ab_M → Prop} (hd : 1 ≤ d) (hS : pu_str t M)  (h : (49 ≤ x2 → ab_rg (x1 + 1) ∧ ab_wp d 125 77 [some (.inr (.inr 103)), some (.inl (x1 + 1)), some (.inl x2), y3] [] M Q) ∧ (x2 < 49 → ab_rg (x2.tdiv 7) ∧ ab_rg ((x2.tdiv 7) * 7) ∧ ab_rg (((x2.tdiv 7) * 7) + x1) ∧ (0 ≤ ((x2.tdiv 7) * 7) + x1 ∧ ((x2.tdiv 7) * 7) + x1 < 49) ∧ ab_rg (7 * x1) ∧ ab_rg ((7 * x1) + (x2.tmod 7)) ∧ (0 ≤ (7 * x1) + (x2.tmod 7) ∧ (7 * x1) + (x2.tmod 7) < 49) ∧ ab_rg ((M 105 (((x2.tdiv 7) * 7) + x1).toNat) + (M 105 ((7 * x1) + (x2.tmod 7)).toNat)) ∧ (0 ≤ x2 ∧ x2 < 49) ∧ (M 105 x2.toNat ≤ (M 105 (((x2.tdiv 7) * 7) + x1).toNat) + (M 105 ((7 * x1) + (x2.tmod 7)).toNat) → ab_rg (x2 + 1) ∧ ab_wp d 125 85 [some (.inr (.inr 103)), some (.inl x1), some (.inl (x2 + 1)), some (.inl ((M 105 (((x2.tdiv 7) * 7) + x1).toNat) + (M 105 ((7 * x1) + (x2.tmod 7)).toNat)))] [] (ab_w M 105 x2.toNat (M 105 x2.toNat)) Q) ∧ ((M 105 (((x2.tdiv 7) * 7) + x1).toNat) + (M 105 ((7 * x1) + (x2.tmod 7)).toNat) < M 105 x2.toNat → ab_rg (x2 + 1) ∧ ab_wp d 125 85 [some (.inr (.inr 103)), some (.inl x1), some (.inl (x2 + 1)), some (.inl ((M 105 (((x2.tdiv 7) * 7) + x1).toNat) + (M 105 ((7 * x1) + (x2.tmod 7)).toNat)))] [] (ab_w M 105 x2.toNat ((M 105 (((x2.tdiv 7) * 7) + x1).toNat) + (M 105 ((7 * x1) + (x2.tmod 7)).toNat))) Q))) : ab_wp d 125 85 [some (.inr (.inr 103)), some (.inl x1), some (.inl x2), y3] [] M Q := by
  refine wp_sts 2 (pc' := 88) (ls' := [some (.inr (.inr 103)), some (.inl x1), some (.inl x2), y3]) (st' := [.inl 49, .inl x2]) (M' := M) rfl ?_
  refine c2_ge rfl (fun c => ?_) (fun c => ?_)
  · replace h := h.1 c
    obtain ⟨hf1, h⟩ := h
    refine w_iinc rfl rfl hf1 ?_
    refine wp_sts 1 (pc' := 77) (ls' := [some (.inr (.inr 103)), some (.inl (x1 + 1)), some (.inl x2), y3]) (st' := []) (M' := M) rfl ?_
    exact h
  · replace h := h.2 c
    refine wp_sts 1 (pc' := 92) (ls' := [some (.inr (.inr 103)), some (.inl x1), some (.inl x2), y3]) (st' := [.inr (.inr 103)]) (M' := M) rfl ?_
    refine g_getR (j := 105) rfl hS rfl (str_r hS 103 5 105 rfl) (by decide) ?_
    refine wp_sts 2 (pc' := 98) (ls' := [some (.inr (.inr 103)), some (.inl x1), some (.inl x2), y3]) (st' := [.inl 7, .inl x2, .inr (.inr 105)]) (M' := M) rfl ?_
    obtain ⟨hf1, h⟩ := h
    refine w_idiv rfl (by decide) hf1 ?_
    refine wp_sts 1 (pc' := 101) (ls' := [some (.inr (.inr 103)), some (.inl x1), some (.inl x2), y3]) (st' := [.inl 7, .inl (x2.tdiv 7), .inr (.inr 105)]) (M' := M) rfl ?_
    obtain ⟨hf2, h⟩ := h
    refine w_imul rfl hf2 ?_
    refine wp_sts 1 (pc' := 103) (ls' := [some (.inr (.inr 103)), some (.inl x1), some (.inl x2), y3]) (st' := [.inl x1, .inl ((x2.tdiv 7) * 7), .inr (.inr 105)]) (M' := M) rfl ?_
    obtain ⟨hf3, h⟩ := h
    refine w_iadd rfl hf3 ?_
    obtain ⟨hf4, h⟩ := h
    refine g_iald (n := 49) rfl hS rfl hf4 ?_
    refine wp_sts 1 (pc' := 106) (ls' := [some (.inr (.inr 103)), some (.inl x1), some (.inl x2), y3]) (st' := [.inr (.inr 103), .inl (M 105 (((x2.tdiv 7) * 7) + x1).toNat)]) (M' := M) rfl ?_
    refine g_getR (j := 105) rfl hS rfl (str_r hS 103 5 105 rfl) (by decide) ?_
    refine wp_sts 2 (pc' := 112) (ls' := [some (.inr (.inr 103)), some (.inl x1), some (.inl x2), y3]) (st' := [.inl x1, .inl 7, .inr (.inr 105), .inl (M 105 (((x2.tdiv 7) * 7) + x1).toNat)]) (M' := M) rfl ?_
    obtain ⟨hf5, h⟩ := h
    refine w_imul rfl hf5 ?_
    refine wp_sts 2 (pc' := 116) (ls' := [some (.inr (.inr 103)), some (.inl x1), some (.inl x2), y3]) (st' := [.inl 7, .inl x2, .inl (7 * x1), .inr (.inr 105), .inl (M 105 (((x2.tdiv 7) * 7) + x1).toNat)]) (M' := M) rfl ?_
    refine w_irem rfl (by decide) hf1 ?_
    obtain ⟨hf6, h⟩ := h
    refine w_iadd rfl hf6 ?_
    obtain ⟨hf7, h⟩ := h
    refine g_iald (n := 49) rfl hS rfl hf7 ?_
    obtain ⟨hf8, h⟩ := h
    refine w_iadd rfl hf8 ?_
    refine wp_sts 2 (pc' := 122) (ls' := [some (.inr (.inr 103)), some (.inl x1), some (.inl x2), some (.inl ((M 105 (((x2.tdiv 7) * 7) + x1).toNat) + (M 105 ((7 * x1) + (x2.tmod 7)).toNat)))]) (st' := [.inr (.inr 103)]) (M' := M) rfl ?_
    refine g_getR (j := 105) rfl hS rfl (str_r hS 103 5 105 rfl) (by decide) ?_
    refine wp_sts 3 (pc' := 128) (ls' := [some (.inr (.inr 103)), some (.inl x1), some (.inl x2), some (.inl ((M 105 (((x2.tdiv 7) * 7) + x1).toNat) + (M 105 ((7 * x1) + (x2.tmod 7)).toNat)))]) (st' := [.inr (.inr 103), .inl ((M 105 (((x2.tdiv 7) * 7) + x1).toNat) + (M 105 ((7 * x1) + (x2.tmod 7)).toNat)), .inl x2, .inr (.inr 105)]) (M' := M) rfl ?_
    refine g_getR (j := 105) rfl hS rfl (str_r hS 103 5 105 rfl) (by decide) ?_
    refine wp_sts 1 (pc' := 132) (ls' := [some (.inr (.inr 103)), some (.inl x1), some (.inl x2), some (.inl ((M 105 (((x2.tdiv 7) * 7) + x1).toNat) + (M 105 ((7 * x1) + (x2.tmod 7)).toNat)))]) (st' := [.inl x2, .inr (.inr 105), .inl ((M 105 (((x2.tdiv 7) * 7) + x1).toNat) + (M 105 ((7 * x1) + (x2.tmod 7)).toNat)), .inl x2, .inr (.inr 105)]) (M' := M) rfl ?_
    obtain ⟨hf9, h⟩ := h
    refine g_iald (n := 49) rfl hS rfl hf9 ?_
    refine c2_ge rfl (fun c => ?_) (fun c => ?_)
    · replace h := h.1 c
      refine wp_sts 1 (pc' := 141) (ls' := [some (.inr (.inr 103)), some (.inl x1), some (.inl x2), some (.inl ((M 105 (((x2.tdiv 7) * 7) + x1).toNat) + (M 105 ((7 * x1) + (x2.tmod 7)).toNat)))]) (st' := [.inr (.inr 103), .inl x2, .inr (.inr 105)]) (M' := M) rfl ?_
      refine g_getR (j := 105) rfl hS rfl (str_r hS 103 5 105 rfl) (by decide) ?_
      refine wp_sts 1 (pc' := 145) (ls' := [some (.inr (.inr 103)), some (.inl x1), some (.inl x2), some (.inl ((M 105 (((x2.tdiv 7) * 7) + x1).toNat) + (M 105 ((7 * x1) + (x2.tmod 7)).toNat)))]) (st' := [.inl x2, .inr (.inr 105), .inl x2, .inr (.inr 105)]) (M' := M) rfl ?_
      refine g_iald (n := 49) rfl hS rfl hf9 ?_
      refine g_iast (n := 49) rfl hS rfl hf9 ?_
      obtain ⟨hf10, h⟩ := h
      refine w_iinc rfl rfl hf10 ?_
      refine wp_sts 1 (pc' := 85) (ls' := [some (.inr (.inr 103)), some (.inl x1), some (.inl (x2 + 1)), some (.inl ((M 105 (((x2.tdiv 7) * 7) + x1).toNat) + (M 105 ((7 * x1) + (x2.tmod 7)).toNat)))]) (st' := []) (M' := (ab_w M 105 x2.toNat (M 105 x2.toNat))) rfl ?_
      exact h
    · replace h := h.2 c
      refine wp_sts 2 (pc' := 146) (ls' := [some (.inr (.inr 103)), some (.inl x1), some (.inl x2), some (.inl ((M 105 (((x2.tdiv 7) * 7) + x1).toNat) + (M 105 ((7 * x1) + (x2.tmod 7)).toNat)))]) (st' := [.inl ((M 105 (((x2.tdiv 7) * 7) + x1).toNat) + (M 105 ((7 * x1) + (x2.tmod 7)).toNat)), .inl x2, .inr (.inr 105)]) (M' := M) rfl ?_
      refine g_iast (n := 49) rfl hS rfl hf9 ?_
      obtain ⟨hf10, h⟩ := h
      refine w_iinc rfl rfl hf10 ?_
      refine wp_sts 1 (pc' := 85) (ls' := [some (.inr (.inr 103)), some (.inl x1), some (.inl (x2 + 1)), some (.inl ((M 105 (((x2.tdiv 7) * 7) + x1).toNat) + (M 105 ((7 * x1) + (x2.tmod 7)).toNat)))]) (st' := []) (M' := (ab_w M 105 x2.toNat ((M 105 (((x2.tdiv 7) * 7) + x1).toNat) + (M 105 ((7 * x1) + (x2.tmod 7)).toNat)))) rfl ?_
      exact h
/- Model.town, at 0 -/
set_option maxRecDepth 100000 in
theorem b126_0 {d t : Nat}   {M : ab_M} {Q : Option ab_V → ab_M → Prop} (hd : 1 ≤ d) (hS : pu_str t M)  (h : ∃ r1 M1, ab_ev (d - 1) 124 [.inr (.inr 103)] M (some (.inl r1)) M1 ∧ pu_str t M1 ∧ (r1 = 0 → ab_wp d 126 23 [some (.inr (.inr 103)), some (.inl r1), none] [.inl (M1 103 23), .inr (.inr 103)] (ab_w M1 103 1 0) Q) ∧ (r1 ≠ 0 → ab_wp d 126 23 [some (.inr (.inr 103)), some (.inl r1), none] [.inl ((-1)), .inr (.inr 103)] (ab_w M1 103 1 0) Q)) : ab_wp d 126 0 [some (.inr (.inr 103)), none, none] [] M Q := by
  refine wp_sts 1 (pc' := 1) (ls' := [some (.inr (.inr 103)), none, none]) (st' := [.inr (.inr 103)]) (M' := M) rfl ?_
  obtain ⟨r1, M1, he, hS1, h⟩ := h
  refine g_callI (c := 124) (as := [.inr (.inr 103)]) (rs := []) rfl rfl hS hd rfl he ?_
  refine wp_sts 3 (pc' := 7) (ls' := [some (.inr (.inr 103)), some (.inl r1), none]) (st' := [.inl 0, .inr (.inr 103)]) (M' := M1) rfl ?_
  refine g_putI rfl hS1 rfl ?_
  refine wp_sts 2 (pc' := 12) (ls' := [some (.inr (.inr 103)), some (.inl r1), none]) (st' := [.inl r1, .inr (.inr 103)]) (M' := (ab_w M1 103 1 0)) rfl ?_
  refine c1_eq rfl (fun c => ?_) (fun c => ?_)
  · replace h := h.1 c
    refine wp_sts 1 (pc' := 20) (ls' := [some (.inr (.inr 103)), some (.inl r1), none]) (st' := [.inr (.inr 103), .inr (.inr 103)]) (M' := (ab_w M1 103 1 0)) rfl ?_
    refine g_getI rfl (str_w (k := 103) (f := 1) (v := 0) hS1 rfl) rfl ?_
    exact h
  · replace h := h.2 c
    refine wp_sts 2 (pc' := 23) (ls' := [some (.inr (.inr 103)), some (.inl r1), none]) (st' := [.inl ((-1)), .inr (.inr 103)]) (M' := (ab_w M1 103 1 0)) rfl ?_
    exact h
/- Model.town, at 23 -/
set_option maxRecDepth 100000 in
theorem b126_23 {d t : Nat}  {x1 : Int} {x101 : Int} {M : ab_M} {Q : Option ab_V → ab_M → Prop} (hd : 1 ≤ d) (hS : pu_str t M)  (h : (x1 ≠ 0 → ∃ M1, ab_ev (d - 1) 125 [.inr (.inr 103)] (ab_w (ab_w (ab_w (ab_w (ab_w (ab_w M 103 2 x101) 103 3 (M 103 25)) 103 4 (M 103 26)) 103 9 (M 103 30)) 103 11 (M 103 32)) 103 14 (M 103 36)) none M1 ∧ pu_str t M1 ∧ ab_wp d 126 84 [some (.inr (.inr 103)), some (.inl x1), some (.inl 0)] [] M1 Q) ∧ (x1 = 0 → ab_rg (((-10)) - (M 103 24)) ∧ Q (some (.inl (((-10)) - (M 103 24)))) (ab_w M 103 2 x101))) : ab_wp d 126 23 [some (.inr (.inr 103)), some (.inl x1), none] [.inl x101, .inr (.inr 103)] M Q := by
  refine g_putI rfl hS rfl ?_
  refine wp_sts 1 (pc' := 27) (ls' := [some (.inr (.inr 103)), some (.inl x1), none]) (st' := [.inl x1]) (M' := (ab_w M 103 2 x101)) rfl ?_
  refine c1_ne rfl (fun c => ?_) (fun c => ?_)
  · replace h := h.1 c
    refine wp_sts 2 (pc' := 40) (ls' := [some (.inr (.inr 103)), some (.inl x1), none]) (st' := [.inr (.inr 103), .inr (.inr 103)]) (M' := (ab_w M 103 2 x101)) rfl ?_
    refine g_getI rfl (str_w (k := 103) (f := 2) (v := x101) hS rfl) rfl ?_
    refine g_putI rfl (str_w (k := 103) (f := 2) (v := x101) hS rfl) rfl ?_
    refine wp_sts 2 (pc' := 48) (ls' := [some (.inr (.inr 103)), some (.inl x1), none]) (st' := [.inr (.inr 103), .inr (.inr 103)]) (M' := (ab_w (ab_w M 103 2 x101) 103 3 (M 103 25))) rfl ?_
    refine g_getI rfl (str_w (k := 103) (f := 3) (v := M 103 25) (str_w (k := 103) (f := 2) (v := x101) hS rfl) rfl) rfl ?_
    refine g_putI rfl (str_w (k := 103) (f := 3) (v := M 103 25) (str_w (k := 103) (f := 2) (v := x101) hS rfl) rfl) rfl ?_
    refine wp_sts 2 (pc' := 56) (ls' := [some (.inr (.inr 103)), some (.inl x1), none]) (st' := [.inr (.inr 103), .inr (.inr 103)]) (M' := (ab_w (ab_w (ab_w M 103 2 x101) 103 3 (M 103 25)) 103 4 (M 103 26))) rfl ?_
    refine g_getI rfl (str_w (k := 103) (f := 4) (v := M 103 26) (str_w (k := 103) (f := 3) (v := M 103 25) (str_w (k := 103) (f := 2) (v := x101) hS rfl) rfl) rfl) rfl ?_
    refine g_putI rfl (str_w (k := 103) (f := 4) (v := M 103 26) (str_w (k := 103) (f := 3) (v := M 103 25) (str_w (k := 103) (f := 2) (v := x101) hS rfl) rfl) rfl) rfl ?_
    refine wp_sts 2 (pc' := 64) (ls' := [some (.inr (.inr 103)), some (.inl x1), none]) (st' := [.inr (.inr 103), .inr (.inr 103)]) (M' := (ab_w (ab_w (ab_w (ab_w M 103 2 x101) 103 3 (M 103 25)) 103 4 (M 103 26)) 103 9 (M 103 30))) rfl ?_
    refine g_getI rfl (str_w (k := 103) (f := 9) (v := M 103 30) (str_w (k := 103) (f := 4) (v := M 103 26) (str_w (k := 103) (f := 3) (v := M 103 25) (str_w (k := 103) (f := 2) (v := x101) hS rfl) rfl) rfl) rfl) rfl ?_
    refine g_putI rfl (str_w (k := 103) (f := 9) (v := M 103 30) (str_w (k := 103) (f := 4) (v := M 103 26) (str_w (k := 103) (f := 3) (v := M 103 25) (str_w (k := 103) (f := 2) (v := x101) hS rfl) rfl) rfl) rfl) rfl ?_
    refine wp_sts 2 (pc' := 72) (ls' := [some (.inr (.inr 103)), some (.inl x1), none]) (st' := [.inr (.inr 103), .inr (.inr 103)]) (M' := (ab_w (ab_w (ab_w (ab_w (ab_w M 103 2 x101) 103 3 (M 103 25)) 103 4 (M 103 26)) 103 9 (M 103 30)) 103 11 (M 103 32))) rfl ?_
    refine g_getI rfl (str_w (k := 103) (f := 11) (v := M 103 32) (str_w (k := 103) (f := 9) (v := M 103 30) (str_w (k := 103) (f := 4) (v := M 103 26) (str_w (k := 103) (f := 3) (v := M 103 25) (str_w (k := 103) (f := 2) (v := x101) hS rfl) rfl) rfl) rfl) rfl) rfl ?_
    refine g_putI rfl (str_w (k := 103) (f := 11) (v := M 103 32) (str_w (k := 103) (f := 9) (v := M 103 30) (str_w (k := 103) (f := 4) (v := M 103 26) (str_w (k := 103) (f := 3) (v := M 103 25) (str_w (k := 103) (f := 2) (v := x101) hS rfl) rfl) rfl) rfl) rfl) rfl ?_
    refine wp_sts 1 (pc' := 79) (ls' := [some (.inr (.inr 103)), some (.inl x1), none]) (st' := [.inr (.inr 103)]) (M' := (ab_w (ab_w (ab_w (ab_w (ab_w (ab_w M 103 2 x101) 103 3 (M 103 25)) 103 4 (M 103 26)) 103 9 (M 103 30)) 103 11 (M 103 32)) 103 14 (M 103 36))) rfl ?_
    obtain ⟨M1, he, hS1, h⟩ := h
    refine g_callV (c := 125) (as := [.inr (.inr 103)]) (rs := []) rfl rfl (str_w (k := 103) (f := 14) (v := M 103 36) (str_w (k := 103) (f := 11) (v := M 103 32) (str_w (k := 103) (f := 9) (v := M 103 30) (str_w (k := 103) (f := 4) (v := M 103 26) (str_w (k := 103) (f := 3) (v := M 103 25) (str_w (k := 103) (f := 2) (v := x101) hS rfl) rfl) rfl) rfl) rfl) rfl) hd rfl he ?_
    refine wp_sts 2 (pc' := 84) (ls' := [some (.inr (.inr 103)), some (.inl x1), some (.inl 0)]) (st' := []) (M' := M1) rfl ?_
    exact h
  · replace h := h.2 c
    refine wp_sts 2 (pc' := 33) (ls' := [some (.inr (.inr 103)), some (.inl x1), none]) (st' := [.inr (.inr 103), .inl ((-10))]) (M' := (ab_w M 103 2 x101)) rfl ?_
    refine g_getI rfl (str_w (k := 103) (f := 2) (v := x101) hS rfl) rfl ?_
    obtain ⟨hf1, h⟩ := h
    refine w_isub rfl hf1 ?_
    exact wp_ret rfl rfl (z := (some (.inl (((-10)) - (M 103 24))), (ab_w M 103 2 x101))) rfl h
/- Model.town, at 84 -/
set_option maxRecDepth 100000 in
theorem b126_84 {d t : Nat}  {x1 : Int} {x2 : Int} {M : ab_M} {Q : Option ab_V → ab_M → Prop} (hd : 1 ≤ d) (hS : pu_str t M)  (h : (6 ≤ x2 → ab_wp d 126 128 [some (.inr (.inr 103)), some (.inl x1), some (.inl 0)] [] M Q) ∧ (x2 < 6 → ab_rg (2 * x2) ∧ (0 ≤ 2 * x2 ∧ 2 * x2 < 12) ∧ (0 ≤ x2 ∧ x2 < 6) ∧ ab_rg ((2 * x2) + 1) ∧ (0 ≤ (2 * x2) + 1 ∧ (2 * x2) + 1 < 12) ∧ ab_rg (x2 + 1) ∧ ab_wp d 126 84 [some (.inr (.inr 103)), some (.inl x1), some (.inl (x2 + 1))] [] (ab_w (ab_w M 107 x2.toNat (M 116 (2 * x2).toNat)) 108 x2.toNat (M 116 ((2 * x2) + 1).toNat)) Q)) : ab_wp d 126 84 [some (.inr (.inr 103)), some (.inl x1), some (.inl x2)] [] M Q := by
  refine wp_sts 2 (pc' := 87) (ls' := [some (.inr (.inr 103)), some (.inl x1), some (.inl x2)]) (st' := [.inl 6, .inl x2]) (M' := M) rfl ?_
  refine c2_ge rfl (fun c => ?_) (fun c => ?_)
  · replace h := h.1 c
    refine wp_sts 2 (pc' := 128) (ls' := [some (.inr (.inr 103)), some (.inl x1), some (.inl 0)]) (st' := []) (M' := M) rfl ?_
    exact h
  · replace h := h.2 c
    refine wp_sts 1 (pc' := 91) (ls' := [some (.inr (.inr 103)), some (.inl x1), some (.inl x2)]) (st' := [.inr (.inr 103)]) (M' := M) rfl ?_
    refine g_getR (j := 107) rfl hS rfl (str_r hS 103 7 107 rfl) (by decide) ?_
    refine wp_sts 2 (pc' := 96) (ls' := [some (.inr (.inr 103)), some (.inl x1), some (.inl x2)]) (st' := [.inr (.inr 103), .inl x2, .inr (.inr 107)]) (M' := M) rfl ?_
    refine g_getR (j := 116) rfl hS rfl (str_r hS 103 29 116 rfl) (by decide) ?_
    refine wp_sts 2 (pc' := 101) (ls' := [some (.inr (.inr 103)), some (.inl x1), some (.inl x2)]) (st' := [.inl x2, .inl 2, .inr (.inr 116), .inl x2, .inr (.inr 107)]) (M' := M) rfl ?_
    obtain ⟨hf1, h⟩ := h
    refine w_imul rfl hf1 ?_
    obtain ⟨hf2, h⟩ := h
    refine g_iald (n := 12) rfl hS rfl hf2 ?_
    obtain ⟨hf3, h⟩ := h
    refine g_iast (n := 6) rfl hS rfl hf3 ?_
    refine wp_sts 1 (pc' := 105) (ls' := [some (.inr (.inr 103)), some (.inl x1), some (.inl x2)]) (st' := [.inr (.inr 103)]) (M' := (ab_w M 107 x2.toNat (M 116 (2 * x2).toNat))) rfl ?_
    refine g_getR (j := 108) rfl (str_a (k := 107) (f := x2.toNat) (v := M 116 (2 * x2).toNat) hS rfl) rfl (str_r (str_a (k := 107) (f := x2.toNat) (v := M 116 (2 * x2).toNat) hS rfl) 103 8 108 rfl) (by decide) ?_
    refine wp_sts 2 (pc' := 110) (ls' := [some (.inr (.inr 103)), some (.inl x1), some (.inl x2)]) (st' := [.inr (.inr 103), .inl x2, .inr (.inr 108)]) (M' := (ab_w M 107 x2.toNat (M 116 (2 * x2).toNat))) rfl ?_
    refine g_getR (j := 116) rfl (str_a (k := 107) (f := x2.toNat) (v := M 116 (2 * x2).toNat) hS rfl) rfl (str_r (str_a (k := 107) (f := x2.toNat) (v := M 116 (2 * x2).toNat) hS rfl) 103 29 116 rfl) (by decide) ?_
    refine wp_sts 2 (pc' := 115) (ls' := [some (.inr (.inr 103)), some (.inl x1), some (.inl x2)]) (st' := [.inl x2, .inl 2, .inr (.inr 116), .inl x2, .inr (.inr 108)]) (M' := (ab_w M 107 x2.toNat (M 116 (2 * x2).toNat))) rfl ?_
    refine w_imul rfl hf1 ?_
    refine wp_sts 1 (pc' := 117) (ls' := [some (.inr (.inr 103)), some (.inl x1), some (.inl x2)]) (st' := [.inl 1, .inl (2 * x2), .inr (.inr 116), .inl x2, .inr (.inr 108)]) (M' := (ab_w M 107 x2.toNat (M 116 (2 * x2).toNat))) rfl ?_
    obtain ⟨hf4, h⟩ := h
    refine w_iadd rfl hf4 ?_
    obtain ⟨hf5, h⟩ := h
    refine g_iald (n := 12) rfl (str_a (k := 107) (f := x2.toNat) (v := M 116 (2 * x2).toNat) hS rfl) rfl hf5 ?_
    refine g_iast (n := 6) rfl (str_a (k := 107) (f := x2.toNat) (v := M 116 (2 * x2).toNat) hS rfl) rfl hf3 ?_
    obtain ⟨hf6, h⟩ := h
    refine w_iinc rfl rfl hf6 ?_
    refine wp_sts 1 (pc' := 84) (ls' := [some (.inr (.inr 103)), some (.inl x1), some (.inl (x2 + 1))]) (st' := []) (M' := (ab_w (ab_w M 107 x2.toNat (M 116 (2 * x2).toNat)) 108 x2.toNat (M 116 ((2 * x2) + 1).toNat))) rfl ?_
    exact h
/- Model.town, at 128 -/
set_option maxRecDepth 100000 in
theorem b126_128 {d t : Nat}  {x1 : Int} {x2 : Int} {M : ab_M} {Q : Option ab_V → ab_M → Prop} (hd : 1 ≤ d) (hS : pu_str t M)  (h : (30 ≤ x2 → ab_wp d 126 154 [some (.inr (.inr 103)), some (.inl x1), some (.inl 0)] [] M Q) ∧ (x2 < 30 → (0 ≤ x2 ∧ x2 < 30) ∧ ab_rg (x2 + 1) ∧ ab_wp d 126 128 [some (.inr (.inr 103)), some (.inl x1), some (.inl (x2 + 1))] [] (ab_w M 109 x2.toNat (M 117 x2.toNat)) Q)) : ab_wp d 126 128 [some (.inr (.inr 103)), some (.inl x1), some (.inl x2)] [] M Q := by
  refine wp_sts 2 (pc' := 131) (ls' := [some (.inr (.inr 103)), some (.inl x1), some (.inl x2)]) (st' := [.inl 30, .inl x2]) (M' := M) rfl ?_
  refine c2_ge rfl (fun c => ?_) (fun c => ?_)
  · replace h := h.1 c
    refine wp_sts 2 (pc' := 154) (ls' := [some (.inr (.inr 103)), some (.inl x1), some (.inl 0)]) (st' := []) (M' := M) rfl ?_
    exact h
  · replace h := h.2 c
    refine wp_sts 1 (pc' := 135) (ls' := [some (.inr (.inr 103)), some (.inl x1), some (.inl x2)]) (st' := [.inr (.inr 103)]) (M' := M) rfl ?_
    refine g_getR (j := 109) rfl hS rfl (str_r hS 103 10 109 rfl) (by decide) ?_
    refine wp_sts 2 (pc' := 140) (ls' := [some (.inr (.inr 103)), some (.inl x1), some (.inl x2)]) (st' := [.inr (.inr 103), .inl x2, .inr (.inr 109)]) (M' := M) rfl ?_
    refine g_getR (j := 117) rfl hS rfl (str_r hS 103 31 117 rfl) (by decide) ?_
    refine wp_sts 1 (pc' := 144) (ls' := [some (.inr (.inr 103)), some (.inl x1), some (.inl x2)]) (st' := [.inl x2, .inr (.inr 117), .inl x2, .inr (.inr 109)]) (M' := M) rfl ?_
    obtain ⟨hf1, h⟩ := h
    refine g_iald (n := 30) rfl hS rfl hf1 ?_
    refine g_iast (n := 30) rfl hS rfl hf1 ?_
    obtain ⟨hf2, h⟩ := h
    refine w_iinc rfl rfl hf2 ?_
    refine wp_sts 1 (pc' := 128) (ls' := [some (.inr (.inr 103)), some (.inl x1), some (.inl (x2 + 1))]) (st' := []) (M' := (ab_w M 109 x2.toNat (M 117 x2.toNat))) rfl ?_
    exact h
/- Model.town, at 154 -/
set_option maxRecDepth 100000 in
theorem b126_154 {d t : Nat}  {x1 : Int} {x2 : Int} {M : ab_M} {Q : Option ab_V → ab_M → Prop} (hd : 1 ≤ d) (hS : pu_str t M)  (h : (36 ≤ x2 → ab_wp d 126 180 [some (.inr (.inr 103)), some (.inl x1), some (.inl 0)] [] M Q) ∧ (x2 < 36 → (0 ≤ x2 ∧ x2 < 36) ∧ ab_rg (x2 + 1) ∧ ab_wp d 126 154 [some (.inr (.inr 103)), some (.inl x1), some (.inl (x2 + 1))] [] (ab_w M 110 x2.toNat (M 118 x2.toNat)) Q)) : ab_wp d 126 154 [some (.inr (.inr 103)), some (.inl x1), some (.inl x2)] [] M Q := by
  refine wp_sts 2 (pc' := 157) (ls' := [some (.inr (.inr 103)), some (.inl x1), some (.inl x2)]) (st' := [.inl 36, .inl x2]) (M' := M) rfl ?_
  refine c2_ge rfl (fun c => ?_) (fun c => ?_)
  · replace h := h.1 c
    refine wp_sts 2 (pc' := 180) (ls' := [some (.inr (.inr 103)), some (.inl x1), some (.inl 0)]) (st' := []) (M' := M) rfl ?_
    exact h
  · replace h := h.2 c
    refine wp_sts 1 (pc' := 161) (ls' := [some (.inr (.inr 103)), some (.inl x1), some (.inl x2)]) (st' := [.inr (.inr 103)]) (M' := M) rfl ?_
    refine g_getR (j := 110) rfl hS rfl (str_r hS 103 12 110 rfl) (by decide) ?_
    refine wp_sts 2 (pc' := 166) (ls' := [some (.inr (.inr 103)), some (.inl x1), some (.inl x2)]) (st' := [.inr (.inr 103), .inl x2, .inr (.inr 110)]) (M' := M) rfl ?_
    refine g_getR (j := 118) rfl hS rfl (str_r hS 103 33 118 rfl) (by decide) ?_
    refine wp_sts 1 (pc' := 170) (ls' := [some (.inr (.inr 103)), some (.inl x1), some (.inl x2)]) (st' := [.inl x2, .inr (.inr 118), .inl x2, .inr (.inr 110)]) (M' := M) rfl ?_
    obtain ⟨hf1, h⟩ := h
    refine g_iald (n := 36) rfl hS rfl hf1 ?_
    refine g_iast (n := 36) rfl hS rfl hf1 ?_
    obtain ⟨hf2, h⟩ := h
    refine w_iinc rfl rfl hf2 ?_
    refine wp_sts 1 (pc' := 154) (ls' := [some (.inr (.inr 103)), some (.inl x1), some (.inl (x2 + 1))]) (st' := []) (M' := (ab_w M 110 x2.toNat (M 118 x2.toNat))) rfl ?_
    exact h
/- Model.town, at 180 -/
set_option maxRecDepth 100000 in
theorem b126_180 {d t : Nat}  {x1 : Int} {x2 : Int} {M : ab_M} {Q : Option ab_V → ab_M → Prop} (hd : 1 ≤ d) (hS : pu_str t M)  (h : (4 ≤ x2 → ab_wp d 126 229 [some (.inr (.inr 103)), some (.inl x1), some (.inl 0)] [] (ab_w (ab_w (ab_w M 112 0 0) 112 1 (M 103 4)) 112 2 ((-1))) Q) ∧ (x2 < 4 → (0 ≤ x2 ∧ x2 < 4) ∧ ab_rg (x2 + 1) ∧ ab_wp d 126 180 [some (.inr (.inr 103)), some (.inl x1), some (.inl (x2 + 1))] [] (ab_w M 111 x2.toNat (M 119 x2.toNat)) Q)) : ab_wp d 126 180 [some (.inr (.inr 103)), some (.inl x1), some (.inl x2)] [] M Q := by
  refine wp_sts 2 (pc' := 182) (ls' := [some (.inr (.inr 103)), some (.inl x1), some (.inl x2)]) (st' := [.inl 4, .inl x2]) (M' := M) rfl ?_
  refine c2_ge rfl (fun c => ?_) (fun c => ?_)
  · replace h := h.1 c
    refine wp_sts 1 (pc' := 204) (ls' := [some (.inr (.inr 103)), some (.inl x1), some (.inl x2)]) (st' := [.inr (.inr 103)]) (M' := M) rfl ?_
    refine g_getR (j := 112) rfl hS rfl (str_r hS 103 15 112 rfl) (by decide) ?_
    refine wp_sts 2 (pc' := 209) (ls' := [some (.inr (.inr 103)), some (.inl x1), some (.inl x2)]) (st' := [.inl 0, .inl 0, .inr (.inr 112)]) (M' := M) rfl ?_
    refine g_iast (n := 10) rfl hS rfl (by decide) ?_
    refine wp_sts 1 (pc' := 211) (ls' := [some (.inr (.inr 103)), some (.inl x1), some (.inl x2)]) (st' := [.inr (.inr 103)]) (M' := (ab_w M 112 0 0)) rfl ?_
    refine g_getR (j := 112) rfl (str_a (k := 112) (f := 0) (v := 0) hS rfl) rfl (str_r (str_a (k := 112) (f := 0) (v := 0) hS rfl) 103 15 112 rfl) (by decide) ?_
    refine wp_sts 2 (pc' := 216) (ls' := [some (.inr (.inr 103)), some (.inl x1), some (.inl x2)]) (st' := [.inr (.inr 103), .inl 1, .inr (.inr 112)]) (M' := (ab_w M 112 0 0)) rfl ?_
    refine g_getI rfl (str_a (k := 112) (f := 0) (v := 0) hS rfl) rfl ?_
    refine g_iast (n := 10) rfl (str_a (k := 112) (f := 0) (v := 0) hS rfl) rfl (by decide) ?_
    refine wp_sts 1 (pc' := 221) (ls' := [some (.inr (.inr 103)), some (.inl x1), some (.inl x2)]) (st' := [.inr (.inr 103)]) (M' := (ab_w (ab_w M 112 0 0) 112 1 (M 103 4))) rfl ?_
    refine g_getR (j := 112) rfl (str_a (k := 112) (f := 1) (v := M 103 4) (str_a (k := 112) (f := 0) (v := 0) hS rfl) rfl) rfl (str_r (str_a (k := 112) (f := 1) (v := M 103 4) (str_a (k := 112) (f := 0) (v := 0) hS rfl) rfl) 103 15 112 rfl) (by decide) ?_
    refine wp_sts 2 (pc' := 226) (ls' := [some (.inr (.inr 103)), some (.inl x1), some (.inl x2)]) (st' := [.inl ((-1)), .inl 2, .inr (.inr 112)]) (M' := (ab_w (ab_w M 112 0 0) 112 1 (M 103 4))) rfl ?_
    refine g_iast (n := 10) rfl (str_a (k := 112) (f := 1) (v := M 103 4) (str_a (k := 112) (f := 0) (v := 0) hS rfl) rfl) rfl (by decide) ?_
    refine wp_sts 2 (pc' := 229) (ls' := [some (.inr (.inr 103)), some (.inl x1), some (.inl 0)]) (st' := []) (M' := (ab_w (ab_w (ab_w M 112 0 0) 112 1 (M 103 4)) 112 2 ((-1)))) rfl ?_
    exact h
  · replace h := h.2 c
    refine wp_sts 1 (pc' := 186) (ls' := [some (.inr (.inr 103)), some (.inl x1), some (.inl x2)]) (st' := [.inr (.inr 103)]) (M' := M) rfl ?_
    refine g_getR (j := 111) rfl hS rfl (str_r hS 103 13 111 rfl) (by decide) ?_
    refine wp_sts 2 (pc' := 191) (ls' := [some (.inr (.inr 103)), some (.inl x1), some (.inl x2)]) (st' := [.inr (.inr 103), .inl x2, .inr (.inr 111)]) (M' := M) rfl ?_
    refine g_getR (j := 119) rfl hS rfl (str_r hS 103 35 119 rfl) (by decide) ?_
    refine wp_sts 1 (pc' := 195) (ls' := [some (.inr (.inr 103)), some (.inl x1), some (.inl x2)]) (st' := [.inl x2, .inr (.inr 119), .inl x2, .inr (.inr 111)]) (M' := M) rfl ?_
    obtain ⟨hf1, h⟩ := h
    refine g_iald (n := 4) rfl hS rfl hf1 ?_
    refine g_iast (n := 4) rfl hS rfl hf1 ?_
    obtain ⟨hf2, h⟩ := h
    refine w_iinc rfl rfl hf2 ?_
    refine wp_sts 1 (pc' := 180) (ls' := [some (.inr (.inr 103)), some (.inl x1), some (.inl (x2 + 1))]) (st' := []) (M' := (ab_w M 111 x2.toNat (M 119 x2.toNat))) rfl ?_
    exact h
/- Model.town, at 229 -/
set_option maxRecDepth 100000 in
theorem b126_229 {d t : Nat}  {x1 : Int} {x2 : Int} {M : ab_M} {Q : Option ab_V → ab_M → Prop} (hd : 1 ≤ d) (hS : pu_str t M)  (h : (6 ≤ x2 → Q (some (.inl (M 103 11))) (ab_w (ab_w (ab_w (ab_w M 103 17 0) 103 19 0) 130 0 0) 130 1 0)) ∧ (x2 < 6 → ab_rg (4 + x2) ∧ (0 ≤ 4 + x2 ∧ 4 + x2 < 10) ∧ ab_rg (x2 + 1) ∧ ab_wp d 126 229 [some (.inr (.inr 103)), some (.inl x1), some (.inl (x2 + 1))] [] (ab_w M 112 (4 + x2).toNat ((-1))) Q)) : ab_wp d 126 229 [some (.inr (.inr 103)), some (.inl x1), some (.inl x2)] [] M Q := by
  refine wp_sts 2 (pc' := 232) (ls' := [some (.inr (.inr 103)), some (.inl x1), some (.inl x2)]) (st' := [.inl 6, .inl x2]) (M' := M) rfl ?_
  refine c2_ge rfl (fun c => ?_) (fun c => ?_)
  · replace h := h.1 c
    refine wp_sts 2 (pc' := 252) (ls' := [some (.inr (.inr 103)), some (.inl x1), some (.inl x2)]) (st' := [.inl 0, .inr (.inr 103)]) (M' := M) rfl ?_
    refine g_putI rfl hS rfl ?_
    refine wp_sts 2 (pc' := 257) (ls' := [some (.inr (.inr 103)), some (.inl x1), some (.inl x2)]) (st' := [.inl 0, .inr (.inr 103)]) (M' := (ab_w M 103 17 0)) rfl ?_
    refine g_putI rfl (str_w (k := 103) (f := 17) (v := 0) hS rfl) rfl ?_
    refine wp_sts 1 (pc' := 261) (ls' := [some (.inr (.inr 103)), some (.inl x1), some (.inl x2)]) (st' := [.inr (.inr 103)]) (M' := (ab_w (ab_w M 103 17 0) 103 19 0)) rfl ?_
    refine g_getR (j := 130) rfl (str_w (k := 103) (f := 19) (v := 0) (str_w (k := 103) (f := 17) (v := 0) hS rfl) rfl) rfl (str_r (str_w (k := 103) (f := 19) (v := 0) (str_w (k := 103) (f := 17) (v := 0) hS rfl) rfl) 103 48 130 rfl) (by decide) ?_
    refine wp_sts 2 (pc' := 266) (ls' := [some (.inr (.inr 103)), some (.inl x1), some (.inl x2)]) (st' := [.inl 0, .inl 0, .inr (.inr 130)]) (M' := (ab_w (ab_w M 103 17 0) 103 19 0)) rfl ?_
    refine g_bast (n := 2) rfl (str_w (k := 103) (f := 19) (v := 0) (str_w (k := 103) (f := 17) (v := 0) hS rfl) rfl) rfl (by decide) (by decide) ?_
    refine wp_sts 1 (pc' := 268) (ls' := [some (.inr (.inr 103)), some (.inl x1), some (.inl x2)]) (st' := [.inr (.inr 103)]) (M' := (ab_w (ab_w (ab_w M 103 17 0) 103 19 0) 130 0 0)) rfl ?_
    refine g_getR (j := 130) rfl (str_a (k := 130) (f := 0) (v := 0) (str_w (k := 103) (f := 19) (v := 0) (str_w (k := 103) (f := 17) (v := 0) hS rfl) rfl) rfl) rfl (str_r (str_a (k := 130) (f := 0) (v := 0) (str_w (k := 103) (f := 19) (v := 0) (str_w (k := 103) (f := 17) (v := 0) hS rfl) rfl) rfl) 103 48 130 rfl) (by decide) ?_
    refine wp_sts 2 (pc' := 273) (ls' := [some (.inr (.inr 103)), some (.inl x1), some (.inl x2)]) (st' := [.inl 0, .inl 1, .inr (.inr 130)]) (M' := (ab_w (ab_w (ab_w M 103 17 0) 103 19 0) 130 0 0)) rfl ?_
    refine g_bast (n := 2) rfl (str_a (k := 130) (f := 0) (v := 0) (str_w (k := 103) (f := 19) (v := 0) (str_w (k := 103) (f := 17) (v := 0) hS rfl) rfl) rfl) rfl (by decide) (by decide) ?_
    refine wp_sts 1 (pc' := 275) (ls' := [some (.inr (.inr 103)), some (.inl x1), some (.inl x2)]) (st' := [.inr (.inr 103)]) (M' := (ab_w (ab_w (ab_w (ab_w M 103 17 0) 103 19 0) 130 0 0) 130 1 0)) rfl ?_
    refine g_getI rfl (str_a (k := 130) (f := 1) (v := 0) (str_a (k := 130) (f := 0) (v := 0) (str_w (k := 103) (f := 19) (v := 0) (str_w (k := 103) (f := 17) (v := 0) hS rfl) rfl) rfl) rfl) rfl ?_
    exact wp_ret rfl rfl (z := (some (.inl (M 103 11)), (ab_w (ab_w (ab_w (ab_w M 103 17 0) 103 19 0) 130 0 0) 130 1 0))) rfl h
  · replace h := h.2 c
    refine wp_sts 1 (pc' := 236) (ls' := [some (.inr (.inr 103)), some (.inl x1), some (.inl x2)]) (st' := [.inr (.inr 103)]) (M' := M) rfl ?_
    refine g_getR (j := 112) rfl hS rfl (str_r hS 103 15 112 rfl) (by decide) ?_
    refine wp_sts 2 (pc' := 241) (ls' := [some (.inr (.inr 103)), some (.inl x1), some (.inl x2)]) (st' := [.inl x2, .inl 4, .inr (.inr 112)]) (M' := M) rfl ?_
    obtain ⟨hf1, h⟩ := h
    refine w_iadd rfl hf1 ?_
    refine wp_sts 1 (pc' := 243) (ls' := [some (.inr (.inr 103)), some (.inl x1), some (.inl x2)]) (st' := [.inl ((-1)), .inl (4 + x2), .inr (.inr 112)]) (M' := M) rfl ?_
    obtain ⟨hf2, h⟩ := h
    refine g_iast (n := 10) rfl hS rfl hf2 ?_
    obtain ⟨hf3, h⟩ := h
    refine w_iinc rfl rfl hf3 ?_
    refine wp_sts 1 (pc' := 229) (ls' := [some (.inr (.inr 103)), some (.inl x1), some (.inl (x2 + 1))]) (st' := []) (M' := (ab_w M 112 (4 + x2).toNat ((-1)))) rfl ?_
    exact h
/- Model.fault, at 0 -/
theorem b127_0 {d t : Nat}   {M : ab_M} {Q : Option ab_V → ab_M → Prop} (hd : 1 ≤ d) (hS : pu_str t M)  (h : Q (some (.inl (M 103 2))) M) : ab_wp d 127 0 [some (.inr (.inr 103))] [] M Q := by
  refine wp_sts 1 (pc' := 1) (ls' := [some (.inr (.inr 103))]) (st' := [.inr (.inr 103)]) (M' := M) rfl ?_
  refine g_getI rfl hS rfl ?_
  exact wp_ret rfl rfl (z := (some (.inl (M 103 2)), M)) rfl h
