/-! blocks -/
/- Model.deedsOf, at 0 -/
theorem b169_0 {d t : Nat}  {x1 : Int} {M : ab_M} {Q : Option ab_V → ab_M → Prop} (hd : 1 ≤ d) (hS : pu_str t M)  (h : ab_wp d 169 4 [some (.inr (.inr 103)), some (.inl x1), some (.inl 0), some (.inl 0)] [] M Q) : ab_wp d 169 0 [some (.inr (.inr 103)), some (.inl x1), none, none] [] M Q := by
  refine wp_sts 4 (pc' := 4) (ls' := [some (.inr (.inr 103)), some (.inl x1), some (.inl 0), some (.inl 0)]) (st' := []) (M' := M) rfl ?_
  exact h
/- Model.deedsOf, at 4 -/
theorem b169_4 {d t : Nat}  {x1 : Int} {x2 : Int} {x3 : Int} {M : ab_M} {Q : Option ab_V → ab_M → Prop} (hd : 1 ≤ d) (hS : pu_str t M)  (h : (M 103 11 ≤ x3 → Q (some (.inl x2)) M) ∧ (x3 < M 103 11 → ab_rg (5 * x3) ∧ (0 ≤ 5 * x3 ∧ 5 * x3 < 30) ∧ (M 109 (5 * x3).toNat ≠ x1 → ab_rg (x3 + 1) ∧ ab_wp d 169 4 [some (.inr (.inr 103)), some (.inl x1), some (.inl (ab_or x2 0)), some (.inl (x3 + 1))] [] M Q) ∧ (M 109 (5 * x3).toNat = x1 → ab_rg (x3 + 1) ∧ ab_wp d 169 4 [some (.inr (.inr 103)), some (.inl x1), some (.inl (ab_or x2 (ab_shl 1 x3))), some (.inl (x3 + 1))] [] M Q))) : ab_wp d 169 4 [some (.inr (.inr 103)), some (.inl x1), some (.inl x2), some (.inl x3)] [] M Q := by
  refine wp_sts 2 (pc' := 6) (ls' := [some (.inr (.inr 103)), some (.inl x1), some (.inl x2), some (.inl x3)]) (st' := [.inr (.inr 103), .inl x3]) (M' := M) rfl ?_
  refine g_getI rfl hS rfl ?_
  refine c2_ge rfl (fun c => ?_) (fun c => ?_)
  · replace h := h.1 c
    refine wp_sts 1 (pc' := 41) (ls' := [some (.inr (.inr 103)), some (.inl x1), some (.inl x2), some (.inl x3)]) (st' := [.inl x2]) (M' := M) rfl ?_
    exact wp_ret rfl rfl (z := (some (.inl x2), M)) rfl h
  · replace h := h.2 c
    refine wp_sts 2 (pc' := 14) (ls' := [some (.inr (.inr 103)), some (.inl x1), some (.inl x2), some (.inl x3)]) (st' := [.inr (.inr 103), .inl x2]) (M' := M) rfl ?_
    refine g_getR (j := 109) rfl hS rfl (str_r hS 103 10 109 rfl) (by decide) ?_
    refine wp_sts 2 (pc' := 19) (ls' := [some (.inr (.inr 103)), some (.inl x1), some (.inl x2), some (.inl x3)]) (st' := [.inl x3, .inl 5, .inr (.inr 109), .inl x2]) (M' := M) rfl ?_
    obtain ⟨hf1, h⟩ := h
    refine w_imul rfl hf1 ?_
    obtain ⟨hf2, h⟩ := h
    refine g_iald (n := 30) rfl hS rfl hf2 ?_
    refine wp_sts 1 (pc' := 22) (ls' := [some (.inr (.inr 103)), some (.inl x1), some (.inl x2), some (.inl x3)]) (st' := [.inl x1, .inl (M 109 (5 * x3).toNat), .inl x2]) (M' := M) rfl ?_
    refine c2_ne rfl (fun c => ?_) (fun c => ?_)
    · replace h := h.1 c
      refine wp_sts 3 (pc' := 34) (ls' := [some (.inr (.inr 103)), some (.inl x1), some (.inl (ab_or x2 0)), some (.inl x3)]) (st' := []) (M' := M) rfl ?_
      obtain ⟨hf3, h⟩ := h
      refine w_iinc rfl rfl hf3 ?_
      refine wp_sts 1 (pc' := 4) (ls' := [some (.inr (.inr 103)), some (.inl x1), some (.inl (ab_or x2 0)), some (.inl (x3 + 1))]) (st' := []) (M' := M) rfl ?_
      exact h
    · replace h := h.2 c
      refine wp_sts 6 (pc' := 34) (ls' := [some (.inr (.inr 103)), some (.inl x1), some (.inl (ab_or x2 (ab_shl 1 x3))), some (.inl x3)]) (st' := []) (M' := M) rfl ?_
      obtain ⟨hf3, h⟩ := h
      refine w_iinc rfl rfl hf3 ?_
      refine wp_sts 1 (pc' := 4) (ls' := [some (.inr (.inr 103)), some (.inl x1), some (.inl (ab_or x2 (ab_shl 1 x3))), some (.inl (x3 + 1))]) (st' := []) (M' := M) rfl ?_
      exact h
/- Model.voteOf, at 0 -/
theorem b170_0 {d t : Nat}  {x1 : Int} {M : ab_M} {Q : Option ab_V → ab_M → Prop} (hd : 1 ≤ d) (hS : pu_str t M)  (h : ∃ r1 M1, ab_ev (d - 1) 169 [.inr (.inr 103), .inl x1] M (some (.inl r1)) M1 ∧ pu_str t M1 ∧ ∃ r2 M2, ab_ev (d - 1) 129 [.inr (.inr 103), .inl 0] M1 (some (.inl r2)) M2 ∧ pu_str t M2 ∧ ab_wp d 170 20 [some (.inr (.inr 103)), some (.inl x1), some (.inl (ab_and r1 r2)), some (.inl ((-1))), some (.inl 0), some (.inl 0), none] [] M2 Q) : ab_wp d 170 0 [some (.inr (.inr 103)), some (.inl x1), none, none, none, none, none] [] M Q := by
  refine wp_sts 2 (pc' := 2) (ls' := [some (.inr (.inr 103)), some (.inl x1), none, none, none, none, none]) (st' := [.inl x1, .inr (.inr 103)]) (M' := M) rfl ?_
  obtain ⟨r1, M1, he, hS1, h⟩ := h
  refine g_callI (c := 169) (as := [.inr (.inr 103), .inl x1]) (rs := []) rfl rfl hS hd rfl he ?_
  refine wp_sts 2 (pc' := 7) (ls' := [some (.inr (.inr 103)), some (.inl x1), none, none, none, none, none]) (st' := [.inl 0, .inr (.inr 103), .inl r1]) (M' := M1) rfl ?_
  obtain ⟨r2, M2, he, hS2, h⟩ := h
  refine g_callI (c := 129) (as := [.inr (.inr 103), .inl 0]) (rs := [.inl r1]) rfl rfl hS1 hd rfl he ?_
  refine wp_sts 8 (pc' := 20) (ls' := [some (.inr (.inr 103)), some (.inl x1), some (.inl (ab_and r1 r2)), some (.inl ((-1))), some (.inl 0), some (.inl 0), none]) (st' := []) (M' := M2) rfl ?_
  exact h
/- Model.voteOf, at 20 -/
theorem b170_20 {d t : Nat}  {x1 : Int} {x2 : Int} {x3 : Int} {x4 : Int} {x5 : Int} {y6 : Option ab_V} {M : ab_M} {Q : Option ab_V → ab_M → Prop} (hd : 1 ≤ d) (hS : pu_str t M)  (h : (M 103 14 ≤ x5 → Q (some (.inl x3)) M) ∧ (x5 < M 103 14 → (0 ≤ x5 ∧ x5 < 4) ∧ ∃ r1 M1, ab_ev (d - 1) 130 [.inr (.inr 103), .inl (ab_and x2 (M 111 x5.toNat))] M (some (.inl r1)) M1 ∧ pu_str t M1 ∧ (r1 ≤ x4 → (r1 ≤ x4 → ab_rg (x5 + 1) ∧ ab_wp d 170 20 [some (.inr (.inr 103)), some (.inl x1), some (.inl x2), some (.inl x3), some (.inl x4), some (.inl (x5 + 1)), some (.inl r1)] [] M1 Q) ∧ (x4 < r1 → ab_rg (x5 + 1) ∧ ab_wp d 170 20 [some (.inr (.inr 103)), some (.inl x1), some (.inl x2), some (.inl x3), some (.inl r1), some (.inl (x5 + 1)), some (.inl r1)] [] M1 Q)) ∧ (x4 < r1 → (r1 ≤ x4 → ab_rg (x5 + 1) ∧ ab_wp d 170 20 [some (.inr (.inr 103)), some (.inl x1), some (.inl x2), some (.inl x5), some (.inl x4), some (.inl (x5 + 1)), some (.inl r1)] [] M1 Q) ∧ (x4 < r1 → ab_rg (x5 + 1) ∧ ab_wp d 170 20 [some (.inr (.inr 103)), some (.inl x1), some (.inl x2), some (.inl x5), some (.inl r1), some (.inl (x5 + 1)), some (.inl r1)] [] M1 Q)))) : ab_wp d 170 20 [some (.inr (.inr 103)), some (.inl x1), some (.inl x2), some (.inl x3), some (.inl x4), some (.inl x5), y6] [] M Q := by
  refine wp_sts 2 (pc' := 23) (ls' := [some (.inr (.inr 103)), some (.inl x1), some (.inl x2), some (.inl x3), some (.inl x4), some (.inl x5), y6]) (st' := [.inr (.inr 103), .inl x5]) (M' := M) rfl ?_
  refine g_getI rfl hS rfl ?_
  refine c2_ge rfl (fun c => ?_) (fun c => ?_)
  · replace h := h.1 c
    refine wp_sts 1 (pc' := 81) (ls' := [some (.inr (.inr 103)), some (.inl x1), some (.inl x2), some (.inl x3), some (.inl x4), some (.inl x5), y6]) (st' := [.inl x3]) (M' := M) rfl ?_
    exact wp_ret rfl rfl (z := (some (.inl x3), M)) rfl h
  · replace h := h.2 c
    refine wp_sts 3 (pc' := 32) (ls' := [some (.inr (.inr 103)), some (.inl x1), some (.inl x2), some (.inl x3), some (.inl x4), some (.inl x5), y6]) (st' := [.inr (.inr 103), .inl x2, .inr (.inr 103)]) (M' := M) rfl ?_
    refine g_getR (j := 111) rfl hS rfl (str_r hS 103 13 111 rfl) (by decide) ?_
    refine wp_sts 1 (pc' := 37) (ls' := [some (.inr (.inr 103)), some (.inl x1), some (.inl x2), some (.inl x3), some (.inl x4), some (.inl x5), y6]) (st' := [.inl x5, .inr (.inr 111), .inl x2, .inr (.inr 103)]) (M' := M) rfl ?_
    obtain ⟨hf1, h⟩ := h
    refine g_iald (n := 4) rfl hS rfl hf1 ?_
    refine wp_sts 1 (pc' := 39) (ls' := [some (.inr (.inr 103)), some (.inl x1), some (.inl x2), some (.inl x3), some (.inl x4), some (.inl x5), y6]) (st' := [.inl (ab_and x2 (M 111 x5.toNat)), .inr (.inr 103)]) (M' := M) rfl ?_
    obtain ⟨r1, M1, he, hS1, h⟩ := h
    refine g_callI (c := 130) (as := [.inr (.inr 103), .inl (ab_and x2 (M 111 x5.toNat))]) (rs := []) rfl rfl hS hd rfl he ?_
    refine wp_sts 3 (pc' := 48) (ls' := [some (.inr (.inr 103)), some (.inl x1), some (.inl x2), some (.inl x3), some (.inl x4), some (.inl x5), some (.inl r1)]) (st' := [.inl x4, .inl r1]) (M' := M1) rfl ?_
    refine c2_le rfl (fun c => ?_) (fun c => ?_)
    · replace h := h.1 c
      refine wp_sts 4 (pc' := 62) (ls' := [some (.inr (.inr 103)), some (.inl x1), some (.inl x2), some (.inl x3), some (.inl x4), some (.inl x5), some (.inl r1)]) (st' := [.inl x4, .inl r1]) (M' := M1) rfl ?_
      refine c2_le rfl (fun c => ?_) (fun c => ?_)
      · replace h := h.1 c
        refine wp_sts 2 (pc' := 74) (ls' := [some (.inr (.inr 103)), some (.inl x1), some (.inl x2), some (.inl x3), some (.inl x4), some (.inl x5), some (.inl r1)]) (st' := []) (M' := M1) rfl ?_
        obtain ⟨hf2, h⟩ := h
        refine w_iinc rfl rfl hf2 ?_
        refine wp_sts 1 (pc' := 20) (ls' := [some (.inr (.inr 103)), some (.inl x1), some (.inl x2), some (.inl x3), some (.inl x4), some (.inl (x5 + 1)), some (.inl r1)]) (st' := []) (M' := M1) rfl ?_
        exact h
      · replace h := h.2 c
        refine wp_sts 3 (pc' := 74) (ls' := [some (.inr (.inr 103)), some (.inl x1), some (.inl x2), some (.inl x3), some (.inl r1), some (.inl x5), some (.inl r1)]) (st' := []) (M' := M1) rfl ?_
        obtain ⟨hf2, h⟩ := h
        refine w_iinc rfl rfl hf2 ?_
        refine wp_sts 1 (pc' := 20) (ls' := [some (.inr (.inr 103)), some (.inl x1), some (.inl x2), some (.inl x3), some (.inl r1), some (.inl (x5 + 1)), some (.inl r1)]) (st' := []) (M' := M1) rfl ?_
        exact h
    · replace h := h.2 c
      refine wp_sts 5 (pc' := 62) (ls' := [some (.inr (.inr 103)), some (.inl x1), some (.inl x2), some (.inl x5), some (.inl x4), some (.inl x5), some (.inl r1)]) (st' := [.inl x4, .inl r1]) (M' := M1) rfl ?_
      refine c2_le rfl (fun c => ?_) (fun c => ?_)
      · replace h := h.1 c
        refine wp_sts 2 (pc' := 74) (ls' := [some (.inr (.inr 103)), some (.inl x1), some (.inl x2), some (.inl x5), some (.inl x4), some (.inl x5), some (.inl r1)]) (st' := []) (M' := M1) rfl ?_
        obtain ⟨hf2, h⟩ := h
        refine w_iinc rfl rfl hf2 ?_
        refine wp_sts 1 (pc' := 20) (ls' := [some (.inr (.inr 103)), some (.inl x1), some (.inl x2), some (.inl x5), some (.inl x4), some (.inl (x5 + 1)), some (.inl r1)]) (st' := []) (M' := M1) rfl ?_
        exact h
      · replace h := h.2 c
        refine wp_sts 3 (pc' := 74) (ls' := [some (.inr (.inr 103)), some (.inl x1), some (.inl x2), some (.inl x5), some (.inl r1), some (.inl x5), some (.inl r1)]) (st' := []) (M' := M1) rfl ?_
        obtain ⟨hf2, h⟩ := h
        refine w_iinc rfl rfl hf2 ?_
        refine wp_sts 1 (pc' := 20) (ls' := [some (.inr (.inr 103)), some (.inl x1), some (.inl x2), some (.inl x5), some (.inl r1), some (.inl (x5 + 1)), some (.inl r1)]) (st' := []) (M' := M1) rfl ?_
        exact h
/- Model.votesFor, at 0 -/
theorem b171_0 {d t : Nat}  {x1 : Int} {M : ab_M} {Q : Option ab_V → ab_M → Prop} (hd : 1 ≤ d) (hS : pu_str t M)  (h : ab_wp d 171 4 [some (.inr (.inr 103)), some (.inl x1), some (.inl 0), some (.inl 0)] [] M Q) : ab_wp d 171 0 [some (.inr (.inr 103)), some (.inl x1), none, none] [] M Q := by
  refine wp_sts 4 (pc' := 4) (ls' := [some (.inr (.inr 103)), some (.inl x1), some (.inl 0), some (.inl 0)]) (st' := []) (M' := M) rfl ?_
  exact h
/- Model.votesFor, at 4 -/
theorem b171_4 {d t : Nat}  {x1 : Int} {x2 : Int} {x3 : Int} {M : ab_M} {Q : Option ab_V → ab_M → Prop} (hd : 1 ≤ d) (hS : pu_str t M)  (h : (M 103 9 ≤ x3 → Q (some (.inl x2)) M) ∧ (x3 < M 103 9 → ∃ r1 M1, ab_ev (d - 1) 170 [.inr (.inr 103), .inl x3] M (some (.inl r1)) M1 ∧ pu_str t M1 ∧ (r1 ≠ x1 → ab_rg (x2 + 0) ∧ ab_rg (x3 + 1) ∧ ab_wp d 171 4 [some (.inr (.inr 103)), some (.inl x1), some (.inl (x2 + 0)), some (.inl (x3 + 1))] [] M1 Q) ∧ (r1 = x1 → ab_rg (x2 + 1) ∧ ab_rg (x3 + 1) ∧ ab_wp d 171 4 [some (.inr (.inr 103)), some (.inl x1), some (.inl (x2 + 1)), some (.inl (x3 + 1))] [] M1 Q))) : ab_wp d 171 4 [some (.inr (.inr 103)), some (.inl x1), some (.inl x2), some (.inl x3)] [] M Q := by
  refine wp_sts 2 (pc' := 6) (ls' := [some (.inr (.inr 103)), some (.inl x1), some (.inl x2), some (.inl x3)]) (st' := [.inr (.inr 103), .inl x3]) (M' := M) rfl ?_
  refine g_getI rfl hS rfl ?_
  refine c2_ge rfl (fun c => ?_) (fun c => ?_)
  · replace h := h.1 c
    refine wp_sts 1 (pc' := 36) (ls' := [some (.inr (.inr 103)), some (.inl x1), some (.inl x2), some (.inl x3)]) (st' := [.inl x2]) (M' := M) rfl ?_
    exact wp_ret rfl rfl (z := (some (.inl x2), M)) rfl h
  · replace h := h.2 c
    refine wp_sts 3 (pc' := 15) (ls' := [some (.inr (.inr 103)), some (.inl x1), some (.inl x2), some (.inl x3)]) (st' := [.inl x3, .inr (.inr 103), .inl x2]) (M' := M) rfl ?_
    obtain ⟨r1, M1, he, hS1, h⟩ := h
    refine g_callI (c := 170) (as := [.inr (.inr 103), .inl x3]) (rs := [.inl x2]) rfl rfl hS hd rfl he ?_
    refine wp_sts 1 (pc' := 19) (ls' := [some (.inr (.inr 103)), some (.inl x1), some (.inl x2), some (.inl x3)]) (st' := [.inl x1, .inl r1, .inl x2]) (M' := M1) rfl ?_
    refine c2_ne rfl (fun c => ?_) (fun c => ?_)
    · replace h := h.1 c
      refine wp_sts 1 (pc' := 27) (ls' := [some (.inr (.inr 103)), some (.inl x1), some (.inl x2), some (.inl x3)]) (st' := [.inl 0, .inl x2]) (M' := M1) rfl ?_
      obtain ⟨hf1, h⟩ := h
      refine w_iadd rfl hf1 ?_
      refine wp_sts 1 (pc' := 29) (ls' := [some (.inr (.inr 103)), some (.inl x1), some (.inl (x2 + 0)), some (.inl x3)]) (st' := []) (M' := M1) rfl ?_
      obtain ⟨hf2, h⟩ := h
      refine w_iinc rfl rfl hf2 ?_
      refine wp_sts 1 (pc' := 4) (ls' := [some (.inr (.inr 103)), some (.inl x1), some (.inl (x2 + 0)), some (.inl (x3 + 1))]) (st' := []) (M' := M1) rfl ?_
      exact h
    · replace h := h.2 c
      refine wp_sts 2 (pc' := 27) (ls' := [some (.inr (.inr 103)), some (.inl x1), some (.inl x2), some (.inl x3)]) (st' := [.inl 1, .inl x2]) (M' := M1) rfl ?_
      obtain ⟨hf1, h⟩ := h
      refine w_iadd rfl hf1 ?_
      refine wp_sts 1 (pc' := 29) (ls' := [some (.inr (.inr 103)), some (.inl x1), some (.inl (x2 + 1)), some (.inl x3)]) (st' := []) (M' := M1) rfl ?_
      obtain ⟨hf2, h⟩ := h
      refine w_iinc rfl rfl hf2 ?_
      refine wp_sts 1 (pc' := 4) (ls' := [some (.inr (.inr 103)), some (.inl x1), some (.inl (x2 + 1)), some (.inl (x3 + 1))]) (st' := []) (M' := M1) rfl ?_
      exact h
/- Model.vote, at 0 -/
theorem b172_0 {d t : Nat}  {x1 : Int} {M : ab_M} {Q : Option ab_V → ab_M → Prop} (hd : 1 ≤ d) (hS : pu_str t M)  (h : ab_rg ((M 103 14) - 1) ∧ ∃ r1 M1, ab_ev (d - 1) 107 [.inr (.inl x1), .inr (.inl ((-1))), .inr (.inl ((M 103 14) - 1))] M (some (.inl r1)) M1 ∧ pu_str t M1 ∧ (r1 ≠ 0 → (x1 < 0 → ab_wp d 172 38 [some (.inr (.inr 103)), some (.inl x1), some (.inl ((-1))), some (.inl 0), some (.inl 0), none] [] M1 Q) ∧ (0 ≤ x1 → ∃ r2 M2, ab_ev (d - 1) 171 [.inr (.inr 103), .inl x1] M1 (some (.inl r2)) M2 ∧ pu_str t M2 ∧ Q (some (.inl r2)) M2)) ∧ (r1 = 0 → Q (some (.inl ((-1000000001)))) M1)) : ab_wp d 172 0 [some (.inr (.inr 103)), some (.inl x1), none, none, none, none] [] M Q := by
  refine wp_sts 4 (pc' := 6) (ls' := [some (.inr (.inr 103)), some (.inl x1), none, none, none, none]) (st' := [.inr (.inr 103), .inr (.inl ((-1))), .inr (.inl x1)]) (M' := M) rfl ?_
  refine g_getI rfl hS rfl ?_
  refine wp_sts 1 (pc' := 10) (ls' := [some (.inr (.inr 103)), some (.inl x1), none, none, none, none]) (st' := [.inl 1, .inl (M 103 14), .inr (.inl ((-1))), .inr (.inl x1)]) (M' := M) rfl ?_
  obtain ⟨hf1, h⟩ := h
  refine w_isub rfl hf1 ?_
  refine wp_sts 1 (pc' := 12) (ls' := [some (.inr (.inr 103)), some (.inl x1), none, none, none, none]) (st' := [.inr (.inl ((M 103 14) - 1)), .inr (.inl ((-1))), .inr (.inl x1)]) (M' := M) rfl ?_
  obtain ⟨r1, M1, he, hS1, h⟩ := h
  refine g_callI (c := 107) (as := [.inr (.inl x1), .inr (.inl ((-1))), .inr (.inl ((M 103 14) - 1))]) (rs := []) rfl rfl hS hd rfl he ?_
  refine c1_ne rfl (fun c => ?_) (fun c => ?_)
  · replace h := h.1 c
    refine wp_sts 1 (pc' := 22) (ls' := [some (.inr (.inr 103)), some (.inl x1), none, none, none, none]) (st' := [.inl x1]) (M' := M1) rfl ?_
    refine c1_lt rfl (fun c => ?_) (fun c => ?_)
    · replace h := h.1 c
      refine wp_sts 6 (pc' := 38) (ls' := [some (.inr (.inr 103)), some (.inl x1), some (.inl ((-1))), some (.inl 0), some (.inl 0), none]) (st' := []) (M' := M1) rfl ?_
      exact h
    · replace h := h.2 c
      refine wp_sts 2 (pc' := 27) (ls' := [some (.inr (.inr 103)), some (.inl x1), none, none, none, none]) (st' := [.inl x1, .inr (.inr 103)]) (M' := M1) rfl ?_
      obtain ⟨r2, M2, he, hS2, h⟩ := h
      refine g_callI (c := 171) (as := [.inr (.inr 103), .inl x1]) (rs := []) rfl rfl hS1 hd rfl he ?_
      exact wp_ret rfl rfl (z := (some (.inl r2), M2)) rfl h
  · replace h := h.2 c
    refine wp_sts 1 (pc' := 20) (ls' := [some (.inr (.inr 103)), some (.inl x1), none, none, none, none]) (st' := [.inl ((-1000000001))]) (M' := M1) rfl ?_
    exact wp_ret rfl rfl (z := (some (.inl ((-1000000001))), M1)) rfl h
/- Model.vote, at 38 -/
theorem b172_38 {d t : Nat}  {x1 : Int} {x2 : Int} {x3 : Int} {x4 : Int} {y5 : Option ab_V} {M : ab_M} {Q : Option ab_V → ab_M → Prop} (hd : 1 ≤ d) (hS : pu_str t M)  (h : (M 103 14 ≤ x4 → Q (some (.inl x2)) M) ∧ (x4 < M 103 14 → ∃ r1 M1, ab_ev (d - 1) 171 [.inr (.inr 103), .inl x4] M (some (.inl r1)) M1 ∧ pu_str t M1 ∧ (r1 ≤ x3 → (r1 ≤ x3 → ab_rg (x4 + 1) ∧ ab_wp d 172 38 [some (.inr (.inr 103)), some (.inl x1), some (.inl x2), some (.inl x3), some (.inl (x4 + 1)), some (.inl r1)] [] M1 Q) ∧ (x3 < r1 → ab_rg (x4 + 1) ∧ ab_wp d 172 38 [some (.inr (.inr 103)), some (.inl x1), some (.inl x2), some (.inl r1), some (.inl (x4 + 1)), some (.inl r1)] [] M1 Q)) ∧ (x3 < r1 → (r1 ≤ x3 → ab_rg (x4 + 1) ∧ ab_wp d 172 38 [some (.inr (.inr 103)), some (.inl x1), some (.inl x4), some (.inl x3), some (.inl (x4 + 1)), some (.inl r1)] [] M1 Q) ∧ (x3 < r1 → ab_rg (x4 + 1) ∧ ab_wp d 172 38 [some (.inr (.inr 103)), some (.inl x1), some (.inl x4), some (.inl r1), some (.inl (x4 + 1)), some (.inl r1)] [] M1 Q)))) : ab_wp d 172 38 [some (.inr (.inr 103)), some (.inl x1), some (.inl x2), some (.inl x3), some (.inl x4), y5] [] M Q := by
  refine wp_sts 2 (pc' := 41) (ls' := [some (.inr (.inr 103)), some (.inl x1), some (.inl x2), some (.inl x3), some (.inl x4), y5]) (st' := [.inr (.inr 103), .inl x4]) (M' := M) rfl ?_
  refine g_getI rfl hS rfl ?_
  refine c2_ge rfl (fun c => ?_) (fun c => ?_)
  · replace h := h.1 c
    refine wp_sts 1 (pc' := 88) (ls' := [some (.inr (.inr 103)), some (.inl x1), some (.inl x2), some (.inl x3), some (.inl x4), y5]) (st' := [.inl x2]) (M' := M) rfl ?_
    exact wp_ret rfl rfl (z := (some (.inl x2), M)) rfl h
  · replace h := h.2 c
    refine wp_sts 2 (pc' := 50) (ls' := [some (.inr (.inr 103)), some (.inl x1), some (.inl x2), some (.inl x3), some (.inl x4), y5]) (st' := [.inl x4, .inr (.inr 103)]) (M' := M) rfl ?_
    obtain ⟨r1, M1, he, hS1, h⟩ := h
    refine g_callI (c := 171) (as := [.inr (.inr 103), .inl x4]) (rs := []) rfl rfl hS hd rfl he ?_
    refine wp_sts 3 (pc' := 58) (ls' := [some (.inr (.inr 103)), some (.inl x1), some (.inl x2), some (.inl x3), some (.inl x4), some (.inl r1)]) (st' := [.inl x3, .inl r1]) (M' := M1) rfl ?_
    refine c2_le rfl (fun c => ?_) (fun c => ?_)
    · replace h := h.1 c
      refine wp_sts 4 (pc' := 71) (ls' := [some (.inr (.inr 103)), some (.inl x1), some (.inl x2), some (.inl x3), some (.inl x4), some (.inl r1)]) (st' := [.inl x3, .inl r1]) (M' := M1) rfl ?_
      refine c2_le rfl (fun c => ?_) (fun c => ?_)
      · replace h := h.1 c
        refine wp_sts 2 (pc' := 81) (ls' := [some (.inr (.inr 103)), some (.inl x1), some (.inl x2), some (.inl x3), some (.inl x4), some (.inl r1)]) (st' := []) (M' := M1) rfl ?_
        obtain ⟨hf1, h⟩ := h
        refine w_iinc rfl rfl hf1 ?_
        refine wp_sts 1 (pc' := 38) (ls' := [some (.inr (.inr 103)), some (.inl x1), some (.inl x2), some (.inl x3), some (.inl (x4 + 1)), some (.inl r1)]) (st' := []) (M' := M1) rfl ?_
        exact h
      · replace h := h.2 c
        refine wp_sts 3 (pc' := 81) (ls' := [some (.inr (.inr 103)), some (.inl x1), some (.inl x2), some (.inl r1), some (.inl x4), some (.inl r1)]) (st' := []) (M' := M1) rfl ?_
        obtain ⟨hf1, h⟩ := h
        refine w_iinc rfl rfl hf1 ?_
        refine wp_sts 1 (pc' := 38) (ls' := [some (.inr (.inr 103)), some (.inl x1), some (.inl x2), some (.inl r1), some (.inl (x4 + 1)), some (.inl r1)]) (st' := []) (M' := M1) rfl ?_
        exact h
    · replace h := h.2 c
      refine wp_sts 5 (pc' := 71) (ls' := [some (.inr (.inr 103)), some (.inl x1), some (.inl x4), some (.inl x3), some (.inl x4), some (.inl r1)]) (st' := [.inl x3, .inl r1]) (M' := M1) rfl ?_
      refine c2_le rfl (fun c => ?_) (fun c => ?_)
      · replace h := h.1 c
        refine wp_sts 2 (pc' := 81) (ls' := [some (.inr (.inr 103)), some (.inl x1), some (.inl x4), some (.inl x3), some (.inl x4), some (.inl r1)]) (st' := []) (M' := M1) rfl ?_
        obtain ⟨hf1, h⟩ := h
        refine w_iinc rfl rfl hf1 ?_
        refine wp_sts 1 (pc' := 38) (ls' := [some (.inr (.inr 103)), some (.inl x1), some (.inl x4), some (.inl x3), some (.inl (x4 + 1)), some (.inl r1)]) (st' := []) (M' := M1) rfl ?_
        exact h
      · replace h := h.2 c
        refine wp_sts 3 (pc' := 81) (ls' := [some (.inr (.inr 103)), some (.inl x1), some (.inl x4), some (.inl r1), some (.inl x4), some (.inl r1)]) (st' := []) (M' := M1) rfl ?_
        obtain ⟨hf1, h⟩ := h
        refine w_iinc rfl rfl hf1 ?_
        refine wp_sts 1 (pc' := 38) (ls' := [some (.inr (.inr 103)), some (.inl x1), some (.inl x4), some (.inl r1), some (.inl (x4 + 1)), some (.inl r1)]) (st' := []) (M' := M1) rfl ?_
        exact h
/- Model.bestWord, at 0 -/
theorem b173_0 {d t : Nat}   {M : ab_M} {Q : Option ab_V → ab_M → Prop} (hd : 1 ≤ d) (hS : pu_str t M)  (h : ab_wp d 173 6 [some (.inr (.inr 103)), some (.inl ((-1))), some (.inl ((-1))), some (.inl 0), none] [] M Q) : ab_wp d 173 0 [some (.inr (.inr 103)), none, none, none, none] [] M Q := by
  refine wp_sts 6 (pc' := 6) (ls' := [some (.inr (.inr 103)), some (.inl ((-1))), some (.inl ((-1))), some (.inl 0), none]) (st' := []) (M' := M) rfl ?_
  exact h
/- Model.bestWord, at 6 -/
theorem b173_6 {d t : Nat}  {x1 : Int} {x2 : Int} {x3 : Int} {y4 : Option ab_V} {M : ab_M} {Q : Option ab_V → ab_M → Prop} (hd : 1 ≤ d) (hS : pu_str t M)  (h : (M 103 14 ≤ x3 → Q (some (.inl x1)) M) ∧ (x3 < M 103 14 → (0 ≤ x3 ∧ x3 < 4) ∧ ∃ r1 M1, ab_ev (d - 1) 129 [.inr (.inr 103), .inl 0] M (some (.inl r1)) M1 ∧ pu_str t M1 ∧ ∃ r2 M2, ab_ev (d - 1) 130 [.inr (.inr 103), .inl (ab_and (M 111 x3.toNat) r1)] M1 (some (.inl r2)) M2 ∧ pu_str t M2 ∧ (r2 ≤ x2 → (r2 ≤ x2 → ab_rg (x3 + 1) ∧ ab_wp d 173 6 [some (.inr (.inr 103)), some (.inl x1), some (.inl x2), some (.inl (x3 + 1)), some (.inl r2)] [] M2 Q) ∧ (x2 < r2 → ab_rg (x3 + 1) ∧ ab_wp d 173 6 [some (.inr (.inr 103)), some (.inl x1), some (.inl r2), some (.inl (x3 + 1)), some (.inl r2)] [] M2 Q)) ∧ (x2 < r2 → (r2 ≤ x2 → ab_rg (x3 + 1) ∧ ab_wp d 173 6 [some (.inr (.inr 103)), some (.inl x3), some (.inl x2), some (.inl (x3 + 1)), some (.inl r2)] [] M2 Q) ∧ (x2 < r2 → ab_rg (x3 + 1) ∧ ab_wp d 173 6 [some (.inr (.inr 103)), some (.inl x3), some (.inl r2), some (.inl (x3 + 1)), some (.inl r2)] [] M2 Q)))) : ab_wp d 173 6 [some (.inr (.inr 103)), some (.inl x1), some (.inl x2), some (.inl x3), y4] [] M Q := by
  refine wp_sts 2 (pc' := 8) (ls' := [some (.inr (.inr 103)), some (.inl x1), some (.inl x2), some (.inl x3), y4]) (st' := [.inr (.inr 103), .inl x3]) (M' := M) rfl ?_
  refine g_getI rfl hS rfl ?_
  refine c2_ge rfl (fun c => ?_) (fun c => ?_)
  · replace h := h.1 c
    refine wp_sts 1 (pc' := 64) (ls' := [some (.inr (.inr 103)), some (.inl x1), some (.inl x2), some (.inl x3), y4]) (st' := [.inl x1]) (M' := M) rfl ?_
    exact wp_ret rfl rfl (z := (some (.inl x1), M)) rfl h
  · replace h := h.2 c
    refine wp_sts 2 (pc' := 16) (ls' := [some (.inr (.inr 103)), some (.inl x1), some (.inl x2), some (.inl x3), y4]) (st' := [.inr (.inr 103), .inr (.inr 103)]) (M' := M) rfl ?_
    refine g_getR (j := 111) rfl hS rfl (str_r hS 103 13 111 rfl) (by decide) ?_
    refine wp_sts 1 (pc' := 20) (ls' := [some (.inr (.inr 103)), some (.inl x1), some (.inl x2), some (.inl x3), y4]) (st' := [.inl x3, .inr (.inr 111), .inr (.inr 103)]) (M' := M) rfl ?_
    obtain ⟨hf1, h⟩ := h
    refine g_iald (n := 4) rfl hS rfl hf1 ?_
    refine wp_sts 2 (pc' := 23) (ls' := [some (.inr (.inr 103)), some (.inl x1), some (.inl x2), some (.inl x3), y4]) (st' := [.inl 0, .inr (.inr 103), .inl (M 111 x3.toNat), .inr (.inr 103)]) (M' := M) rfl ?_
    obtain ⟨r1, M1, he, hS1, h⟩ := h
    refine g_callI (c := 129) (as := [.inr (.inr 103), .inl 0]) (rs := [.inl (M 111 x3.toNat), .inr (.inr 103)]) rfl rfl hS hd rfl he ?_
    refine wp_sts 1 (pc' := 27) (ls' := [some (.inr (.inr 103)), some (.inl x1), some (.inl x2), some (.inl x3), y4]) (st' := [.inl (ab_and (M 111 x3.toNat) r1), .inr (.inr 103)]) (M' := M1) rfl ?_
    obtain ⟨r2, M2, he, hS2, h⟩ := h
    refine g_callI (c := 130) (as := [.inr (.inr 103), .inl (ab_and (M 111 x3.toNat) r1)]) (rs := []) rfl rfl hS1 hd rfl he ?_
    refine wp_sts 3 (pc' := 35) (ls' := [some (.inr (.inr 103)), some (.inl x1), some (.inl x2), some (.inl x3), some (.inl r2)]) (st' := [.inl x2, .inl r2]) (M' := M2) rfl ?_
    refine c2_le rfl (fun c => ?_) (fun c => ?_)
    · replace h := h.1 c
      refine wp_sts 4 (pc' := 47) (ls' := [some (.inr (.inr 103)), some (.inl x1), some (.inl x2), some (.inl x3), some (.inl r2)]) (st' := [.inl x2, .inl r2]) (M' := M2) rfl ?_
      refine c2_le rfl (fun c => ?_) (fun c => ?_)
      · replace h := h.1 c
        refine wp_sts 2 (pc' := 57) (ls' := [some (.inr (.inr 103)), some (.inl x1), some (.inl x2), some (.inl x3), some (.inl r2)]) (st' := []) (M' := M2) rfl ?_
        obtain ⟨hf2, h⟩ := h
        refine w_iinc rfl rfl hf2 ?_
        refine wp_sts 1 (pc' := 6) (ls' := [some (.inr (.inr 103)), some (.inl x1), some (.inl x2), some (.inl (x3 + 1)), some (.inl r2)]) (st' := []) (M' := M2) rfl ?_
        exact h
      · replace h := h.2 c
        refine wp_sts 3 (pc' := 57) (ls' := [some (.inr (.inr 103)), some (.inl x1), some (.inl r2), some (.inl x3), some (.inl r2)]) (st' := []) (M' := M2) rfl ?_
        obtain ⟨hf2, h⟩ := h
        refine w_iinc rfl rfl hf2 ?_
        refine wp_sts 1 (pc' := 6) (ls' := [some (.inr (.inr 103)), some (.inl x1), some (.inl r2), some (.inl (x3 + 1)), some (.inl r2)]) (st' := []) (M' := M2) rfl ?_
        exact h
    · replace h := h.2 c
      refine wp_sts 5 (pc' := 47) (ls' := [some (.inr (.inr 103)), some (.inl x3), some (.inl x2), some (.inl x3), some (.inl r2)]) (st' := [.inl x2, .inl r2]) (M' := M2) rfl ?_
      refine c2_le rfl (fun c => ?_) (fun c => ?_)
      · replace h := h.1 c
        refine wp_sts 2 (pc' := 57) (ls' := [some (.inr (.inr 103)), some (.inl x3), some (.inl x2), some (.inl x3), some (.inl r2)]) (st' := []) (M' := M2) rfl ?_
        obtain ⟨hf2, h⟩ := h
        refine w_iinc rfl rfl hf2 ?_
        refine wp_sts 1 (pc' := 6) (ls' := [some (.inr (.inr 103)), some (.inl x3), some (.inl x2), some (.inl (x3 + 1)), some (.inl r2)]) (st' := []) (M' := M2) rfl ?_
        exact h
      · replace h := h.2 c
        refine wp_sts 3 (pc' := 57) (ls' := [some (.inr (.inr 103)), some (.inl x3), some (.inl r2), some (.inl x3), some (.inl r2)]) (st' := []) (M' := M2) rfl ?_
        obtain ⟨hf2, h⟩ := h
        refine w_iinc rfl rfl hf2 ?_
        refine wp_sts 1 (pc' := 6) (ls' := [some (.inr (.inr 103)), some (.inl x3), some (.inl r2), some (.inl (x3 + 1)), some (.inl r2)]) (st' := []) (M' := M2) rfl ?_
        exact h
/- Model.tell, at 0 -/
theorem b174_0 {d t : Nat}  {x1 : Int} {x2 : Int} {M : ab_M} {Q : Option ab_V → ab_M → Prop} (hd : 1 ≤ d) (hS : pu_str t M)  (h : ∃ r1 M1, ab_ev (d - 1) 111 [.inr (.inr 103), .inl x1] M (some (.inl r1)) M1 ∧ pu_str t M1 ∧ (r1 ≠ 0 → ∃ r2 M2, ab_ev (d - 1) 107 [.inr (.inl x2), .inr (.inl 1), .inr (.inl 999)] M1 (some (.inl r2)) M2 ∧ pu_str t M2 ∧ (r2 ≠ 0 → (M2 103 17 ≠ 6 → ab_rg (2 * (M2 103 17)) ∧ (0 ≤ 2 * (M2 103 17) ∧ 2 * (M2 103 17) < 12) ∧ ab_rg ((2 * (M2 103 17)) + 1) ∧ (0 ≤ (2 * (M2 103 17)) + 1 ∧ (2 * (M2 103 17)) + 1 < 12) ∧ ab_rg ((M2 103 17) + 1) ∧ Q (some (.inl ((M2 103 17) + 1))) (ab_w (ab_w (ab_w M2 113 (2 * (M2 103 17)).toNat x1) 113 ((2 * (M2 103 17)) + 1).toNat x2) 103 17 ((M2 103 17) + 1))) ∧ (M2 103 17 = 6 → Q (some (.inl ((-1000000004)))) M2)) ∧ (r2 = 0 → Q (some (.inl ((-1000000002)))) M2)) ∧ (r1 = 0 → Q (some (.inl ((-1000000001)))) M1)) : ab_wp d 174 0 [some (.inr (.inr 103)), some (.inl x1), some (.inl x2)] [] M Q := by
  refine wp_sts 2 (pc' := 2) (ls' := [some (.inr (.inr 103)), some (.inl x1), some (.inl x2)]) (st' := [.inl x1, .inr (.inr 103)]) (M' := M) rfl ?_
  obtain ⟨r1, M1, he, hS1, h⟩ := h
  refine g_callI (c := 111) (as := [.inr (.inr 103), .inl x1]) (rs := []) rfl rfl hS hd rfl he ?_
  refine c1_ne rfl (fun c => ?_) (fun c => ?_)
  · replace h := h.1 c
    refine wp_sts 4 (pc' := 17) (ls' := [some (.inr (.inr 103)), some (.inl x1), some (.inl x2)]) (st' := [.inr (.inl 999), .inr (.inl 1), .inr (.inl x2)]) (M' := M1) rfl ?_
    obtain ⟨r2, M2, he, hS2, h⟩ := h
    refine g_callI (c := 107) (as := [.inr (.inl x2), .inr (.inl 1), .inr (.inl 999)]) (rs := []) rfl rfl hS1 hd rfl he ?_
    refine c1_ne rfl (fun c => ?_) (fun c => ?_)
    · replace h := h.1 c
      refine wp_sts 1 (pc' := 27) (ls' := [some (.inr (.inr 103)), some (.inl x1), some (.inl x2)]) (st' := [.inr (.inr 103)]) (M' := M2) rfl ?_
      refine g_getI rfl hS2 rfl ?_
      refine wp_sts 1 (pc' := 32) (ls' := [some (.inr (.inr 103)), some (.inl x1), some (.inl x2)]) (st' := [.inl 6, .inl (M2 103 17)]) (M' := M2) rfl ?_
      refine c2_ne rfl (fun c => ?_) (fun c => ?_)
      · replace h := h.1 c
        refine wp_sts 1 (pc' := 39) (ls' := [some (.inr (.inr 103)), some (.inl x1), some (.inl x2)]) (st' := [.inr (.inr 103)]) (M' := M2) rfl ?_
        refine g_getR (j := 113) rfl hS2 rfl (str_r hS2 103 16 113 rfl) (by decide) ?_
        refine wp_sts 2 (pc' := 44) (ls' := [some (.inr (.inr 103)), some (.inl x1), some (.inl x2)]) (st' := [.inr (.inr 103), .inl 2, .inr (.inr 113)]) (M' := M2) rfl ?_
        refine g_getI rfl hS2 rfl ?_
        obtain ⟨hf1, h⟩ := h
        refine w_imul rfl hf1 ?_
        refine wp_sts 1 (pc' := 49) (ls' := [some (.inr (.inr 103)), some (.inl x1), some (.inl x2)]) (st' := [.inl x1, .inl (2 * (M2 103 17)), .inr (.inr 113)]) (M' := M2) rfl ?_
        obtain ⟨hf2, h⟩ := h
        refine g_iast (n := 12) rfl hS2 rfl hf2 ?_
        refine wp_sts 1 (pc' := 51) (ls' := [some (.inr (.inr 103)), some (.inl x1), some (.inl x2)]) (st' := [.inr (.inr 103)]) (M' := (ab_w M2 113 (2 * (M2 103 17)).toNat x1)) rfl ?_
        refine g_getR (j := 113) rfl (str_a (k := 113) (f := (2 * (M2 103 17)).toNat) (v := x1) hS2 rfl) rfl (str_r (str_a (k := 113) (f := (2 * (M2 103 17)).toNat) (v := x1) hS2 rfl) 103 16 113 rfl) (by decide) ?_
        refine wp_sts 2 (pc' := 56) (ls' := [some (.inr (.inr 103)), some (.inl x1), some (.inl x2)]) (st' := [.inr (.inr 103), .inl 2, .inr (.inr 113)]) (M' := (ab_w M2 113 (2 * (M2 103 17)).toNat x1)) rfl ?_
        refine g_getI rfl (str_a (k := 113) (f := (2 * (M2 103 17)).toNat) (v := x1) hS2 rfl) rfl ?_
        refine w_imul rfl hf1 ?_
        refine wp_sts 1 (pc' := 61) (ls' := [some (.inr (.inr 103)), some (.inl x1), some (.inl x2)]) (st' := [.inl 1, .inl (2 * (M2 103 17)), .inr (.inr 113)]) (M' := (ab_w M2 113 (2 * (M2 103 17)).toNat x1)) rfl ?_
        obtain ⟨hf3, h⟩ := h
        refine w_iadd rfl hf3 ?_
        refine wp_sts 1 (pc' := 63) (ls' := [some (.inr (.inr 103)), some (.inl x1), some (.inl x2)]) (st' := [.inl x2, .inl ((2 * (M2 103 17)) + 1), .inr (.inr 113)]) (M' := (ab_w M2 113 (2 * (M2 103 17)).toNat x1)) rfl ?_
        obtain ⟨hf4, h⟩ := h
        refine g_iast (n := 12) rfl (str_a (k := 113) (f := (2 * (M2 103 17)).toNat) (v := x1) hS2 rfl) rfl hf4 ?_
        refine wp_sts 2 (pc' := 66) (ls' := [some (.inr (.inr 103)), some (.inl x1), some (.inl x2)]) (st' := [.inr (.inr 103), .inr (.inr 103)]) (M' := (ab_w (ab_w M2 113 (2 * (M2 103 17)).toNat x1) 113 ((2 * (M2 103 17)) + 1).toNat x2)) rfl ?_
        refine g_getI rfl (str_a (k := 113) (f := ((2 * (M2 103 17)) + 1).toNat) (v := x2) (str_a (k := 113) (f := (2 * (M2 103 17)).toNat) (v := x1) hS2 rfl) rfl) rfl ?_
        refine wp_sts 1 (pc' := 70) (ls' := [some (.inr (.inr 103)), some (.inl x1), some (.inl x2)]) (st' := [.inl 1, .inl (M2 103 17), .inr (.inr 103)]) (M' := (ab_w (ab_w M2 113 (2 * (M2 103 17)).toNat x1) 113 ((2 * (M2 103 17)) + 1).toNat x2)) rfl ?_
        obtain ⟨hf5, h⟩ := h
        refine w_iadd rfl hf5 ?_
        refine g_putI rfl (str_a (k := 113) (f := ((2 * (M2 103 17)) + 1).toNat) (v := x2) (str_a (k := 113) (f := (2 * (M2 103 17)).toNat) (v := x1) hS2 rfl) rfl) rfl ?_
        refine wp_sts 1 (pc' := 75) (ls' := [some (.inr (.inr 103)), some (.inl x1), some (.inl x2)]) (st' := [.inr (.inr 103)]) (M' := (ab_w (ab_w (ab_w M2 113 (2 * (M2 103 17)).toNat x1) 113 ((2 * (M2 103 17)) + 1).toNat x2) 103 17 ((M2 103 17) + 1))) rfl ?_
        refine g_getI rfl (str_w (k := 103) (f := 17) (v := (M2 103 17) + 1) (str_a (k := 113) (f := ((2 * (M2 103 17)) + 1).toNat) (v := x2) (str_a (k := 113) (f := (2 * (M2 103 17)).toNat) (v := x1) hS2 rfl) rfl) rfl) rfl ?_
        exact wp_ret rfl rfl (z := (some (.inl ((M2 103 17) + 1)), (ab_w (ab_w (ab_w M2 113 (2 * (M2 103 17)).toNat x1) 113 ((2 * (M2 103 17)) + 1).toNat x2) 103 17 ((M2 103 17) + 1)))) rfl h
      · replace h := h.2 c
        refine wp_sts 1 (pc' := 37) (ls' := [some (.inr (.inr 103)), some (.inl x1), some (.inl x2)]) (st' := [.inl ((-1000000004))]) (M' := M2) rfl ?_
        exact wp_ret rfl rfl (z := (some (.inl ((-1000000004))), M2)) rfl h
    · replace h := h.2 c
      refine wp_sts 1 (pc' := 25) (ls' := [some (.inr (.inr 103)), some (.inl x1), some (.inl x2)]) (st' := [.inl ((-1000000002))]) (M' := M2) rfl ?_
      exact wp_ret rfl rfl (z := (some (.inl ((-1000000002))), M2)) rfl h
  · replace h := h.2 c
    refine wp_sts 1 (pc' := 10) (ls' := [some (.inr (.inr 103)), some (.inl x1), some (.inl x2)]) (st' := [.inl ((-1000000001))]) (M' := M1) rfl ?_
    exact wp_ret rfl rfl (z := (some (.inl ((-1000000001))), M1)) rfl h
/- Model.isDay, at 0 -/
set_option maxRecDepth 100000 in
theorem b175_0 {d t : Nat}  {x1 : Int} {M : ab_M} {Q : Option ab_V → ab_M → Prop} (hd : 1 ≤ d) (hS : pu_str t M)  (h : ab_wp d 175 10 [some (.inr (.inr 103)), some (.inl x1), some (.inl 0), some (.inl (M 103 4)), some (.inl 0), none] [] M Q) : ab_wp d 175 0 [some (.inr (.inr 103)), some (.inl x1), none, none, none, none] [] M Q := by
  refine wp_sts 3 (pc' := 3) (ls' := [some (.inr (.inr 103)), some (.inl x1), some (.inl 0), none, none, none]) (st' := [.inr (.inr 103)]) (M' := M) rfl ?_
  refine g_getI rfl hS rfl ?_
  refine wp_sts 3 (pc' := 10) (ls' := [some (.inr (.inr 103)), some (.inl x1), some (.inl 0), some (.inl (M 103 4)), some (.inl 0), none]) (st' := []) (M' := M) rfl ?_
  exact h
/- Model.isDay, at 10 -/
set_option maxRecDepth 100000 in
theorem b175_10 {d t : Nat}  {x1 : Int} {x2 : Int} {x3 : Int} {x4 : Int} {M : ab_M} {Q : Option ab_V → ab_M → Prop} (hd : 1 ≤ d) (hS : pu_str t M)  (h : (6 ≤ x4 → ab_wp d 175 34 [some (.inr (.inr 103)), some (.inl x1), some (.inl x2), some (.inl x3), some (.inl 0), none] [] M Q) ∧ (x4 < 6 → (0 ≤ x4 ∧ x4 < 6) ∧ ab_rg (x4 + 1) ∧ ab_wp d 175 10 [some (.inr (.inr 103)), some (.inl x1), some (.inl x2), some (.inl x3), some (.inl (x4 + 1)), none] [] (ab_w M 129 x4.toNat ((-1))) Q)) : ab_wp d 175 10 [some (.inr (.inr 103)), some (.inl x1), some (.inl x2), some (.inl x3), some (.inl x4), none] [] M Q := by
  refine wp_sts 2 (pc' := 14) (ls' := [some (.inr (.inr 103)), some (.inl x1), some (.inl x2), some (.inl x3), some (.inl x4), none]) (st' := [.inl 6, .inl x4]) (M' := M) rfl ?_
  refine c2_ge rfl (fun c => ?_) (fun c => ?_)
  · replace h := h.1 c
    refine wp_sts 2 (pc' := 34) (ls' := [some (.inr (.inr 103)), some (.inl x1), some (.inl x2), some (.inl x3), some (.inl 0), none]) (st' := []) (M' := M) rfl ?_
    exact h
  · replace h := h.2 c
    refine wp_sts 1 (pc' := 18) (ls' := [some (.inr (.inr 103)), some (.inl x1), some (.inl x2), some (.inl x3), some (.inl x4), none]) (st' := [.inr (.inr 103)]) (M' := M) rfl ?_
    refine g_getR (j := 129) rfl hS rfl (str_r hS 103 46 129 rfl) (by decide) ?_
    refine wp_sts 2 (pc' := 24) (ls' := [some (.inr (.inr 103)), some (.inl x1), some (.inl x2), some (.inl x3), some (.inl x4), none]) (st' := [.inl ((-1)), .inl x4, .inr (.inr 129)]) (M' := M) rfl ?_
    obtain ⟨hf1, h⟩ := h
    refine g_iast (n := 6) rfl hS rfl hf1 ?_
    obtain ⟨hf2, h⟩ := h
    refine w_iinc rfl rfl hf2 ?_
    refine wp_sts 1 (pc' := 10) (ls' := [some (.inr (.inr 103)), some (.inl x1), some (.inl x2), some (.inl x3), some (.inl (x4 + 1)), none]) (st' := []) (M' := (ab_w M 129 x4.toNat ((-1)))) rfl ?_
    exact h
/- Model.isDay, at 34 -/
set_option maxRecDepth 100000 in
theorem b175_34 {d t : Nat}  {x1 : Int} {x2 : Int} {x3 : Int} {x4 : Int} {M : ab_M} {Q : Option ab_V → ab_M → Prop} (hd : 1 ≤ d) (hS : pu_str t M)  (h : (x1 ≤ x4 → ab_wp d 175 107 [some (.inr (.inr 103)), some (.inl x1), some (.inl x2), some (.inl x3), some (.inl 1), some (.inl 0)] [] M Q) ∧ (x4 < x1 → (0 ≤ x4 ∧ x4 < 6) ∧ ∃ r1 M1, ab_ev (d - 1) 148 [.inr (.inr 103), .inl x2, .inl x3, .inl (M 121 x4.toNat)] (ab_w M 128 x4.toNat x2) (some (.inl r1)) M1 ∧ pu_str t M1 ∧ (r1 < 1000000 → (0 ≤ M1 121 x4.toNat ∧ M1 121 x4.toNat < 6) ∧ ∃ r2 M2, ab_ev (d - 1) 139 [.inr (.inr 103), .inl (M1 121 x4.toNat)] (ab_w M1 129 (M1 121 x4.toNat).toNat r1) (some (.inl r2)) M2 ∧ pu_str t M2 ∧ ab_rg (x4 + 1) ∧ ab_wp d 175 34 [some (.inr (.inr 103)), some (.inl x1), some (.inl r1), some (.inl r2), some (.inl (x4 + 1)), none] [] M2 Q) ∧ (1000000 ≤ r1 → Q (some (.inl 0)) M1))) : ab_wp d 175 34 [some (.inr (.inr 103)), some (.inl x1), some (.inl x2), some (.inl x3), some (.inl x4), none] [] M Q := by
  refine wp_sts 2 (pc' := 37) (ls' := [some (.inr (.inr 103)), some (.inl x1), some (.inl x2), some (.inl x3), some (.inl x4), none]) (st' := [.inl x1, .inl x4]) (M' := M) rfl ?_
  refine c2_ge rfl (fun c => ?_) (fun c => ?_)
  · replace h := h.1 c
    refine wp_sts 4 (pc' := 107) (ls' := [some (.inr (.inr 103)), some (.inl x1), some (.inl x2), some (.inl x3), some (.inl 1), some (.inl 0)]) (st' := []) (M' := M) rfl ?_
    exact h
  · replace h := h.2 c
    refine wp_sts 1 (pc' := 41) (ls' := [some (.inr (.inr 103)), some (.inl x1), some (.inl x2), some (.inl x3), some (.inl x4), none]) (st' := [.inr (.inr 103)]) (M' := M) rfl ?_
    refine g_getR (j := 128) rfl hS rfl (str_r hS 103 45 128 rfl) (by decide) ?_
    refine wp_sts 2 (pc' := 47) (ls' := [some (.inr (.inr 103)), some (.inl x1), some (.inl x2), some (.inl x3), some (.inl x4), none]) (st' := [.inl x2, .inl x4, .inr (.inr 128)]) (M' := M) rfl ?_
    obtain ⟨hf1, h⟩ := h
    refine g_iast (n := 6) rfl hS rfl hf1 ?_
    refine wp_sts 4 (pc' := 52) (ls' := [some (.inr (.inr 103)), some (.inl x1), some (.inl x2), some (.inl x3), some (.inl x4), none]) (st' := [.inr (.inr 103), .inl x3, .inl x2, .inr (.inr 103)]) (M' := (ab_w M 128 x4.toNat x2)) rfl ?_
    refine g_getR (j := 121) rfl (str_a (k := 128) (f := x4.toNat) (v := x2) hS rfl) rfl (str_r (str_a (k := 128) (f := x4.toNat) (v := x2) hS rfl) 103 38 121 rfl) (by decide) ?_
    refine wp_sts 1 (pc' := 57) (ls' := [some (.inr (.inr 103)), some (.inl x1), some (.inl x2), some (.inl x3), some (.inl x4), none]) (st' := [.inl x4, .inr (.inr 121), .inl x3, .inl x2, .inr (.inr 103)]) (M' := (ab_w M 128 x4.toNat x2)) rfl ?_
    refine g_iald (n := 6) rfl (str_a (k := 128) (f := x4.toNat) (v := x2) hS rfl) rfl hf1 ?_
    obtain ⟨r1, M1, he, hS1, h⟩ := h
    refine g_callI (c := 148) (as := [.inr (.inr 103), .inl x2, .inl x3, .inl (M 121 x4.toNat)]) (rs := []) rfl rfl (str_a (k := 128) (f := x4.toNat) (v := x2) hS rfl) hd rfl he ?_
    refine wp_sts 3 (pc' := 65) (ls' := [some (.inr (.inr 103)), some (.inl x1), some (.inl r1), some (.inl x3), some (.inl x4), none]) (st' := [.inl 1000000, .inl r1]) (M' := M1) rfl ?_
    refine c2_lt rfl (fun c => ?_) (fun c => ?_)
    · replace h := h.1 c
      refine wp_sts 1 (pc' := 71) (ls' := [some (.inr (.inr 103)), some (.inl x1), some (.inl r1), some (.inl x3), some (.inl x4), none]) (st' := [.inr (.inr 103)]) (M' := M1) rfl ?_
      refine g_getR (j := 129) rfl hS1 rfl (str_r hS1 103 46 129 rfl) (by decide) ?_
      refine wp_sts 1 (pc' := 75) (ls' := [some (.inr (.inr 103)), some (.inl x1), some (.inl r1), some (.inl x3), some (.inl x4), none]) (st' := [.inr (.inr 103), .inr (.inr 129)]) (M' := M1) rfl ?_
      refine g_getR (j := 121) rfl hS1 rfl (str_r hS1 103 38 121 rfl) (by decide) ?_
      refine wp_sts 1 (pc' := 80) (ls' := [some (.inr (.inr 103)), some (.inl x1), some (.inl r1), some (.inl x3), some (.inl x4), none]) (st' := [.inl x4, .inr (.inr 121), .inr (.inr 129)]) (M' := M1) rfl ?_
      refine g_iald (n := 6) rfl hS1 rfl hf1 ?_
      refine wp_sts 1 (pc' := 82) (ls' := [some (.inr (.inr 103)), some (.inl x1), some (.inl r1), some (.inl x3), some (.inl x4), none]) (st' := [.inl r1, .inl (M1 121 x4.toNat), .inr (.inr 129)]) (M' := M1) rfl ?_
      obtain ⟨hf2, h⟩ := h
      refine g_iast (n := 6) rfl hS1 rfl hf2 ?_
      refine wp_sts 2 (pc' := 85) (ls' := [some (.inr (.inr 103)), some (.inl x1), some (.inl r1), some (.inl x3), some (.inl x4), none]) (st' := [.inr (.inr 103), .inr (.inr 103)]) (M' := (ab_w M1 129 (M1 121 x4.toNat).toNat r1)) rfl ?_
      refine g_getR (j := 121) rfl (str_a (k := 129) (f := (M1 121 x4.toNat).toNat) (v := r1) hS1 rfl) rfl (str_r (str_a (k := 129) (f := (M1 121 x4.toNat).toNat) (v := r1) hS1 rfl) 103 38 121 rfl) (by decide) ?_
      refine wp_sts 1 (pc' := 90) (ls' := [some (.inr (.inr 103)), some (.inl x1), some (.inl r1), some (.inl x3), some (.inl x4), none]) (st' := [.inl x4, .inr (.inr 121), .inr (.inr 103)]) (M' := (ab_w M1 129 (M1 121 x4.toNat).toNat r1)) rfl ?_
      refine g_iald (n := 6) rfl (str_a (k := 129) (f := (M1 121 x4.toNat).toNat) (v := r1) hS1 rfl) rfl hf1 ?_
      obtain ⟨r2, M2, he, hS2, h⟩ := h
      refine g_callI (c := 139) (as := [.inr (.inr 103), .inl (M1 121 x4.toNat)]) (rs := []) rfl rfl (str_a (k := 129) (f := (M1 121 x4.toNat).toNat) (v := r1) hS1 rfl) hd rfl he ?_
      refine wp_sts 1 (pc' := 95) (ls' := [some (.inr (.inr 103)), some (.inl x1), some (.inl r1), some (.inl r2), some (.inl x4), none]) (st' := []) (M' := M2) rfl ?_
      obtain ⟨hf3, h⟩ := h
      refine w_iinc rfl rfl hf3 ?_
      refine wp_sts 1 (pc' := 34) (ls' := [some (.inr (.inr 103)), some (.inl x1), some (.inl r1), some (.inl r2), some (.inl (x4 + 1)), none]) (st' := []) (M' := M2) rfl ?_
      exact h
    · replace h := h.2 c
      refine wp_sts 1 (pc' := 69) (ls' := [some (.inr (.inr 103)), some (.inl x1), some (.inl r1), some (.inl x3), some (.inl x4), none]) (st' := [.inl 0]) (M' := M1) rfl ?_
      exact g_retB rfl (by decide) h
/- Model.isDay, at 107 -/
set_option maxRecDepth 100000 in
theorem b175_107 {d t : Nat}  {x1 : Int} {x2 : Int} {x3 : Int} {x4 : Int} {x5 : Int} {M : ab_M} {Q : Option ab_V → ab_M → Prop} (hd : 1 ≤ d) (hS : pu_str t M)  (h : (M 103 17 ≤ x5 → (x4 = 0 ∨ x4 = 1) ∧ Q (some (.inl x4)) M) ∧ (x5 < M 103 17 → (x4 = 0 → ab_rg (x5 + 1) ∧ ab_wp d 175 107 [some (.inr (.inr 103)), some (.inl x1), some (.inl x2), some (.inl x3), some (.inl 0), some (.inl (x5 + 1))] [] M Q) ∧ (x4 ≠ 0 → ab_rg (2 * x5) ∧ (0 ≤ 2 * x5 ∧ 2 * x5 < 12) ∧ (0 ≤ M 113 (2 * x5).toNat ∧ M 113 (2 * x5).toNat < 6) ∧ ab_rg ((2 * x5) + 1) ∧ (0 ≤ (2 * x5) + 1 ∧ (2 * x5) + 1 < 12) ∧ (M 129 (M 113 (2 * x5).toNat).toNat ≠ M 113 ((2 * x5) + 1).toNat → ab_rg (x5 + 1) ∧ ab_wp d 175 107 [some (.inr (.inr 103)), some (.inl x1), some (.inl x2), some (.inl x3), some (.inl 0), some (.inl (x5 + 1))] [] M Q) ∧ (M 129 (M 113 (2 * x5).toNat).toNat = M 113 ((2 * x5) + 1).toNat → ab_rg (x5 + 1) ∧ ab_wp d 175 107 [some (.inr (.inr 103)), some (.inl x1), some (.inl x2), some (.inl x3), some (.inl 1), some (.inl (x5 + 1))] [] M Q)))) : ab_wp d 175 107 [some (.inr (.inr 103)), some (.inl x1), some (.inl x2), some (.inl x3), some (.inl x4), some (.inl x5)] [] M Q := by
  refine wp_sts 2 (pc' := 110) (ls' := [some (.inr (.inr 103)), some (.inl x1), some (.inl x2), some (.inl x3), some (.inl x4), some (.inl x5)]) (st' := [.inr (.inr 103), .inl x5]) (M' := M) rfl ?_
  refine g_getI rfl hS rfl ?_
  refine c2_ge rfl (fun c => ?_) (fun c => ?_)
  · replace h := h.1 c
    refine wp_sts 1 (pc' := 164) (ls' := [some (.inr (.inr 103)), some (.inl x1), some (.inl x2), some (.inl x3), some (.inl x4), some (.inl x5)]) (st' := [.inl x4]) (M' := M) rfl ?_
    exact g_retB rfl h.1 h.2
  · replace h := h.2 c
    refine wp_sts 1 (pc' := 118) (ls' := [some (.inr (.inr 103)), some (.inl x1), some (.inl x2), some (.inl x3), some (.inl x4), some (.inl x5)]) (st' := [.inl x4]) (M' := M) rfl ?_
    refine c1_eq rfl (fun c => ?_) (fun c => ?_)
    · replace h := h.1 c
      refine wp_sts 2 (pc' := 156) (ls' := [some (.inr (.inr 103)), some (.inl x1), some (.inl x2), some (.inl x3), some (.inl 0), some (.inl x5)]) (st' := []) (M' := M) rfl ?_
      obtain ⟨hf1, h⟩ := h
      refine w_iinc rfl rfl hf1 ?_
      refine wp_sts 1 (pc' := 107) (ls' := [some (.inr (.inr 103)), some (.inl x1), some (.inl x2), some (.inl x3), some (.inl 0), some (.inl (x5 + 1))]) (st' := []) (M' := M) rfl ?_
      exact h
    · replace h := h.2 c
      refine wp_sts 1 (pc' := 122) (ls' := [some (.inr (.inr 103)), some (.inl x1), some (.inl x2), some (.inl x3), some (.inl x4), some (.inl x5)]) (st' := [.inr (.inr 103)]) (M' := M) rfl ?_
      refine g_getR (j := 129) rfl hS rfl (str_r hS 103 46 129 rfl) (by decide) ?_
      refine wp_sts 1 (pc' := 126) (ls' := [some (.inr (.inr 103)), some (.inl x1), some (.inl x2), some (.inl x3), some (.inl x4), some (.inl x5)]) (st' := [.inr (.inr 103), .inr (.inr 129)]) (M' := M) rfl ?_
      refine g_getR (j := 113) rfl hS rfl (str_r hS 103 16 113 rfl) (by decide) ?_
      refine wp_sts 2 (pc' := 132) (ls' := [some (.inr (.inr 103)), some (.inl x1), some (.inl x2), some (.inl x3), some (.inl x4), some (.inl x5)]) (st' := [.inl x5, .inl 2, .inr (.inr 113), .inr (.inr 129)]) (M' := M) rfl ?_
      obtain ⟨hf1, h⟩ := h
      refine w_imul rfl hf1 ?_
      obtain ⟨hf2, h⟩ := h
      refine g_iald (n := 12) rfl hS rfl hf2 ?_
      obtain ⟨hf3, h⟩ := h
      refine g_iald (n := 6) rfl hS rfl hf3 ?_
      refine wp_sts 1 (pc' := 136) (ls' := [some (.inr (.inr 103)), some (.inl x1), some (.inl x2), some (.inl x3), some (.inl x4), some (.inl x5)]) (st' := [.inr (.inr 103), .inl (M 129 (M 113 (2 * x5).toNat).toNat)]) (M' := M) rfl ?_
      refine g_getR (j := 113) rfl hS rfl (str_r hS 103 16 113 rfl) (by decide) ?_
      refine wp_sts 2 (pc' := 142) (ls' := [some (.inr (.inr 103)), some (.inl x1), some (.inl x2), some (.inl x3), some (.inl x4), some (.inl x5)]) (st' := [.inl x5, .inl 2, .inr (.inr 113), .inl (M 129 (M 113 (2 * x5).toNat).toNat)]) (M' := M) rfl ?_
      refine w_imul rfl hf1 ?_
      refine wp_sts 1 (pc' := 144) (ls' := [some (.inr (.inr 103)), some (.inl x1), some (.inl x2), some (.inl x3), some (.inl x4), some (.inl x5)]) (st' := [.inl 1, .inl (2 * x5), .inr (.inr 113), .inl (M 129 (M 113 (2 * x5).toNat).toNat)]) (M' := M) rfl ?_
      obtain ⟨hf4, h⟩ := h
      refine w_iadd rfl hf4 ?_
      obtain ⟨hf5, h⟩ := h
      refine g_iald (n := 12) rfl hS rfl hf5 ?_
      refine c2_ne rfl (fun c => ?_) (fun c => ?_)
      · replace h := h.1 c
        refine wp_sts 2 (pc' := 156) (ls' := [some (.inr (.inr 103)), some (.inl x1), some (.inl x2), some (.inl x3), some (.inl 0), some (.inl x5)]) (st' := []) (M' := M) rfl ?_
        obtain ⟨hf6, h⟩ := h
        refine w_iinc rfl rfl hf6 ?_
        refine wp_sts 1 (pc' := 107) (ls' := [some (.inr (.inr 103)), some (.inl x1), some (.inl x2), some (.inl x3), some (.inl 0), some (.inl (x5 + 1))]) (st' := []) (M' := M) rfl ?_
        exact h
      · replace h := h.2 c
        refine wp_sts 3 (pc' := 156) (ls' := [some (.inr (.inr 103)), some (.inl x1), some (.inl x2), some (.inl x3), some (.inl 1), some (.inl x5)]) (st' := []) (M' := M) rfl ?_
        obtain ⟨hf6, h⟩ := h
        refine w_iinc rfl rfl hf6 ?_
        refine wp_sts 1 (pc' := 107) (ls' := [some (.inr (.inr 103)), some (.inl x1), some (.inl x2), some (.inl x3), some (.inl 1), some (.inl (x5 + 1))]) (st' := []) (M' := M) rfl ?_
        exact h
/- Model.findDays, at 0 -/
theorem b176_0 {d t : Nat}  {x1 : Int} {M : ab_M} {Q : Option ab_V → ab_M → Prop} (hd : 1 ≤ d) (hS : pu_str t M)  (h : ab_wp d 176 12 [some (.inr (.inr 103)), some (.inl x1), some (.inl 0), some (.inl 1), some (.inl 0), none, none, none] [] (ab_w M 103 47 0) Q) : ab_wp d 176 0 [some (.inr (.inr 103)), some (.inl x1), none, none, none, none, none, none] [] M Q := by
  refine wp_sts 4 (pc' := 4) (ls' := [some (.inr (.inr 103)), some (.inl x1), some (.inl 0), none, none, none, none, none]) (st' := [.inl 0, .inr (.inr 103)]) (M' := M) rfl ?_
  refine g_putI rfl hS rfl ?_
  refine wp_sts 4 (pc' := 12) (ls' := [some (.inr (.inr 103)), some (.inl x1), some (.inl 0), some (.inl 1), some (.inl 0), none, none, none]) (st' := []) (M' := (ab_w M 103 47 0)) rfl ?_
  exact h
/- Model.findDays, at 12 -/
theorem b176_12 {d t : Nat}  {x1 : Int} {x2 : Int} {x3 : Int} {x4 : Int} {y5 : Option ab_V} {y6 : Option ab_V} {y7 : Option ab_V} {M : ab_M} {Q : Option ab_V → ab_M → Prop} (hd : 1 ≤ d) (hS : pu_str t M)  (h : (M 103 11 < x4 → Q (some (.inl x2)) M) ∧ (x4 ≤ M 103 11 → ab_wp d 176 24 [some (.inr (.inr 103)), some (.inl x1), some (.inl x2), some (.inl x3), some (.inl x4), some (.inl 0), y6, y7] [] M Q)) : ab_wp d 176 12 [some (.inr (.inr 103)), some (.inl x1), some (.inl x2), some (.inl x3), some (.inl x4), y5, y6, y7] [] M Q := by
  refine wp_sts 2 (pc' := 15) (ls' := [some (.inr (.inr 103)), some (.inl x1), some (.inl x2), some (.inl x3), some (.inl x4), y5, y6, y7]) (st' := [.inr (.inr 103), .inl x4]) (M' := M) rfl ?_
  refine g_getI rfl hS rfl ?_
  refine c2_gt rfl (fun c => ?_) (fun c => ?_)
  · replace h := h.1 c
    refine wp_sts 1 (pc' := 135) (ls' := [some (.inr (.inr 103)), some (.inl x1), some (.inl x2), some (.inl x3), some (.inl x4), y5, y6, y7]) (st' := [.inl x2]) (M' := M) rfl ?_
    exact wp_ret rfl rfl (z := (some (.inl x2), M)) rfl h
  · replace h := h.2 c
    refine wp_sts 2 (pc' := 24) (ls' := [some (.inr (.inr 103)), some (.inl x1), some (.inl x2), some (.inl x3), some (.inl x4), some (.inl 0), y6, y7]) (st' := []) (M' := M) rfl ?_
    exact h
/- Model.findDays, at 24 -/
theorem b176_24 {d t : Nat}  {x1 : Int} {x2 : Int} {x3 : Int} {x4 : Int} {x5 : Int} {y6 : Option ab_V} {y7 : Option ab_V} {M : ab_M} {Q : Option ab_V → ab_M → Prop} (hd : 1 ≤ d) (hS : pu_str t M)  (h : (x3 ≤ x5 → ab_rg (x3 * 6) ∧ ab_rg (x4 + 1) ∧ ab_wp d 176 12 [some (.inr (.inr 103)), some (.inl x1), some (.inl x2), some (.inl (x3 * 6)), some (.inl (x4 + 1)), some (.inl x5), y6, y7] [] M Q) ∧ (x5 < x3 → ∃ r1 M1, ab_ev (d - 1) 153 [.inr (.inr 103), .inl x5, .inl x4] M (some (.inl r1)) M1 ∧ pu_str t M1 ∧ (r1 < 0 → ab_rg (x5 + 1) ∧ ab_wp d 176 24 [some (.inr (.inr 103)), some (.inl x1), some (.inl x2), some (.inl x3), some (.inl x4), some (.inl (x5 + 1)), y6, y7] [] M1 Q) ∧ (0 ≤ r1 → ∃ r2 M2, ab_ev (d - 1) 175 [.inr (.inr 103), .inl x4] M1 (some (.inl r2)) M2 ∧ pu_str t M2 ∧ (r2 = 0 → ab_rg (x5 + 1) ∧ ab_wp d 176 24 [some (.inr (.inr 103)), some (.inl x1), some (.inl x2), some (.inl x3), some (.inl x4), some (.inl (x5 + 1)), y6, y7] [] M2 Q) ∧ (r2 ≠ 0 → ab_rg (x2 + 1) ∧ ab_wp d 176 62 [some (.inr (.inr 103)), some (.inl x1), some (.inl (x2 + 1)), some (.inl x3), some (.inl x4), some (.inl x5), some (.inl (M2 103 4)), some (.inl 0)] [] M2 Q)))) : ab_wp d 176 24 [some (.inr (.inr 103)), some (.inl x1), some (.inl x2), some (.inl x3), some (.inl x4), some (.inl x5), y6, y7] [] M Q := by
  refine wp_sts 2 (pc' := 27) (ls' := [some (.inr (.inr 103)), some (.inl x1), some (.inl x2), some (.inl x3), some (.inl x4), some (.inl x5), y6, y7]) (st' := [.inl x3, .inl x5]) (M' := M) rfl ?_
  refine c2_ge rfl (fun c => ?_) (fun c => ?_)
  · replace h := h.1 c
    refine wp_sts 2 (pc' := 126) (ls' := [some (.inr (.inr 103)), some (.inl x1), some (.inl x2), some (.inl x3), some (.inl x4), some (.inl x5), y6, y7]) (st' := [.inl 6, .inl x3]) (M' := M) rfl ?_
    obtain ⟨hf1, h⟩ := h
    refine w_imul rfl hf1 ?_
    refine wp_sts 1 (pc' := 128) (ls' := [some (.inr (.inr 103)), some (.inl x1), some (.inl x2), some (.inl (x3 * 6)), some (.inl x4), some (.inl x5), y6, y7]) (st' := []) (M' := M) rfl ?_
    obtain ⟨hf2, h⟩ := h
    refine w_iinc rfl rfl hf2 ?_
    refine wp_sts 1 (pc' := 12) (ls' := [some (.inr (.inr 103)), some (.inl x1), some (.inl x2), some (.inl (x3 * 6)), some (.inl (x4 + 1)), some (.inl x5), y6, y7]) (st' := []) (M' := M) rfl ?_
    exact h
  · replace h := h.2 c
    refine wp_sts 3 (pc' := 35) (ls' := [some (.inr (.inr 103)), some (.inl x1), some (.inl x2), some (.inl x3), some (.inl x4), some (.inl x5), y6, y7]) (st' := [.inl x4, .inl x5, .inr (.inr 103)]) (M' := M) rfl ?_
    obtain ⟨r1, M1, he, hS1, h⟩ := h
    refine g_callI (c := 153) (as := [.inr (.inr 103), .inl x5, .inl x4]) (rs := []) rfl rfl hS hd rfl he ?_
    refine c1_lt rfl (fun c => ?_) (fun c => ?_)
    · replace h := h.1 c
      obtain ⟨hf1, h⟩ := h
      refine w_iinc rfl rfl hf1 ?_
      refine wp_sts 1 (pc' := 24) (ls' := [some (.inr (.inr 103)), some (.inl x1), some (.inl x2), some (.inl x3), some (.inl x4), some (.inl (x5 + 1)), y6, y7]) (st' := []) (M' := M1) rfl ?_
      exact h
    · replace h := h.2 c
      refine wp_sts 2 (pc' := 44) (ls' := [some (.inr (.inr 103)), some (.inl x1), some (.inl x2), some (.inl x3), some (.inl x4), some (.inl x5), y6, y7]) (st' := [.inl x4, .inr (.inr 103)]) (M' := M1) rfl ?_
      obtain ⟨r2, M2, he, hS2, h⟩ := h
      refine g_callI (c := 175) (as := [.inr (.inr 103), .inl x4]) (rs := []) rfl rfl hS1 hd rfl he ?_
      refine c1_eq rfl (fun c => ?_) (fun c => ?_)
      · replace h := h.1 c
        obtain ⟨hf1, h⟩ := h
        refine w_iinc rfl rfl hf1 ?_
        refine wp_sts 1 (pc' := 24) (ls' := [some (.inr (.inr 103)), some (.inl x1), some (.inl x2), some (.inl x3), some (.inl x4), some (.inl (x5 + 1)), y6, y7]) (st' := []) (M' := M2) rfl ?_
        exact h
      · replace h := h.2 c
        obtain ⟨hf1, h⟩ := h
        refine w_iinc rfl rfl hf1 ?_
        refine wp_sts 1 (pc' := 54) (ls' := [some (.inr (.inr 103)), some (.inl x1), some (.inl (x2 + 1)), some (.inl x3), some (.inl x4), some (.inl x5), y6, y7]) (st' := [.inr (.inr 103)]) (M' := M2) rfl ?_
        refine g_getI rfl hS2 rfl ?_
        refine wp_sts 3 (pc' := 62) (ls' := [some (.inr (.inr 103)), some (.inl x1), some (.inl (x2 + 1)), some (.inl x3), some (.inl x4), some (.inl x5), some (.inl (M2 103 4)), some (.inl 0)]) (st' := []) (M' := M2) rfl ?_
        exact h
/- Model.findDays, at 62 -/
theorem b176_62 {d t : Nat}  {x1 : Int} {x2 : Int} {x3 : Int} {x4 : Int} {x5 : Int} {x6 : Int} {x7 : Int} {M : ab_M} {Q : Option ab_V → ab_M → Prop} (hd : 1 ≤ d) (hS : pu_str t M)  (h : (x4 ≤ x7 → ab_rg (x5 + 1) ∧ ab_wp d 176 24 [some (.inr (.inr 103)), some (.inl x1), some (.inl x2), some (.inl x3), some (.inl x4), some (.inl (x5 + 1)), some (.inl x6), some (.inl x7)] [] (ab_w M 103 47 (ab_or (M 103 47) (ab_shl 1 x6))) Q) ∧ (x7 < x4 → (0 ≤ x7 ∧ x7 < 6) ∧ (x1 < M 128 x7.toNat → ab_rg (x7 + 1) ∧ ab_wp d 176 62 [some (.inr (.inr 103)), some (.inl x1), some (.inl x2), some (.inl x3), some (.inl x4), some (.inl x5), some (.inl x6), some (.inl (x7 + 1))] [] M Q) ∧ (M 128 x7.toNat ≤ x1 → ∃ r1 M1, ab_ev (d - 1) 139 [.inr (.inr 103), .inl (M 121 x7.toNat)] M (some (.inl r1)) M1 ∧ pu_str t M1 ∧ ab_rg (x7 + 1) ∧ ab_wp d 176 62 [some (.inr (.inr 103)), some (.inl x1), some (.inl x2), some (.inl x3), some (.inl x4), some (.inl x5), some (.inl r1), some (.inl (x7 + 1))] [] M1 Q))) : ab_wp d 176 62 [some (.inr (.inr 103)), some (.inl x1), some (.inl x2), some (.inl x3), some (.inl x4), some (.inl x5), some (.inl x6), some (.inl x7)] [] M Q := by
  refine wp_sts 2 (pc' := 66) (ls' := [some (.inr (.inr 103)), some (.inl x1), some (.inl x2), some (.inl x3), some (.inl x4), some (.inl x5), some (.inl x6), some (.inl x7)]) (st' := [.inl x4, .inl x7]) (M' := M) rfl ?_
  refine c2_ge rfl (fun c => ?_) (fun c => ?_)
  · replace h := h.1 c
    refine wp_sts 2 (pc' := 106) (ls' := [some (.inr (.inr 103)), some (.inl x1), some (.inl x2), some (.inl x3), some (.inl x4), some (.inl x5), some (.inl x6), some (.inl x7)]) (st' := [.inr (.inr 103), .inr (.inr 103)]) (M' := M) rfl ?_
    refine g_getI rfl hS rfl ?_
    refine wp_sts 4 (pc' := 114) (ls' := [some (.inr (.inr 103)), some (.inl x1), some (.inl x2), some (.inl x3), some (.inl x4), some (.inl x5), some (.inl x6), some (.inl x7)]) (st' := [.inl (ab_or (M 103 47) (ab_shl 1 x6)), .inr (.inr 103)]) (M' := M) rfl ?_
    refine g_putI rfl hS rfl ?_
    obtain ⟨hf1, h⟩ := h
    refine w_iinc rfl rfl hf1 ?_
    refine wp_sts 1 (pc' := 24) (ls' := [some (.inr (.inr 103)), some (.inl x1), some (.inl x2), some (.inl x3), some (.inl x4), some (.inl (x5 + 1)), some (.inl x6), some (.inl x7)]) (st' := []) (M' := (ab_w M 103 47 (ab_or (M 103 47) (ab_shl 1 x6)))) rfl ?_
    exact h
  · replace h := h.2 c
    refine wp_sts 1 (pc' := 70) (ls' := [some (.inr (.inr 103)), some (.inl x1), some (.inl x2), some (.inl x3), some (.inl x4), some (.inl x5), some (.inl x6), some (.inl x7)]) (st' := [.inr (.inr 103)]) (M' := M) rfl ?_
    refine g_getR (j := 128) rfl hS rfl (str_r hS 103 45 128 rfl) (by decide) ?_
    refine wp_sts 1 (pc' := 75) (ls' := [some (.inr (.inr 103)), some (.inl x1), some (.inl x2), some (.inl x3), some (.inl x4), some (.inl x5), some (.inl x6), some (.inl x7)]) (st' := [.inl x7, .inr (.inr 128)]) (M' := M) rfl ?_
    obtain ⟨hf1, h⟩ := h
    refine g_iald (n := 6) rfl hS rfl hf1 ?_
    refine wp_sts 1 (pc' := 77) (ls' := [some (.inr (.inr 103)), some (.inl x1), some (.inl x2), some (.inl x3), some (.inl x4), some (.inl x5), some (.inl x6), some (.inl x7)]) (st' := [.inl x1, .inl (M 128 x7.toNat)]) (M' := M) rfl ?_
    refine c2_gt rfl (fun c => ?_) (fun c => ?_)
    · replace h := h.1 c
      refine wp_sts 2 (pc' := 98) (ls' := [some (.inr (.inr 103)), some (.inl x1), some (.inl x2), some (.inl x3), some (.inl x4), some (.inl x5), some (.inl x6), some (.inl x7)]) (st' := []) (M' := M) rfl ?_
      obtain ⟨hf2, h⟩ := h
      refine w_iinc rfl rfl hf2 ?_
      refine wp_sts 1 (pc' := 62) (ls' := [some (.inr (.inr 103)), some (.inl x1), some (.inl x2), some (.inl x3), some (.inl x4), some (.inl x5), some (.inl x6), some (.inl (x7 + 1))]) (st' := []) (M' := M) rfl ?_
      exact h
    · replace h := h.2 c
      refine wp_sts 2 (pc' := 82) (ls' := [some (.inr (.inr 103)), some (.inl x1), some (.inl x2), some (.inl x3), some (.inl x4), some (.inl x5), some (.inl x6), some (.inl x7)]) (st' := [.inr (.inr 103), .inr (.inr 103)]) (M' := M) rfl ?_
      refine g_getR (j := 121) rfl hS rfl (str_r hS 103 38 121 rfl) (by decide) ?_
      refine wp_sts 1 (pc' := 87) (ls' := [some (.inr (.inr 103)), some (.inl x1), some (.inl x2), some (.inl x3), some (.inl x4), some (.inl x5), some (.inl x6), some (.inl x7)]) (st' := [.inl x7, .inr (.inr 121), .inr (.inr 103)]) (M' := M) rfl ?_
      refine g_iald (n := 6) rfl hS rfl hf1 ?_
      obtain ⟨r1, M1, he, hS1, h⟩ := h
      refine g_callI (c := 139) (as := [.inr (.inr 103), .inl (M 121 x7.toNat)]) (rs := []) rfl rfl hS hd rfl he ?_
      refine wp_sts 2 (pc' := 98) (ls' := [some (.inr (.inr 103)), some (.inl x1), some (.inl x2), some (.inl x3), some (.inl x4), some (.inl x5), some (.inl r1), some (.inl x7)]) (st' := []) (M' := M1) rfl ?_
      obtain ⟨hf2, h⟩ := h
      refine w_iinc rfl rfl hf2 ?_
      refine wp_sts 1 (pc' := 62) (ls' := [some (.inr (.inr 103)), some (.inl x1), some (.inl x2), some (.inl x3), some (.inl x4), some (.inl x5), some (.inl r1), some (.inl (x7 + 1))]) (st' := []) (M' := M1) rfl ?_
      exact h
/- Model.days, at 0 -/
theorem b177_0 {d t : Nat}   {M : ab_M} {Q : Option ab_V → ab_M → Prop} (hd : 1 ≤ d) (hS : pu_str t M)  (h : (M 103 3 ≠ 0 → ∃ r1 M1, ab_ev (d - 1) 176 [.inr (.inr 103), .inl 0] M (some (.inl r1)) M1 ∧ pu_str t M1 ∧ Q (some (.inl r1)) M1) ∧ (M 103 3 = 0 → Q (some (.inl 0)) M)) : ab_wp d 177 0 [some (.inr (.inr 103))] [] M Q := by
  refine wp_sts 1 (pc' := 1) (ls' := [some (.inr (.inr 103))]) (st' := [.inr (.inr 103)]) (M' := M) rfl ?_
  refine g_getI rfl hS rfl ?_
  refine c1_ne rfl (fun c => ?_) (fun c => ?_)
  · replace h := h.1 c
    refine wp_sts 2 (pc' := 13) (ls' := [some (.inr (.inr 103))]) (st' := [.inl 0, .inr (.inr 103)]) (M' := M) rfl ?_
    obtain ⟨r1, M1, he, hS1, h⟩ := h
    refine g_callI (c := 176) (as := [.inr (.inr 103), .inl 0]) (rs := []) rfl rfl hS hd rfl he ?_
    exact wp_ret rfl rfl (z := (some (.inl r1), M1)) rfl h
  · replace h := h.2 c
    refine wp_sts 2 (pc' := 16) (ls' := [some (.inr (.inr 103))]) (st' := [.inl 0]) (M' := M) rfl ?_
    exact wp_ret rfl rfl (z := (some (.inl 0), M)) rfl h
/- Model.where, at 0 -/
theorem b178_0 {d t : Nat}  {x1 : Int} {M : ab_M} {Q : Option ab_V → ab_M → Prop} (hd : 1 ≤ d) (hS : pu_str t M)  (h : ∃ r1 M1, ab_ev (d - 1) 107 [.inr (.inl x1), .inr (.inl 0), .inr (.inl 999)] M (some (.inl r1)) M1 ∧ pu_str t M1 ∧ (r1 ≠ 0 → ∃ r2 M2, ab_ev (d - 1) 176 [.inr (.inr 103), .inl x1] M1 (some (.inl r2)) M2 ∧ pu_str t M2 ∧ (M2 103 3 ≠ 0 → Q (some (.inl (M2 103 47))) M2) ∧ (M2 103 3 = 0 → Q (some (.inl 0)) M2)) ∧ (r1 = 0 → Q (some (.inl ((-1000000002)))) M1)) : ab_wp d 178 0 [some (.inr (.inr 103)), some (.inl x1)] [] M Q := by
  refine wp_sts 4 (pc' := 6) (ls' := [some (.inr (.inr 103)), some (.inl x1)]) (st' := [.inr (.inl 999), .inr (.inl 0), .inr (.inl x1)]) (M' := M) rfl ?_
  obtain ⟨r1, M1, he, hS1, h⟩ := h
  refine g_callI (c := 107) (as := [.inr (.inl x1), .inr (.inl 0), .inr (.inl 999)]) (rs := []) rfl rfl hS hd rfl he ?_
  refine c1_ne rfl (fun c => ?_) (fun c => ?_)
  · replace h := h.1 c
    refine wp_sts 2 (pc' := 17) (ls' := [some (.inr (.inr 103)), some (.inl x1)]) (st' := [.inl x1, .inr (.inr 103)]) (M' := M1) rfl ?_
    obtain ⟨r2, M2, he, hS2, h⟩ := h
    refine g_callI (c := 176) (as := [.inr (.inr 103), .inl x1]) (rs := []) rfl rfl hS1 hd rfl he ?_
    refine wp_sts 2 (pc' := 22) (ls' := [some (.inr (.inr 103)), some (.inl x1)]) (st' := [.inr (.inr 103)]) (M' := M2) rfl ?_
    refine g_getI rfl hS2 rfl ?_
    refine c1_ne rfl (fun c => ?_) (fun c => ?_)
    · replace h := h.1 c
      refine wp_sts 1 (pc' := 33) (ls' := [some (.inr (.inr 103)), some (.inl x1)]) (st' := [.inr (.inr 103)]) (M' := M2) rfl ?_
      refine g_getI rfl hS2 rfl ?_
      exact wp_ret rfl rfl (z := (some (.inl (M2 103 47)), M2)) rfl h
    · replace h := h.2 c
      refine wp_sts 2 (pc' := 36) (ls' := [some (.inr (.inr 103)), some (.inl x1)]) (st' := [.inl 0]) (M' := M2) rfl ?_
      exact wp_ret rfl rfl (z := (some (.inl 0), M2)) rfl h
  · replace h := h.2 c
    refine wp_sts 1 (pc' := 14) (ls' := [some (.inr (.inr 103)), some (.inl x1)]) (st' := [.inl ((-1000000002))]) (M' := M1) rfl ?_
    exact wp_ret rfl rfl (z := (some (.inl ((-1000000002))), M1)) rfl h
/- Model.write, at 0 -/
theorem b179_0 {d t : Nat}  {x1 : Int} {x2 : Int} {M : ab_M} {Q : Option ab_V → ab_M → Prop} (hd : 1 ≤ d) (hS : pu_str t M)  (h : ∃ r1 M1, ab_ev (d - 1) 111 [.inr (.inr 103), .inl x1] M (some (.inl r1)) M1 ∧ pu_str t M1 ∧ (r1 ≠ 0 → ∃ r2 M2, ab_ev (d - 1) 107 [.inr (.inl x2), .inr (.inl 0), .inr (.inl 99999)] M1 (some (.inl r2)) M2 ∧ pu_str t M2 ∧ (r2 ≠ 0 → (M2 103 19 ≠ 15 → ab_rg (2 * (M2 103 19)) ∧ (0 ≤ 2 * (M2 103 19) ∧ 2 * (M2 103 19) < 30) ∧ ab_rg ((2 * (M2 103 19)) + 1) ∧ (0 ≤ (2 * (M2 103 19)) + 1 ∧ (2 * (M2 103 19)) + 1 < 30) ∧ ab_rg ((M2 103 19) + 1) ∧ Q (some (.inl ((M2 103 19) + 1))) (ab_w (ab_w (ab_w M2 114 (2 * (M2 103 19)).toNat x1) 114 ((2 * (M2 103 19)) + 1).toNat x2) 103 19 ((M2 103 19) + 1))) ∧ (M2 103 19 = 15 → Q (some (.inl ((-1000000004)))) M2)) ∧ (r2 = 0 → Q (some (.inl ((-1000000002)))) M2)) ∧ (r1 = 0 → Q (some (.inl ((-1000000001)))) M1)) : ab_wp d 179 0 [some (.inr (.inr 103)), some (.inl x1), some (.inl x2)] [] M Q := by
  refine wp_sts 2 (pc' := 2) (ls' := [some (.inr (.inr 103)), some (.inl x1), some (.inl x2)]) (st' := [.inl x1, .inr (.inr 103)]) (M' := M) rfl ?_
  obtain ⟨r1, M1, he, hS1, h⟩ := h
  refine g_callI (c := 111) (as := [.inr (.inr 103), .inl x1]) (rs := []) rfl rfl hS hd rfl he ?_
  refine c1_ne rfl (fun c => ?_) (fun c => ?_)
  · replace h := h.1 c
    refine wp_sts 4 (pc' := 17) (ls' := [some (.inr (.inr 103)), some (.inl x1), some (.inl x2)]) (st' := [.inr (.inl 99999), .inr (.inl 0), .inr (.inl x2)]) (M' := M1) rfl ?_
    obtain ⟨r2, M2, he, hS2, h⟩ := h
    refine g_callI (c := 107) (as := [.inr (.inl x2), .inr (.inl 0), .inr (.inl 99999)]) (rs := []) rfl rfl hS1 hd rfl he ?_
    refine c1_ne rfl (fun c => ?_) (fun c => ?_)
    · replace h := h.1 c
      refine wp_sts 1 (pc' := 27) (ls' := [some (.inr (.inr 103)), some (.inl x1), some (.inl x2)]) (st' := [.inr (.inr 103)]) (M' := M2) rfl ?_
      refine g_getI rfl hS2 rfl ?_
      refine wp_sts 1 (pc' := 32) (ls' := [some (.inr (.inr 103)), some (.inl x1), some (.inl x2)]) (st' := [.inl 15, .inl (M2 103 19)]) (M' := M2) rfl ?_
      refine c2_ne rfl (fun c => ?_) (fun c => ?_)
      · replace h := h.1 c
        refine wp_sts 1 (pc' := 39) (ls' := [some (.inr (.inr 103)), some (.inl x1), some (.inl x2)]) (st' := [.inr (.inr 103)]) (M' := M2) rfl ?_
        refine g_getR (j := 114) rfl hS2 rfl (str_r hS2 103 18 114 rfl) (by decide) ?_
        refine wp_sts 2 (pc' := 44) (ls' := [some (.inr (.inr 103)), some (.inl x1), some (.inl x2)]) (st' := [.inr (.inr 103), .inl 2, .inr (.inr 114)]) (M' := M2) rfl ?_
        refine g_getI rfl hS2 rfl ?_
        obtain ⟨hf1, h⟩ := h
        refine w_imul rfl hf1 ?_
        refine wp_sts 1 (pc' := 49) (ls' := [some (.inr (.inr 103)), some (.inl x1), some (.inl x2)]) (st' := [.inl x1, .inl (2 * (M2 103 19)), .inr (.inr 114)]) (M' := M2) rfl ?_
        obtain ⟨hf2, h⟩ := h
        refine g_iast (n := 30) rfl hS2 rfl hf2 ?_
        refine wp_sts 1 (pc' := 51) (ls' := [some (.inr (.inr 103)), some (.inl x1), some (.inl x2)]) (st' := [.inr (.inr 103)]) (M' := (ab_w M2 114 (2 * (M2 103 19)).toNat x1)) rfl ?_
        refine g_getR (j := 114) rfl (str_a (k := 114) (f := (2 * (M2 103 19)).toNat) (v := x1) hS2 rfl) rfl (str_r (str_a (k := 114) (f := (2 * (M2 103 19)).toNat) (v := x1) hS2 rfl) 103 18 114 rfl) (by decide) ?_
        refine wp_sts 2 (pc' := 56) (ls' := [some (.inr (.inr 103)), some (.inl x1), some (.inl x2)]) (st' := [.inr (.inr 103), .inl 2, .inr (.inr 114)]) (M' := (ab_w M2 114 (2 * (M2 103 19)).toNat x1)) rfl ?_
        refine g_getI rfl (str_a (k := 114) (f := (2 * (M2 103 19)).toNat) (v := x1) hS2 rfl) rfl ?_
        refine w_imul rfl hf1 ?_
        refine wp_sts 1 (pc' := 61) (ls' := [some (.inr (.inr 103)), some (.inl x1), some (.inl x2)]) (st' := [.inl 1, .inl (2 * (M2 103 19)), .inr (.inr 114)]) (M' := (ab_w M2 114 (2 * (M2 103 19)).toNat x1)) rfl ?_
        obtain ⟨hf3, h⟩ := h
        refine w_iadd rfl hf3 ?_
        refine wp_sts 1 (pc' := 63) (ls' := [some (.inr (.inr 103)), some (.inl x1), some (.inl x2)]) (st' := [.inl x2, .inl ((2 * (M2 103 19)) + 1), .inr (.inr 114)]) (M' := (ab_w M2 114 (2 * (M2 103 19)).toNat x1)) rfl ?_
        obtain ⟨hf4, h⟩ := h
        refine g_iast (n := 30) rfl (str_a (k := 114) (f := (2 * (M2 103 19)).toNat) (v := x1) hS2 rfl) rfl hf4 ?_
        refine wp_sts 2 (pc' := 66) (ls' := [some (.inr (.inr 103)), some (.inl x1), some (.inl x2)]) (st' := [.inr (.inr 103), .inr (.inr 103)]) (M' := (ab_w (ab_w M2 114 (2 * (M2 103 19)).toNat x1) 114 ((2 * (M2 103 19)) + 1).toNat x2)) rfl ?_
        refine g_getI rfl (str_a (k := 114) (f := ((2 * (M2 103 19)) + 1).toNat) (v := x2) (str_a (k := 114) (f := (2 * (M2 103 19)).toNat) (v := x1) hS2 rfl) rfl) rfl ?_
        refine wp_sts 1 (pc' := 70) (ls' := [some (.inr (.inr 103)), some (.inl x1), some (.inl x2)]) (st' := [.inl 1, .inl (M2 103 19), .inr (.inr 103)]) (M' := (ab_w (ab_w M2 114 (2 * (M2 103 19)).toNat x1) 114 ((2 * (M2 103 19)) + 1).toNat x2)) rfl ?_
        obtain ⟨hf5, h⟩ := h
        refine w_iadd rfl hf5 ?_
        refine g_putI rfl (str_a (k := 114) (f := ((2 * (M2 103 19)) + 1).toNat) (v := x2) (str_a (k := 114) (f := (2 * (M2 103 19)).toNat) (v := x1) hS2 rfl) rfl) rfl ?_
        refine wp_sts 1 (pc' := 75) (ls' := [some (.inr (.inr 103)), some (.inl x1), some (.inl x2)]) (st' := [.inr (.inr 103)]) (M' := (ab_w (ab_w (ab_w M2 114 (2 * (M2 103 19)).toNat x1) 114 ((2 * (M2 103 19)) + 1).toNat x2) 103 19 ((M2 103 19) + 1))) rfl ?_
        refine g_getI rfl (str_w (k := 103) (f := 19) (v := (M2 103 19) + 1) (str_a (k := 114) (f := ((2 * (M2 103 19)) + 1).toNat) (v := x2) (str_a (k := 114) (f := (2 * (M2 103 19)).toNat) (v := x1) hS2 rfl) rfl) rfl) rfl ?_
        exact wp_ret rfl rfl (z := (some (.inl ((M2 103 19) + 1)), (ab_w (ab_w (ab_w M2 114 (2 * (M2 103 19)).toNat x1) 114 ((2 * (M2 103 19)) + 1).toNat x2) 103 19 ((M2 103 19) + 1)))) rfl h
      · replace h := h.2 c
        refine wp_sts 1 (pc' := 37) (ls' := [some (.inr (.inr 103)), some (.inl x1), some (.inl x2)]) (st' := [.inl ((-1000000004))]) (M' := M2) rfl ?_
        exact wp_ret rfl rfl (z := (some (.inl ((-1000000004))), M2)) rfl h
    · replace h := h.2 c
      refine wp_sts 1 (pc' := 25) (ls' := [some (.inr (.inr 103)), some (.inl x1), some (.inl x2)]) (st' := [.inl ((-1000000002))]) (M' := M2) rfl ?_
      exact wp_ret rfl rfl (z := (some (.inl ((-1000000002))), M2)) rfl h
  · replace h := h.2 c
    refine wp_sts 1 (pc' := 10) (ls' := [some (.inr (.inr 103)), some (.inl x1), some (.inl x2)]) (st' := [.inl ((-1000000001))]) (M' := M1) rfl ?_
    exact wp_ret rfl rfl (z := (some (.inl ((-1000000001))), M1)) rfl h
/- Model.judge, at 0 -/
theorem b180_0 {d t : Nat}   {M : ab_M} {Q : Option ab_V → ab_M → Prop} (hd : 1 ≤ d) (hS : pu_str t M)  (h : ab_wp d 180 2 [some (.inr (.inr 103)), some (.inl 0)] [] M Q) : ab_wp d 180 0 [some (.inr (.inr 103)), none] [] M Q := by
  refine wp_sts 2 (pc' := 2) (ls' := [some (.inr (.inr 103)), some (.inl 0)]) (st' := []) (M' := M) rfl ?_
  exact h
/- Model.judge, at 2 -/
theorem b180_2 {d t : Nat}  {x1 : Int} {M : ab_M} {Q : Option ab_V → ab_M → Prop} (hd : 1 ≤ d) (hS : pu_str t M)  (h : (M 103 19 ≤ x1 → Q (some (.inl ((-1)))) M) ∧ (x1 < M 103 19 → ab_rg (2 * x1) ∧ (0 ≤ 2 * x1 ∧ 2 * x1 < 30) ∧ ab_rg (4 + (M 114 (2 * x1).toNat)) ∧ (0 ≤ 4 + (M 114 (2 * x1).toNat) ∧ 4 + (M 114 (2 * x1).toNat) < 10) ∧ ab_rg ((2 * x1) + 1) ∧ (0 ≤ (2 * x1) + 1 ∧ (2 * x1) + 1 < 30) ∧ (M 112 (4 + (M 114 (2 * x1).toNat)).toNat = M 114 ((2 * x1) + 1).toNat → ab_rg (x1 + 1) ∧ ab_wp d 180 2 [some (.inr (.inr 103)), some (.inl (x1 + 1))] [] M Q) ∧ (M 112 (4 + (M 114 (2 * x1).toNat)).toNat ≠ M 114 ((2 * x1) + 1).toNat → Q (some (.inl x1)) M))) : ab_wp d 180 2 [some (.inr (.inr 103)), some (.inl x1)] [] M Q := by
  refine wp_sts 2 (pc' := 4) (ls' := [some (.inr (.inr 103)), some (.inl x1)]) (st' := [.inr (.inr 103), .inl x1]) (M' := M) rfl ?_
  refine g_getI rfl hS rfl ?_
  refine c2_ge rfl (fun c => ?_) (fun c => ?_)
  · replace h := h.1 c
    refine wp_sts 1 (pc' := 47) (ls' := [some (.inr (.inr 103)), some (.inl x1)]) (st' := [.inl ((-1))]) (M' := M) rfl ?_
    exact wp_ret rfl rfl (z := (some (.inl ((-1))), M)) rfl h
  · replace h := h.2 c
    refine wp_sts 1 (pc' := 11) (ls' := [some (.inr (.inr 103)), some (.inl x1)]) (st' := [.inr (.inr 103)]) (M' := M) rfl ?_
    refine g_getR (j := 112) rfl hS rfl (str_r hS 103 15 112 rfl) (by decide) ?_
    refine wp_sts 2 (pc' := 16) (ls' := [some (.inr (.inr 103)), some (.inl x1)]) (st' := [.inr (.inr 103), .inl 4, .inr (.inr 112)]) (M' := M) rfl ?_
    refine g_getR (j := 114) rfl hS rfl (str_r hS 103 18 114 rfl) (by decide) ?_
    refine wp_sts 2 (pc' := 21) (ls' := [some (.inr (.inr 103)), some (.inl x1)]) (st' := [.inl x1, .inl 2, .inr (.inr 114), .inl 4, .inr (.inr 112)]) (M' := M) rfl ?_
    obtain ⟨hf1, h⟩ := h
    refine w_imul rfl hf1 ?_
    obtain ⟨hf2, h⟩ := h
    refine g_iald (n := 30) rfl hS rfl hf2 ?_
    obtain ⟨hf3, h⟩ := h
    refine w_iadd rfl hf3 ?_
    obtain ⟨hf4, h⟩ := h
    refine g_iald (n := 10) rfl hS rfl hf4 ?_
    refine wp_sts 1 (pc' := 26) (ls' := [some (.inr (.inr 103)), some (.inl x1)]) (st' := [.inr (.inr 103), .inl (M 112 (4 + (M 114 (2 * x1).toNat)).toNat)]) (M' := M) rfl ?_
    refine g_getR (j := 114) rfl hS rfl (str_r hS 103 18 114 rfl) (by decide) ?_
    refine wp_sts 2 (pc' := 31) (ls' := [some (.inr (.inr 103)), some (.inl x1)]) (st' := [.inl x1, .inl 2, .inr (.inr 114), .inl (M 112 (4 + (M 114 (2 * x1).toNat)).toNat)]) (M' := M) rfl ?_
    refine w_imul rfl hf1 ?_
    refine wp_sts 1 (pc' := 33) (ls' := [some (.inr (.inr 103)), some (.inl x1)]) (st' := [.inl 1, .inl (2 * x1), .inr (.inr 114), .inl (M 112 (4 + (M 114 (2 * x1).toNat)).toNat)]) (M' := M) rfl ?_
    obtain ⟨hf5, h⟩ := h
    refine w_iadd rfl hf5 ?_
    obtain ⟨hf6, h⟩ := h
    refine g_iald (n := 30) rfl hS rfl hf6 ?_
    refine c2_eq rfl (fun c => ?_) (fun c => ?_)
    · replace h := h.1 c
      obtain ⟨hf7, h⟩ := h
      refine w_iinc rfl rfl hf7 ?_
      refine wp_sts 1 (pc' := 2) (ls' := [some (.inr (.inr 103)), some (.inl (x1 + 1))]) (st' := []) (M' := M) rfl ?_
      exact h
    · replace h := h.2 c
      refine wp_sts 1 (pc' := 39) (ls' := [some (.inr (.inr 103)), some (.inl x1)]) (st' := [.inl x1]) (M' := M) rfl ?_
      exact wp_ret rfl rfl (z := (some (.inl x1), M)) rfl h
/- Model.tear, at 0 -/
theorem b181_0 {d t : Nat}   {M : ab_M} {Q : Option ab_V → ab_M → Prop} (hd : 1 ≤ d) (hS : pu_str t M)  (h : ab_rg ((M 103 17) + (M 103 19)) ∧ Q (some (.inl ((M 103 17) + (M 103 19)))) (ab_w (ab_w M 103 17 0) 103 19 0)) : ab_wp d 181 0 [some (.inr (.inr 103)), none] [] M Q := by
  refine wp_sts 1 (pc' := 1) (ls' := [some (.inr (.inr 103)), none]) (st' := [.inr (.inr 103)]) (M' := M) rfl ?_
  refine g_getI rfl hS rfl ?_
  refine wp_sts 1 (pc' := 5) (ls' := [some (.inr (.inr 103)), none]) (st' := [.inr (.inr 103), .inl (M 103 17)]) (M' := M) rfl ?_
  refine g_getI rfl hS rfl ?_
  obtain ⟨hf1, h⟩ := h
  refine w_iadd rfl hf1 ?_
  refine wp_sts 3 (pc' := 12) (ls' := [some (.inr (.inr 103)), some (.inl ((M 103 17) + (M 103 19)))]) (st' := [.inl 0, .inr (.inr 103)]) (M' := M) rfl ?_
  refine g_putI rfl hS rfl ?_
  refine wp_sts 2 (pc' := 17) (ls' := [some (.inr (.inr 103)), some (.inl ((M 103 17) + (M 103 19)))]) (st' := [.inl 0, .inr (.inr 103)]) (M' := (ab_w M 103 17 0)) rfl ?_
  refine g_putI rfl (str_w (k := 103) (f := 17) (v := 0) hS rfl) rfl ?_
  refine wp_sts 1 (pc' := 21) (ls' := [some (.inr (.inr 103)), some (.inl ((M 103 17) + (M 103 19)))]) (st' := [.inl ((M 103 17) + (M 103 19))]) (M' := (ab_w (ab_w M 103 17 0) 103 19 0)) rfl ?_
  exact wp_ret rfl rfl (z := (some (.inl ((M 103 17) + (M 103 19))), (ab_w (ab_w M 103 17 0) 103 19 0))) rfl h
/- Model.seed, at 0 -/
theorem b182_0 {d t : Nat}  {x1 : Int} {M : ab_M} {Q : Option ab_V → ab_M → Prop} (hd : 1 ≤ d) (hS : pu_str t M)  (h : (0 ≤ x1 → Q (some (.inl (M 112 3))) (ab_w M 112 3 x1)) ∧ (x1 < 0 → Q (some (.inl ((-1000000002)))) M)) : ab_wp d 182 0 [some (.inr (.inr 103)), some (.inl x1), none] [] M Q := by
  refine wp_sts 1 (pc' := 1) (ls' := [some (.inr (.inr 103)), some (.inl x1), none]) (st' := [.inl x1]) (M' := M) rfl ?_
  refine c1_ge rfl (fun c => ?_) (fun c => ?_)
  · replace h := h.1 c
    refine wp_sts 1 (pc' := 8) (ls' := [some (.inr (.inr 103)), some (.inl x1), none]) (st' := [.inr (.inr 103)]) (M' := M) rfl ?_
    refine g_getR (j := 112) rfl hS rfl (str_r hS 103 15 112 rfl) (by decide) ?_
    refine wp_sts 1 (pc' := 12) (ls' := [some (.inr (.inr 103)), some (.inl x1), none]) (st' := [.inl 3, .inr (.inr 112)]) (M' := M) rfl ?_
    refine g_iald (n := 10) rfl hS rfl (by decide) ?_
    refine wp_sts 2 (pc' := 15) (ls' := [some (.inr (.inr 103)), some (.inl x1), some (.inl (M 112 3))]) (st' := [.inr (.inr 103)]) (M' := M) rfl ?_
    refine g_getR (j := 112) rfl hS rfl (str_r hS 103 15 112 rfl) (by decide) ?_
    refine wp_sts 2 (pc' := 20) (ls' := [some (.inr (.inr 103)), some (.inl x1), some (.inl (M 112 3))]) (st' := [.inl x1, .inl 3, .inr (.inr 112)]) (M' := M) rfl ?_
    refine g_iast (n := 10) rfl hS rfl (by decide) ?_
    refine wp_sts 1 (pc' := 22) (ls' := [some (.inr (.inr 103)), some (.inl x1), some (.inl (M 112 3))]) (st' := [.inl (M 112 3)]) (M' := (ab_w M 112 3 x1)) rfl ?_
    exact wp_ret rfl rfl (z := (some (.inl (M 112 3)), (ab_w M 112 3 x1))) rfl h
  · replace h := h.2 c
    refine wp_sts 1 (pc' := 6) (ls' := [some (.inr (.inr 103)), some (.inl x1), none]) (st' := [.inl ((-1000000002))]) (M' := M) rfl ?_
    exact wp_ret rfl rfl (z := (some (.inl ((-1000000002))), M)) rfl h
/- Model.keep, at 0 -/
theorem b183_0 {d t : Nat}  {x1 : Int} {M : ab_M} {Q : Option ab_V → ab_M → Prop} (hd : 1 ≤ d) (hS : pu_str t M)  (h : ∃ r1 M1, ab_ev (d - 1) 107 [.inr (.inl x1), .inr (.inl 0), .inr (.inl 1)] M (some (.inl r1)) M1 ∧ pu_str t M1 ∧ (r1 ≠ 0 → ab_wp d 183 15 [some (.inr (.inr 103)), some (.inl x1), some (.inl 0)] [] M1 Q) ∧ (r1 = 0 → Q (some (.inl ((-1000000001)))) M1)) : ab_wp d 183 0 [some (.inr (.inr 103)), some (.inl x1), none] [] M Q := by
  refine wp_sts 4 (pc' := 4) (ls' := [some (.inr (.inr 103)), some (.inl x1), none]) (st' := [.inr (.inl 1), .inr (.inl 0), .inr (.inl x1)]) (M' := M) rfl ?_
  obtain ⟨r1, M1, he, hS1, h⟩ := h
  refine g_callI (c := 107) (as := [.inr (.inl x1), .inr (.inl 0), .inr (.inl 1)]) (rs := []) rfl rfl hS hd rfl he ?_
  refine c1_ne rfl (fun c => ?_) (fun c => ?_)
  · replace h := h.1 c
    refine wp_sts 2 (pc' := 15) (ls' := [some (.inr (.inr 103)), some (.inl x1), some (.inl 0)]) (st' := []) (M' := M1) rfl ?_
    exact h
  · replace h := h.2 c
    refine wp_sts 1 (pc' := 12) (ls' := [some (.inr (.inr 103)), some (.inl x1), none]) (st' := [.inl ((-1000000001))]) (M' := M1) rfl ?_
    exact wp_ret rfl rfl (z := (some (.inl ((-1000000001))), M1)) rfl h
/- Model.keep, at 15 -/
theorem b183_15 {d t : Nat}  {x1 : Int} {x2 : Int} {M : ab_M} {Q : Option ab_V → ab_M → Prop} (hd : 1 ≤ d) (hS : pu_str t M)  (h : (10 ≤ x2 → (0 ≤ x1 ∧ x1 < 2) ∧ Q (some (.inl 1)) (ab_w M 130 x1.toNat 1)) ∧ (x2 < 10 → ab_rg (10 * x1) ∧ ab_rg ((10 * x1) + x2) ∧ (0 ≤ x2 ∧ x2 < 10) ∧ (0 ≤ (10 * x1) + x2 ∧ (10 * x1) + x2 < 20) ∧ ab_rg (x2 + 1) ∧ ab_wp d 183 15 [some (.inr (.inr 103)), some (.inl x1), some (.inl (x2 + 1))] [] (ab_w M 131 ((10 * x1) + x2).toNat (M 112 x2.toNat)) Q)) : ab_wp d 183 15 [some (.inr (.inr 103)), some (.inl x1), some (.inl x2)] [] M Q := by
  refine wp_sts 2 (pc' := 18) (ls' := [some (.inr (.inr 103)), some (.inl x1), some (.inl x2)]) (st' := [.inl 10, .inl x2]) (M' := M) rfl ?_
  refine c2_ge rfl (fun c => ?_) (fun c => ?_)
  · replace h := h.1 c
    refine wp_sts 1 (pc' := 45) (ls' := [some (.inr (.inr 103)), some (.inl x1), some (.inl x2)]) (st' := [.inr (.inr 103)]) (M' := M) rfl ?_
    refine g_getR (j := 130) rfl hS rfl (str_r hS 103 48 130 rfl) (by decide) ?_
    refine wp_sts 2 (pc' := 50) (ls' := [some (.inr (.inr 103)), some (.inl x1), some (.inl x2)]) (st' := [.inl 1, .inl x1, .inr (.inr 130)]) (M' := M) rfl ?_
    obtain ⟨hf1, h⟩ := h
    refine g_bast (n := 2) rfl hS rfl hf1 (by decide) ?_
    refine wp_sts 1 (pc' := 52) (ls' := [some (.inr (.inr 103)), some (.inl x1), some (.inl x2)]) (st' := [.inl 1]) (M' := (ab_w M 130 x1.toNat 1)) rfl ?_
    exact wp_ret rfl rfl (z := (some (.inl 1), (ab_w M 130 x1.toNat 1))) rfl h
  · replace h := h.2 c
    refine wp_sts 1 (pc' := 22) (ls' := [some (.inr (.inr 103)), some (.inl x1), some (.inl x2)]) (st' := [.inr (.inr 103)]) (M' := M) rfl ?_
    refine g_getR (j := 131) rfl hS rfl (str_r hS 103 49 131 rfl) (by decide) ?_
    refine wp_sts 2 (pc' := 28) (ls' := [some (.inr (.inr 103)), some (.inl x1), some (.inl x2)]) (st' := [.inl x1, .inl 10, .inr (.inr 131)]) (M' := M) rfl ?_
    obtain ⟨hf1, h⟩ := h
    refine w_imul rfl hf1 ?_
    refine wp_sts 1 (pc' := 30) (ls' := [some (.inr (.inr 103)), some (.inl x1), some (.inl x2)]) (st' := [.inl x2, .inl (10 * x1), .inr (.inr 131)]) (M' := M) rfl ?_
    obtain ⟨hf2, h⟩ := h
    refine w_iadd rfl hf2 ?_
    refine wp_sts 1 (pc' := 32) (ls' := [some (.inr (.inr 103)), some (.inl x1), some (.inl x2)]) (st' := [.inr (.inr 103), .inl ((10 * x1) + x2), .inr (.inr 131)]) (M' := M) rfl ?_
    refine g_getR (j := 112) rfl hS rfl (str_r hS 103 15 112 rfl) (by decide) ?_
    refine wp_sts 1 (pc' := 36) (ls' := [some (.inr (.inr 103)), some (.inl x1), some (.inl x2)]) (st' := [.inl x2, .inr (.inr 112), .inl ((10 * x1) + x2), .inr (.inr 131)]) (M' := M) rfl ?_
    obtain ⟨hf3, h⟩ := h
    refine g_iald (n := 10) rfl hS rfl hf3 ?_
    obtain ⟨hf4, h⟩ := h
    refine g_iast (n := 20) rfl hS rfl hf4 ?_
    obtain ⟨hf5, h⟩ := h
    refine w_iinc rfl rfl hf5 ?_
    refine wp_sts 1 (pc' := 15) (ls' := [some (.inr (.inr 103)), some (.inl x1), some (.inl (x2 + 1))]) (st' := []) (M' := (ab_w M 131 ((10 * x1) + x2).toNat (M 112 x2.toNat))) rfl ?_
    exact h
/- Model.goBack, at 0 -/
theorem b184_0 {d t : Nat}  {x1 : Int} {M : ab_M} {Q : Option ab_V → ab_M → Prop} (hd : 1 ≤ d) (hS : pu_str t M)  (h : ∃ r1 M1, ab_ev (d - 1) 107 [.inr (.inl x1), .inr (.inl 0), .inr (.inl 1)] M (some (.inl r1)) M1 ∧ pu_str t M1 ∧ (r1 ≠ 0 → (0 ≤ x1 ∧ x1 < 2) ∧ (M1 130 x1.toNat ≠ 0 → ab_wp d 184 27 [some (.inr (.inr 103)), some (.inl x1), some (.inl 0)] [] M1 Q) ∧ (M1 130 x1.toNat = 0 → Q (some (.inl ((-1000000003)))) M1)) ∧ (r1 = 0 → Q (some (.inl ((-1000000001)))) M1)) : ab_wp d 184 0 [some (.inr (.inr 103)), some (.inl x1), none] [] M Q := by
  refine wp_sts 4 (pc' := 4) (ls' := [some (.inr (.inr 103)), some (.inl x1), none]) (st' := [.inr (.inl 1), .inr (.inl 0), .inr (.inl x1)]) (M' := M) rfl ?_
  obtain ⟨r1, M1, he, hS1, h⟩ := h
  refine g_callI (c := 107) (as := [.inr (.inl x1), .inr (.inl 0), .inr (.inl 1)]) (rs := []) rfl rfl hS hd rfl he ?_
  refine c1_ne rfl (fun c => ?_) (fun c => ?_)
  · replace h := h.1 c
    refine wp_sts 1 (pc' := 14) (ls' := [some (.inr (.inr 103)), some (.inl x1), none]) (st' := [.inr (.inr 103)]) (M' := M1) rfl ?_
    refine g_getR (j := 130) rfl hS1 rfl (str_r hS1 103 48 130 rfl) (by decide) ?_
    refine wp_sts 1 (pc' := 18) (ls' := [some (.inr (.inr 103)), some (.inl x1), none]) (st' := [.inl x1, .inr (.inr 130)]) (M' := M1) rfl ?_
    obtain ⟨hf1, h⟩ := h
    refine g_bald (n := 2) rfl hS1 rfl hf1 ?_
    refine c1_ne rfl (fun c => ?_) (fun c => ?_)
    · replace h := h.1 c
      refine wp_sts 2 (pc' := 27) (ls' := [some (.inr (.inr 103)), some (.inl x1), some (.inl 0)]) (st' := []) (M' := M1) rfl ?_
      exact h
    · replace h := h.2 c
      refine wp_sts 1 (pc' := 24) (ls' := [some (.inr (.inr 103)), some (.inl x1), none]) (st' := [.inl ((-1000000003))]) (M' := M1) rfl ?_
      exact wp_ret rfl rfl (z := (some (.inl ((-1000000003))), M1)) rfl h
  · replace h := h.2 c
    refine wp_sts 1 (pc' := 12) (ls' := [some (.inr (.inr 103)), some (.inl x1), none]) (st' := [.inl ((-1000000001))]) (M' := M1) rfl ?_
    exact wp_ret rfl rfl (z := (some (.inl ((-1000000001))), M1)) rfl h
/- Model.goBack, at 27 -/
theorem b184_27 {d t : Nat}  {x1 : Int} {x2 : Int} {M : ab_M} {Q : Option ab_V → ab_M → Prop} (hd : 1 ≤ d) (hS : pu_str t M)  (h : (10 ≤ x2 → Q (some (.inl 1)) M) ∧ (x2 < 10 → ab_rg (10 * x1) ∧ ab_rg ((10 * x1) + x2) ∧ (0 ≤ (10 * x1) + x2 ∧ (10 * x1) + x2 < 20) ∧ (0 ≤ x2 ∧ x2 < 10) ∧ ab_rg (x2 + 1) ∧ ab_wp d 184 27 [some (.inr (.inr 103)), some (.inl x1), some (.inl (x2 + 1))] [] (ab_w M 112 x2.toNat (M 131 ((10 * x1) + x2).toNat)) Q)) : ab_wp d 184 27 [some (.inr (.inr 103)), some (.inl x1), some (.inl x2)] [] M Q := by
  refine wp_sts 2 (pc' := 30) (ls' := [some (.inr (.inr 103)), some (.inl x1), some (.inl x2)]) (st' := [.inl 10, .inl x2]) (M' := M) rfl ?_
  refine c2_ge rfl (fun c => ?_) (fun c => ?_)
  · replace h := h.1 c
    refine wp_sts 1 (pc' := 57) (ls' := [some (.inr (.inr 103)), some (.inl x1), some (.inl x2)]) (st' := [.inl 1]) (M' := M) rfl ?_
    exact wp_ret rfl rfl (z := (some (.inl 1), M)) rfl h
  · replace h := h.2 c
    refine wp_sts 1 (pc' := 34) (ls' := [some (.inr (.inr 103)), some (.inl x1), some (.inl x2)]) (st' := [.inr (.inr 103)]) (M' := M) rfl ?_
    refine g_getR (j := 112) rfl hS rfl (str_r hS 103 15 112 rfl) (by decide) ?_
    refine wp_sts 2 (pc' := 39) (ls' := [some (.inr (.inr 103)), some (.inl x1), some (.inl x2)]) (st' := [.inr (.inr 103), .inl x2, .inr (.inr 112)]) (M' := M) rfl ?_
    refine g_getR (j := 131) rfl hS rfl (str_r hS 103 49 131 rfl) (by decide) ?_
    refine wp_sts 2 (pc' := 45) (ls' := [some (.inr (.inr 103)), some (.inl x1), some (.inl x2)]) (st' := [.inl x1, .inl 10, .inr (.inr 131), .inl x2, .inr (.inr 112)]) (M' := M) rfl ?_
    obtain ⟨hf1, h⟩ := h
    refine w_imul rfl hf1 ?_
    refine wp_sts 1 (pc' := 47) (ls' := [some (.inr (.inr 103)), some (.inl x1), some (.inl x2)]) (st' := [.inl x2, .inl (10 * x1), .inr (.inr 131), .inl x2, .inr (.inr 112)]) (M' := M) rfl ?_
    obtain ⟨hf2, h⟩ := h
    refine w_iadd rfl hf2 ?_
    obtain ⟨hf3, h⟩ := h
    refine g_iald (n := 20) rfl hS rfl hf3 ?_
    obtain ⟨hf4, h⟩ := h
    refine g_iast (n := 10) rfl hS rfl hf4 ?_
    obtain ⟨hf5, h⟩ := h
    refine w_iinc rfl rfl hf5 ?_
    refine wp_sts 1 (pc' := 27) (ls' := [some (.inr (.inr 103)), some (.inl x1), some (.inl (x2 + 1))]) (st' := []) (M' := (ab_w M 112 x2.toNat (M 131 ((10 * x1) + x2).toNat))) rfl ?_
    exact h
/- java/lang/String.length, at 0 -/
theorem b185_0 {d t : Nat}   {M : ab_M} {Q : Option ab_V → ab_M → Prop} (hd : 1 ≤ d) (hS : pu_str t M)  (h : ∃ r1 M1, ab_ev (d - 1) 188 [.inr (.inr 1004)] M (some (.inl r1)) M1 ∧ pu_str t M1 ∧ Q (some (.inl (ab_shr 7 r1))) M1) : ab_wp d 185 0 [some (.inr (.inr 1004))] [] M Q := by
  refine wp_sts 1 (pc' := 1) (ls' := [some (.inr (.inr 1004))]) (st' := [.inr (.inr 1004)]) (M' := M) rfl ?_
  refine wp_sts 1 rfl ?_
  refine wp_sts 1 rfl ?_
  refine wp_sts 1 (pc' := 6) (ls' := [some (.inr (.inr 1004))]) (st' := [.inr (.inr 1004), .inl 7]) (M' := M) rfl ?_
  obtain ⟨r1, M1, he, hS1, h⟩ := h
  refine g_callI (c := 188) (as := [.inr (.inr 1004)]) (rs := [.inl 7]) rfl rfl hS hd rfl he ?_
  refine wp_sts 1 (pc' := 10) (ls' := [some (.inr (.inr 1004))]) (st' := [.inl (ab_shr 7 r1)]) (M' := M1) rfl ?_
  exact wp_ret rfl rfl (z := (some (.inl (ab_shr 7 r1)), M1)) rfl h
/- java/lang/String.indexOf, at 0 -/
theorem b186_0 {d t : Nat}  {x1 : Int} {M : ab_M} {Q : Option ab_V → ab_M → Prop} (hd : 1 ≤ d) (hS : pu_str t M)  (h : ∃ r1 M1, ab_ev (d - 1) 187 [.inr (.inr 1004), .inl x1, .inl 0] M (some (.inl r1)) M1 ∧ pu_str t M1 ∧ Q (some (.inl r1)) M1) : ab_wp d 186 0 [some (.inr (.inr 1004)), some (.inl x1)] [] M Q := by
  refine wp_sts 3 (pc' := 3) (ls' := [some (.inr (.inr 1004)), some (.inl x1)]) (st' := [.inl 0, .inl x1, .inr (.inr 1004)]) (M' := M) rfl ?_
  obtain ⟨r1, M1, he, hS1, h⟩ := h
  refine g_callI (c := 187) (as := [.inr (.inr 1004), .inl x1, .inl 0]) (rs := []) rfl rfl hS hd rfl he ?_
  exact wp_ret rfl rfl (z := (some (.inl r1), M1)) rfl h
/- java/lang/String.indexOf, at 0 -/
theorem b187_0 {d t : Nat}  {x1 : Int} {x2 : Int} {M : ab_M} {Q : Option ab_V → ab_M → Prop} (hd : 1 ≤ d) (hS : pu_str t M)  (h : ∃ r1 M1, ab_ev (d - 1) 189 [.inr (.inr 1004)] M (some (.inl r1)) M1 ∧ pu_str t M1 ∧ (r1 = 0 → ∃ r2 M2, ab_ev (d - 1) 185 [.inr (.inr 1004)] M1 (some (.inl r2)) M2 ∧ pu_str t M2 ∧ False) ∧ (r1 ≠ 0 → ∃ r2 M2, ab_ev (d - 1) 185 [.inr (.inr 1004)] M1 (some (.inl r2)) M2 ∧ pu_str t M2 ∧ ∃ r3 M3, ab_ev (d - 1) 191 [.inr (.inr 1005), .inl x1, .inl x2, .inl r2] M2 (some (.inl r3)) M3 ∧ pu_str t M3 ∧ Q (some (.inl r3)) M3)) : ab_wp d 187 0 [some (.inr (.inr 1004)), some (.inl x1), some (.inl x2)] [] M Q := by
  refine wp_sts 1 (pc' := 1) (ls' := [some (.inr (.inr 1004)), some (.inl x1), some (.inl x2)]) (st' := [.inr (.inr 1004)]) (M' := M) rfl ?_
  obtain ⟨r1, M1, he, hS1, h⟩ := h
  refine g_callI (c := 189) (as := [.inr (.inr 1004)]) (rs := []) rfl rfl hS hd rfl he ?_
  refine c1_eq rfl (fun c => ?_) (fun c => ?_)
  · replace h := h.1 c
    refine wp_sts 1 (pc' := 24) (ls' := [some (.inr (.inr 1004)), some (.inl x1), some (.inl x2)]) (st' := [.inr (.inr 1004)]) (M' := M1) rfl ?_
    refine wp_sts 1 rfl ?_
    refine wp_sts 3 (pc' := 30) (ls' := [some (.inr (.inr 1004)), some (.inl x1), some (.inl x2)]) (st' := [.inr (.inr 1004), .inl x2, .inl x1, .inr (.inr 1005)]) (M' := M1) rfl ?_
    obtain ⟨r2, M2, he, hS2, h⟩ := h
    refine g_callI (c := 185) (as := [.inr (.inr 1004)]) (rs := [.inl x2, .inl x1, .inr (.inr 1005)]) rfl rfl hS1 hd rfl he ?_
    exact h.elim
  · replace h := h.2 c
    refine wp_sts 1 (pc' := 8) (ls' := [some (.inr (.inr 1004)), some (.inl x1), some (.inl x2)]) (st' := [.inr (.inr 1004)]) (M' := M1) rfl ?_
    refine wp_sts 1 rfl ?_
    refine wp_sts 3 (pc' := 14) (ls' := [some (.inr (.inr 1004)), some (.inl x1), some (.inl x2)]) (st' := [.inr (.inr 1004), .inl x2, .inl x1, .inr (.inr 1005)]) (M' := M1) rfl ?_
    obtain ⟨r2, M2, he, hS2, h⟩ := h
    refine g_callI (c := 185) (as := [.inr (.inr 1004)]) (rs := [.inl x2, .inl x1, .inr (.inr 1005)]) rfl rfl hS1 hd rfl he ?_
    obtain ⟨r3, M3, he, hS3, h⟩ := h
    refine g_callI (c := 191) (as := [.inr (.inr 1005), .inl x1, .inl x2, .inl r2]) (rs := []) rfl rfl hS2 hd rfl he ?_
    refine wp_sts 1 (pc' := 36) (ls' := [some (.inr (.inr 1004)), some (.inl x1), some (.inl x2)]) (st' := [.inl r3]) (M' := M3) rfl ?_
    exact wp_ret rfl rfl (z := (some (.inl r3), M3)) rfl h
/- java/lang/String.coder, at 0 -/
theorem b188_0 {d t : Nat}   {M : ab_M} {Q : Option ab_V → ab_M → Prop} (hd : 1 ≤ d) (hS : pu_str t M)  (h : Q (some (.inl 0)) M) : ab_wp d 188 0 [some (.inr (.inr 1004))] [] M Q := by
  refine wp_sts 1 (pc' := 3) (ls' := [some (.inr (.inr 1004))]) (st' := [.inl 1]) (M' := M) rfl ?_
  refine c1_eq rfl (fun c => absurd c (by decide)) (fun _ => ?_)
  refine wp_sts 1 (pc' := 7) (ls' := [some (.inr (.inr 1004))]) (st' := [.inr (.inr 1004)]) (M' := M) rfl ?_
  refine wp_sts 1 rfl ?_
  refine wp_sts 1 (pc' := 14) (ls' := [some (.inr (.inr 1004))]) (st' := [.inl 0]) (M' := M) rfl ?_
  exact g_retC rfl (by decide) h
/- java/lang/String.isLatin1, at 0 -/
theorem b189_0 {d t : Nat}   {M : ab_M} {Q : Option ab_V → ab_M → Prop} (hd : 1 ≤ d) (hS : pu_str t M)  (h : Q (some (.inl 1)) M) : ab_wp d 189 0 [some (.inr (.inr 1004))] [] M Q := by
  refine wp_sts 1 (pc' := 3) (ls' := [some (.inr (.inr 1004))]) (st' := [.inl 1]) (M' := M) rfl ?_
  refine c1_eq rfl (fun c => absurd c (by decide)) (fun _ => ?_)
  refine wp_sts 1 (pc' := 7) (ls' := [some (.inr (.inr 1004))]) (st' := [.inr (.inr 1004)]) (M' := M) rfl ?_
  refine wp_sts 1 rfl ?_
  refine c1_ne rfl (fun c => absurd c (by decide)) (fun _ => ?_)
  refine wp_sts 2 (pc' := 18) (ls' := [some (.inr (.inr 1004))]) (st' := [.inl 1]) (M' := M) rfl ?_
  exact g_retB rfl (by decide) h
/- java/lang/StringLatin1.canEncode, at 0 -/
theorem b190_0 {d t : Nat}  {x0 : Int} {M : ab_M} {Q : Option ab_V → ab_M → Prop} (hd : 1 ≤ d) (hS : pu_str t M)  (h : (x0 < 0 → Q (some (.inl 0)) M) ∧ (0 ≤ x0 → (255 < x0 → Q (some (.inl 0)) M) ∧ (x0 ≤ 255 → Q (some (.inl 1)) M))) : ab_wp d 190 0 [some (.inl x0)] [] M Q := by
  refine wp_sts 1 (pc' := 1) (ls' := [some (.inl x0)]) (st' := [.inl x0]) (M' := M) rfl ?_
  refine c1_lt rfl (fun c => ?_) (fun c => ?_)
  · replace h := h.1 c
    refine wp_sts 1 (pc' := 16) (ls' := [some (.inl x0)]) (st' := [.inl 0]) (M' := M) rfl ?_
    exact g_retB rfl (by decide) h
  · replace h := h.2 c
    refine wp_sts 2 (pc' := 8) (ls' := [some (.inl x0)]) (st' := [.inl 255, .inl x0]) (M' := M) rfl ?_
    refine c2_gt rfl (fun c => ?_) (fun c => ?_)
    · replace h := h.1 c
      refine wp_sts 1 (pc' := 16) (ls' := [some (.inl x0)]) (st' := [.inl 0]) (M' := M) rfl ?_
      exact g_retB rfl (by decide) h
    · replace h := h.2 c
      refine wp_sts 2 (pc' := 16) (ls' := [some (.inl x0)]) (st' := [.inl 1]) (M' := M) rfl ?_
      exact g_retB rfl (by decide) h
/- java/lang/StringLatin1.indexOf, at 0 -/
theorem b191_0 {d t : Nat}  {x1 : Int} {x2 : Int} {x3 : Int} {M : ab_M} {Q : Option ab_V → ab_M → Prop} (hd : 1 ≤ d) (hS : pu_str t M)  (h : ∃ r1 M1, ab_ev (d - 1) 190 [.inl x1] M (some (.inl r1)) M1 ∧ pu_str t M1 ∧ (r1 ≠ 0 → ((if x2 < 0 then 0 else x2) < (if 7 < x3 then 7 else x3) → ∃ r2 M2, ab_ev (d - 1) 192 [.inr (.inr 1005), .inl x1, .inl (if x2 < 0 then 0 else x2), .inl (if 7 < x3 then 7 else x3)] M1 (some (.inl r2)) M2 ∧ pu_str t M2 ∧ Q (some (.inl r2)) M2) ∧ ((if 7 < x3 then 7 else x3) ≤ (if x2 < 0 then 0 else x2) → Q (some (.inl ((-1)))) M1)) ∧ (r1 = 0 → Q (some (.inl ((-1)))) M1)) : ab_wp d 191 0 [some (.inr (.inr 1005)), some (.inl x1), some (.inl x2), some (.inl x3)] [] M Q := by
  refine wp_sts 1 (pc' := 1) (ls' := [some (.inr (.inr 1005)), some (.inl x1), some (.inl x2), some (.inl x3)]) (st' := [.inl x1]) (M' := M) rfl ?_
  obtain ⟨r1, M1, he, hS1, h⟩ := h
  refine g_callI (c := 190) (as := [.inl x1]) (rs := []) rfl rfl hS hd rfl he ?_
  refine c1_ne rfl (fun c => ?_) (fun c => ?_)
  · replace h := h.1 c
    refine wp_sts 2 (pc' := 11) (ls' := [some (.inr (.inr 1005)), some (.inl x1), some (.inl x2), some (.inl x3)]) (st' := [.inl 0, .inl x2]) (M' := M1) rfl ?_
    refine wp_sts 1 rfl ?_
    refine wp_sts 3 (pc' := 17) (ls' := [some (.inr (.inr 1005)), some (.inl x1), some (.inl (if x2 < 0 then 0 else x2)), some (.inl x3)]) (st' := [.inr (.inr 1005), .inl x3]) (M' := M1) rfl ?_
    refine wp_sts 1 rfl ?_
    refine wp_sts 1 rfl ?_
    refine wp_sts 3 (pc' := 24) (ls' := [some (.inr (.inr 1005)), some (.inl x1), some (.inl (if x2 < 0 then 0 else x2)), some (.inl (if 7 < x3 then 7 else x3))]) (st' := [.inl (if 7 < x3 then 7 else x3), .inl (if x2 < 0 then 0 else x2)]) (M' := M1) rfl ?_
    refine c2_lt rfl (fun c => ?_) (fun c => ?_)
    · replace h := h.1 c
      refine wp_sts 4 (pc' := 33) (ls' := [some (.inr (.inr 1005)), some (.inl x1), some (.inl (if x2 < 0 then 0 else x2)), some (.inl (if 7 < x3 then 7 else x3))]) (st' := [.inl (if 7 < x3 then 7 else x3), .inl (if x2 < 0 then 0 else x2), .inl x1, .inr (.inr 1005)]) (M' := M1) rfl ?_
      obtain ⟨r2, M2, he, hS2, h⟩ := h
      refine g_callI (c := 192) (as := [.inr (.inr 1005), .inl x1, .inl (if x2 < 0 then 0 else x2), .inl (if 7 < x3 then 7 else x3)]) (rs := []) rfl rfl hS1 hd rfl he ?_
      exact wp_ret rfl rfl (z := (some (.inl r2), M2)) rfl h
    · replace h := h.2 c
      refine wp_sts 1 (pc' := 28) (ls' := [some (.inr (.inr 1005)), some (.inl x1), some (.inl (if x2 < 0 then 0 else x2)), some (.inl (if 7 < x3 then 7 else x3))]) (st' := [.inl ((-1))]) (M' := M1) rfl ?_
      exact wp_ret rfl rfl (z := (some (.inl ((-1))), M1)) rfl h
  · replace h := h.2 c
    refine wp_sts 1 (pc' := 8) (ls' := [some (.inr (.inr 1005)), some (.inl x1), some (.inl x2), some (.inl x3)]) (st' := [.inl ((-1))]) (M' := M1) rfl ?_
    exact wp_ret rfl rfl (z := (some (.inl ((-1))), M1)) rfl h
/- java/lang/StringLatin1.indexOfChar, at 0 -/
theorem b192_0 {d t : Nat}  {x1 : Int} {x2 : Int} {x3 : Int} {M : ab_M} {Q : Option ab_V → ab_M → Prop} (hd : 1 ≤ d) (hS : pu_str t M)  (h : (-128 ≤ x1 ∧ x1 < 256) ∧ ab_wp d 192 7 [some (.inr (.inr 1005)), some (.inl x1), some (.inl x2), some (.inl x3), some (.inl ((if x1 < 128 then x1 else x1 - 256))), some (.inl x2)] [] M Q) : ab_wp d 192 0 [some (.inr (.inr 1005)), some (.inl x1), some (.inl x2), some (.inl x3), none, none] [] M Q := by
  refine wp_sts 1 (pc' := 1) (ls' := [some (.inr (.inr 1005)), some (.inl x1), some (.inl x2), some (.inl x3), none, none]) (st' := [.inl x1]) (M' := M) rfl ?_
  obtain ⟨hf1, h⟩ := h
  refine w_i2b rfl hf1 ?_
  refine wp_sts 3 (pc' := 7) (ls' := [some (.inr (.inr 1005)), some (.inl x1), some (.inl x2), some (.inl x3), some (.inl ((if x1 < 128 then x1 else x1 - 256))), some (.inl x2)]) (st' := []) (M' := M) rfl ?_
  exact h
/- java/lang/StringLatin1.indexOfChar, at 7 -/
theorem b192_7 {d t : Nat}  {x1 : Int} {x2 : Int} {x3 : Int} {x4 : Int} {x5 : Int} {M : ab_M} {Q : Option ab_V → ab_M → Prop} (hd : 1 ≤ d) (hS : pu_str t M)  (h : (x3 ≤ x5 → Q (some (.inl ((-1)))) M) ∧ (x5 < x3 → (0 ≤ x5 ∧ x5 < 7) ∧ ((ab_stt 1005).getD x5.toNat 0 ≠ x4 → ab_rg (x5 + 1) ∧ ab_wp d 192 7 [some (.inr (.inr 1005)), some (.inl x1), some (.inl x2), some (.inl x3), some (.inl x4), some (.inl (x5 + 1))] [] M Q) ∧ ((ab_stt 1005).getD x5.toNat 0 = x4 → Q (some (.inl x5)) M))) : ab_wp d 192 7 [some (.inr (.inr 1005)), some (.inl x1), some (.inl x2), some (.inl x3), some (.inl x4), some (.inl x5)] [] M Q := by
  refine wp_sts 2 (pc' := 10) (ls' := [some (.inr (.inr 1005)), some (.inl x1), some (.inl x2), some (.inl x3), some (.inl x4), some (.inl x5)]) (st' := [.inl x3, .inl x5]) (M' := M) rfl ?_
  refine c2_ge rfl (fun c => ?_) (fun c => ?_)
  · replace h := h.1 c
    refine wp_sts 1 (pc' := 32) (ls' := [some (.inr (.inr 1005)), some (.inl x1), some (.inl x2), some (.inl x3), some (.inl x4), some (.inl x5)]) (st' := [.inl ((-1))]) (M' := M) rfl ?_
    exact wp_ret rfl rfl (z := (some (.inl ((-1))), M)) rfl h
  · replace h := h.2 c
    refine wp_sts 2 (pc' := 16) (ls' := [some (.inr (.inr 1005)), some (.inl x1), some (.inl x2), some (.inl x3), some (.inl x4), some (.inl x5)]) (st' := [.inl x5, .inr (.inr 1005)]) (M' := M) rfl ?_
    obtain ⟨hf1, h⟩ := h
    refine w_bld rfl hf1 ?_
    refine wp_sts 1 (pc' := 19) (ls' := [some (.inr (.inr 1005)), some (.inl x1), some (.inl x2), some (.inl x3), some (.inl x4), some (.inl x5)]) (st' := [.inl x4, .inl ((ab_stt 1005).getD x5.toNat 0)]) (M' := M) rfl ?_
    refine c2_ne rfl (fun c => ?_) (fun c => ?_)
    · replace h := h.1 c
      obtain ⟨hf2, h⟩ := h
      refine w_iinc rfl rfl hf2 ?_
      refine wp_sts 1 (pc' := 7) (ls' := [some (.inr (.inr 1005)), some (.inl x1), some (.inl x2), some (.inl x3), some (.inl x4), some (.inl (x5 + 1))]) (st' := []) (M' := M) rfl ?_
      exact h
    · replace h := h.2 c
      refine wp_sts 1 (pc' := 24) (ls' := [some (.inr (.inr 1005)), some (.inl x1), some (.inl x2), some (.inl x3), some (.inl x4), some (.inl x5)]) (st' := [.inl x5]) (M' := M) rfl ?_
      exact wp_ret rfl rfl (z := (some (.inl x5), M)) rfl h
/- java/util/Arrays.fill, at 0 -/
theorem b193_0 {d t : Nat} {k n : Nat} {x1 : Int} {M : ab_M} {Q : Option ab_V → ab_M → Prop} (hd : 1 ≤ d) (hS : pu_str t M) (ha : ab_arB 20 k n = true) (hk : pu_na k = true) (h : ab_wp d 193 5 [some (.inr (.inr k)), some (.inl x1), some (.inl 0), some (.inl ((n : Int)))] [] M Q) : ab_wp d 193 0 [some (.inr (.inr k)), some (.inl x1), none, none] [] M Q := by
  refine wp_sts 3 (pc' := 3) (ls' := [some (.inr (.inr k)), some (.inl x1), some (.inl 0), none]) (st' := [.inr (.inr k)]) (M' := M) rfl ?_
  refine w_len (t := 20) (n := n) rfl hS.1 ha (by decide) ?_
  refine wp_sts 1 (pc' := 5) (ls' := [some (.inr (.inr k)), some (.inl x1), some (.inl 0), some (.inl ((n : Int)))]) (st' := []) (M' := M) rfl ?_
  exact h
/- java/util/Arrays.fill, at 5 -/
theorem b193_5 {d t : Nat} {k n : Nat} {x1 : Int} {x2 : Int} {x3 : Int} {M : ab_M} {Q : Option ab_V → ab_M → Prop} (hd : 1 ≤ d) (hS : pu_str t M) (ha : ab_arB 20 k n = true) (hk : pu_na k = true) (h : (x3 ≤ x2 → Q none M) ∧ (x2 < x3 → (0 ≤ x2 ∧ x2 < n) ∧ ab_rg (x2 + 1) ∧ ab_wp d 193 5 [some (.inr (.inr k)), some (.inl x1), some (.inl (x2 + 1)), some (.inl x3)] [] (ab_w M k x2.toNat x1) Q)) : ab_wp d 193 5 [some (.inr (.inr k)), some (.inl x1), some (.inl x2), some (.inl x3)] [] M Q := by
  refine wp_sts 2 (pc' := 7) (ls' := [some (.inr (.inr k)), some (.inl x1), some (.inl x2), some (.inl x3)]) (st' := [.inl x3, .inl x2]) (M' := M) rfl ?_
  refine c2_ge rfl (fun c => ?_) (fun c => ?_)
  · replace h := h.1 c
    exact wp_ret rfl rfl rfl h
  · replace h := h.2 c
    refine wp_sts 3 (pc' := 13) (ls' := [some (.inr (.inr k)), some (.inl x1), some (.inl x2), some (.inl x3)]) (st' := [.inl x1, .inl x2, .inr (.inr k)]) (M' := M) rfl ?_
    obtain ⟨hf1, h⟩ := h
    refine g_iast (n := n) rfl hS ha hf1 ?_
    obtain ⟨hf2, h⟩ := h
    refine w_iinc rfl rfl hf2 ?_
    refine wp_sts 1 (pc' := 5) (ls' := [some (.inr (.inr k)), some (.inl x1), some (.inl (x2 + 1)), some (.inl x3)]) (st' := []) (M' := (ab_w M k x2.toNat x1)) rfl ?_
    exact h
