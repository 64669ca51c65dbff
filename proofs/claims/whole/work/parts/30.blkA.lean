/-! blocks -/
/- BestRound.find, at 0 -/
theorem b1_0 {d t : Nat} {u : Nat} {x2 : Int} {x3 : Int} {x4 : Int} {M : ab_M} {Q : Option ab_V → ab_M → Prop} (hd : 1 ≤ d) (hS : pu_str t M) (hu : pu_T u) (h : ∃ M1, ab_ev (d - 1) 38 [.inr (.inr 78), .inr (.inr u), .inl x2, .inl x3, .inl x4] (ab_w M 78 2 ((-1))) none M1 ∧ pu_str t M1 ∧ Q none M1) : ab_wp d 1 0 [some (.inr (.inr 78)), some (.inr (.inr u)), some (.inl x2), some (.inl x3), some (.inl x4)] [] M Q := by
  refine wp_sts 2 (pc' := 2) (ls' := [some (.inr (.inr 78)), some (.inr (.inr u)), some (.inl x2), some (.inl x3), some (.inl x4)]) (st' := [.inl ((-1)), .inr (.inr 78)]) (M' := M) rfl ?_
  refine g_putI rfl hS rfl ?_
  refine wp_sts 5 (pc' := 11) (ls' := [some (.inr (.inr 78)), some (.inr (.inr u)), some (.inl x2), some (.inl x3), some (.inl x4)]) (st' := [.inl x4, .inl x3, .inl x2, .inr (.inr u), .inr (.inr 78)]) (M' := (ab_w M 78 2 ((-1)))) rfl ?_
  obtain ⟨M1, he, hS1, h⟩ := h
  refine g_callV (c := 38) (as := [.inr (.inr 78), .inr (.inr u), .inl x2, .inl x3, .inl x4]) (rs := []) rfl rfl (str_w (k := 78) (f := 2) (v := (-1)) hS rfl) hd rfl he ?_
  exact wp_ret rfl rfl rfl h
/- BestRound.meet, at 0 -/
theorem b2_0 {d t : Nat} {u : Nat} {x2 : Int} {x3 : Int} {M : ab_M} {Q : Option ab_V → ab_M → Prop} (hd : 1 ≤ d) (hS : pu_str t M) (hu : pu_T u) (h : ∃ r1 M1, ab_ev (d - 1) 40 [.inr (.inr 78), .inl x2] M (some (.inl r1)) M1 ∧ pu_str t M1 ∧ ∃ r2 M2, ab_ev (d - 1) 60 [.inr (.inr u), .inl r1] M1 (some (.inl r2)) M2 ∧ pu_str t M2 ∧ (M2 78 2 < r2 → ((0 : Int) ≤ x2 ∧ (0 : Int) ≤ 0 ∧ (0 : Int) ≤ 0 ∧ 0 + x2 ≤ (6 : Int) ∧ 0 + x2 ≤ (6 : Int)) ∧ Q none (ab_cpm (ab_w (ab_w (ab_w M2 78 2 r2) 78 3 x3) 78 4 x2) 79 81 0 0 x2.toNat)) ∧ (r2 ≤ M2 78 2 → (r2 ≠ M2 78 2 → Q none M2) ∧ (r2 = M2 78 2 → (M2 78 3 ≤ x3 → Q none M2) ∧ (x3 < M2 78 3 → ((0 : Int) ≤ x2 ∧ (0 : Int) ≤ 0 ∧ (0 : Int) ≤ 0 ∧ 0 + x2 ≤ (6 : Int) ∧ 0 + x2 ≤ (6 : Int)) ∧ Q none (ab_cpm (ab_w (ab_w (ab_w M2 78 2 r2) 78 3 x3) 78 4 x2) 79 81 0 0 x2.toNat))))) : ab_wp d 2 0 [some (.inr (.inr 78)), some (.inr (.inr u)), some (.inl x2), some (.inl x3), none] [] M Q := by
  refine wp_sts 3 (pc' := 3) (ls' := [some (.inr (.inr 78)), some (.inr (.inr u)), some (.inl x2), some (.inl x3), none]) (st' := [.inl x2, .inr (.inr 78), .inr (.inr u)]) (M' := M) rfl ?_
  obtain ⟨r1, M1, he, hS1, h⟩ := h
  refine g_callI (c := 40) (as := [.inr (.inr 78), .inl x2]) (rs := [.inr (.inr u)]) rfl rfl hS hd rfl he ?_
  obtain ⟨r2, M2, he, hS2, h⟩ := h
  refine g_callI (c := 60) (as := [.inr (.inr u), .inl r1]) (rs := []) rfl rfl hS1 hd (fT (P := fun z => ab_argsN (.invokevirtual 27, 1, 60, 2) [.inl r1, .inr (.inr z)] = some (60, [.inr (.inr z), .inl r1], [])) hu rfl rfl) he ?_
  refine wp_sts 3 (pc' := 14) (ls' := [some (.inr (.inr 78)), some (.inr (.inr u)), some (.inl x2), some (.inl x3), some (.inl r2)]) (st' := [.inr (.inr 78), .inl r2]) (M' := M2) rfl ?_
  refine g_getI rfl hS2 rfl ?_
  refine c2_gt rfl (fun c => ?_) (fun c => ?_)
  · replace h := h.1 c
    refine wp_sts 2 (pc' := 40) (ls' := [some (.inr (.inr 78)), some (.inr (.inr u)), some (.inl x2), some (.inl x3), some (.inl r2)]) (st' := [.inl r2, .inr (.inr 78)]) (M' := M2) rfl ?_
    refine g_putI rfl hS2 rfl ?_
    refine wp_sts 2 (pc' := 45) (ls' := [some (.inr (.inr 78)), some (.inr (.inr u)), some (.inl x2), some (.inl x3), some (.inl r2)]) (st' := [.inl x3, .inr (.inr 78)]) (M' := (ab_w M2 78 2 r2)) rfl ?_
    refine g_putI rfl (str_w (k := 78) (f := 2) (v := r2) hS2 rfl) rfl ?_
    refine wp_sts 2 (pc' := 50) (ls' := [some (.inr (.inr 78)), some (.inr (.inr u)), some (.inl x2), some (.inl x3), some (.inl r2)]) (st' := [.inl x2, .inr (.inr 78)]) (M' := (ab_w (ab_w M2 78 2 r2) 78 3 x3)) rfl ?_
    refine g_putI rfl (str_w (k := 78) (f := 3) (v := x3) (str_w (k := 78) (f := 2) (v := r2) hS2 rfl) rfl) rfl ?_
    refine wp_sts 1 (pc' := 54) (ls' := [some (.inr (.inr 78)), some (.inr (.inr u)), some (.inl x2), some (.inl x3), some (.inl r2)]) (st' := [.inr (.inr 78)]) (M' := (ab_w (ab_w (ab_w M2 78 2 r2) 78 3 x3) 78 4 x2)) rfl ?_
    refine g_getR (j := 79) rfl (str_w (k := 78) (f := 4) (v := x2) (str_w (k := 78) (f := 3) (v := x3) (str_w (k := 78) (f := 2) (v := r2) hS2 rfl) rfl) rfl) rfl (str_r (str_w (k := 78) (f := 4) (v := x2) (str_w (k := 78) (f := 3) (v := x3) (str_w (k := 78) (f := 2) (v := r2) hS2 rfl) rfl) rfl) 78 0 79 rfl) (by decide) ?_
    refine wp_sts 2 (pc' := 59) (ls' := [some (.inr (.inr 78)), some (.inr (.inr u)), some (.inl x2), some (.inl x3), some (.inl r2)]) (st' := [.inr (.inr 78), .inl 0, .inr (.inr 79)]) (M' := (ab_w (ab_w (ab_w M2 78 2 r2) 78 3 x3) 78 4 x2)) rfl ?_
    refine g_getR (j := 81) rfl (str_w (k := 78) (f := 4) (v := x2) (str_w (k := 78) (f := 3) (v := x3) (str_w (k := 78) (f := 2) (v := r2) hS2 rfl) rfl) rfl) rfl (str_r (str_w (k := 78) (f := 4) (v := x2) (str_w (k := 78) (f := 3) (v := x3) (str_w (k := 78) (f := 2) (v := r2) hS2 rfl) rfl) rfl) 78 5 81 rfl) (by decide) ?_
    refine wp_sts 2 (pc' := 64) (ls' := [some (.inr (.inr 78)), some (.inr (.inr u)), some (.inl x2), some (.inl x3), some (.inl r2)]) (st' := [.inl x2, .inl 0, .inr (.inr 81), .inl 0, .inr (.inr 79)]) (M' := (ab_w (ab_w (ab_w M2 78 2 r2) 78 3 x3) 78 4 x2)) rfl ?_
    obtain ⟨hc, h⟩ := h
    refine w_cpy (n1 := 6) (n2 := 6) rfl (str_w (k := 78) (f := 4) (v := x2) (str_w (k := 78) (f := 3) (v := x3) (str_w (k := 78) (f := 2) (v := r2) hS2 rfl) rfl) rfl).1 rfl rfl hc (by decide) ?_
    exact wp_ret rfl rfl rfl h
  · replace h := h.2 c
    refine wp_sts 2 (pc' := 23) (ls' := [some (.inr (.inr 78)), some (.inr (.inr u)), some (.inl x2), some (.inl x3), some (.inl r2)]) (st' := [.inr (.inr 78), .inl r2]) (M' := M2) rfl ?_
    refine g_getI rfl hS2 rfl ?_
    refine c2_ne rfl (fun c => ?_) (fun c => ?_)
    · replace h := h.1 c
      exact wp_ret rfl rfl rfl h
    · replace h := h.2 c
      refine wp_sts 2 (pc' := 31) (ls' := [some (.inr (.inr 78)), some (.inr (.inr u)), some (.inl x2), some (.inl x3), some (.inl r2)]) (st' := [.inr (.inr 78), .inl x3]) (M' := M2) rfl ?_
      refine g_getI rfl hS2 rfl ?_
      refine c2_ge rfl (fun c => ?_) (fun c => ?_)
      · replace h := h.1 c
        exact wp_ret rfl rfl rfl h
      · replace h := h.2 c
        refine wp_sts 2 (pc' := 40) (ls' := [some (.inr (.inr 78)), some (.inr (.inr u)), some (.inl x2), some (.inl x3), some (.inl r2)]) (st' := [.inl r2, .inr (.inr 78)]) (M' := M2) rfl ?_
        refine g_putI rfl hS2 rfl ?_
        refine wp_sts 2 (pc' := 45) (ls' := [some (.inr (.inr 78)), some (.inr (.inr u)), some (.inl x2), some (.inl x3), some (.inl r2)]) (st' := [.inl x3, .inr (.inr 78)]) (M' := (ab_w M2 78 2 r2)) rfl ?_
        refine g_putI rfl (str_w (k := 78) (f := 2) (v := r2) hS2 rfl) rfl ?_
        refine wp_sts 2 (pc' := 50) (ls' := [some (.inr (.inr 78)), some (.inr (.inr u)), some (.inl x2), some (.inl x3), some (.inl r2)]) (st' := [.inl x2, .inr (.inr 78)]) (M' := (ab_w (ab_w M2 78 2 r2) 78 3 x3)) rfl ?_
        refine g_putI rfl (str_w (k := 78) (f := 3) (v := x3) (str_w (k := 78) (f := 2) (v := r2) hS2 rfl) rfl) rfl ?_
        refine wp_sts 1 (pc' := 54) (ls' := [some (.inr (.inr 78)), some (.inr (.inr u)), some (.inl x2), some (.inl x3), some (.inl r2)]) (st' := [.inr (.inr 78)]) (M' := (ab_w (ab_w (ab_w M2 78 2 r2) 78 3 x3) 78 4 x2)) rfl ?_
        refine g_getR (j := 79) rfl (str_w (k := 78) (f := 4) (v := x2) (str_w (k := 78) (f := 3) (v := x3) (str_w (k := 78) (f := 2) (v := r2) hS2 rfl) rfl) rfl) rfl (str_r (str_w (k := 78) (f := 4) (v := x2) (str_w (k := 78) (f := 3) (v := x3) (str_w (k := 78) (f := 2) (v := r2) hS2 rfl) rfl) rfl) 78 0 79 rfl) (by decide) ?_
        refine wp_sts 2 (pc' := 59) (ls' := [some (.inr (.inr 78)), some (.inr (.inr u)), some (.inl x2), some (.inl x3), some (.inl r2)]) (st' := [.inr (.inr 78), .inl 0, .inr (.inr 79)]) (M' := (ab_w (ab_w (ab_w M2 78 2 r2) 78 3 x3) 78 4 x2)) rfl ?_
        refine g_getR (j := 81) rfl (str_w (k := 78) (f := 4) (v := x2) (str_w (k := 78) (f := 3) (v := x3) (str_w (k := 78) (f := 2) (v := r2) hS2 rfl) rfl) rfl) rfl (str_r (str_w (k := 78) (f := 4) (v := x2) (str_w (k := 78) (f := 3) (v := x3) (str_w (k := 78) (f := 2) (v := r2) hS2 rfl) rfl) rfl) 78 5 81 rfl) (by decide) ?_
        refine wp_sts 2 (pc' := 64) (ls' := [some (.inr (.inr 78)), some (.inr (.inr u)), some (.inl x2), some (.inl x3), some (.inl r2)]) (st' := [.inl x2, .inl 0, .inr (.inr 81), .inl 0, .inr (.inr 79)]) (M' := (ab_w (ab_w (ab_w M2 78 2 r2) 78 3 x3) 78 4 x2)) rfl ?_
        obtain ⟨hc, h⟩ := h
        refine w_cpy (n1 := 6) (n2 := 6) rfl (str_w (k := 78) (f := 4) (v := x2) (str_w (k := 78) (f := 3) (v := x3) (str_w (k := 78) (f := 2) (v := r2) hS2 rfl) rfl) rfl).1 rfl rfl hc (by decide) ?_
        exact wp_ret rfl rfl rfl h
/- Chains.find, at 0 -/
theorem b4_0 {d t : Nat} {u : Nat} {x2 : Int} {M : ab_M} {Q : Option ab_V → ab_M → Prop} (hd : 1 ≤ d) (hS : pu_str t M) (hu : pu_T u) (h : ∃ M1, ab_ev (d - 1) 193 [.inr (.inr 96), .inl ((-1))] M none M1 ∧ pu_str t M1 ∧ ∃ M2, ab_ev (d - 1) 193 [.inr (.inr 97), .inl ((-1))] M1 none M2 ∧ pu_str t M2 ∧ ∃ M3, ab_ev (d - 1) 5 [.inr (.inr 95), .inr (.inr u), .inl x2, .inl 1000000000, .inl 0, .inl 1] M2 none M3 ∧ pu_str t M3 ∧ Q none M3) : ab_wp d 4 0 [some (.inr (.inr 95)), some (.inr (.inr u)), some (.inl x2)] [] M Q := by
  refine wp_sts 1 (pc' := 1) (ls' := [some (.inr (.inr 95)), some (.inr (.inr u)), some (.inl x2)]) (st' := [.inr (.inr 95)]) (M' := M) rfl ?_
  refine g_getR (j := 96) rfl hS rfl (str_r hS 95 0 96 rfl) (by decide) ?_
  refine wp_sts 1 (pc' := 5) (ls' := [some (.inr (.inr 95)), some (.inr (.inr u)), some (.inl x2)]) (st' := [.inl ((-1)), .inr (.inr 96)]) (M' := M) rfl ?_
  obtain ⟨M1, he, hS1, h⟩ := h
  refine g_callV (c := 193) (as := [.inr (.inr 96), .inl ((-1))]) (rs := []) rfl rfl hS hd rfl he ?_
  refine wp_sts 1 (pc' := 9) (ls' := [some (.inr (.inr 95)), some (.inr (.inr u)), some (.inl x2)]) (st' := [.inr (.inr 95)]) (M' := M1) rfl ?_
  refine g_getR (j := 97) rfl hS1 rfl (str_r hS1 95 1 97 rfl) (by decide) ?_
  refine wp_sts 1 (pc' := 13) (ls' := [some (.inr (.inr 95)), some (.inr (.inr u)), some (.inl x2)]) (st' := [.inl ((-1)), .inr (.inr 97)]) (M' := M1) rfl ?_
  obtain ⟨M2, he, hS2, h⟩ := h
  refine g_callV (c := 193) (as := [.inr (.inr 97), .inl ((-1))]) (rs := []) rfl rfl hS1 hd rfl he ?_
  refine wp_sts 6 (pc' := 23) (ls' := [some (.inr (.inr 95)), some (.inr (.inr u)), some (.inl x2)]) (st' := [.inl 1, .inl 0, .inl 1000000000, .inl x2, .inr (.inr u), .inr (.inr 95)]) (M' := M2) rfl ?_
  obtain ⟨M3, he, hS3, h⟩ := h
  refine g_callV (c := 5) (as := [.inr (.inr 95), .inr (.inr u), .inl x2, .inl 1000000000, .inl 0, .inl 1]) (rs := []) rfl rfl hS2 hd rfl he ?_
  exact wp_ret rfl rfl rfl h
/- Chains.lendOn, at 0 -/
theorem b5_0 {d t : Nat} {u : Nat} {x2 : Int} {x3 : Int} {x4 : Int} {x5 : Int} {M : ab_M} {Q : Option ab_V → ab_M → Prop} (hd : 1 ≤ d) (hS : pu_str t M) (hu : pu_T u) (h : ∃ M1, ab_ev (d - 1) 6 [.inr (.inr 95), .inl x2, .inl x3, .inl x5] M none M1 ∧ pu_str t M1 ∧ (x5 < 6 → ab_wp d 5 27 [some (.inr (.inr 95)), some (.inr (.inr u)), some (.inl x2), some (.inl x3), some (.inl x4), some (.inl x5), some (.inl (ab_or x4 (ab_shl 1 x2))), some (.inl 0), none] [] M1 Q) ∧ (6 ≤ x5 → Q none M1)) : ab_wp d 5 0 [some (.inr (.inr 95)), some (.inr (.inr u)), some (.inl x2), some (.inl x3), some (.inl x4), some (.inl x5), none, none, none] [] M Q := by
  refine wp_sts 4 (pc' := 5) (ls' := [some (.inr (.inr 95)), some (.inr (.inr u)), some (.inl x2), some (.inl x3), some (.inl x4), some (.inl x5), none, none, none]) (st' := [.inl x5, .inl x3, .inl x2, .inr (.inr 95)]) (M' := M) rfl ?_
  obtain ⟨M1, he, hS1, h⟩ := h
  refine g_callV (c := 6) (as := [.inr (.inr 95), .inl x2, .inl x3, .inl x5]) (rs := []) rfl rfl hS hd rfl he ?_
  refine wp_sts 2 (pc' := 12) (ls' := [some (.inr (.inr 95)), some (.inr (.inr u)), some (.inl x2), some (.inl x3), some (.inl x4), some (.inl x5), none, none, none]) (st' := [.inl 6, .inl x5]) (M' := M1) rfl ?_
  refine c2_lt rfl (fun c => ?_) (fun c => ?_)
  · replace h := h.1 c
    refine wp_sts 8 (pc' := 27) (ls' := [some (.inr (.inr 95)), some (.inr (.inr u)), some (.inl x2), some (.inl x3), some (.inl x4), some (.inl x5), some (.inl (ab_or x4 (ab_shl 1 x2))), some (.inl 0), none]) (st' := []) (M' := M1) rfl ?_
    exact h
  · replace h := h.2 c
    exact wp_ret rfl rfl rfl h
/- Chains.lendOn, at 27 -/
theorem b5_27 {d t : Nat} {u : Nat} {x2 : Int} {x3 : Int} {x4 : Int} {x5 : Int} {x6 : Int} {x7 : Int} {y8 : Option ab_V} {M : ab_M} {Q : Option ab_V → ab_M → Prop} (hd : 1 ≤ d) (hS : pu_str t M) (hu : pu_T u) (h : (M u 2 ≤ x7 → Q none M) ∧ (x7 < M u 2 → (ab_and (ab_shr x6 x7) 1 ≠ 0 → ab_rg (x7 + 1) ∧ ab_wp d 5 27 [some (.inr (.inr 95)), some (.inr (.inr u)), some (.inl x2), some (.inl x3), some (.inl x4), some (.inl x5), some (.inl x6), some (.inl (x7 + 1)), y8] [] M Q) ∧ (ab_and (ab_shr x6 x7) 1 = 0 → (0 ≤ x2 ∧ x2 < 6) ∧ (0 ≤ x7 ∧ x7 < 6) ∧ (M (u + 25 + x2.toNat) x7.toNat = (-1) → ab_rg (x7 + 1) ∧ ab_wp d 5 27 [some (.inr (.inr 95)), some (.inr (.inr u)), some (.inl x2), some (.inl x3), some (.inl x4), some (.inl x5), some (.inl x6), some (.inl (x7 + 1)), y8] [] M Q) ∧ (M (u + 25 + x2.toNat) x7.toNat ≠ (-1) → ab_rl (x3 * (M (u + 25 + x2.toNat) x7.toNat)) ∧ ab_rl ((x3 * (M (u + 25 + x2.toNat) x7.toNat)).tdiv 10) ∧ ab_rg ((x3 * (M (u + 25 + x2.toNat) x7.toNat)).tdiv 10) ∧ ab_rg (x5 + 1) ∧ ∃ M1, ab_ev (d - 1) 5 [.inr (.inr 95), .inr (.inr u), .inl x7, .inl ((x3 * (M (u + 25 + x2.toNat) x7.toNat)).tdiv 10), .inl x6, .inl (x5 + 1)] M none M1 ∧ pu_str t M1 ∧ ab_rg (x7 + 1) ∧ ab_wp d 5 27 [some (.inr (.inr 95)), some (.inr (.inr u)), some (.inl x2), some (.inl x3), some (.inl x4), some (.inl x5), some (.inl x6), some (.inl (x7 + 1)), some (.inl ((x3 * (M (u + 25 + x2.toNat) x7.toNat)).tdiv 10))] [] M1 Q)))) : ab_wp d 5 27 [some (.inr (.inr 95)), some (.inr (.inr u)), some (.inl x2), some (.inl x3), some (.inl x4), some (.inl x5), some (.inl x6), some (.inl x7), y8] [] M Q := by
  refine wp_sts 2 (pc' := 30) (ls' := [some (.inr (.inr 95)), some (.inr (.inr u)), some (.inl x2), some (.inl x3), some (.inl x4), some (.inl x5), some (.inl x6), some (.inl x7), y8]) (st' := [.inr (.inr u), .inl x7]) (M' := M) rfl ?_
  refine g_getI rfl hS (fT (P := fun z => pu_bI z 2 8 = true) hu rfl rfl) ?_
  refine c2_ge rfl (fun c => ?_) (fun c => ?_)
  · replace h := h.1 c
    exact wp_ret rfl rfl rfl h
  · replace h := h.2 c
    refine wp_sts 5 (pc' := 43) (ls' := [some (.inr (.inr 95)), some (.inr (.inr u)), some (.inl x2), some (.inl x3), some (.inl x4), some (.inl x5), some (.inl x6), some (.inl x7), y8]) (st' := [.inl (ab_and (ab_shr x6 x7) 1)]) (M' := M) rfl ?_
    refine c1_ne rfl (fun c => ?_) (fun c => ?_)
    · replace h := h.1 c
      obtain ⟨hf1, h⟩ := h
      refine w_iinc rfl rfl hf1 ?_
      refine wp_sts 1 (pc' := 27) (ls' := [some (.inr (.inr 95)), some (.inr (.inr u)), some (.inl x2), some (.inl x3), some (.inl x4), some (.inl x5), some (.inl x6), some (.inl (x7 + 1)), y8]) (st' := []) (M' := M) rfl ?_
      exact h
    · replace h := h.2 c
      refine wp_sts 1 (pc' := 47) (ls' := [some (.inr (.inr 95)), some (.inr (.inr u)), some (.inl x2), some (.inl x3), some (.inl x4), some (.inl x5), some (.inl x6), some (.inl x7), y8]) (st' := [.inr (.inr u)]) (M' := M) rfl ?_
      refine g_getR (j := u + 24) rfl hS (fT (P := fun z => pu_bJ 2 z 14 8 = true) hu rfl rfl) (fT (P := fun z => M z 14 = ((z + 24 : Nat) : Int)) hu (str_r hS 5 14 29 rfl) (str_r hS 37 14 61 rfl)) (fT (P := fun z => z + 24 < 1000) hu (by decide) (by decide)) ?_
      refine wp_sts 1 (pc' := 51) (ls' := [some (.inr (.inr 95)), some (.inr (.inr u)), some (.inl x2), some (.inl x3), some (.inl x4), some (.inl x5), some (.inl x6), some (.inl x7), y8]) (st' := [.inl x2, .inr (.inr (u + 24))]) (M' := M) rfl ?_
      obtain ⟨hf1, h⟩ := h
      refine g_aald (n := 6) (j := u + 25 + x2.toNat) rfl hS (fT (P := fun z => ab_arB 24 (z + 24) 6 = true) hu rfl rfl) hf1 (fT (P := fun z => M (z + 24) x2.toNat = ((z + 25 + x2.toNat : Nat) : Int)) hu (row_rf (n := 6) hS (by decide) hf1) (row_rf (n := 6) hS (by decide) hf1)) (fT (P := fun z => z + 25 + x2.toNat < 1000) hu (row_lt (n := 6) (by decide) hf1) (row_lt (n := 6) (by decide) hf1)) ?_
      refine wp_sts 1 (pc' := 54) (ls' := [some (.inr (.inr 95)), some (.inr (.inr u)), some (.inl x2), some (.inl x3), some (.inl x4), some (.inl x5), some (.inl x6), some (.inl x7), y8]) (st' := [.inl x7, .inr (.inr (u + 25 + x2.toNat))]) (M' := M) rfl ?_
      obtain ⟨hf2, h⟩ := h
      refine g_iald (n := 6) rfl hS (fT (P := fun z => ab_arB 20 (z + 25 + x2.toNat) 6 = true) hu (row_ar (n := 6) (by decide) hf1) (row_ar (n := 6) (by decide) hf1)) hf2 ?_
      refine wp_sts 1 (pc' := 56) (ls' := [some (.inr (.inr 95)), some (.inr (.inr u)), some (.inl x2), some (.inl x3), some (.inl x4), some (.inl x5), some (.inl x6), some (.inl x7), y8]) (st' := [.inl ((-1)), .inl (M (u + 25 + x2.toNat) x7.toNat)]) (M' := M) rfl ?_
      refine c2_eq rfl (fun c => ?_) (fun c => ?_)
      · replace h := h.1 c
        obtain ⟨hf3, h⟩ := h
        refine w_iinc rfl rfl hf3 ?_
        refine wp_sts 1 (pc' := 27) (ls' := [some (.inr (.inr 95)), some (.inr (.inr u)), some (.inl x2), some (.inl x3), some (.inl x4), some (.inl x5), some (.inl x6), some (.inl (x7 + 1)), y8]) (st' := []) (M' := M) rfl ?_
        exact h
      · replace h := h.2 c
        refine wp_sts 3 (pc' := 62) (ls' := [some (.inr (.inr 95)), some (.inr (.inr u)), some (.inl x2), some (.inl x3), some (.inl x4), some (.inl x5), some (.inl x6), some (.inl x7), y8]) (st' := [.inr (.inr u), .inr (.inl x3)]) (M' := M) rfl ?_
        refine g_getR (j := u + 24) rfl hS (fT (P := fun z => pu_bJ 2 z 14 8 = true) hu rfl rfl) (fT (P := fun z => M z 14 = ((z + 24 : Nat) : Int)) hu (str_r hS 5 14 29 rfl) (str_r hS 37 14 61 rfl)) (fT (P := fun z => z + 24 < 1000) hu (by decide) (by decide)) ?_
        refine wp_sts 1 (pc' := 66) (ls' := [some (.inr (.inr 95)), some (.inr (.inr u)), some (.inl x2), some (.inl x3), some (.inl x4), some (.inl x5), some (.inl x6), some (.inl x7), y8]) (st' := [.inl x2, .inr (.inr (u + 24)), .inr (.inl x3)]) (M' := M) rfl ?_
        refine g_aald (n := 6) (j := u + 25 + x2.toNat) rfl hS (fT (P := fun z => ab_arB 24 (z + 24) 6 = true) hu rfl rfl) hf1 (fT (P := fun z => M (z + 24) x2.toNat = ((z + 25 + x2.toNat : Nat) : Int)) hu (row_rf (n := 6) hS (by decide) hf1) (row_rf (n := 6) hS (by decide) hf1)) (fT (P := fun z => z + 25 + x2.toNat < 1000) hu (row_lt (n := 6) (by decide) hf1) (row_lt (n := 6) (by decide) hf1)) ?_
        refine wp_sts 1 (pc' := 69) (ls' := [some (.inr (.inr 95)), some (.inr (.inr u)), some (.inl x2), some (.inl x3), some (.inl x4), some (.inl x5), some (.inl x6), some (.inl x7), y8]) (st' := [.inl x7, .inr (.inr (u + 25 + x2.toNat)), .inr (.inl x3)]) (M' := M) rfl ?_
        refine g_iald (n := 6) rfl hS (fT (P := fun z => ab_arB 20 (z + 25 + x2.toNat) 6 = true) hu (row_ar (n := 6) (by decide) hf1) (row_ar (n := 6) (by decide) hf1)) hf2 ?_
        refine wp_sts 1 (pc' := 71) (ls' := [some (.inr (.inr 95)), some (.inr (.inr u)), some (.inl x2), some (.inl x3), some (.inl x4), some (.inl x5), some (.inl x6), some (.inl x7), y8]) (st' := [.inr (.inl (M (u + 25 + x2.toNat) x7.toNat)), .inr (.inl x3)]) (M' := M) rfl ?_
        obtain ⟨hf3, h⟩ := h
        refine w_lmul rfl hf3 ?_
        refine wp_sts 1 (pc' := 75) (ls' := [some (.inr (.inr 95)), some (.inr (.inr u)), some (.inl x2), some (.inl x3), some (.inl x4), some (.inl x5), some (.inl x6), some (.inl x7), y8]) (st' := [.inr (.inl 10), .inr (.inl (x3 * (M (u + 25 + x2.toNat) x7.toNat)))]) (M' := M) rfl ?_
        obtain ⟨hf4, h⟩ := h
        refine w_ldiv rfl (by decide) hf4 ?_
        obtain ⟨hf5, h⟩ := h
        refine w_l2i rfl hf5 ?_
        refine wp_sts 8 (pc' := 90) (ls' := [some (.inr (.inr 95)), some (.inr (.inr u)), some (.inl x2), some (.inl x3), some (.inl x4), some (.inl x5), some (.inl x6), some (.inl x7), some (.inl ((x3 * (M (u + 25 + x2.toNat) x7.toNat)).tdiv 10))]) (st' := [.inl 1, .inl x5, .inl x6, .inl ((x3 * (M (u + 25 + x2.toNat) x7.toNat)).tdiv 10), .inl x7, .inr (.inr u), .inr (.inr 95)]) (M' := M) rfl ?_
        obtain ⟨hf6, h⟩ := h
        refine w_iadd rfl hf6 ?_
        obtain ⟨M1, he, hS1, h⟩ := h
        refine g_callV (c := 5) (as := [.inr (.inr 95), .inr (.inr u), .inl x7, .inl ((x3 * (M (u + 25 + x2.toNat) x7.toNat)).tdiv 10), .inl x6, .inl (x5 + 1)]) (rs := []) rfl rfl hS hd rfl he ?_
        obtain ⟨hf7, h⟩ := h
        refine w_iinc rfl rfl hf7 ?_
        refine wp_sts 1 (pc' := 27) (ls' := [some (.inr (.inr 95)), some (.inr (.inr u)), some (.inl x2), some (.inl x3), some (.inl x4), some (.inl x5), some (.inl x6), some (.inl (x7 + 1)), some (.inl ((x3 * (M (u + 25 + x2.toNat) x7.toNat)).tdiv 10))]) (st' := []) (M' := M1) rfl ?_
        exact h
/- Chains.compare, at 0 -/
theorem b6_0 {d t : Nat}  {x1 : Int} {x2 : Int} {x3 : Int} {M : ab_M} {Q : Option ab_V → ab_M → Prop} (hd : 1 ≤ d) (hS : pu_str t M)  (h : (0 ≤ x1 ∧ x1 < 6) ∧ (M 96 x1.toNat < x2 → Q none (ab_w (ab_w M 96 x1.toNat x2) 97 x1.toNat x3)) ∧ (x2 ≤ M 96 x1.toNat → (x2 ≠ M 96 x1.toNat → Q none M) ∧ (x2 = M 96 x1.toNat → (M 97 x1.toNat ≤ x3 → Q none M) ∧ (x3 < M 97 x1.toNat → Q none (ab_w (ab_w M 96 x1.toNat x2) 97 x1.toNat x3))))) : ab_wp d 6 0 [some (.inr (.inr 95)), some (.inl x1), some (.inl x2), some (.inl x3)] [] M Q := by
  refine wp_sts 2 (pc' := 2) (ls' := [some (.inr (.inr 95)), some (.inl x1), some (.inl x2), some (.inl x3)]) (st' := [.inr (.inr 95), .inl x2]) (M' := M) rfl ?_
  refine g_getR (j := 96) rfl hS rfl (str_r hS 95 0 96 rfl) (by decide) ?_
  refine wp_sts 1 (pc' := 6) (ls' := [some (.inr (.inr 95)), some (.inl x1), some (.inl x2), some (.inl x3)]) (st' := [.inl x1, .inr (.inr 96), .inl x2]) (M' := M) rfl ?_
  obtain ⟨hf1, h⟩ := h
  refine g_iald (n := 6) rfl hS rfl hf1 ?_
  refine c2_gt rfl (fun c => ?_) (fun c => ?_)
  · replace h := h.1 c
    refine wp_sts 1 (pc' := 31) (ls' := [some (.inr (.inr 95)), some (.inl x1), some (.inl x2), some (.inl x3)]) (st' := [.inr (.inr 95)]) (M' := M) rfl ?_
    refine g_getR (j := 96) rfl hS rfl (str_r hS 95 0 96 rfl) (by decide) ?_
    refine wp_sts 2 (pc' := 36) (ls' := [some (.inr (.inr 95)), some (.inl x1), some (.inl x2), some (.inl x3)]) (st' := [.inl x2, .inl x1, .inr (.inr 96)]) (M' := M) rfl ?_
    refine g_iast (n := 6) rfl hS rfl hf1 ?_
    refine wp_sts 1 (pc' := 38) (ls' := [some (.inr (.inr 95)), some (.inl x1), some (.inl x2), some (.inl x3)]) (st' := [.inr (.inr 95)]) (M' := (ab_w M 96 x1.toNat x2)) rfl ?_
    refine g_getR (j := 97) rfl (str_a (k := 96) (f := x1.toNat) (v := x2) hS rfl) rfl (str_r (str_a (k := 96) (f := x1.toNat) (v := x2) hS rfl) 95 1 97 rfl) (by decide) ?_
    refine wp_sts 2 (pc' := 43) (ls' := [some (.inr (.inr 95)), some (.inl x1), some (.inl x2), some (.inl x3)]) (st' := [.inl x3, .inl x1, .inr (.inr 97)]) (M' := (ab_w M 96 x1.toNat x2)) rfl ?_
    refine g_iast (n := 6) rfl (str_a (k := 96) (f := x1.toNat) (v := x2) hS rfl) rfl hf1 ?_
    exact wp_ret rfl rfl rfl h
  · replace h := h.2 c
    refine wp_sts 2 (pc' := 12) (ls' := [some (.inr (.inr 95)), some (.inl x1), some (.inl x2), some (.inl x3)]) (st' := [.inr (.inr 95), .inl x2]) (M' := M) rfl ?_
    refine g_getR (j := 96) rfl hS rfl (str_r hS 95 0 96 rfl) (by decide) ?_
    refine wp_sts 1 (pc' := 16) (ls' := [some (.inr (.inr 95)), some (.inl x1), some (.inl x2), some (.inl x3)]) (st' := [.inl x1, .inr (.inr 96), .inl x2]) (M' := M) rfl ?_
    refine g_iald (n := 6) rfl hS rfl hf1 ?_
    refine c2_ne rfl (fun c => ?_) (fun c => ?_)
    · replace h := h.1 c
      exact wp_ret rfl rfl rfl h
    · replace h := h.2 c
      refine wp_sts 2 (pc' := 22) (ls' := [some (.inr (.inr 95)), some (.inl x1), some (.inl x2), some (.inl x3)]) (st' := [.inr (.inr 95), .inl x3]) (M' := M) rfl ?_
      refine g_getR (j := 97) rfl hS rfl (str_r hS 95 1 97 rfl) (by decide) ?_
      refine wp_sts 1 (pc' := 26) (ls' := [some (.inr (.inr 95)), some (.inl x1), some (.inl x2), some (.inl x3)]) (st' := [.inl x1, .inr (.inr 97), .inl x3]) (M' := M) rfl ?_
      refine g_iald (n := 6) rfl hS rfl hf1 ?_
      refine c2_ge rfl (fun c => ?_) (fun c => ?_)
      · replace h := h.1 c
        exact wp_ret rfl rfl rfl h
      · replace h := h.2 c
        refine wp_sts 1 (pc' := 31) (ls' := [some (.inr (.inr 95)), some (.inl x1), some (.inl x2), some (.inl x3)]) (st' := [.inr (.inr 95)]) (M' := M) rfl ?_
        refine g_getR (j := 96) rfl hS rfl (str_r hS 95 0 96 rfl) (by decide) ?_
        refine wp_sts 2 (pc' := 36) (ls' := [some (.inr (.inr 95)), some (.inl x1), some (.inl x2), some (.inl x3)]) (st' := [.inl x2, .inl x1, .inr (.inr 96)]) (M' := M) rfl ?_
        refine g_iast (n := 6) rfl hS rfl hf1 ?_
        refine wp_sts 1 (pc' := 38) (ls' := [some (.inr (.inr 95)), some (.inl x1), some (.inl x2), some (.inl x3)]) (st' := [.inr (.inr 95)]) (M' := (ab_w M 96 x1.toNat x2)) rfl ?_
        refine g_getR (j := 97) rfl (str_a (k := 96) (f := x1.toNat) (v := x2) hS rfl) rfl (str_r (str_a (k := 96) (f := x1.toNat) (v := x2) hS rfl) 95 1 97 rfl) (by decide) ?_
        refine wp_sts 2 (pc' := 43) (ls' := [some (.inr (.inr 95)), some (.inl x1), some (.inl x2), some (.inl x3)]) (st' := [.inl x3, .inl x1, .inr (.inr 97)]) (M' := (ab_w M 96 x1.toNat x2)) rfl ?_
        refine g_iast (n := 6) rfl (str_a (k := 96) (f := x1.toNat) (v := x2) hS rfl) rfl hf1 ?_
        exact wp_ret rfl rfl rfl h
/- Chase.place, at 0 -/
theorem b8_0 {d t : Nat}  {x0 : Int} {x1 : Int} {x2 : Int} {M : ab_M} {Q : Option ab_V → ab_M → Prop} (hd : 1 ≤ d) (hS : pu_str t M)  (h : ab_rg (x0 * 7) ∧ ab_rg ((x0 * 7) + x1) ∧ ab_rg (((x0 * 7) + x1) * 2) ∧ ab_rg ((((x0 * 7) + x1) * 2) + x2) ∧ Q (some (.inl ((((x0 * 7) + x1) * 2) + x2))) M) : ab_wp d 8 0 [some (.inl x0), some (.inl x1), some (.inl x2)] [] M Q := by
  refine wp_sts 2 (pc' := 3) (ls' := [some (.inl x0), some (.inl x1), some (.inl x2)]) (st' := [.inl 7, .inl x0]) (M' := M) rfl ?_
  obtain ⟨hf1, h⟩ := h
  refine w_imul rfl hf1 ?_
  refine wp_sts 1 (pc' := 5) (ls' := [some (.inl x0), some (.inl x1), some (.inl x2)]) (st' := [.inl x1, .inl (x0 * 7)]) (M' := M) rfl ?_
  obtain ⟨hf2, h⟩ := h
  refine w_iadd rfl hf2 ?_
  refine wp_sts 1 (pc' := 7) (ls' := [some (.inl x0), some (.inl x1), some (.inl x2)]) (st' := [.inl 2, .inl ((x0 * 7) + x1)]) (M' := M) rfl ?_
  obtain ⟨hf3, h⟩ := h
  refine w_imul rfl hf3 ?_
  refine wp_sts 1 (pc' := 9) (ls' := [some (.inl x0), some (.inl x1), some (.inl x2)]) (st' := [.inl x2, .inl (((x0 * 7) + x1) * 2)]) (M' := M) rfl ?_
  obtain ⟨hf4, h⟩ := h
  refine w_iadd rfl hf4 ?_
  exact wp_ret rfl rfl (z := (some (.inl ((((x0 * 7) + x1) * 2) + x2)), M)) rfl h
/- Chase.solve, at 0 -/
theorem b9_0 {d t : Nat} {u : Nat} {x2 : Int} {M : ab_M} {Q : Option ab_V → ab_M → Prop} (hd : 1 ≤ d) (hS : pu_str t M) (hu : pu_T u) (h : ∃ M1, ab_ev (d - 1) 193 [.inr (.inr 99), .inl 0] M none M1 ∧ pu_str t M1 ∧ ∃ M2, ab_ev (d - 1) 193 [.inr (.inr 100), .inl 0] M1 none M2 ∧ pu_str t M2 ∧ ab_wp d 9 18 [some (.inr (.inr 98)), some (.inr (.inr u)), some (.inl x2), some (.inl 0), none, none] [] M2 Q) : ab_wp d 9 0 [some (.inr (.inr 98)), some (.inr (.inr u)), some (.inl x2), none, none, none] [] M Q := by
  refine wp_sts 1 (pc' := 1) (ls' := [some (.inr (.inr 98)), some (.inr (.inr u)), some (.inl x2), none, none, none]) (st' := [.inr (.inr 98)]) (M' := M) rfl ?_
  refine g_getR (j := 99) rfl hS rfl (str_r hS 98 0 99 rfl) (by decide) ?_
  refine wp_sts 1 (pc' := 5) (ls' := [some (.inr (.inr 98)), some (.inr (.inr u)), some (.inl x2), none, none, none]) (st' := [.inl 0, .inr (.inr 99)]) (M' := M) rfl ?_
  obtain ⟨M1, he, hS1, h⟩ := h
  refine g_callV (c := 193) (as := [.inr (.inr 99), .inl 0]) (rs := []) rfl rfl hS hd rfl he ?_
  refine wp_sts 1 (pc' := 9) (ls' := [some (.inr (.inr 98)), some (.inr (.inr u)), some (.inl x2), none, none, none]) (st' := [.inr (.inr 98)]) (M' := M1) rfl ?_
  refine g_getR (j := 100) rfl hS1 rfl (str_r hS1 98 1 100 rfl) (by decide) ?_
  refine wp_sts 1 (pc' := 13) (ls' := [some (.inr (.inr 98)), some (.inr (.inr u)), some (.inl x2), none, none, none]) (st' := [.inl 0, .inr (.inr 100)]) (M' := M1) rfl ?_
  obtain ⟨M2, he, hS2, h⟩ := h
  refine g_callV (c := 193) (as := [.inr (.inr 100), .inl 0]) (rs := []) rfl rfl hS1 hd rfl he ?_
  refine wp_sts 2 (pc' := 18) (ls' := [some (.inr (.inr 98)), some (.inr (.inr u)), some (.inl x2), some (.inl 0), none, none]) (st' := []) (M' := M2) rfl ?_
  exact h
/- Chase.solve, at 18 -/
theorem b9_18 {d t : Nat} {u : Nat} {x2 : Int} {x3 : Int} {y4 : Option ab_V} {y5 : Option ab_V} {M : ab_M} {Q : Option ab_V → ab_M → Prop} (hd : 1 ≤ d) (hS : pu_str t M) (hu : pu_T u) (h : (M u 0 ≤ x3 → ab_wp d 9 105 [some (.inr (.inr 98)), some (.inr (.inr u)), some (.inl x2), some (.inl 1), some (.inl 1), y5] [] M Q) ∧ (x3 < M u 0 → ab_wp d 9 29 [some (.inr (.inr 98)), some (.inr (.inr u)), some (.inl x2), some (.inl x3), some (.inl 0), y5] [] M Q)) : ab_wp d 9 18 [some (.inr (.inr 98)), some (.inr (.inr u)), some (.inl x2), some (.inl x3), y4, y5] [] M Q := by
  refine wp_sts 2 (pc' := 20) (ls' := [some (.inr (.inr 98)), some (.inr (.inr u)), some (.inl x2), some (.inl x3), y4, y5]) (st' := [.inr (.inr u), .inl x3]) (M' := M) rfl ?_
  refine g_getI rfl hS (fT (P := fun z => pu_bI z 0 8 = true) hu rfl rfl) ?_
  refine c2_ge rfl (fun c => ?_) (fun c => ?_)
  · replace h := h.1 c
    refine wp_sts 4 (pc' := 105) (ls' := [some (.inr (.inr 98)), some (.inr (.inr u)), some (.inl x2), some (.inl 1), some (.inl 1), y5]) (st' := []) (M' := M) rfl ?_
    exact h
  · replace h := h.2 c
    refine wp_sts 2 (pc' := 29) (ls' := [some (.inr (.inr 98)), some (.inr (.inr u)), some (.inl x2), some (.inl x3), some (.inl 0), y5]) (st' := []) (M' := M) rfl ?_
    exact h
/- Chase.solve, at 29 -/
theorem b9_29 {d t : Nat} {u : Nat} {x2 : Int} {x3 : Int} {x4 : Int} {y5 : Option ab_V} {M : ab_M} {Q : Option ab_V → ab_M → Prop} (hd : 1 ≤ d) (hS : pu_str t M) (hu : pu_T u) (h : (M u 0 ≤ x4 → ab_rg (x3 + 1) ∧ ab_wp d 9 18 [some (.inr (.inr 98)), some (.inr (.inr u)), some (.inl x2), some (.inl (x3 + 1)), some (.inl x4), y5] [] M Q) ∧ (x4 < M u 0 → (x3 ≠ x4 → (x3 ≠ x2 → ab_wp d 9 58 [some (.inr (.inr 98)), some (.inr (.inr u)), some (.inl x2), some (.inl x3), some (.inl x4), y5] [.inl 0] M Q) ∧ (x3 = x2 → ab_wp d 9 58 [some (.inr (.inr 98)), some (.inr (.inr u)), some (.inl x2), some (.inl x3), some (.inl x4), y5] [.inl 1] M Q)) ∧ (x3 = x4 → ab_wp d 9 58 [some (.inr (.inr 98)), some (.inr (.inr u)), some (.inl x2), some (.inl x3), some (.inl x4), y5] [.inl 2] M Q))) : ab_wp d 9 29 [some (.inr (.inr 98)), some (.inr (.inr u)), some (.inl x2), some (.inl x3), some (.inl x4), y5] [] M Q := by
  refine wp_sts 2 (pc' := 32) (ls' := [some (.inr (.inr 98)), some (.inr (.inr u)), some (.inl x2), some (.inl x3), some (.inl x4), y5]) (st' := [.inr (.inr u), .inl x4]) (M' := M) rfl ?_
  refine g_getI rfl hS (fT (P := fun z => pu_bI z 0 8 = true) hu rfl rfl) ?_
  refine c2_ge rfl (fun c => ?_) (fun c => ?_)
  · replace h := h.1 c
    obtain ⟨hf1, h⟩ := h
    refine w_iinc rfl rfl hf1 ?_
    refine wp_sts 1 (pc' := 18) (ls' := [some (.inr (.inr 98)), some (.inr (.inr u)), some (.inl x2), some (.inl (x3 + 1)), some (.inl x4), y5]) (st' := []) (M' := M) rfl ?_
    exact h
  · replace h := h.2 c
    refine wp_sts 2 (pc' := 41) (ls' := [some (.inr (.inr 98)), some (.inr (.inr u)), some (.inl x2), some (.inl x3), some (.inl x4), y5]) (st' := [.inl x4, .inl x3]) (M' := M) rfl ?_
    refine c2_ne rfl (fun c => ?_) (fun c => ?_)
    · replace h := h.1 c
      refine wp_sts 2 (pc' := 50) (ls' := [some (.inr (.inr 98)), some (.inr (.inr u)), some (.inl x2), some (.inl x3), some (.inl x4), y5]) (st' := [.inl x2, .inl x3]) (M' := M) rfl ?_
      refine c2_ne rfl (fun c => ?_) (fun c => ?_)
      · replace h := h.1 c
        refine wp_sts 1 (pc' := 58) (ls' := [some (.inr (.inr 98)), some (.inr (.inr u)), some (.inl x2), some (.inl x3), some (.inl x4), y5]) (st' := [.inl 0]) (M' := M) rfl ?_
        exact h
      · replace h := h.2 c
        refine wp_sts 2 (pc' := 58) (ls' := [some (.inr (.inr 98)), some (.inr (.inr u)), some (.inl x2), some (.inl x3), some (.inl x4), y5]) (st' := [.inl 1]) (M' := M) rfl ?_
        exact h
    · replace h := h.2 c
      refine wp_sts 2 (pc' := 58) (ls' := [some (.inr (.inr 98)), some (.inr (.inr u)), some (.inl x2), some (.inl x3), some (.inl x4), y5]) (st' := [.inl 2]) (M' := M) rfl ?_
      exact h
/- Chase.solve, at 58 -/
theorem b9_58 {d t : Nat} {u : Nat} {x2 : Int} {x3 : Int} {x4 : Int} {y5 : Option ab_V} {x100 : Int} {M : ab_M} {Q : Option ab_V → ab_M → Prop} (hd : 1 ≤ d) (hS : pu_str t M) (hu : pu_T u) (h : ∃ r1 M1, ab_ev (d - 1) 8 [.inl x3, .inl x4, .inl 0] M (some (.inl r1)) M1 ∧ pu_str t M1 ∧ (0 ≤ r1 ∧ r1 < 98) ∧ ∃ r2 M2, ab_ev (d - 1) 8 [.inl x3, .inl x4, .inl 1] (ab_w M1 99 r1.toNat x100) (some (.inl r2)) M2 ∧ pu_str t M2 ∧ (0 ≤ r2 ∧ r2 < 98) ∧ ab_rg (x4 + 1) ∧ ab_wp d 9 29 [some (.inr (.inr 98)), some (.inr (.inr u)), some (.inl x2), some (.inl x3), some (.inl (x4 + 1)), some (.inl x100)] [] (ab_w M2 99 r2.toNat x100) Q) : ab_wp d 9 58 [some (.inr (.inr 98)), some (.inr (.inr u)), some (.inl x2), some (.inl x3), some (.inl x4), y5] [.inl x100] M Q := by
  refine wp_sts 2 (pc' := 61) (ls' := [some (.inr (.inr 98)), some (.inr (.inr u)), some (.inl x2), some (.inl x3), some (.inl x4), some (.inl x100)]) (st' := [.inr (.inr 98)]) (M' := M) rfl ?_
  refine g_getR (j := 99) rfl hS rfl (str_r hS 98 0 99 rfl) (by decide) ?_
  refine wp_sts 3 (pc' := 68) (ls' := [some (.inr (.inr 98)), some (.inr (.inr u)), some (.inl x2), some (.inl x3), some (.inl x4), some (.inl x100)]) (st' := [.inl 0, .inl x4, .inl x3, .inr (.inr 99)]) (M' := M) rfl ?_
  obtain ⟨r1, M1, he, hS1, h⟩ := h
  refine g_callI (c := 8) (as := [.inl x3, .inl x4, .inl 0]) (rs := [.inr (.inr 99)]) rfl rfl hS hd rfl he ?_
  refine wp_sts 1 (pc' := 73) (ls' := [some (.inr (.inr 98)), some (.inr (.inr u)), some (.inl x2), some (.inl x3), some (.inl x4), some (.inl x100)]) (st' := [.inl x100, .inl r1, .inr (.inr 99)]) (M' := M1) rfl ?_
  obtain ⟨hf1, h⟩ := h
  refine g_iast (n := 98) rfl hS1 rfl hf1 ?_
  refine wp_sts 1 (pc' := 75) (ls' := [some (.inr (.inr 98)), some (.inr (.inr u)), some (.inl x2), some (.inl x3), some (.inl x4), some (.inl x100)]) (st' := [.inr (.inr 98)]) (M' := (ab_w M1 99 r1.toNat x100)) rfl ?_
  refine g_getR (j := 99) rfl (str_a (k := 99) (f := r1.toNat) (v := x100) hS1 rfl) rfl (str_r (str_a (k := 99) (f := r1.toNat) (v := x100) hS1 rfl) 98 0 99 rfl) (by decide) ?_
  refine wp_sts 3 (pc' := 82) (ls' := [some (.inr (.inr 98)), some (.inr (.inr u)), some (.inl x2), some (.inl x3), some (.inl x4), some (.inl x100)]) (st' := [.inl 1, .inl x4, .inl x3, .inr (.inr 99)]) (M' := (ab_w M1 99 r1.toNat x100)) rfl ?_
  obtain ⟨r2, M2, he, hS2, h⟩ := h
  refine g_callI (c := 8) (as := [.inl x3, .inl x4, .inl 1]) (rs := [.inr (.inr 99)]) rfl rfl (str_a (k := 99) (f := r1.toNat) (v := x100) hS1 rfl) hd rfl he ?_
  refine wp_sts 1 (pc' := 87) (ls' := [some (.inr (.inr 98)), some (.inr (.inr u)), some (.inl x2), some (.inl x3), some (.inl x4), some (.inl x100)]) (st' := [.inl x100, .inl r2, .inr (.inr 99)]) (M' := M2) rfl ?_
  obtain ⟨hf2, h⟩ := h
  refine g_iast (n := 98) rfl hS2 rfl hf2 ?_
  obtain ⟨hf3, h⟩ := h
  refine w_iinc rfl rfl hf3 ?_
  refine wp_sts 1 (pc' := 29) (ls' := [some (.inr (.inr 98)), some (.inr (.inr u)), some (.inl x2), some (.inl x3), some (.inl (x4 + 1)), some (.inl x100)]) (st' := []) (M' := (ab_w M2 99 r2.toNat x100)) rfl ?_
  exact h
/- Chase.solve, at 105 -/
theorem b9_105 {d t : Nat} {u : Nat} {x2 : Int} {x3 : Int} {x4 : Int} {y5 : Option ab_V} {M : ab_M} {Q : Option ab_V → ab_M → Prop} (hd : 1 ≤ d) (hS : pu_str t M) (hu : pu_T u) (h : (98 < x4 → Q none M) ∧ (x4 ≤ 98 → (x3 = 0 → Q none M) ∧ (x3 ≠ 0 → ∃ r1 M1, ab_ev (d - 1) 10 [.inr (.inr 98), .inr (.inr u), .inl x4] M (some (.inl r1)) M1 ∧ pu_str t M1 ∧ ab_rg (x4 + 1) ∧ ab_wp d 9 105 [some (.inr (.inr 98)), some (.inr (.inr u)), some (.inl x2), some (.inl r1), some (.inl (x4 + 1)), y5] [] M1 Q))) : ab_wp d 9 105 [some (.inr (.inr 98)), some (.inr (.inr u)), some (.inl x2), some (.inl x3), some (.inl x4), y5] [] M Q := by
  refine wp_sts 2 (pc' := 109) (ls' := [some (.inr (.inr 98)), some (.inr (.inr u)), some (.inl x2), some (.inl x3), some (.inl x4), y5]) (st' := [.inl 98, .inl x4]) (M' := M) rfl ?_
  refine c2_gt rfl (fun c => ?_) (fun c => ?_)
  · replace h := h.1 c
    exact wp_ret rfl rfl rfl h
  · replace h := h.2 c
    refine wp_sts 1 (pc' := 113) (ls' := [some (.inr (.inr 98)), some (.inr (.inr u)), some (.inl x2), some (.inl x3), some (.inl x4), y5]) (st' := [.inl x3]) (M' := M) rfl ?_
    refine c1_eq rfl (fun c => ?_) (fun c => ?_)
    · replace h := h.1 c
      exact wp_ret rfl rfl rfl h
    · replace h := h.2 c
      refine wp_sts 3 (pc' := 120) (ls' := [some (.inr (.inr 98)), some (.inr (.inr u)), some (.inl x2), some (.inl x3), some (.inl x4), y5]) (st' := [.inl x4, .inr (.inr u), .inr (.inr 98)]) (M' := M) rfl ?_
      obtain ⟨r1, M1, he, hS1, h⟩ := h
      refine g_callI (c := 10) (as := [.inr (.inr 98), .inr (.inr u), .inl x4]) (rs := []) rfl rfl hS hd rfl he ?_
      refine wp_sts 1 (pc' := 124) (ls' := [some (.inr (.inr 98)), some (.inr (.inr u)), some (.inl x2), some (.inl r1), some (.inl x4), y5]) (st' := []) (M' := M1) rfl ?_
      obtain ⟨hf1, h⟩ := h
      refine w_iinc rfl rfl hf1 ?_
      refine wp_sts 1 (pc' := 105) (ls' := [some (.inr (.inr 98)), some (.inr (.inr u)), some (.inl x2), some (.inl r1), some (.inl (x4 + 1)), y5]) (st' := []) (M' := M1) rfl ?_
      exact h
/- Chase.decideAt, at 0 -/
theorem b10_0 {d t : Nat} {u : Nat} {x2 : Int} {M : ab_M} {Q : Option ab_V → ab_M → Prop} (hd : 1 ≤ d) (hS : pu_str t M) (hu : pu_T u) (h : ab_wp d 10 5 [some (.inr (.inr 98)), some (.inr (.inr u)), some (.inl x2), some (.inl 0), some (.inl 0), none] [] M Q) : ab_wp d 10 0 [some (.inr (.inr 98)), some (.inr (.inr u)), some (.inl x2), none, none, none] [] M Q := by
  refine wp_sts 4 (pc' := 5) (ls' := [some (.inr (.inr 98)), some (.inr (.inr u)), some (.inl x2), some (.inl 0), some (.inl 0), none]) (st' := []) (M' := M) rfl ?_
  exact h
/- Chase.decideAt, at 5 -/
theorem b10_5 {d t : Nat} {u : Nat} {x2 : Int} {x3 : Int} {x4 : Int} {y5 : Option ab_V} {M : ab_M} {Q : Option ab_V → ab_M → Prop} (hd : 1 ≤ d) (hS : pu_str t M) (hu : pu_T u) (h : (M u 0 ≤ x4 → (x3 = 0 ∨ x3 = 1) ∧ Q (some (.inl x3)) M) ∧ (x4 < M u 0 → ab_wp d 10 17 [some (.inr (.inr 98)), some (.inr (.inr u)), some (.inl x2), some (.inl x3), some (.inl x4), some (.inl 0)] [] M Q)) : ab_wp d 10 5 [some (.inr (.inr 98)), some (.inr (.inr u)), some (.inl x2), some (.inl x3), some (.inl x4), y5] [] M Q := by
  refine wp_sts 2 (pc' := 8) (ls' := [some (.inr (.inr 98)), some (.inr (.inr u)), some (.inl x2), some (.inl x3), some (.inl x4), y5]) (st' := [.inr (.inr u), .inl x4]) (M' := M) rfl ?_
  refine g_getI rfl hS (fT (P := fun z => pu_bI z 0 8 = true) hu rfl rfl) ?_
  refine c2_ge rfl (fun c => ?_) (fun c => ?_)
  · replace h := h.1 c
    refine wp_sts 1 (pc' := 67) (ls' := [some (.inr (.inr 98)), some (.inr (.inr u)), some (.inl x2), some (.inl x3), some (.inl x4), y5]) (st' := [.inl x3]) (M' := M) rfl ?_
    exact g_retB rfl h.1 h.2
  · replace h := h.2 c
    refine wp_sts 2 (pc' := 17) (ls' := [some (.inr (.inr 98)), some (.inr (.inr u)), some (.inl x2), some (.inl x3), some (.inl x4), some (.inl 0)]) (st' := []) (M' := M) rfl ?_
    exact h
/- Chase.decideAt, at 17 -/
theorem b10_17 {d t : Nat} {u : Nat} {x2 : Int} {x3 : Int} {x4 : Int} {x5 : Int} {M : ab_M} {Q : Option ab_V → ab_M → Prop} (hd : 1 ≤ d) (hS : pu_str t M) (hu : pu_T u) (h : (M u 0 ≤ x5 → ab_rg (x4 + 1) ∧ ab_wp d 10 5 [some (.inr (.inr 98)), some (.inr (.inr u)), some (.inl x2), some (.inl x3), some (.inl (x4 + 1)), some (.inl x5)] [] M Q) ∧ (x5 < M u 0 → ∃ r1 M1, ab_ev (d - 1) 11 [.inr (.inr 98), .inr (.inr u), .inl x4, .inl x5, .inl 0, .inl x2] M (some (.inl r1)) M1 ∧ pu_str t M1 ∧ ∃ r2 M2, ab_ev (d - 1) 11 [.inr (.inr 98), .inr (.inr u), .inl x4, .inl x5, .inl 1, .inl x2] M1 (some (.inl r2)) M2 ∧ pu_str t M2 ∧ ab_rg (x5 + 1) ∧ ab_wp d 10 17 [some (.inr (.inr 98)), some (.inr (.inr u)), some (.inl x2), some (.inl (ab_or (ab_or x3 r1) r2)), some (.inl x4), some (.inl (x5 + 1))] [] M2 Q)) : ab_wp d 10 17 [some (.inr (.inr 98)), some (.inr (.inr u)), some (.inl x2), some (.inl x3), some (.inl x4), some (.inl x5)] [] M Q := by
  refine wp_sts 2 (pc' := 20) (ls' := [some (.inr (.inr 98)), some (.inr (.inr u)), some (.inl x2), some (.inl x3), some (.inl x4), some (.inl x5)]) (st' := [.inr (.inr u), .inl x5]) (M' := M) rfl ?_
  refine g_getI rfl hS (fT (P := fun z => pu_bI z 0 8 = true) hu rfl rfl) ?_
  refine c2_ge rfl (fun c => ?_) (fun c => ?_)
  · replace h := h.1 c
    obtain ⟨hf1, h⟩ := h
    refine w_iinc rfl rfl hf1 ?_
    refine wp_sts 1 (pc' := 5) (ls' := [some (.inr (.inr 98)), some (.inr (.inr u)), some (.inl x2), some (.inl x3), some (.inl (x4 + 1)), some (.inl x5)]) (st' := []) (M' := M) rfl ?_
    exact h
  · replace h := h.2 c
    refine wp_sts 7 (pc' := 35) (ls' := [some (.inr (.inr 98)), some (.inr (.inr u)), some (.inl x2), some (.inl x3), some (.inl x4), some (.inl x5)]) (st' := [.inl x2, .inl 0, .inl x5, .inl x4, .inr (.inr u), .inr (.inr 98), .inl x3]) (M' := M) rfl ?_
    obtain ⟨r1, M1, he, hS1, h⟩ := h
    refine g_callI (c := 11) (as := [.inr (.inr 98), .inr (.inr u), .inl x4, .inl x5, .inl 0, .inl x2]) (rs := [.inl x3]) rfl rfl hS hd rfl he ?_
    refine wp_sts 9 (pc' := 49) (ls' := [some (.inr (.inr 98)), some (.inr (.inr u)), some (.inl x2), some (.inl (ab_or x3 r1)), some (.inl x4), some (.inl x5)]) (st' := [.inl x2, .inl 1, .inl x5, .inl x4, .inr (.inr u), .inr (.inr 98), .inl (ab_or x3 r1)]) (M' := M1) rfl ?_
    obtain ⟨r2, M2, he, hS2, h⟩ := h
    refine g_callI (c := 11) (as := [.inr (.inr 98), .inr (.inr u), .inl x4, .inl x5, .inl 1, .inl x2]) (rs := [.inl (ab_or x3 r1)]) rfl rfl hS1 hd rfl he ?_
    refine wp_sts 2 (pc' := 54) (ls' := [some (.inr (.inr 98)), some (.inr (.inr u)), some (.inl x2), some (.inl (ab_or (ab_or x3 r1) r2)), some (.inl x4), some (.inl x5)]) (st' := []) (M' := M2) rfl ?_
    obtain ⟨hf1, h⟩ := h
    refine w_iinc rfl rfl hf1 ?_
    refine wp_sts 1 (pc' := 17) (ls' := [some (.inr (.inr 98)), some (.inr (.inr u)), some (.inl x2), some (.inl (ab_or (ab_or x3 r1) r2)), some (.inl x4), some (.inl (x5 + 1))]) (st' := []) (M' := M2) rfl ?_
    exact h
/- Chase.decide, at 0 -/
set_option maxRecDepth 100000 in
theorem b11_0 {d t : Nat} {u : Nat} {x2 : Int} {x3 : Int} {x4 : Int} {x5 : Int} {M : ab_M} {Q : Option ab_V → ab_M → Prop} (hd : 1 ≤ d) (hS : pu_str t M) (hu : pu_T u) (h : ∃ r1 M1, ab_ev (d - 1) 8 [.inl x2, .inl x3, .inl x4] M (some (.inl r1)) M1 ∧ pu_str t M1 ∧ (0 ≤ r1 ∧ r1 < 98) ∧ (M1 99 r1.toNat = 0 → (x4 ≠ 0 → (x4 ≠ 0 → ab_wp d 11 43 [some (.inr (.inr 98)), some (.inr (.inr u)), some (.inl x2), some (.inl x3), some (.inl x4), some (.inl x5), some (.inl r1), some (.inl 2), none, none, none, none, none, none] [.inl x3] M1 Q) ∧ (x4 = 0 → ab_wp d 11 43 [some (.inr (.inr 98)), some (.inr (.inr u)), some (.inl x2), some (.inl x3), some (.inl x4), some (.inl x5), some (.inl r1), some (.inl 2), none, none, none, none, none, none] [.inl x2] M1 Q)) ∧ (x4 = 0 → (x4 ≠ 0 → ab_wp d 11 43 [some (.inr (.inr 98)), some (.inr (.inr u)), some (.inl x2), some (.inl x3), some (.inl x4), some (.inl x5), some (.inl r1), some (.inl 1), none, none, none, none, none, none] [.inl x3] M1 Q) ∧ (x4 = 0 → ab_wp d 11 43 [some (.inr (.inr 98)), some (.inr (.inr u)), some (.inl x2), some (.inl x3), some (.inl x4), some (.inl x5), some (.inl r1), some (.inl 1), none, none, none, none, none, none] [.inl x2] M1 Q))) ∧ (M1 99 r1.toNat ≠ 0 → Q (some (.inl 0)) M1)) : ab_wp d 11 0 [some (.inr (.inr 98)), some (.inr (.inr u)), some (.inl x2), some (.inl x3), some (.inl x4), some (.inl x5), none, none, none, none, none, none, none, none] [] M Q := by
  refine wp_sts 3 (pc' := 4) (ls' := [some (.inr (.inr 98)), some (.inr (.inr u)), some (.inl x2), some (.inl x3), some (.inl x4), some (.inl x5), none, none, none, none, none, none, none, none]) (st' := [.inl x4, .inl x3, .inl x2]) (M' := M) rfl ?_
  obtain ⟨r1, M1, he, hS1, h⟩ := h
  refine g_callI (c := 8) (as := [.inl x2, .inl x3, .inl x4]) (rs := []) rfl rfl hS hd rfl he ?_
  refine wp_sts 2 (pc' := 10) (ls' := [some (.inr (.inr 98)), some (.inr (.inr u)), some (.inl x2), some (.inl x3), some (.inl x4), some (.inl x5), some (.inl r1), none, none, none, none, none, none, none]) (st' := [.inr (.inr 98)]) (M' := M1) rfl ?_
  refine g_getR (j := 99) rfl hS1 rfl (str_r hS1 98 0 99 rfl) (by decide) ?_
  refine wp_sts 1 (pc' := 15) (ls' := [some (.inr (.inr 98)), some (.inr (.inr u)), some (.inl x2), some (.inl x3), some (.inl x4), some (.inl x5), some (.inl r1), none, none, none, none, none, none, none]) (st' := [.inl r1, .inr (.inr 99)]) (M' := M1) rfl ?_
  obtain ⟨hf1, h⟩ := h
  refine g_iald (n := 98) rfl hS1 rfl hf1 ?_
  refine c1_eq rfl (fun c => ?_) (fun c => ?_)
  · replace h := h.1 c
    refine wp_sts 1 (pc' := 23) (ls' := [some (.inr (.inr 98)), some (.inr (.inr u)), some (.inl x2), some (.inl x3), some (.inl x4), some (.inl x5), some (.inl r1), none, none, none, none, none, none, none]) (st' := [.inl x4]) (M' := M1) rfl ?_
    refine c1_ne rfl (fun c => ?_) (fun c => ?_)
    · replace h := h.1 c
      refine wp_sts 3 (pc' := 35) (ls' := [some (.inr (.inr 98)), some (.inr (.inr u)), some (.inl x2), some (.inl x3), some (.inl x4), some (.inl x5), some (.inl r1), some (.inl 2), none, none, none, none, none, none]) (st' := [.inl x4]) (M' := M1) rfl ?_
      refine c1_ne rfl (fun c => ?_) (fun c => ?_)
      · replace h := h.1 c
        refine wp_sts 1 (pc' := 43) (ls' := [some (.inr (.inr 98)), some (.inr (.inr u)), some (.inl x2), some (.inl x3), some (.inl x4), some (.inl x5), some (.inl r1), some (.inl 2), none, none, none, none, none, none]) (st' := [.inl x3]) (M' := M1) rfl ?_
        exact h
      · replace h := h.2 c
        refine wp_sts 2 (pc' := 43) (ls' := [some (.inr (.inr 98)), some (.inr (.inr u)), some (.inl x2), some (.inl x3), some (.inl x4), some (.inl x5), some (.inl r1), some (.inl 2), none, none, none, none, none, none]) (st' := [.inl x2]) (M' := M1) rfl ?_
        exact h
    · replace h := h.2 c
      refine wp_sts 4 (pc' := 35) (ls' := [some (.inr (.inr 98)), some (.inr (.inr u)), some (.inl x2), some (.inl x3), some (.inl x4), some (.inl x5), some (.inl r1), some (.inl 1), none, none, none, none, none, none]) (st' := [.inl x4]) (M' := M1) rfl ?_
      refine c1_ne rfl (fun c => ?_) (fun c => ?_)
      · replace h := h.1 c
        refine wp_sts 1 (pc' := 43) (ls' := [some (.inr (.inr 98)), some (.inr (.inr u)), some (.inl x2), some (.inl x3), some (.inl x4), some (.inl x5), some (.inl r1), some (.inl 1), none, none, none, none, none, none]) (st' := [.inl x3]) (M' := M1) rfl ?_
        exact h
      · replace h := h.2 c
        refine wp_sts 2 (pc' := 43) (ls' := [some (.inr (.inr 98)), some (.inr (.inr u)), some (.inl x2), some (.inl x3), some (.inl x4), some (.inl x5), some (.inl r1), some (.inl 1), none, none, none, none, none, none]) (st' := [.inl x2]) (M' := M1) rfl ?_
        exact h
  · replace h := h.2 c
    refine wp_sts 1 (pc' := 20) (ls' := [some (.inr (.inr 98)), some (.inr (.inr u)), some (.inl x2), some (.inl x3), some (.inl x4), some (.inl x5), some (.inl r1), none, none, none, none, none, none, none]) (st' := [.inl 0]) (M' := M1) rfl ?_
    exact g_retB rfl (by decide) h
/- Chase.decide, at 43 -/
set_option maxRecDepth 100000 in
theorem b11_43 {d t : Nat} {u : Nat} {x2 : Int} {x3 : Int} {x4 : Int} {x5 : Int} {x6 : Int} {x7 : Int} {x100 : Int} {M : ab_M} {Q : Option ab_V → ab_M → Prop} (hd : 1 ≤ d) (hS : pu_str t M) (hu : pu_T u) (h : ab_wp d 11 54 [some (.inr (.inr 98)), some (.inr (.inr u)), some (.inl x2), some (.inl x3), some (.inl x4), some (.inl x5), some (.inl x6), some (.inl x7), some (.inl x100), some (.inl 1), some (.inl 0), some (.inl 0), none, none] [] M Q) : ab_wp d 11 43 [some (.inr (.inr 98)), some (.inr (.inr u)), some (.inl x2), some (.inl x3), some (.inl x4), some (.inl x5), some (.inl x6), some (.inl x7), none, none, none, none, none, none] [.inl x100] M Q := by
  refine wp_sts 7 (pc' := 54) (ls' := [some (.inr (.inr 98)), some (.inr (.inr u)), some (.inl x2), some (.inl x3), some (.inl x4), some (.inl x5), some (.inl x6), some (.inl x7), some (.inl x100), some (.inl 1), some (.inl 0), some (.inl 0), none, none]) (st' := []) (M' := M) rfl ?_
  exact h
/- Chase.decide, at 54 -/
set_option maxRecDepth 100000 in
theorem b11_54 {d t : Nat} {u : Nat} {x2 : Int} {x3 : Int} {x4 : Int} {x5 : Int} {x6 : Int} {x7 : Int} {x8 : Int} {x9 : Int} {x10 : Int} {x11 : Int} {y12 : Option ab_V} {y13 : Option ab_V} {M : ab_M} {Q : Option ab_V → ab_M → Prop} (hd : 1 ≤ d) (hS : pu_str t M) (hu : pu_T u) (h : (M u 0 ≤ x11 → (x10 ≠ 0 → (x10 = 0 → ab_rg (3 - x7) ∧ ab_wp d 11 210 [some (.inr (.inr 98)), some (.inr (.inr u)), some (.inl x2), some (.inl x3), some (.inl x4), some (.inl x5), some (.inl x6), some (.inl x7), some (.inl x8), some (.inl x9), some (.inl x10), some (.inl x11), y12, y13] [.inl (3 - x7), .inl x6, .inr (.inr 99)] M Q) ∧ (x10 ≠ 0 → ab_wp d 11 210 [some (.inr (.inr 98)), some (.inr (.inr u)), some (.inl x2), some (.inl x3), some (.inl x4), some (.inl x5), some (.inl x6), some (.inl x7), some (.inl x8), some (.inl x9), some (.inl x10), some (.inl x11), y12, y13] [.inl x7, .inl x6, .inr (.inr 99)] M Q)) ∧ (x10 = 0 → (x9 ≠ 0 → (x10 = 0 → ab_rg (3 - x7) ∧ ab_wp d 11 210 [some (.inr (.inr 98)), some (.inr (.inr u)), some (.inl x2), some (.inl x3), some (.inl x4), some (.inl x5), some (.inl x6), some (.inl x7), some (.inl x8), some (.inl x9), some (.inl x10), some (.inl x11), y12, y13] [.inl (3 - x7), .inl x6, .inr (.inr 99)] M Q) ∧ (x10 ≠ 0 → ab_wp d 11 210 [some (.inr (.inr 98)), some (.inr (.inr u)), some (.inl x2), some (.inl x3), some (.inl x4), some (.inl x5), some (.inl x6), some (.inl x7), some (.inl x8), some (.inl x9), some (.inl x10), some (.inl x11), y12, y13] [.inl x7, .inl x6, .inr (.inr 99)] M Q)) ∧ (x9 = 0 → Q (some (.inl 0)) M))) ∧ (x11 < M u 0 → (x11 = x8 → (x4 ≠ 0 → ∃ r1 M1, ab_ev (d - 1) 8 [.inl x2, .inl x11, .inl 0] M (some (.inl r1)) M1 ∧ pu_str t M1 ∧ ab_wp d 11 106 [some (.inr (.inr 98)), some (.inr (.inr u)), some (.inl x2), some (.inl x3), some (.inl x4), some (.inl x5), some (.inl x6), some (.inl x7), some (.inl x8), some (.inl x9), some (.inl x10), some (.inl x11), y12, y13] [.inl r1] M1 Q) ∧ (x4 = 0 → ∃ r1 M1, ab_ev (d - 1) 8 [.inl x11, .inl x3, .inl 1] M (some (.inl r1)) M1 ∧ pu_str t M1 ∧ ab_wp d 11 106 [some (.inr (.inr 98)), some (.inr (.inr u)), some (.inl x2), some (.inl x3), some (.inl x4), some (.inl x5), some (.inl x6), some (.inl x7), some (.inl x8), some (.inl x9), some (.inl x10), some (.inl x11), y12, y13] [.inl r1] M1 Q)) ∧ (x11 ≠ x8 → (0 ≤ x8 ∧ x8 < 7) ∧ (0 ≤ x11 ∧ x11 < 7) ∧ (M (u + 2 + x8.toNat) x11.toNat = (-1) → ab_rg (x11 + 1) ∧ ab_wp d 11 54 [some (.inr (.inr 98)), some (.inr (.inr u)), some (.inl x2), some (.inl x3), some (.inl x4), some (.inl x5), some (.inl x6), some (.inl x7), some (.inl x8), some (.inl x9), some (.inl x10), some (.inl (x11 + 1)), y12, y13] [] M Q) ∧ (M (u + 2 + x8.toNat) x11.toNat ≠ (-1) → (x4 ≠ 0 → ∃ r1 M1, ab_ev (d - 1) 8 [.inl x2, .inl x11, .inl 0] M (some (.inl r1)) M1 ∧ pu_str t M1 ∧ ab_wp d 11 106 [some (.inr (.inr 98)), some (.inr (.inr u)), some (.inl x2), some (.inl x3), some (.inl x4), some (.inl x5), some (.inl x6), some (.inl x7), some (.inl x8), some (.inl x9), some (.inl x10), some (.inl x11), y12, y13] [.inl r1] M1 Q) ∧ (x4 = 0 → ∃ r1 M1, ab_ev (d - 1) 8 [.inl x11, .inl x3, .inl 1] M (some (.inl r1)) M1 ∧ pu_str t M1 ∧ ab_wp d 11 106 [some (.inr (.inr 98)), some (.inr (.inr u)), some (.inl x2), some (.inl x3), some (.inl x4), some (.inl x5), some (.inl x6), some (.inl x7), some (.inl x8), some (.inl x9), some (.inl x10), some (.inl x11), y12, y13] [.inl r1] M1 Q))))) : ab_wp d 11 54 [some (.inr (.inr 98)), some (.inr (.inr u)), some (.inl x2), some (.inl x3), some (.inl x4), some (.inl x5), some (.inl x6), some (.inl x7), some (.inl x8), some (.inl x9), some (.inl x10), some (.inl x11), y12, y13] [] M Q := by
  refine wp_sts 2 (pc' := 57) (ls' := [some (.inr (.inr 98)), some (.inr (.inr u)), some (.inl x2), some (.inl x3), some (.inl x4), some (.inl x5), some (.inl x6), some (.inl x7), some (.inl x8), some (.inl x9), some (.inl x10), some (.inl x11), y12, y13]) (st' := [.inr (.inr u), .inl x11]) (M' := M) rfl ?_
  refine g_getI rfl hS (fT (P := fun z => pu_bI z 0 8 = true) hu rfl rfl) ?_
  refine c2_ge rfl (fun c => ?_) (fun c => ?_)
  · replace h := h.1 c
    refine wp_sts 1 (pc' := 180) (ls' := [some (.inr (.inr 98)), some (.inr (.inr u)), some (.inl x2), some (.inl x3), some (.inl x4), some (.inl x5), some (.inl x6), some (.inl x7), some (.inl x8), some (.inl x9), some (.inl x10), some (.inl x11), y12, y13]) (st' := [.inl x10]) (M' := M) rfl ?_
    refine c1_ne rfl (fun c => ?_) (fun c => ?_)
    · replace h := h.1 c
      refine wp_sts 1 (pc' := 191) (ls' := [some (.inr (.inr 98)), some (.inr (.inr u)), some (.inl x2), some (.inl x3), some (.inl x4), some (.inl x5), some (.inl x6), some (.inl x7), some (.inl x8), some (.inl x9), some (.inl x10), some (.inl x11), y12, y13]) (st' := [.inr (.inr 98)]) (M' := M) rfl ?_
      refine g_getR (j := 99) rfl hS rfl (str_r hS 98 0 99 rfl) (by decide) ?_
      refine wp_sts 2 (pc' := 198) (ls' := [some (.inr (.inr 98)), some (.inr (.inr u)), some (.inl x2), some (.inl x3), some (.inl x4), some (.inl x5), some (.inl x6), some (.inl x7), some (.inl x8), some (.inl x9), some (.inl x10), some (.inl x11), y12, y13]) (st' := [.inl x10, .inl x6, .inr (.inr 99)]) (M' := M) rfl ?_
      refine c1_eq rfl (fun c => ?_) (fun c => ?_)
      · replace h := h.1 c
        refine wp_sts 2 (pc' := 209) (ls' := [some (.inr (.inr 98)), some (.inr (.inr u)), some (.inl x2), some (.inl x3), some (.inl x4), some (.inl x5), some (.inl x6), some (.inl x7), some (.inl x8), some (.inl x9), some (.inl x10), some (.inl x11), y12, y13]) (st' := [.inl x7, .inl 3, .inl x6, .inr (.inr 99)]) (M' := M) rfl ?_
        obtain ⟨hf1, h⟩ := h
        refine w_isub rfl hf1 ?_
        exact h
      · replace h := h.2 c
        refine wp_sts 2 (pc' := 210) (ls' := [some (.inr (.inr 98)), some (.inr (.inr u)), some (.inl x2), some (.inl x3), some (.inl x4), some (.inl x5), some (.inl x6), some (.inl x7), some (.inl x8), some (.inl x9), some (.inl x10), some (.inl x11), y12, y13]) (st' := [.inl x7, .inl x6, .inr (.inr 99)]) (M' := M) rfl ?_
        exact h
    · replace h := h.2 c
      refine wp_sts 1 (pc' := 185) (ls' := [some (.inr (.inr 98)), some (.inr (.inr u)), some (.inl x2), some (.inl x3), some (.inl x4), some (.inl x5), some (.inl x6), some (.inl x7), some (.inl x8), some (.inl x9), some (.inl x10), some (.inl x11), y12, y13]) (st' := [.inl x9]) (M' := M) rfl ?_
      refine c1_ne rfl (fun c => ?_) (fun c => ?_)
      · replace h := h.1 c
        refine wp_sts 1 (pc' := 191) (ls' := [some (.inr (.inr 98)), some (.inr (.inr u)), some (.inl x2), some (.inl x3), some (.inl x4), some (.inl x5), some (.inl x6), some (.inl x7), some (.inl x8), some (.inl x9), some (.inl x10), some (.inl x11), y12, y13]) (st' := [.inr (.inr 98)]) (M' := M) rfl ?_
        refine g_getR (j := 99) rfl hS rfl (str_r hS 98 0 99 rfl) (by decide) ?_
        refine wp_sts 2 (pc' := 198) (ls' := [some (.inr (.inr 98)), some (.inr (.inr u)), some (.inl x2), some (.inl x3), some (.inl x4), some (.inl x5), some (.inl x6), some (.inl x7), some (.inl x8), some (.inl x9), some (.inl x10), some (.inl x11), y12, y13]) (st' := [.inl x10, .inl x6, .inr (.inr 99)]) (M' := M) rfl ?_
        refine c1_eq rfl (fun c => ?_) (fun c => ?_)
        · replace h := h.1 c
          refine wp_sts 2 (pc' := 209) (ls' := [some (.inr (.inr 98)), some (.inr (.inr u)), some (.inl x2), some (.inl x3), some (.inl x4), some (.inl x5), some (.inl x6), some (.inl x7), some (.inl x8), some (.inl x9), some (.inl x10), some (.inl x11), y12, y13]) (st' := [.inl x7, .inl 3, .inl x6, .inr (.inr 99)]) (M' := M) rfl ?_
          obtain ⟨hf1, h⟩ := h
          refine w_isub rfl hf1 ?_
          exact h
        · replace h := h.2 c
          refine wp_sts 2 (pc' := 210) (ls' := [some (.inr (.inr 98)), some (.inr (.inr u)), some (.inl x2), some (.inl x3), some (.inl x4), some (.inl x5), some (.inl x6), some (.inl x7), some (.inl x8), some (.inl x9), some (.inl x10), some (.inl x11), y12, y13]) (st' := [.inl x7, .inl x6, .inr (.inr 99)]) (M' := M) rfl ?_
          exact h
      · replace h := h.2 c
        refine wp_sts 1 (pc' := 189) (ls' := [some (.inr (.inr 98)), some (.inr (.inr u)), some (.inl x2), some (.inl x3), some (.inl x4), some (.inl x5), some (.inl x6), some (.inl x7), some (.inl x8), some (.inl x9), some (.inl x10), some (.inl x11), y12, y13]) (st' := [.inl 0]) (M' := M) rfl ?_
        exact g_retB rfl (by decide) h
  · replace h := h.2 c
    refine wp_sts 2 (pc' := 67) (ls' := [some (.inr (.inr 98)), some (.inr (.inr u)), some (.inl x2), some (.inl x3), some (.inl x4), some (.inl x5), some (.inl x6), some (.inl x7), some (.inl x8), some (.inl x9), some (.inl x10), some (.inl x11), y12, y13]) (st' := [.inl x8, .inl x11]) (M' := M) rfl ?_
    refine c2_eq rfl (fun c => ?_) (fun c => ?_)
    · replace h := h.1 c
      refine wp_sts 1 (pc' := 86) (ls' := [some (.inr (.inr 98)), some (.inr (.inr u)), some (.inl x2), some (.inl x3), some (.inl x4), some (.inl x5), some (.inl x6), some (.inl x7), some (.inl x8), some (.inl x9), some (.inl x10), some (.inl x11), y12, y13]) (st' := [.inl x4]) (M' := M) rfl ?_
      refine c1_ne rfl (fun c => ?_) (fun c => ?_)
      · replace h := h.1 c
        refine wp_sts 3 (pc' := 103) (ls' := [some (.inr (.inr 98)), some (.inr (.inr u)), some (.inl x2), some (.inl x3), some (.inl x4), some (.inl x5), some (.inl x6), some (.inl x7), some (.inl x8), some (.inl x9), some (.inl x10), some (.inl x11), y12, y13]) (st' := [.inl 0, .inl x11, .inl x2]) (M' := M) rfl ?_
        obtain ⟨r1, M1, he, hS1, h⟩ := h
        refine g_callI (c := 8) (as := [.inl x2, .inl x11, .inl 0]) (rs := []) rfl rfl hS hd rfl he ?_
        exact h
      · replace h := h.2 c
        refine wp_sts 3 (pc' := 93) (ls' := [some (.inr (.inr 98)), some (.inr (.inr u)), some (.inl x2), some (.inl x3), some (.inl x4), some (.inl x5), some (.inl x6), some (.inl x7), some (.inl x8), some (.inl x9), some (.inl x10), some (.inl x11), y12, y13]) (st' := [.inl 1, .inl x3, .inl x11]) (M' := M) rfl ?_
        obtain ⟨r1, M1, he, hS1, h⟩ := h
        refine g_callI (c := 8) (as := [.inl x11, .inl x3, .inl 1]) (rs := []) rfl rfl hS hd rfl he ?_
        refine wp_sts 1 (pc' := 106) (ls' := [some (.inr (.inr 98)), some (.inr (.inr u)), some (.inl x2), some (.inl x3), some (.inl x4), some (.inl x5), some (.inl x6), some (.inl x7), some (.inl x8), some (.inl x9), some (.inl x10), some (.inl x11), y12, y13]) (st' := [.inl r1]) (M' := M1) rfl ?_
        exact h
    · replace h := h.2 c
      refine wp_sts 1 (pc' := 71) (ls' := [some (.inr (.inr 98)), some (.inr (.inr u)), some (.inl x2), some (.inl x3), some (.inl x4), some (.inl x5), some (.inl x6), some (.inl x7), some (.inl x8), some (.inl x9), some (.inl x10), some (.inl x11), y12, y13]) (st' := [.inr (.inr u)]) (M' := M) rfl ?_
      refine g_getR (j := u + 1) rfl hS (fT (P := fun z => pu_bJ 2 z 5 8 = true) hu rfl rfl) (fT (P := fun z => M z 5 = ((z + 1 : Nat) : Int)) hu (str_r hS 5 5 6 rfl) (str_r hS 37 5 38 rfl)) (fT (P := fun z => z + 1 < 1000) hu (by decide) (by decide)) ?_
      refine wp_sts 1 (pc' := 76) (ls' := [some (.inr (.inr 98)), some (.inr (.inr u)), some (.inl x2), some (.inl x3), some (.inl x4), some (.inl x5), some (.inl x6), some (.inl x7), some (.inl x8), some (.inl x9), some (.inl x10), some (.inl x11), y12, y13]) (st' := [.inl x8, .inr (.inr (u + 1))]) (M' := M) rfl ?_
      obtain ⟨hf1, h⟩ := h
      refine g_aald (n := 7) (j := u + 2 + x8.toNat) rfl hS (fT (P := fun z => ab_arB 24 (z + 1) 7 = true) hu rfl rfl) hf1 (fT (P := fun z => M (z + 1) x8.toNat = ((z + 2 + x8.toNat : Nat) : Int)) hu (row_rf (n := 7) hS (by decide) hf1) (row_rf (n := 7) hS (by decide) hf1)) (fT (P := fun z => z + 2 + x8.toNat < 1000) hu (row_lt (n := 7) (by decide) hf1) (row_lt (n := 7) (by decide) hf1)) ?_
      refine wp_sts 1 (pc' := 79) (ls' := [some (.inr (.inr 98)), some (.inr (.inr u)), some (.inl x2), some (.inl x3), some (.inl x4), some (.inl x5), some (.inl x6), some (.inl x7), some (.inl x8), some (.inl x9), some (.inl x10), some (.inl x11), y12, y13]) (st' := [.inl x11, .inr (.inr (u + 2 + x8.toNat))]) (M' := M) rfl ?_
      obtain ⟨hf2, h⟩ := h
      refine g_iald (n := 7) rfl hS (fT (P := fun z => ab_arB 20 (z + 2 + x8.toNat) 7 = true) hu (row_ar (n := 7) (by decide) hf1) (row_ar (n := 7) (by decide) hf1)) hf2 ?_
      refine wp_sts 1 (pc' := 81) (ls' := [some (.inr (.inr 98)), some (.inr (.inr u)), some (.inl x2), some (.inl x3), some (.inl x4), some (.inl x5), some (.inl x6), some (.inl x7), some (.inl x8), some (.inl x9), some (.inl x10), some (.inl x11), y12, y13]) (st' := [.inl ((-1)), .inl (M (u + 2 + x8.toNat) x11.toNat)]) (M' := M) rfl ?_
      refine c2_eq rfl (fun c => ?_) (fun c => ?_)
      · replace h := h.1 c
        obtain ⟨hf3, h⟩ := h
        refine w_iinc rfl rfl hf3 ?_
        refine wp_sts 1 (pc' := 54) (ls' := [some (.inr (.inr 98)), some (.inr (.inr u)), some (.inl x2), some (.inl x3), some (.inl x4), some (.inl x5), some (.inl x6), some (.inl x7), some (.inl x8), some (.inl x9), some (.inl x10), some (.inl (x11 + 1)), y12, y13]) (st' := []) (M' := M) rfl ?_
        exact h
      · replace h := h.2 c
        refine wp_sts 1 (pc' := 86) (ls' := [some (.inr (.inr 98)), some (.inr (.inr u)), some (.inl x2), some (.inl x3), some (.inl x4), some (.inl x5), some (.inl x6), some (.inl x7), some (.inl x8), some (.inl x9), some (.inl x10), some (.inl x11), y12, y13]) (st' := [.inl x4]) (M' := M) rfl ?_
        refine c1_ne rfl (fun c => ?_) (fun c => ?_)
        · replace h := h.1 c
          refine wp_sts 3 (pc' := 103) (ls' := [some (.inr (.inr 98)), some (.inr (.inr u)), some (.inl x2), some (.inl x3), some (.inl x4), some (.inl x5), some (.inl x6), some (.inl x7), some (.inl x8), some (.inl x9), some (.inl x10), some (.inl x11), y12, y13]) (st' := [.inl 0, .inl x11, .inl x2]) (M' := M) rfl ?_
          obtain ⟨r1, M1, he, hS1, h⟩ := h
          refine g_callI (c := 8) (as := [.inl x2, .inl x11, .inl 0]) (rs := []) rfl rfl hS hd rfl he ?_
          exact h
        · replace h := h.2 c
          refine wp_sts 3 (pc' := 93) (ls' := [some (.inr (.inr 98)), some (.inr (.inr u)), some (.inl x2), some (.inl x3), some (.inl x4), some (.inl x5), some (.inl x6), some (.inl x7), some (.inl x8), some (.inl x9), some (.inl x10), some (.inl x11), y12, y13]) (st' := [.inl 1, .inl x3, .inl x11]) (M' := M) rfl ?_
          obtain ⟨r1, M1, he, hS1, h⟩ := h
          refine g_callI (c := 8) (as := [.inl x11, .inl x3, .inl 1]) (rs := []) rfl rfl hS hd rfl he ?_
          refine wp_sts 1 (pc' := 106) (ls' := [some (.inr (.inr 98)), some (.inr (.inr u)), some (.inl x2), some (.inl x3), some (.inl x4), some (.inl x5), some (.inl x6), some (.inl x7), some (.inl x8), some (.inl x9), some (.inl x10), some (.inl x11), y12, y13]) (st' := [.inl r1]) (M' := M1) rfl ?_
          exact h
/- Chase.decide, at 106 -/
set_option maxRecDepth 100000 in
theorem b11_106 {d t : Nat} {u : Nat} {x2 : Int} {x3 : Int} {x4 : Int} {x5 : Int} {x6 : Int} {x7 : Int} {x8 : Int} {x9 : Int} {x10 : Int} {x11 : Int} {y12 : Option ab_V} {y13 : Option ab_V} {x100 : Int} {M : ab_M} {Q : Option ab_V → ab_M → Prop} (hd : 1 ≤ d) (hS : pu_str t M) (hu : pu_T u) (h : (0 ≤ x100 ∧ x100 < 98) ∧ (x5 ≤ M 100 x100.toNat → (0 ≠ x7 → ab_wp d 11 147 [some (.inr (.inr 98)), some (.inr (.inr u)), some (.inl x2), some (.inl x3), some (.inl x4), some (.inl x5), some (.inl x6), some (.inl x7), some (.inl x8), some (.inl x9), some (.inl x10), some (.inl x11), some (.inl x100), some (.inl 0)] [.inl 0, .inl x10] M Q) ∧ (0 = x7 → ab_wp d 11 147 [some (.inr (.inr 98)), some (.inr (.inr u)), some (.inl x2), some (.inl x3), some (.inl x4), some (.inl x5), some (.inl x6), some (.inl x7), some (.inl x8), some (.inl x9), some (.inl x10), some (.inl x11), some (.inl x100), some (.inl 0)] [.inl 1, .inl x10] M Q)) ∧ (M 100 x100.toNat < x5 → (M 99 x100.toNat ≠ x7 → ab_wp d 11 147 [some (.inr (.inr 98)), some (.inr (.inr u)), some (.inl x2), some (.inl x3), some (.inl x4), some (.inl x5), some (.inl x6), some (.inl x7), some (.inl x8), some (.inl x9), some (.inl x10), some (.inl x11), some (.inl x100), some (.inl (M 99 x100.toNat))] [.inl 0, .inl x10] M Q) ∧ (M 99 x100.toNat = x7 → ab_wp d 11 147 [some (.inr (.inr 98)), some (.inr (.inr u)), some (.inl x2), some (.inl x3), some (.inl x4), some (.inl x5), some (.inl x6), some (.inl x7), some (.inl x8), some (.inl x9), some (.inl x10), some (.inl x11), some (.inl x100), some (.inl (M 99 x100.toNat))] [.inl 1, .inl x10] M Q))) : ab_wp d 11 106 [some (.inr (.inr 98)), some (.inr (.inr u)), some (.inl x2), some (.inl x3), some (.inl x4), some (.inl x5), some (.inl x6), some (.inl x7), some (.inl x8), some (.inl x9), some (.inl x10), some (.inl x11), y12, y13] [.inl x100] M Q := by
  refine wp_sts 2 (pc' := 109) (ls' := [some (.inr (.inr 98)), some (.inr (.inr u)), some (.inl x2), some (.inl x3), some (.inl x4), some (.inl x5), some (.inl x6), some (.inl x7), some (.inl x8), some (.inl x9), some (.inl x10), some (.inl x11), some (.inl x100), y13]) (st' := [.inr (.inr 98)]) (M' := M) rfl ?_
  refine g_getR (j := 100) rfl hS rfl (str_r hS 98 1 100 rfl) (by decide) ?_
  refine wp_sts 1 (pc' := 114) (ls' := [some (.inr (.inr 98)), some (.inr (.inr u)), some (.inl x2), some (.inl x3), some (.inl x4), some (.inl x5), some (.inl x6), some (.inl x7), some (.inl x8), some (.inl x9), some (.inl x10), some (.inl x11), some (.inl x100), y13]) (st' := [.inl x100, .inr (.inr 100)]) (M' := M) rfl ?_
  obtain ⟨hf1, h⟩ := h
  refine g_iald (n := 98) rfl hS rfl hf1 ?_
  refine wp_sts 1 (pc' := 117) (ls' := [some (.inr (.inr 98)), some (.inr (.inr u)), some (.inl x2), some (.inl x3), some (.inl x4), some (.inl x5), some (.inl x6), some (.inl x7), some (.inl x8), some (.inl x9), some (.inl x10), some (.inl x11), some (.inl x100), y13]) (st' := [.inl x5, .inl (M 100 x100.toNat)]) (M' := M) rfl ?_
  refine c2_ge rfl (fun c => ?_) (fun c => ?_)
  · replace h := h.1 c
    refine wp_sts 5 (pc' := 139) (ls' := [some (.inr (.inr 98)), some (.inr (.inr u)), some (.inl x2), some (.inl x3), some (.inl x4), some (.inl x5), some (.inl x6), some (.inl x7), some (.inl x8), some (.inl x9), some (.inl x10), some (.inl x11), some (.inl x100), some (.inl 0)]) (st' := [.inl x7, .inl 0, .inl x10]) (M' := M) rfl ?_
    refine c2_ne rfl (fun c => ?_) (fun c => ?_)
    · replace h := h.1 c
      refine wp_sts 1 (pc' := 147) (ls' := [some (.inr (.inr 98)), some (.inr (.inr u)), some (.inl x2), some (.inl x3), some (.inl x4), some (.inl x5), some (.inl x6), some (.inl x7), some (.inl x8), some (.inl x9), some (.inl x10), some (.inl x11), some (.inl x100), some (.inl 0)]) (st' := [.inl 0, .inl x10]) (M' := M) rfl ?_
      exact h
    · replace h := h.2 c
      refine wp_sts 2 (pc' := 147) (ls' := [some (.inr (.inr 98)), some (.inr (.inr u)), some (.inl x2), some (.inl x3), some (.inl x4), some (.inl x5), some (.inl x6), some (.inl x7), some (.inl x8), some (.inl x9), some (.inl x10), some (.inl x11), some (.inl x100), some (.inl 0)]) (st' := [.inl 1, .inl x10]) (M' := M) rfl ?_
      exact h
  · replace h := h.2 c
    refine wp_sts 1 (pc' := 121) (ls' := [some (.inr (.inr 98)), some (.inr (.inr u)), some (.inl x2), some (.inl x3), some (.inl x4), some (.inl x5), some (.inl x6), some (.inl x7), some (.inl x8), some (.inl x9), some (.inl x10), some (.inl x11), some (.inl x100), y13]) (st' := [.inr (.inr 98)]) (M' := M) rfl ?_
    refine g_getR (j := 99) rfl hS rfl (str_r hS 98 0 99 rfl) (by decide) ?_
    refine wp_sts 1 (pc' := 126) (ls' := [some (.inr (.inr 98)), some (.inr (.inr u)), some (.inl x2), some (.inl x3), some (.inl x4), some (.inl x5), some (.inl x6), some (.inl x7), some (.inl x8), some (.inl x9), some (.inl x10), some (.inl x11), some (.inl x100), y13]) (st' := [.inl x100, .inr (.inr 99)]) (M' := M) rfl ?_
    refine g_iald (n := 98) rfl hS rfl hf1 ?_
    refine wp_sts 5 (pc' := 139) (ls' := [some (.inr (.inr 98)), some (.inr (.inr u)), some (.inl x2), some (.inl x3), some (.inl x4), some (.inl x5), some (.inl x6), some (.inl x7), some (.inl x8), some (.inl x9), some (.inl x10), some (.inl x11), some (.inl x100), some (.inl (M 99 x100.toNat))]) (st' := [.inl x7, .inl (M 99 x100.toNat), .inl x10]) (M' := M) rfl ?_
    refine c2_ne rfl (fun c => ?_) (fun c => ?_)
    · replace h := h.1 c
      refine wp_sts 1 (pc' := 147) (ls' := [some (.inr (.inr 98)), some (.inr (.inr u)), some (.inl x2), some (.inl x3), some (.inl x4), some (.inl x5), some (.inl x6), some (.inl x7), some (.inl x8), some (.inl x9), some (.inl x10), some (.inl x11), some (.inl x100), some (.inl (M 99 x100.toNat))]) (st' := [.inl 0, .inl x10]) (M' := M) rfl ?_
      exact h
    · replace h := h.2 c
      refine wp_sts 2 (pc' := 147) (ls' := [some (.inr (.inr 98)), some (.inr (.inr u)), some (.inl x2), some (.inl x3), some (.inl x4), some (.inl x5), some (.inl x6), some (.inl x7), some (.inl x8), some (.inl x9), some (.inl x10), some (.inl x11), some (.inl x100), some (.inl (M 99 x100.toNat))]) (st' := [.inl 1, .inl x10]) (M' := M) rfl ?_
      exact h
/- Chase.decide, at 147 -/
set_option maxRecDepth 100000 in
theorem b11_147 {d t : Nat} {u : Nat} {x2 : Int} {x3 : Int} {x4 : Int} {x5 : Int} {x6 : Int} {x7 : Int} {x8 : Int} {x9 : Int} {x10 : Int} {x11 : Int} {x12 : Int} {x13 : Int} {x100 : Int} {x101 : Int} {M : ab_M} {Q : Option ab_V → ab_M → Prop} (hd : 1 ≤ d) (hS : pu_str t M) (hu : pu_T u) (h : (x13 = 0 → ab_rg (x11 + 1) ∧ ab_wp d 11 54 [some (.inr (.inr 98)), some (.inr (.inr u)), some (.inl x2), some (.inl x3), some (.inl x4), some (.inl x5), some (.inl x6), some (.inl x7), some (.inl x8), some (.inl (ab_and x9 0)), some (.inl (ab_or x100 x101)), some (.inl (x11 + 1)), some (.inl x12), some (.inl x13)] [] M Q) ∧ (x13 ≠ 0 → (x13 = x7 → ab_rg (x11 + 1) ∧ ab_wp d 11 54 [some (.inr (.inr 98)), some (.inr (.inr u)), some (.inl x2), some (.inl x3), some (.inl x4), some (.inl x5), some (.inl x6), some (.inl x7), some (.inl x8), some (.inl (ab_and x9 0)), some (.inl (ab_or x100 x101)), some (.inl (x11 + 1)), some (.inl x12), some (.inl x13)] [] M Q) ∧ (x13 ≠ x7 → ab_rg (x11 + 1) ∧ ab_wp d 11 54 [some (.inr (.inr 98)), some (.inr (.inr u)), some (.inl x2), some (.inl x3), some (.inl x4), some (.inl x5), some (.inl x6), some (.inl x7), some (.inl x8), some (.inl (ab_and x9 1)), some (.inl (ab_or x100 x101)), some (.inl (x11 + 1)), some (.inl x12), some (.inl x13)] [] M Q))) : ab_wp d 11 147 [some (.inr (.inr 98)), some (.inr (.inr u)), some (.inl x2), some (.inl x3), some (.inl x4), some (.inl x5), some (.inl x6), some (.inl x7), some (.inl x8), some (.inl x9), some (.inl x10), some (.inl x11), some (.inl x12), some (.inl x13)] [.inl x101, .inl x100] M Q := by
  refine wp_sts 4 (pc' := 154) (ls' := [some (.inr (.inr 98)), some (.inr (.inr u)), some (.inl x2), some (.inl x3), some (.inl x4), some (.inl x5), some (.inl x6), some (.inl x7), some (.inl x8), some (.inl x9), some (.inl (ab_or x100 x101)), some (.inl x11), some (.inl x12), some (.inl x13)]) (st' := [.inl x13, .inl x9]) (M' := M) rfl ?_
  refine c1_eq rfl (fun c => ?_) (fun c => ?_)
  · replace h := h.1 c
    refine wp_sts 3 (pc' := 172) (ls' := [some (.inr (.inr 98)), some (.inr (.inr u)), some (.inl x2), some (.inl x3), some (.inl x4), some (.inl x5), some (.inl x6), some (.inl x7), some (.inl x8), some (.inl (ab_and x9 0)), some (.inl (ab_or x100 x101)), some (.inl x11), some (.inl x12), some (.inl x13)]) (st' := []) (M' := M) rfl ?_
    obtain ⟨hf1, h⟩ := h
    refine w_iinc rfl rfl hf1 ?_
    refine wp_sts 1 (pc' := 54) (ls' := [some (.inr (.inr 98)), some (.inr (.inr u)), some (.inl x2), some (.inl x3), some (.inl x4), some (.inl x5), some (.inl x6), some (.inl x7), some (.inl x8), some (.inl (ab_and x9 0)), some (.inl (ab_or x100 x101)), some (.inl (x11 + 1)), some (.inl x12), some (.inl x13)]) (st' := []) (M' := M) rfl ?_
    exact h
  · replace h := h.2 c
    refine wp_sts 2 (pc' := 161) (ls' := [some (.inr (.inr 98)), some (.inr (.inr u)), some (.inl x2), some (.inl x3), some (.inl x4), some (.inl x5), some (.inl x6), some (.inl x7), some (.inl x8), some (.inl x9), some (.inl (ab_or x100 x101)), some (.inl x11), some (.inl x12), some (.inl x13)]) (st' := [.inl x7, .inl x13, .inl x9]) (M' := M) rfl ?_
    refine c2_eq rfl (fun c => ?_) (fun c => ?_)
    · replace h := h.1 c
      refine wp_sts 3 (pc' := 172) (ls' := [some (.inr (.inr 98)), some (.inr (.inr u)), some (.inl x2), some (.inl x3), some (.inl x4), some (.inl x5), some (.inl x6), some (.inl x7), some (.inl x8), some (.inl (ab_and x9 0)), some (.inl (ab_or x100 x101)), some (.inl x11), some (.inl x12), some (.inl x13)]) (st' := []) (M' := M) rfl ?_
      obtain ⟨hf1, h⟩ := h
      refine w_iinc rfl rfl hf1 ?_
      refine wp_sts 1 (pc' := 54) (ls' := [some (.inr (.inr 98)), some (.inr (.inr u)), some (.inl x2), some (.inl x3), some (.inl x4), some (.inl x5), some (.inl x6), some (.inl x7), some (.inl x8), some (.inl (ab_and x9 0)), some (.inl (ab_or x100 x101)), some (.inl (x11 + 1)), some (.inl x12), some (.inl x13)]) (st' := []) (M' := M) rfl ?_
      exact h
    · replace h := h.2 c
      refine wp_sts 4 (pc' := 172) (ls' := [some (.inr (.inr 98)), some (.inr (.inr u)), some (.inl x2), some (.inl x3), some (.inl x4), some (.inl x5), some (.inl x6), some (.inl x7), some (.inl x8), some (.inl (ab_and x9 1)), some (.inl (ab_or x100 x101)), some (.inl x11), some (.inl x12), some (.inl x13)]) (st' := []) (M' := M) rfl ?_
      obtain ⟨hf1, h⟩ := h
      refine w_iinc rfl rfl hf1 ?_
      refine wp_sts 1 (pc' := 54) (ls' := [some (.inr (.inr 98)), some (.inr (.inr u)), some (.inl x2), some (.inl x3), some (.inl x4), some (.inl x5), some (.inl x6), some (.inl x7), some (.inl x8), some (.inl (ab_and x9 1)), some (.inl (ab_or x100 x101)), some (.inl (x11 + 1)), some (.inl x12), some (.inl x13)]) (st' := []) (M' := M) rfl ?_
      exact h
/- Chase.decide, at 210 -/
set_option maxRecDepth 100000 in
theorem b11_210 {d t : Nat} {u : Nat} {x2 : Int} {x3 : Int} {x4 : Int} {x5 : Int} {x6 : Int} {x7 : Int} {x8 : Int} {x9 : Int} {x10 : Int} {x11 : Int} {y12 : Option ab_V} {y13 : Option ab_V} {x101 : Int} {x102 : Int} {M : ab_M} {Q : Option ab_V → ab_M → Prop} (hd : 1 ≤ d) (hS : pu_str t M) (hu : pu_T u) (h : (0 ≤ x101 ∧ x101 < 98) ∧ (0 ≤ x6 ∧ x6 < 98) ∧ Q (some (.inl 1)) (ab_w (ab_w M 99 x101.toNat x102) 100 x6.toNat x5)) : ab_wp d 11 210 [some (.inr (.inr 98)), some (.inr (.inr u)), some (.inl x2), some (.inl x3), some (.inl x4), some (.inl x5), some (.inl x6), some (.inl x7), some (.inl x8), some (.inl x9), some (.inl x10), some (.inl x11), y12, y13] [.inl x102, .inl x101, .inr (.inr 99)] M Q := by
  obtain ⟨hf1, h⟩ := h
  refine g_iast (n := 98) rfl hS rfl hf1 ?_
  refine wp_sts 1 (pc' := 212) (ls' := [some (.inr (.inr 98)), some (.inr (.inr u)), some (.inl x2), some (.inl x3), some (.inl x4), some (.inl x5), some (.inl x6), some (.inl x7), some (.inl x8), some (.inl x9), some (.inl x10), some (.inl x11), y12, y13]) (st' := [.inr (.inr 98)]) (M' := (ab_w M 99 x101.toNat x102)) rfl ?_
  refine g_getR (j := 100) rfl (str_a (k := 99) (f := x101.toNat) (v := x102) hS rfl) rfl (str_r (str_a (k := 99) (f := x101.toNat) (v := x102) hS rfl) 98 1 100 rfl) (by decide) ?_
  refine wp_sts 2 (pc' := 219) (ls' := [some (.inr (.inr 98)), some (.inr (.inr u)), some (.inl x2), some (.inl x3), some (.inl x4), some (.inl x5), some (.inl x6), some (.inl x7), some (.inl x8), some (.inl x9), some (.inl x10), some (.inl x11), y12, y13]) (st' := [.inl x5, .inl x6, .inr (.inr 100)]) (M' := (ab_w M 99 x101.toNat x102)) rfl ?_
  obtain ⟨hf2, h⟩ := h
  refine g_iast (n := 98) rfl (str_a (k := 99) (f := x101.toNat) (v := x102) hS rfl) rfl hf2 ?_
  refine wp_sts 1 (pc' := 221) (ls' := [some (.inr (.inr 98)), some (.inr (.inr u)), some (.inl x2), some (.inl x3), some (.inl x4), some (.inl x5), some (.inl x6), some (.inl x7), some (.inl x8), some (.inl x9), some (.inl x10), some (.inl x11), y12, y13]) (st' := [.inl 1]) (M' := (ab_w (ab_w M 99 x101.toNat x102) 100 x6.toNat x5)) rfl ?_
  exact g_retB rfl (by decide) h
/- Days.add, at 0 -/
theorem b13_0 {d t : Nat}  {x1 : Int} {x2 : Int} {M : ab_M} {Q : Option ab_V → ab_M → Prop} (hd : 1 ≤ d) (hS : pu_str t M)  (h : (M 90 2 < 6 → (0 ≤ M 90 2 ∧ M 90 2 < 6) ∧ ab_rg ((M 90 2) + 1) ∧ Q (some (.inl 1)) (ab_w (ab_w (ab_w M 93 (M 90 2).toNat x1) 94 (M 90 2).toNat x2) 90 2 ((M 90 2) + 1))) ∧ (6 ≤ M 90 2 → Q (some (.inl 0)) M)) : ab_wp d 13 0 [some (.inr (.inr 90)), some (.inl x1), some (.inl x2)] [] M Q := by
  refine wp_sts 1 (pc' := 1) (ls' := [some (.inr (.inr 90)), some (.inl x1), some (.inl x2)]) (st' := [.inr (.inr 90)]) (M' := M) rfl ?_
  refine g_getI rfl hS rfl ?_
  refine wp_sts 1 (pc' := 6) (ls' := [some (.inr (.inr 90)), some (.inl x1), some (.inl x2)]) (st' := [.inl 6, .inl (M 90 2)]) (M' := M) rfl ?_
  refine c2_lt rfl (fun c => ?_) (fun c => ?_)
  · replace h := h.1 c
    refine wp_sts 1 (pc' := 12) (ls' := [some (.inr (.inr 90)), some (.inl x1), some (.inl x2)]) (st' := [.inr (.inr 90)]) (M' := M) rfl ?_
    refine g_getR (j := 93) rfl hS rfl (str_r hS 90 6 93 rfl) (by decide) ?_
    refine wp_sts 1 (pc' := 16) (ls' := [some (.inr (.inr 90)), some (.inl x1), some (.inl x2)]) (st' := [.inr (.inr 90), .inr (.inr 93)]) (M' := M) rfl ?_
    refine g_getI rfl hS rfl ?_
    refine wp_sts 1 (pc' := 20) (ls' := [some (.inr (.inr 90)), some (.inl x1), some (.inl x2)]) (st' := [.inl x1, .inl (M 90 2), .inr (.inr 93)]) (M' := M) rfl ?_
    obtain ⟨hf1, h⟩ := h
    refine g_iast (n := 6) rfl hS rfl hf1 ?_
    refine wp_sts 1 (pc' := 22) (ls' := [some (.inr (.inr 90)), some (.inl x1), some (.inl x2)]) (st' := [.inr (.inr 90)]) (M' := (ab_w M 93 (M 90 2).toNat x1)) rfl ?_
    refine g_getR (j := 94) rfl (str_a (k := 93) (f := (M 90 2).toNat) (v := x1) hS rfl) rfl (str_r (str_a (k := 93) (f := (M 90 2).toNat) (v := x1) hS rfl) 90 7 94 rfl) (by decide) ?_
    refine wp_sts 1 (pc' := 26) (ls' := [some (.inr (.inr 90)), some (.inl x1), some (.inl x2)]) (st' := [.inr (.inr 90), .inr (.inr 94)]) (M' := (ab_w M 93 (M 90 2).toNat x1)) rfl ?_
    refine g_getI rfl (str_a (k := 93) (f := (M 90 2).toNat) (v := x1) hS rfl) rfl ?_
    refine wp_sts 1 (pc' := 30) (ls' := [some (.inr (.inr 90)), some (.inl x1), some (.inl x2)]) (st' := [.inl x2, .inl (M 90 2), .inr (.inr 94)]) (M' := (ab_w M 93 (M 90 2).toNat x1)) rfl ?_
    refine g_iast (n := 6) rfl (str_a (k := 93) (f := (M 90 2).toNat) (v := x1) hS rfl) rfl hf1 ?_
    refine wp_sts 2 (pc' := 33) (ls' := [some (.inr (.inr 90)), some (.inl x1), some (.inl x2)]) (st' := [.inr (.inr 90), .inr (.inr 90)]) (M' := (ab_w (ab_w M 93 (M 90 2).toNat x1) 94 (M 90 2).toNat x2)) rfl ?_
    refine g_getI rfl (str_a (k := 94) (f := (M 90 2).toNat) (v := x2) (str_a (k := 93) (f := (M 90 2).toNat) (v := x1) hS rfl) rfl) rfl ?_
    refine wp_sts 1 (pc' := 37) (ls' := [some (.inr (.inr 90)), some (.inl x1), some (.inl x2)]) (st' := [.inl 1, .inl (M 90 2), .inr (.inr 90)]) (M' := (ab_w (ab_w M 93 (M 90 2).toNat x1) 94 (M 90 2).toNat x2)) rfl ?_
    obtain ⟨hf2, h⟩ := h
    refine w_iadd rfl hf2 ?_
    refine g_putI rfl (str_a (k := 94) (f := (M 90 2).toNat) (v := x2) (str_a (k := 93) (f := (M 90 2).toNat) (v := x1) hS rfl) rfl) rfl ?_
    refine wp_sts 1 (pc' := 42) (ls' := [some (.inr (.inr 90)), some (.inl x1), some (.inl x2)]) (st' := [.inl 1]) (M' := (ab_w (ab_w (ab_w M 93 (M 90 2).toNat x1) 94 (M 90 2).toNat x2) 90 2 ((M 90 2) + 1))) rfl ?_
    exact g_retB rfl (by decide) h
  · replace h := h.2 c
    refine wp_sts 1 (pc' := 10) (ls' := [some (.inr (.inr 90)), some (.inl x1), some (.inl x2)]) (st' := [.inl 0]) (M' := M) rfl ?_
    exact g_retB rfl (by decide) h
/- Days.find, at 0 -/
theorem b14_0 {d t : Nat} {u : Nat} {x2 : Int} {M : ab_M} {Q : Option ab_V → ab_M → Prop} (hd : 1 ≤ d) (hS : pu_str t M) (hu : pu_T u) (h : ((ab_w (ab_w (ab_w M 90 3 0) 90 4 0) 90 5 x2) u 0 ≤ 0 → Q none (ab_w (ab_w (ab_w M 90 3 0) 90 4 0) 90 5 x2)) ∧ (0 < (ab_w (ab_w (ab_w M 90 3 0) 90 4 0) 90 5 x2) u 0 → ab_rg ((ab_shl 1 ((ab_w (ab_w (ab_w M 90 3 0) 90 4 0) 90 5 x2) u 3)) - 1) ∧ ∃ M1, ab_ev (d - 1) 38 [.inr (.inr 90), .inr (.inr u), .inl ((ab_shl 1 ((ab_w (ab_w (ab_w M 90 3 0) 90 4 0) 90 5 x2) u 3)) - 1), .inl ((ab_w (ab_w (ab_w M 90 3 0) 90 4 0) 90 5 x2) u 1), .inl 0] (ab_w (ab_w (ab_w M 90 3 0) 90 4 0) 90 5 x2) none M1 ∧ pu_str t M1 ∧ Q none M1)) : ab_wp d 14 0 [some (.inr (.inr 90)), some (.inr (.inr u)), some (.inl x2)] [] M Q := by
  refine wp_sts 2 (pc' := 2) (ls' := [some (.inr (.inr 90)), some (.inr (.inr u)), some (.inl x2)]) (st' := [.inl 0, .inr (.inr 90)]) (M' := M) rfl ?_
  refine g_putI rfl hS rfl ?_
  refine wp_sts 2 (pc' := 7) (ls' := [some (.inr (.inr 90)), some (.inr (.inr u)), some (.inl x2)]) (st' := [.inl 0, .inr (.inr 90)]) (M' := (ab_w M 90 3 0)) rfl ?_
  refine g_putI rfl (str_w (k := 90) (f := 3) (v := 0) hS rfl) rfl ?_
  refine wp_sts 2 (pc' := 12) (ls' := [some (.inr (.inr 90)), some (.inr (.inr u)), some (.inl x2)]) (st' := [.inl x2, .inr (.inr 90)]) (M' := (ab_w (ab_w M 90 3 0) 90 4 0)) rfl ?_
  refine g_putI rfl (str_w (k := 90) (f := 4) (v := 0) (str_w (k := 90) (f := 3) (v := 0) hS rfl) rfl) rfl ?_
  refine wp_sts 1 (pc' := 16) (ls' := [some (.inr (.inr 90)), some (.inr (.inr u)), some (.inl x2)]) (st' := [.inr (.inr u)]) (M' := (ab_w (ab_w (ab_w M 90 3 0) 90 4 0) 90 5 x2)) rfl ?_
  refine g_getI rfl (str_w (k := 90) (f := 5) (v := x2) (str_w (k := 90) (f := 4) (v := 0) (str_w (k := 90) (f := 3) (v := 0) hS rfl) rfl) rfl) (fT (P := fun z => pu_bI z 0 8 = true) hu rfl rfl) ?_
  refine c1_le rfl (fun c => ?_) (fun c => ?_)
  · replace h := h.1 c
    exact wp_ret rfl rfl rfl h
  · replace h := h.2 c
    refine wp_sts 4 (pc' := 26) (ls' := [some (.inr (.inr 90)), some (.inr (.inr u)), some (.inl x2)]) (st' := [.inr (.inr u), .inl 1, .inr (.inr u), .inr (.inr 90)]) (M' := (ab_w (ab_w (ab_w M 90 3 0) 90 4 0) 90 5 x2)) rfl ?_
    refine g_getI rfl (str_w (k := 90) (f := 5) (v := x2) (str_w (k := 90) (f := 4) (v := 0) (str_w (k := 90) (f := 3) (v := 0) hS rfl) rfl) rfl) (fT (P := fun z => pu_bI z 3 8 = true) hu rfl rfl) ?_
    refine wp_sts 2 (pc' := 31) (ls' := [some (.inr (.inr 90)), some (.inr (.inr u)), some (.inl x2)]) (st' := [.inl 1, .inl (ab_shl 1 ((ab_w (ab_w (ab_w M 90 3 0) 90 4 0) 90 5 x2) u 3)), .inr (.inr u), .inr (.inr 90)]) (M' := (ab_w (ab_w (ab_w M 90 3 0) 90 4 0) 90 5 x2)) rfl ?_
    obtain ⟨hf1, h⟩ := h
    refine w_isub rfl hf1 ?_
    refine wp_sts 1 (pc' := 33) (ls' := [some (.inr (.inr 90)), some (.inr (.inr u)), some (.inl x2)]) (st' := [.inr (.inr u), .inl ((ab_shl 1 ((ab_w (ab_w (ab_w M 90 3 0) 90 4 0) 90 5 x2) u 3)) - 1), .inr (.inr u), .inr (.inr 90)]) (M' := (ab_w (ab_w (ab_w M 90 3 0) 90 4 0) 90 5 x2)) rfl ?_
    refine g_getI rfl (str_w (k := 90) (f := 5) (v := x2) (str_w (k := 90) (f := 4) (v := 0) (str_w (k := 90) (f := 3) (v := 0) hS rfl) rfl) rfl) (fT (P := fun z => pu_bI z 1 8 = true) hu rfl rfl) ?_
    refine wp_sts 1 (pc' := 37) (ls' := [some (.inr (.inr 90)), some (.inr (.inr u)), some (.inl x2)]) (st' := [.inl 0, .inl ((ab_w (ab_w (ab_w M 90 3 0) 90 4 0) 90 5 x2) u 1), .inl ((ab_shl 1 ((ab_w (ab_w (ab_w M 90 3 0) 90 4 0) 90 5 x2) u 3)) - 1), .inr (.inr u), .inr (.inr 90)]) (M' := (ab_w (ab_w (ab_w M 90 3 0) 90 4 0) 90 5 x2)) rfl ?_
    obtain ⟨M1, he, hS1, h⟩ := h
    refine g_callV (c := 38) (as := [.inr (.inr 90), .inr (.inr u), .inl ((ab_shl 1 ((ab_w (ab_w (ab_w M 90 3 0) 90 4 0) 90 5 x2) u 3)) - 1), .inl ((ab_w (ab_w (ab_w M 90 3 0) 90 4 0) 90 5 x2) u 1), .inl 0]) (rs := []) rfl rfl (str_w (k := 90) (f := 5) (v := x2) (str_w (k := 90) (f := 4) (v := 0) (str_w (k := 90) (f := 3) (v := 0) hS rfl) rfl) rfl) hd rfl he ?_
    exact wp_ret rfl rfl rfl h
/- Days.meet, at 0 -/
theorem b15_0 {d t : Nat} {u : Nat} {x2 : Int} {x3 : Int} {M : ab_M} {Q : Option ab_V → ab_M → Prop} (hd : 1 ≤ d) (hS : pu_str t M) (hu : pu_T u) (h : ∃ r1 M1, ab_ev (d - 1) 16 [.inr (.inr 90)] M (some (.inl r1)) M1 ∧ pu_str t M1 ∧ (r1 = 0 → Q none M1) ∧ (r1 ≠ 0 → ab_rg ((M1 90 3) + 1) ∧ ∃ r2 M2, ab_ev (d - 1) 17 [.inr (.inr 90), .inr (.inr u), .inl x2] (ab_w M1 90 3 ((M1 90 3) + 1)) (some (.inl r2)) M2 ∧ pu_str t M2 ∧ Q none (ab_w M2 90 4 (ab_or (M1 90 4) (ab_shl 1 r2))))) : ab_wp d 15 0 [some (.inr (.inr 90)), some (.inr (.inr u)), some (.inl x2), some (.inl x3)] [] M Q := by
  refine wp_sts 1 (pc' := 1) (ls' := [some (.inr (.inr 90)), some (.inr (.inr u)), some (.inl x2), some (.inl x3)]) (st' := [.inr (.inr 90)]) (M' := M) rfl ?_
  obtain ⟨r1, M1, he, hS1, h⟩ := h
  refine g_callI (c := 16) (as := [.inr (.inr 90)]) (rs := []) rfl rfl hS hd rfl he ?_
  refine c1_eq rfl (fun c => ?_) (fun c => ?_)
  · replace h := h.1 c
    exact wp_ret rfl rfl rfl h
  · replace h := h.2 c
    refine wp_sts 2 (pc' := 9) (ls' := [some (.inr (.inr 90)), some (.inr (.inr u)), some (.inl x2), some (.inl x3)]) (st' := [.inr (.inr 90), .inr (.inr 90)]) (M' := M1) rfl ?_
    refine g_getI rfl hS1 rfl ?_
    refine wp_sts 1 (pc' := 13) (ls' := [some (.inr (.inr 90)), some (.inr (.inr u)), some (.inl x2), some (.inl x3)]) (st' := [.inl 1, .inl (M1 90 3), .inr (.inr 90)]) (M' := M1) rfl ?_
    obtain ⟨hf1, h⟩ := h
    refine w_iadd rfl hf1 ?_
    refine g_putI rfl hS1 rfl ?_
    refine wp_sts 2 (pc' := 19) (ls' := [some (.inr (.inr 90)), some (.inr (.inr u)), some (.inl x2), some (.inl x3)]) (st' := [.inr (.inr 90), .inr (.inr 90)]) (M' := (ab_w M1 90 3 ((M1 90 3) + 1))) rfl ?_
    refine g_getI rfl (str_w (k := 90) (f := 3) (v := (M1 90 3) + 1) hS1 rfl) rfl ?_
    refine wp_sts 4 (pc' := 26) (ls' := [some (.inr (.inr 90)), some (.inr (.inr u)), some (.inl x2), some (.inl x3)]) (st' := [.inl x2, .inr (.inr u), .inr (.inr 90), .inl 1, .inl (M1 90 4), .inr (.inr 90)]) (M' := (ab_w M1 90 3 ((M1 90 3) + 1))) rfl ?_
    obtain ⟨r2, M2, he, hS2, h⟩ := h
    refine g_callI (c := 17) (as := [.inr (.inr 90), .inr (.inr u), .inl x2]) (rs := [.inl 1, .inl (M1 90 4), .inr (.inr 90)]) rfl rfl (str_w (k := 90) (f := 3) (v := (M1 90 3) + 1) hS1 rfl) hd rfl he ?_
    refine wp_sts 2 (pc' := 31) (ls' := [some (.inr (.inr 90)), some (.inr (.inr u)), some (.inl x2), some (.inl x3)]) (st' := [.inl (ab_or (M1 90 4) (ab_shl 1 r2)), .inr (.inr 90)]) (M' := M2) rfl ?_
    refine g_putI rfl hS2 rfl ?_
    exact wp_ret rfl rfl rfl h
/- Days.agrees, at 0 -/
theorem b16_0 {d t : Nat}   {M : ab_M} {Q : Option ab_V → ab_M → Prop} (hd : 1 ≤ d) (hS : pu_str t M)  (h : ab_wp d 16 2 [some (.inr (.inr 90)), some (.inl 0)] [] M Q) : ab_wp d 16 0 [some (.inr (.inr 90)), none] [] M Q := by
  refine wp_sts 2 (pc' := 2) (ls' := [some (.inr (.inr 90)), some (.inl 0)]) (st' := []) (M' := M) rfl ?_
  exact h
/- Days.agrees, at 2 -/
theorem b16_2 {d t : Nat}  {x1 : Int} {M : ab_M} {Q : Option ab_V → ab_M → Prop} (hd : 1 ≤ d) (hS : pu_str t M)  (h : (M 90 2 ≤ x1 → Q (some (.inl 1)) M) ∧ (x1 < M 90 2 → (0 ≤ x1 ∧ x1 < 6) ∧ (0 ≤ M 93 x1.toNat ∧ M 93 x1.toNat < 6) ∧ (M 92 (M 93 x1.toNat).toNat = M 94 x1.toNat → ab_rg (x1 + 1) ∧ ab_wp d 16 2 [some (.inr (.inr 90)), some (.inl (x1 + 1))] [] M Q) ∧ (M 92 (M 93 x1.toNat).toNat ≠ M 94 x1.toNat → Q (some (.inl 0)) M))) : ab_wp d 16 2 [some (.inr (.inr 90)), some (.inl x1)] [] M Q := by
  refine wp_sts 2 (pc' := 4) (ls' := [some (.inr (.inr 90)), some (.inl x1)]) (st' := [.inr (.inr 90), .inl x1]) (M' := M) rfl ?_
  refine g_getI rfl hS rfl ?_
  refine c2_ge rfl (fun c => ?_) (fun c => ?_)
  · replace h := h.1 c
    refine wp_sts 1 (pc' := 39) (ls' := [some (.inr (.inr 90)), some (.inl x1)]) (st' := [.inl 1]) (M' := M) rfl ?_
    exact g_retB rfl (by decide) h
  · replace h := h.2 c
    refine wp_sts 1 (pc' := 11) (ls' := [some (.inr (.inr 90)), some (.inl x1)]) (st' := [.inr (.inr 90)]) (M' := M) rfl ?_
    refine g_getR (j := 92) rfl hS rfl (str_r hS 90 1 92 rfl) (by decide) ?_
    refine wp_sts 1 (pc' := 15) (ls' := [some (.inr (.inr 90)), some (.inl x1)]) (st' := [.inr (.inr 90), .inr (.inr 92)]) (M' := M) rfl ?_
    refine g_getR (j := 93) rfl hS rfl (str_r hS 90 6 93 rfl) (by decide) ?_
    refine wp_sts 1 (pc' := 19) (ls' := [some (.inr (.inr 90)), some (.inl x1)]) (st' := [.inl x1, .inr (.inr 93), .inr (.inr 92)]) (M' := M) rfl ?_
    obtain ⟨hf1, h⟩ := h
    refine g_iald (n := 6) rfl hS rfl hf1 ?_
    obtain ⟨hf2, h⟩ := h
    refine g_iald (n := 6) rfl hS rfl hf2 ?_
    refine wp_sts 1 (pc' := 22) (ls' := [some (.inr (.inr 90)), some (.inl x1)]) (st' := [.inr (.inr 90), .inl (M 92 (M 93 x1.toNat).toNat)]) (M' := M) rfl ?_
    refine g_getR (j := 94) rfl hS rfl (str_r hS 90 7 94 rfl) (by decide) ?_
    refine wp_sts 1 (pc' := 26) (ls' := [some (.inr (.inr 90)), some (.inl x1)]) (st' := [.inl x1, .inr (.inr 94), .inl (M 92 (M 93 x1.toNat).toNat)]) (M' := M) rfl ?_
    refine g_iald (n := 6) rfl hS rfl hf1 ?_
    refine c2_eq rfl (fun c => ?_) (fun c => ?_)
    · replace h := h.1 c
      obtain ⟨hf3, h⟩ := h
      refine w_iinc rfl rfl hf3 ?_
      refine wp_sts 1 (pc' := 2) (ls' := [some (.inr (.inr 90)), some (.inl (x1 + 1))]) (st' := []) (M' := M) rfl ?_
      exact h
    · replace h := h.2 c
      refine wp_sts 1 (pc' := 31) (ls' := [some (.inr (.inr 90)), some (.inl x1)]) (st' := [.inl 0]) (M' := M) rfl ?_
      exact g_retB rfl (by decide) h
/- Days.placeOf, at 0 -/
theorem b17_0 {d t : Nat} {u : Nat} {x2 : Int} {M : ab_M} {Q : Option ab_V → ab_M → Prop} (hd : 1 ≤ d) (hS : pu_str t M) (hu : pu_T u) (h : ab_wp d 17 11 [some (.inr (.inr 90)), some (.inr (.inr u)), some (.inl x2), some (.inl (M u 1)), some (.inl 0), some (.inl 0)] [] M Q) : ab_wp d 17 0 [some (.inr (.inr 90)), some (.inr (.inr u)), some (.inl x2), none, none, none] [] M Q := by
  refine wp_sts 1 (pc' := 1) (ls' := [some (.inr (.inr 90)), some (.inr (.inr u)), some (.inl x2), none, none, none]) (st' := [.inr (.inr u)]) (M' := M) rfl ?_
  refine g_getI rfl hS (fT (P := fun z => pu_bI z 1 8 = true) hu rfl rfl) ?_
  refine wp_sts 5 (pc' := 11) (ls' := [some (.inr (.inr 90)), some (.inr (.inr u)), some (.inl x2), some (.inl (M u 1)), some (.inl 0), some (.inl 0)]) (st' := []) (M' := M) rfl ?_
  exact h
/- Days.placeOf, at 11 -/
theorem b17_11 {d t : Nat} {u : Nat} {x2 : Int} {x3 : Int} {x4 : Int} {x5 : Int} {M : ab_M} {Q : Option ab_V → ab_M → Prop} (hd : 1 ≤ d) (hS : pu_str t M) (hu : pu_T u) (h : (x2 ≤ x5 → Q (some (.inl x3)) M) ∧ (x5 < x2 → (M 90 5 < x4 → Q (some (.inl x3)) M) ∧ (x4 ≤ M 90 5 → (0 ≤ x5 ∧ x5 < 6) ∧ ∃ r1 M1, ab_ev (d - 1) 59 [.inr (.inr u), .inl (M 91 x5.toNat)] M (some (.inl r1)) M1 ∧ pu_str t M1 ∧ (0 ≤ M1 91 x5.toNat ∧ M1 91 x5.toNat < 6) ∧ ab_rg (x5 + 1) ∧ ab_wp d 17 11 [some (.inr (.inr 90)), some (.inr (.inr u)), some (.inl x2), some (.inl r1), some (.inl (M1 92 (M1 91 x5.toNat).toNat)), some (.inl (x5 + 1))] [] M1 Q))) : ab_wp d 17 11 [some (.inr (.inr 90)), some (.inr (.inr u)), some (.inl x2), some (.inl x3), some (.inl x4), some (.inl x5)] [] M Q := by
  refine wp_sts 2 (pc' := 14) (ls' := [some (.inr (.inr 90)), some (.inr (.inr u)), some (.inl x2), some (.inl x3), some (.inl x4), some (.inl x5)]) (st' := [.inl x2, .inl x5]) (M' := M) rfl ?_
  refine c2_ge rfl (fun c => ?_) (fun c => ?_)
  · replace h := h.1 c
    refine wp_sts 1 (pc' := 59) (ls' := [some (.inr (.inr 90)), some (.inr (.inr u)), some (.inl x2), some (.inl x3), some (.inl x4), some (.inl x5)]) (st' := [.inl x3]) (M' := M) rfl ?_
    exact wp_ret rfl rfl (z := (some (.inl x3), M)) rfl h
  · replace h := h.2 c
    refine wp_sts 2 (pc' := 20) (ls' := [some (.inr (.inr 90)), some (.inr (.inr u)), some (.inl x2), some (.inl x3), some (.inl x4), some (.inl x5)]) (st' := [.inr (.inr 90), .inl x4]) (M' := M) rfl ?_
    refine g_getI rfl hS rfl ?_
    refine c2_gt rfl (fun c => ?_) (fun c => ?_)
    · replace h := h.1 c
      refine wp_sts 1 (pc' := 59) (ls' := [some (.inr (.inr 90)), some (.inr (.inr u)), some (.inl x2), some (.inl x3), some (.inl x4), some (.inl x5)]) (st' := [.inl x3]) (M' := M) rfl ?_
      exact wp_ret rfl rfl (z := (some (.inl x3), M)) rfl h
    · replace h := h.2 c
      refine wp_sts 2 (pc' := 28) (ls' := [some (.inr (.inr 90)), some (.inr (.inr u)), some (.inl x2), some (.inl x3), some (.inl x4), some (.inl x5)]) (st' := [.inr (.inr 90), .inr (.inr u)]) (M' := M) rfl ?_
      refine g_getR (j := 91) rfl hS rfl (str_r hS 90 0 91 rfl) (by decide) ?_
      refine wp_sts 1 (pc' := 33) (ls' := [some (.inr (.inr 90)), some (.inr (.inr u)), some (.inl x2), some (.inl x3), some (.inl x4), some (.inl x5)]) (st' := [.inl x5, .inr (.inr 91), .inr (.inr u)]) (M' := M) rfl ?_
      obtain ⟨hf1, h⟩ := h
      refine g_iald (n := 6) rfl hS rfl hf1 ?_
      obtain ⟨r1, M1, he, hS1, h⟩ := h
      refine g_callI (c := 59) (as := [.inr (.inr u), .inl (M 91 x5.toNat)]) (rs := []) rfl rfl hS hd (fT (P := fun z => ab_argsN (.invokevirtual 58, 1, 59, 2) [.inl (M 91 x5.toNat), .inr (.inr z)] = some (59, [.inr (.inr z), .inl (M 91 x5.toNat)], [])) hu rfl rfl) he ?_
      refine wp_sts 2 (pc' := 39) (ls' := [some (.inr (.inr 90)), some (.inr (.inr u)), some (.inl x2), some (.inl r1), some (.inl x4), some (.inl x5)]) (st' := [.inr (.inr 90)]) (M' := M1) rfl ?_
      refine g_getR (j := 92) rfl hS1 rfl (str_r hS1 90 1 92 rfl) (by decide) ?_
      refine wp_sts 1 (pc' := 43) (ls' := [some (.inr (.inr 90)), some (.inr (.inr u)), some (.inl x2), some (.inl r1), some (.inl x4), some (.inl x5)]) (st' := [.inr (.inr 90), .inr (.inr 92)]) (M' := M1) rfl ?_
      refine g_getR (j := 91) rfl hS1 rfl (str_r hS1 90 0 91 rfl) (by decide) ?_
      refine wp_sts 1 (pc' := 48) (ls' := [some (.inr (.inr 90)), some (.inr (.inr u)), some (.inl x2), some (.inl r1), some (.inl x4), some (.inl x5)]) (st' := [.inl x5, .inr (.inr 91), .inr (.inr 92)]) (M' := M1) rfl ?_
      refine g_iald (n := 6) rfl hS1 rfl hf1 ?_
      obtain ⟨hf2, h⟩ := h
      refine g_iald (n := 6) rfl hS1 rfl hf2 ?_
      refine wp_sts 1 (pc' := 52) (ls' := [some (.inr (.inr 90)), some (.inr (.inr u)), some (.inl x2), some (.inl r1), some (.inl (M1 92 (M1 91 x5.toNat).toNat)), some (.inl x5)]) (st' := []) (M' := M1) rfl ?_
      obtain ⟨hf3, h⟩ := h
      refine w_iinc rfl rfl hf3 ?_
      refine wp_sts 1 (pc' := 11) (ls' := [some (.inr (.inr 90)), some (.inr (.inr u)), some (.inl x2), some (.inl r1), some (.inl (M1 92 (M1 91 x5.toNat).toNat)), some (.inl (x5 + 1))]) (st' := []) (M' := M1) rfl ?_
      exact h
/- Diary.add, at 0 -/
theorem b19_0 {d t : Nat}  {x1 : Int} {x2 : Int} {M : ab_M} {Q : Option ab_V → ab_M → Prop} (hd : 1 ≤ d) (hS : pu_str t M)  (h : (M 75 0 < 15 → (0 ≤ M 75 0 ∧ M 75 0 < 15) ∧ ab_rg ((M 75 0) + 1) ∧ Q (some (.inl 1)) (ab_w (ab_w (ab_w M 76 (M 75 0).toNat x1) 77 (M 75 0).toNat x2) 75 0 ((M 75 0) + 1))) ∧ (15 ≤ M 75 0 → Q (some (.inl 0)) M)) : ab_wp d 19 0 [some (.inr (.inr 75)), some (.inl x1), some (.inl x2)] [] M Q := by
  refine wp_sts 1 (pc' := 1) (ls' := [some (.inr (.inr 75)), some (.inl x1), some (.inl x2)]) (st' := [.inr (.inr 75)]) (M' := M) rfl ?_
  refine g_getI rfl hS rfl ?_
  refine wp_sts 1 (pc' := 6) (ls' := [some (.inr (.inr 75)), some (.inl x1), some (.inl x2)]) (st' := [.inl 15, .inl (M 75 0)]) (M' := M) rfl ?_
  refine c2_lt rfl (fun c => ?_) (fun c => ?_)
  · replace h := h.1 c
    refine wp_sts 1 (pc' := 12) (ls' := [some (.inr (.inr 75)), some (.inl x1), some (.inl x2)]) (st' := [.inr (.inr 75)]) (M' := M) rfl ?_
    refine g_getR (j := 76) rfl hS rfl (str_r hS 75 1 76 rfl) (by decide) ?_
    refine wp_sts 1 (pc' := 16) (ls' := [some (.inr (.inr 75)), some (.inl x1), some (.inl x2)]) (st' := [.inr (.inr 75), .inr (.inr 76)]) (M' := M) rfl ?_
    refine g_getI rfl hS rfl ?_
    refine wp_sts 1 (pc' := 20) (ls' := [some (.inr (.inr 75)), some (.inl x1), some (.inl x2)]) (st' := [.inl x1, .inl (M 75 0), .inr (.inr 76)]) (M' := M) rfl ?_
    obtain ⟨hf1, h⟩ := h
    refine g_iast (n := 15) rfl hS rfl hf1 ?_
    refine wp_sts 1 (pc' := 22) (ls' := [some (.inr (.inr 75)), some (.inl x1), some (.inl x2)]) (st' := [.inr (.inr 75)]) (M' := (ab_w M 76 (M 75 0).toNat x1)) rfl ?_
    refine g_getR (j := 77) rfl (str_a (k := 76) (f := (M 75 0).toNat) (v := x1) hS rfl) rfl (str_r (str_a (k := 76) (f := (M 75 0).toNat) (v := x1) hS rfl) 75 2 77 rfl) (by decide) ?_
    refine wp_sts 1 (pc' := 26) (ls' := [some (.inr (.inr 75)), some (.inl x1), some (.inl x2)]) (st' := [.inr (.inr 75), .inr (.inr 77)]) (M' := (ab_w M 76 (M 75 0).toNat x1)) rfl ?_
    refine g_getI rfl (str_a (k := 76) (f := (M 75 0).toNat) (v := x1) hS rfl) rfl ?_
    refine wp_sts 1 (pc' := 30) (ls' := [some (.inr (.inr 75)), some (.inl x1), some (.inl x2)]) (st' := [.inl x2, .inl (M 75 0), .inr (.inr 77)]) (M' := (ab_w M 76 (M 75 0).toNat x1)) rfl ?_
    refine g_iast (n := 15) rfl (str_a (k := 76) (f := (M 75 0).toNat) (v := x1) hS rfl) rfl hf1 ?_
    refine wp_sts 2 (pc' := 33) (ls' := [some (.inr (.inr 75)), some (.inl x1), some (.inl x2)]) (st' := [.inr (.inr 75), .inr (.inr 75)]) (M' := (ab_w (ab_w M 76 (M 75 0).toNat x1) 77 (M 75 0).toNat x2)) rfl ?_
    refine g_getI rfl (str_a (k := 77) (f := (M 75 0).toNat) (v := x2) (str_a (k := 76) (f := (M 75 0).toNat) (v := x1) hS rfl) rfl) rfl ?_
    refine wp_sts 1 (pc' := 37) (ls' := [some (.inr (.inr 75)), some (.inl x1), some (.inl x2)]) (st' := [.inl 1, .inl (M 75 0), .inr (.inr 75)]) (M' := (ab_w (ab_w M 76 (M 75 0).toNat x1) 77 (M 75 0).toNat x2)) rfl ?_
    obtain ⟨hf2, h⟩ := h
    refine w_iadd rfl hf2 ?_
    refine g_putI rfl (str_a (k := 77) (f := (M 75 0).toNat) (v := x2) (str_a (k := 76) (f := (M 75 0).toNat) (v := x1) hS rfl) rfl) rfl ?_
    refine wp_sts 1 (pc' := 42) (ls' := [some (.inr (.inr 75)), some (.inl x1), some (.inl x2)]) (st' := [.inl 1]) (M' := (ab_w (ab_w (ab_w M 76 (M 75 0).toNat x1) 77 (M 75 0).toNat x2) 75 0 ((M 75 0) + 1))) rfl ?_
    exact g_retB rfl (by decide) h
  · replace h := h.2 c
    refine wp_sts 1 (pc' := 10) (ls' := [some (.inr (.inr 75)), some (.inl x1), some (.inl x2)]) (st' := [.inl 0]) (M' := M) rfl ?_
    exact g_retB rfl (by decide) h
/- Diary.firstWrong, at 0 -/
theorem b20_0 {d t : Nat}   {M : ab_M} {Q : Option ab_V → ab_M → Prop} (hd : 1 ≤ d) (hS : pu_str t M)  (h : ab_wp d 20 2 [some (.inr (.inr 75)), some (.inr (.inr 69)), some (.inl 0)] [] M Q) : ab_wp d 20 0 [some (.inr (.inr 75)), some (.inr (.inr 69)), none] [] M Q := by
  refine wp_sts 2 (pc' := 2) (ls' := [some (.inr (.inr 75)), some (.inr (.inr 69)), some (.inl 0)]) (st' := []) (M' := M) rfl ?_
  exact h
/- Diary.firstWrong, at 2 -/
theorem b20_2 {d t : Nat}  {x2 : Int} {M : ab_M} {Q : Option ab_V → ab_M → Prop} (hd : 1 ≤ d) (hS : pu_str t M)  (h : (M 75 0 ≤ x2 → Q (some (.inl ((-1)))) M) ∧ (x2 < M 75 0 → (0 ≤ x2 ∧ x2 < 15) ∧ (0 ≤ M 76 x2.toNat ∧ M 76 x2.toNat < 6) ∧ (M 70 (M 76 x2.toNat).toNat = M 77 x2.toNat → ab_rg (x2 + 1) ∧ ab_wp d 20 2 [some (.inr (.inr 75)), some (.inr (.inr 69)), some (.inl (x2 + 1))] [] M Q) ∧ (M 70 (M 76 x2.toNat).toNat ≠ M 77 x2.toNat → Q (some (.inl x2)) M))) : ab_wp d 20 2 [some (.inr (.inr 75)), some (.inr (.inr 69)), some (.inl x2)] [] M Q := by
  refine wp_sts 2 (pc' := 4) (ls' := [some (.inr (.inr 75)), some (.inr (.inr 69)), some (.inl x2)]) (st' := [.inr (.inr 75), .inl x2]) (M' := M) rfl ?_
  refine g_getI rfl hS rfl ?_
  refine c2_ge rfl (fun c => ?_) (fun c => ?_)
  · replace h := h.1 c
    refine wp_sts 1 (pc' := 39) (ls' := [some (.inr (.inr 75)), some (.inr (.inr 69)), some (.inl x2)]) (st' := [.inl ((-1))]) (M' := M) rfl ?_
    exact wp_ret rfl rfl (z := (some (.inl ((-1))), M)) rfl h
  · replace h := h.2 c
    refine wp_sts 1 (pc' := 11) (ls' := [some (.inr (.inr 75)), some (.inr (.inr 69)), some (.inl x2)]) (st' := [.inr (.inr 69)]) (M' := M) rfl ?_
    refine g_getR (j := 70) rfl hS rfl (str_r hS 69 5 70 rfl) (by decide) ?_
    refine wp_sts 1 (pc' := 15) (ls' := [some (.inr (.inr 75)), some (.inr (.inr 69)), some (.inl x2)]) (st' := [.inr (.inr 75), .inr (.inr 70)]) (M' := M) rfl ?_
    refine g_getR (j := 76) rfl hS rfl (str_r hS 75 1 76 rfl) (by decide) ?_
    refine wp_sts 1 (pc' := 19) (ls' := [some (.inr (.inr 75)), some (.inr (.inr 69)), some (.inl x2)]) (st' := [.inl x2, .inr (.inr 76), .inr (.inr 70)]) (M' := M) rfl ?_
    obtain ⟨hf1, h⟩ := h
    refine g_iald (n := 15) rfl hS rfl hf1 ?_
    obtain ⟨hf2, h⟩ := h
    refine g_iald (n := 6) rfl hS rfl hf2 ?_
    refine wp_sts 1 (pc' := 22) (ls' := [some (.inr (.inr 75)), some (.inr (.inr 69)), some (.inl x2)]) (st' := [.inr (.inr 75), .inl (M 70 (M 76 x2.toNat).toNat)]) (M' := M) rfl ?_
    refine g_getR (j := 77) rfl hS rfl (str_r hS 75 2 77 rfl) (by decide) ?_
    refine wp_sts 1 (pc' := 26) (ls' := [some (.inr (.inr 75)), some (.inr (.inr 69)), some (.inl x2)]) (st' := [.inl x2, .inr (.inr 77), .inl (M 70 (M 76 x2.toNat).toNat)]) (M' := M) rfl ?_
    refine g_iald (n := 15) rfl hS rfl hf1 ?_
    refine c2_eq rfl (fun c => ?_) (fun c => ?_)
    · replace h := h.1 c
      obtain ⟨hf3, h⟩ := h
      refine w_iinc rfl rfl hf3 ?_
      refine wp_sts 1 (pc' := 2) (ls' := [some (.inr (.inr 75)), some (.inr (.inr 69)), some (.inl (x2 + 1))]) (st' := []) (M' := M) rfl ?_
      exact h
    · replace h := h.2 c
      refine wp_sts 1 (pc' := 31) (ls' := [some (.inr (.inr 75)), some (.inr (.inr 69)), some (.inl x2)]) (st' := [.inl x2]) (M' := M) rfl ?_
      exact wp_ret rfl rfl (z := (some (.inl x2), M)) rfl h
/- DoneSets.find, at 0 -/
theorem b22_0 {d t : Nat} {g : Nat} {u : Nat} {x2 : Int} {x3 : Int} {x4 : Int} {M : ab_M} {Q : Option ab_V → ab_M → Prop} (hd : 1 ≤ d) (hS : pu_str t M) (hg : pu_D g) (hu : pu_T u) (h : ab_wp d 22 3 [some (.inr (.inr g)), some (.inr (.inr u)), some (.inl x2), some (.inl x3), some (.inl x4), some (.inl 0)] [] M Q) : ab_wp d 22 0 [some (.inr (.inr g)), some (.inr (.inr u)), some (.inl x2), some (.inl x3), some (.inl x4), none] [] M Q := by
  refine wp_sts 2 (pc' := 3) (ls' := [some (.inr (.inr g)), some (.inr (.inr u)), some (.inl x2), some (.inl x3), some (.inl x4), some (.inl 0)]) (st' := []) (M' := M) rfl ?_
  exact h
/- DoneSets.find, at 3 -/
theorem b22_3 {d t : Nat} {g : Nat} {u : Nat} {x2 : Int} {x3 : Int} {x4 : Int} {x5 : Int} {M : ab_M} {Q : Option ab_V → ab_M → Prop} (hd : 1 ≤ d) (hS : pu_str t M) (hg : pu_D g) (hu : pu_T u) (h : (64 ≤ x5 → ∃ M1, ab_ev (d - 1) 38 [.inr (.inr g), .inr (.inr u), .inl x2, .inl x3, .inl x4] M none M1 ∧ pu_str t M1 ∧ Q none M1) ∧ (x5 < 64 → (0 ≤ x5 ∧ x5 < 64) ∧ ab_rg (x5 + 1) ∧ ab_wp d 22 3 [some (.inr (.inr g)), some (.inr (.inr u)), some (.inl x2), some (.inl x3), some (.inl x4), some (.inl (x5 + 1))] [] (ab_w M (g + 3) x5.toNat 0) Q)) : ab_wp d 22 3 [some (.inr (.inr g)), some (.inr (.inr u)), some (.inl x2), some (.inl x3), some (.inl x4), some (.inl x5)] [] M Q := by
  refine wp_sts 2 (pc' := 6) (ls' := [some (.inr (.inr g)), some (.inr (.inr u)), some (.inl x2), some (.inl x3), some (.inl x4), some (.inl x5)]) (st' := [.inr (.inr g), .inl x5]) (M' := M) rfl ?_
  refine g_getR (j := g + 3) rfl hS (fD (P := fun z => pu_bJ 2 z 2 5 = true) hg rfl rfl) (fD (P := fun z => M z 2 = ((z + 3 : Nat) : Int)) hg (str_r hS 82 2 85 rfl) (str_r hS 86 2 89 rfl)) (fD (P := fun z => z + 3 < 1000) hg (by decide) (by decide)) ?_
  refine w_len (t := 21) (n := 64) rfl hS.1 (fD (P := fun z => ab_arB 21 (z + 3) 64 = true) hg rfl rfl) (by decide) ?_
  refine c2_ge rfl (fun c => ?_) (fun c => ?_)
  · replace h := h.1 c
    refine wp_sts 5 (pc' := 33) (ls' := [some (.inr (.inr g)), some (.inr (.inr u)), some (.inl x2), some (.inl x3), some (.inl x4), some (.inl x5)]) (st' := [.inl x4, .inl x3, .inl x2, .inr (.inr u), .inr (.inr g)]) (M' := M) rfl ?_
    obtain ⟨M1, he, hS1, h⟩ := h
    refine g_callV (c := 38) (as := [.inr (.inr g), .inr (.inr u), .inl x2, .inl x3, .inl x4]) (rs := []) rfl rfl hS hd (fD (P := fun z => ab_argsN (.invokevirtual 15, 1, 6038, 5) [.inl x4, .inl x3, .inl x2, .inr (.inr u), .inr (.inr z)] = some (38, [.inr (.inr z), .inr (.inr u), .inl x2, .inl x3, .inl x4], [])) hg rfl rfl) he ?_
    exact wp_ret rfl rfl rfl h
  · replace h := h.2 c
    refine wp_sts 1 (pc' := 14) (ls' := [some (.inr (.inr g)), some (.inr (.inr u)), some (.inl x2), some (.inl x3), some (.inl x4), some (.inl x5)]) (st' := [.inr (.inr g)]) (M' := M) rfl ?_
    refine g_getR (j := g + 3) rfl hS (fD (P := fun z => pu_bJ 2 z 2 5 = true) hg rfl rfl) (fD (P := fun z => M z 2 = ((z + 3 : Nat) : Int)) hg (str_r hS 82 2 85 rfl) (str_r hS 86 2 89 rfl)) (fD (P := fun z => z + 3 < 1000) hg (by decide) (by decide)) ?_
    refine wp_sts 2 (pc' := 20) (ls' := [some (.inr (.inr g)), some (.inr (.inr u)), some (.inl x2), some (.inl x3), some (.inl x4), some (.inl x5)]) (st' := [.inl 0, .inl x5, .inr (.inr (g + 3))]) (M' := M) rfl ?_
    obtain ⟨hf1, h⟩ := h
    refine g_bast (n := 64) rfl hS (fD (P := fun z => ab_arB 21 (z + 3) 64 = true) hg rfl rfl) hf1 (by decide) ?_
    obtain ⟨hf2, h⟩ := h
    refine w_iinc rfl rfl hf2 ?_
    refine wp_sts 1 (pc' := 3) (ls' := [some (.inr (.inr g)), some (.inr (.inr u)), some (.inl x2), some (.inl x3), some (.inl x4), some (.inl (x5 + 1))]) (st' := []) (M' := (ab_w M (g + 3) x5.toNat 0)) rfl ?_
    exact h
/- DoneSets.meet, at 0 -/
theorem b23_0 {d t : Nat} {g : Nat} {u : Nat} {x2 : Int} {x3 : Int} {M : ab_M} {Q : Option ab_V → ab_M → Prop} (hd : 1 ≤ d) (hS : pu_str t M) (hg : pu_D g) (hu : pu_T u) (h : ∃ r1 M1, ab_ev (d - 1) 40 [.inr (.inr g), .inl x2] M (some (.inl r1)) M1 ∧ pu_str t M1 ∧ (0 ≤ r1 ∧ r1 < 64) ∧ Q none (ab_w M1 (g + 3) r1.toNat 1)) : ab_wp d 23 0 [some (.inr (.inr g)), some (.inr (.inr u)), some (.inl x2), some (.inl x3)] [] M Q := by
  refine wp_sts 1 (pc' := 1) (ls' := [some (.inr (.inr g)), some (.inr (.inr u)), some (.inl x2), some (.inl x3)]) (st' := [.inr (.inr g)]) (M' := M) rfl ?_
  refine g_getR (j := g + 3) rfl hS (fD (P := fun z => pu_bJ 2 z 2 5 = true) hg rfl rfl) (fD (P := fun z => M z 2 = ((z + 3 : Nat) : Int)) hg (str_r hS 82 2 85 rfl) (str_r hS 86 2 89 rfl)) (fD (P := fun z => z + 3 < 1000) hg (by decide) (by decide)) ?_
  refine wp_sts 2 (pc' := 6) (ls' := [some (.inr (.inr g)), some (.inr (.inr u)), some (.inl x2), some (.inl x3)]) (st' := [.inl x2, .inr (.inr g), .inr (.inr (g + 3))]) (M' := M) rfl ?_
  obtain ⟨r1, M1, he, hS1, h⟩ := h
  refine g_callI (c := 40) (as := [.inr (.inr g), .inl x2]) (rs := [.inr (.inr (g + 3))]) rfl rfl hS hd (fD (P := fun z => ab_argsN (.invokevirtual 19, 1, 6040, 2) [.inl x2, .inr (.inr z), .inr (.inr (g + 3))] = some (40, [.inr (.inr z), .inl x2], [.inr (.inr (g + 3))])) hg rfl rfl) he ?_
  refine wp_sts 1 (pc' := 10) (ls' := [some (.inr (.inr g)), some (.inr (.inr u)), some (.inl x2), some (.inl x3)]) (st' := [.inl 1, .inl r1, .inr (.inr (g + 3))]) (M' := M1) rfl ?_
  obtain ⟨hf1, h⟩ := h
  refine g_bast (n := 64) rfl hS1 (fD (P := fun z => ab_arB 21 (z + 3) 64 = true) hg rfl rfl) hf1 (by decide) ?_
  exact wp_ret rfl rfl rfl h
/- Reader.add, at 0 -/
theorem b25_0 {d t : Nat}  {x1 : Int} {M : ab_M} {Q : Option ab_V → ab_M → Prop} (hd : 1 ≤ d) (hS : pu_str t M)  (h : (M 1 0 < 250 → (0 ≤ M 1 0 ∧ M 1 0 < 250) ∧ (0 ≤ x1 ∧ x1 < 65536) ∧ ab_rg ((M 1 0) + 1) ∧ Q (some (.inl 1)) (ab_w (ab_w M 2 (M 1 0).toNat x1) 1 0 ((M 1 0) + 1))) ∧ (250 ≤ M 1 0 → Q (some (.inl 0)) M)) : ab_wp d 25 0 [some (.inr (.inr 1)), some (.inl x1)] [] M Q := by
  refine wp_sts 1 (pc' := 1) (ls' := [some (.inr (.inr 1)), some (.inl x1)]) (st' := [.inr (.inr 1)]) (M' := M) rfl ?_
  refine g_getI rfl hS rfl ?_
  refine wp_sts 1 (pc' := 7) (ls' := [some (.inr (.inr 1)), some (.inl x1)]) (st' := [.inl 250, .inl (M 1 0)]) (M' := M) rfl ?_
  refine c2_lt rfl (fun c => ?_) (fun c => ?_)
  · replace h := h.1 c
    refine wp_sts 1 (pc' := 13) (ls' := [some (.inr (.inr 1)), some (.inl x1)]) (st' := [.inr (.inr 1)]) (M' := M) rfl ?_
    refine g_getR (j := 2) rfl hS rfl (str_r hS 1 3 2 rfl) (by decide) ?_
    refine wp_sts 1 (pc' := 17) (ls' := [some (.inr (.inr 1)), some (.inl x1)]) (st' := [.inr (.inr 1), .inr (.inr 2)]) (M' := M) rfl ?_
    refine g_getI rfl hS rfl ?_
    refine wp_sts 1 (pc' := 21) (ls' := [some (.inr (.inr 1)), some (.inl x1)]) (st' := [.inl x1, .inl (M 1 0), .inr (.inr 2)]) (M' := M) rfl ?_
    obtain ⟨hf1, h⟩ := h
    obtain ⟨hf2, h⟩ := h
    refine g_cast (n := 250) rfl hS rfl hf1 hf2 ?_
    refine wp_sts 2 (pc' := 24) (ls' := [some (.inr (.inr 1)), some (.inl x1)]) (st' := [.inr (.inr 1), .inr (.inr 1)]) (M' := (ab_w M 2 (M 1 0).toNat x1)) rfl ?_
    refine g_getI rfl (str_a (k := 2) (f := (M 1 0).toNat) (v := x1) hS rfl) rfl ?_
    refine wp_sts 1 (pc' := 28) (ls' := [some (.inr (.inr 1)), some (.inl x1)]) (st' := [.inl 1, .inl (M 1 0), .inr (.inr 1)]) (M' := (ab_w M 2 (M 1 0).toNat x1)) rfl ?_
    obtain ⟨hf3, h⟩ := h
    refine w_iadd rfl hf3 ?_
    refine g_putI rfl (str_a (k := 2) (f := (M 1 0).toNat) (v := x1) hS rfl) rfl ?_
    refine wp_sts 1 (pc' := 33) (ls' := [some (.inr (.inr 1)), some (.inl x1)]) (st' := [.inl 1]) (M' := (ab_w (ab_w M 2 (M 1 0).toNat x1) 1 0 ((M 1 0) + 1))) rfl ?_
    exact g_retB rfl (by decide) h
  · replace h := h.2 c
    refine wp_sts 1 (pc' := 11) (ls' := [some (.inr (.inr 1)), some (.inl x1)]) (st' := [.inl 0]) (M' := M) rfl ?_
    exact g_retB rfl (by decide) h
/- Reader.read, at 0 -/
theorem b26_0 {d t : Nat} {u : Nat}  {M : ab_M} {Q : Option ab_V → ab_M → Prop} (hd : 1 ≤ d) (hS : pu_str t M) (hu : pu_T u) (h : ∃ M1, ab_ev (d - 1) 193 [.inr (.inr 3), .inl 0] (ab_w (ab_w M 1 1 0) 1 2 0) none M1 ∧ pu_str t M1 ∧ ∃ M2, ab_ev (d - 1) 50 [.inr (.inr u)] M1 none M2 ∧ pu_str t M2 ∧ ∃ M3, ab_ev (d - 1) 27 [.inr (.inr 1)] M2 none M3 ∧ pu_str t M3 ∧ ab_wp d 26 28 [some (.inr (.inr 1)), some (.inr (.inr u)), some (.inl 0)] [] M3 Q) : ab_wp d 26 0 [some (.inr (.inr 1)), some (.inr (.inr u)), none] [] M Q := by
  refine wp_sts 2 (pc' := 2) (ls' := [some (.inr (.inr 1)), some (.inr (.inr u)), none]) (st' := [.inl 0, .inr (.inr 1)]) (M' := M) rfl ?_
  refine g_putI rfl hS rfl ?_
  refine wp_sts 2 (pc' := 7) (ls' := [some (.inr (.inr 1)), some (.inr (.inr u)), none]) (st' := [.inl 0, .inr (.inr 1)]) (M' := (ab_w M 1 1 0)) rfl ?_
  refine g_putI rfl (str_w (k := 1) (f := 1) (v := 0) hS rfl) rfl ?_
  refine wp_sts 1 (pc' := 11) (ls' := [some (.inr (.inr 1)), some (.inr (.inr u)), none]) (st' := [.inr (.inr 1)]) (M' := (ab_w (ab_w M 1 1 0) 1 2 0)) rfl ?_
  refine g_getR (j := 3) rfl (str_w (k := 1) (f := 2) (v := 0) (str_w (k := 1) (f := 1) (v := 0) hS rfl) rfl) rfl (str_r (str_w (k := 1) (f := 2) (v := 0) (str_w (k := 1) (f := 1) (v := 0) hS rfl) rfl) 1 4 3 rfl) (by decide) ?_
  refine wp_sts 1 (pc' := 15) (ls' := [some (.inr (.inr 1)), some (.inr (.inr u)), none]) (st' := [.inl 0, .inr (.inr 3)]) (M' := (ab_w (ab_w M 1 1 0) 1 2 0)) rfl ?_
  obtain ⟨M1, he, hS1, h⟩ := h
  refine g_callV (c := 193) (as := [.inr (.inr 3), .inl 0]) (rs := []) rfl rfl (str_w (k := 1) (f := 2) (v := 0) (str_w (k := 1) (f := 1) (v := 0) hS rfl) rfl) hd rfl he ?_
  refine wp_sts 1 (pc' := 19) (ls' := [some (.inr (.inr 1)), some (.inr (.inr u)), none]) (st' := [.inr (.inr u)]) (M' := M1) rfl ?_
  obtain ⟨M2, he, hS2, h⟩ := h
  refine g_callV (c := 50) (as := [.inr (.inr u)]) (rs := []) rfl rfl hS1 hd (fT (P := fun z => ab_argsN (.invokevirtual 38, 1, 50, 1) [.inr (.inr z)] = some (50, [.inr (.inr z)], [])) hu rfl rfl) he ?_
  refine wp_sts 1 (pc' := 23) (ls' := [some (.inr (.inr 1)), some (.inr (.inr u)), none]) (st' := [.inr (.inr 1)]) (M' := M2) rfl ?_
  obtain ⟨M3, he, hS3, h⟩ := h
  refine g_callV (c := 27) (as := [.inr (.inr 1)]) (rs := []) rfl rfl hS2 hd rfl he ?_
  refine wp_sts 2 (pc' := 28) (ls' := [some (.inr (.inr 1)), some (.inr (.inr u)), some (.inl 0)]) (st' := []) (M' := M3) rfl ?_
  exact h
/- Reader.read, at 28 -/
theorem b26_28 {d t : Nat} {u : Nat} {x2 : Int} {M : ab_M} {Q : Option ab_V → ab_M → Prop} (hd : 1 ≤ d) (hS : pu_str t M) (hu : pu_T u) (h : (250 ≤ x2 → Q (some (.inl (M 1 2))) M) ∧ (x2 < 250 → (M 1 0 ≤ M 1 1 → Q (some (.inl (M 1 2))) M) ∧ (M 1 1 < M 1 0 → (M 1 2 ≠ 0 → Q (some (.inl (M 1 2))) M) ∧ (M 1 2 = 0 → ∃ M1, ab_ev (d - 1) 28 [.inr (.inr 1), .inr (.inr u)] M none M1 ∧ pu_str t M1 ∧ ab_rg (x2 + 1) ∧ ab_wp d 26 28 [some (.inr (.inr 1)), some (.inr (.inr u)), some (.inl (x2 + 1))] [] M1 Q)))) : ab_wp d 26 28 [some (.inr (.inr 1)), some (.inr (.inr u)), some (.inl x2)] [] M Q := by
  refine wp_sts 2 (pc' := 32) (ls' := [some (.inr (.inr 1)), some (.inr (.inr u)), some (.inl x2)]) (st' := [.inl 250, .inl x2]) (M' := M) rfl ?_
  refine c2_ge rfl (fun c => ?_) (fun c => ?_)
  · replace h := h.1 c
    refine wp_sts 1 (pc' := 65) (ls' := [some (.inr (.inr 1)), some (.inr (.inr u)), some (.inl x2)]) (st' := [.inr (.inr 1)]) (M' := M) rfl ?_
    refine g_getI rfl hS rfl ?_
    exact wp_ret rfl rfl (z := (some (.inl (M 1 2)), M)) rfl h
  · replace h := h.2 c
    refine wp_sts 1 (pc' := 36) (ls' := [some (.inr (.inr 1)), some (.inr (.inr u)), some (.inl x2)]) (st' := [.inr (.inr 1)]) (M' := M) rfl ?_
    refine g_getI rfl hS rfl ?_
    refine wp_sts 1 (pc' := 40) (ls' := [some (.inr (.inr 1)), some (.inr (.inr u)), some (.inl x2)]) (st' := [.inr (.inr 1), .inl (M 1 1)]) (M' := M) rfl ?_
    refine g_getI rfl hS rfl ?_
    refine c2_ge rfl (fun c => ?_) (fun c => ?_)
    · replace h := h.1 c
      refine wp_sts 1 (pc' := 65) (ls' := [some (.inr (.inr 1)), some (.inr (.inr u)), some (.inl x2)]) (st' := [.inr (.inr 1)]) (M' := M) rfl ?_
      refine g_getI rfl hS rfl ?_
      exact wp_ret rfl rfl (z := (some (.inl (M 1 2)), M)) rfl h
    · replace h := h.2 c
      refine wp_sts 1 (pc' := 47) (ls' := [some (.inr (.inr 1)), some (.inr (.inr u)), some (.inl x2)]) (st' := [.inr (.inr 1)]) (M' := M) rfl ?_
      refine g_getI rfl hS rfl ?_
      refine c1_ne rfl (fun c => ?_) (fun c => ?_)
      · replace h := h.1 c
        refine wp_sts 1 (pc' := 65) (ls' := [some (.inr (.inr 1)), some (.inr (.inr u)), some (.inl x2)]) (st' := [.inr (.inr 1)]) (M' := M) rfl ?_
        refine g_getI rfl hS rfl ?_
        exact wp_ret rfl rfl (z := (some (.inl (M 1 2)), M)) rfl h
      · replace h := h.2 c
        refine wp_sts 2 (pc' := 55) (ls' := [some (.inr (.inr 1)), some (.inr (.inr u)), some (.inl x2)]) (st' := [.inr (.inr u), .inr (.inr 1)]) (M' := M) rfl ?_
        obtain ⟨M1, he, hS1, h⟩ := h
        refine g_callV (c := 28) (as := [.inr (.inr 1), .inr (.inr u)]) (rs := []) rfl rfl hS hd rfl he ?_
        obtain ⟨hf1, h⟩ := h
        refine w_iinc rfl rfl hf1 ?_
        refine wp_sts 1 (pc' := 28) (ls' := [some (.inr (.inr 1)), some (.inr (.inr u)), some (.inl (x2 + 1))]) (st' := []) (M' := M1) rfl ?_
        exact h
/- Reader.skipBlanks, at 0 -/
theorem b27_0 {d t : Nat}   {M : ab_M} {Q : Option ab_V → ab_M → Prop} (hd : 1 ≤ d) (hS : pu_str t M)  (h : (M 1 0 ≤ M 1 1 → Q none M) ∧ (M 1 1 < M 1 0 → (0 ≤ M 1 1 ∧ M 1 1 < 250) ∧ (M 2 (M 1 1).toNat ≠ 32 → Q none M) ∧ (M 2 (M 1 1).toNat = 32 → ab_rg ((M 1 1) + 1) ∧ ab_wp d 27 0 [some (.inr (.inr 1))] [] (ab_w M 1 1 ((M 1 1) + 1)) Q))) : ab_wp d 27 0 [some (.inr (.inr 1))] [] M Q := by
  refine wp_sts 1 (pc' := 1) (ls' := [some (.inr (.inr 1))]) (st' := [.inr (.inr 1)]) (M' := M) rfl ?_
  refine g_getI rfl hS rfl ?_
  refine wp_sts 1 (pc' := 5) (ls' := [some (.inr (.inr 1))]) (st' := [.inr (.inr 1), .inl (M 1 1)]) (M' := M) rfl ?_
  refine g_getI rfl hS rfl ?_
  refine c2_ge rfl (fun c => ?_) (fun c => ?_)
  · replace h := h.1 c
    exact wp_ret rfl rfl rfl h
  · replace h := h.2 c
    refine wp_sts 1 (pc' := 12) (ls' := [some (.inr (.inr 1))]) (st' := [.inr (.inr 1)]) (M' := M) rfl ?_
    refine g_getR (j := 2) rfl hS rfl (str_r hS 1 3 2 rfl) (by decide) ?_
    refine wp_sts 1 (pc' := 16) (ls' := [some (.inr (.inr 1))]) (st' := [.inr (.inr 1), .inr (.inr 2)]) (M' := M) rfl ?_
    refine g_getI rfl hS rfl ?_
    obtain ⟨hf1, h⟩ := h
    refine g_cald (n := 250) rfl hS rfl hf1 ?_
    refine wp_sts 1 (pc' := 22) (ls' := [some (.inr (.inr 1))]) (st' := [.inl 32, .inl (M 2 (M 1 1).toNat)]) (M' := M) rfl ?_
    refine c2_ne rfl (fun c => ?_) (fun c => ?_)
    · replace h := h.1 c
      exact wp_ret rfl rfl rfl h
    · replace h := h.2 c
      refine wp_sts 2 (pc' := 27) (ls' := [some (.inr (.inr 1))]) (st' := [.inr (.inr 1), .inr (.inr 1)]) (M' := M) rfl ?_
      refine g_getI rfl hS rfl ?_
      refine wp_sts 1 (pc' := 31) (ls' := [some (.inr (.inr 1))]) (st' := [.inl 1, .inl (M 1 1), .inr (.inr 1)]) (M' := M) rfl ?_
      obtain ⟨hf2, h⟩ := h
      refine w_iadd rfl hf2 ?_
      refine g_putI rfl hS rfl ?_
      refine wp_sts 1 (pc' := 0) (ls' := [some (.inr (.inr 1))]) (st' := []) (M' := (ab_w M 1 1 ((M 1 1) + 1))) rfl ?_
      exact h
/- Reader.readClause, at 0 -/
theorem b28_0 {d t : Nat} {u : Nat}  {M : ab_M} {Q : Option ab_V → ab_M → Prop} (hd : 1 ≤ d) (hS : pu_str t M) (hu : pu_T u) (h : (0 ≤ M 1 1 ∧ M 1 1 < 250) ∧ ∃ r1 M1, ab_ev (d - 1) 186 [.inr (.inr 1004), .inl (M 2 (M 1 1).toNat)] M (some (.inl r1)) M1 ∧ pu_str t M1 ∧ (r1 < 0 → Q none (ab_w M1 1 2 1)) ∧ (0 ≤ r1 → (r1 = 0 → (0 ≤ r1 ∧ r1 < 7) ∧ (M1 3 r1.toNat < (ab_stt 1002).getD r1.toNat 0 → ab_rg ((M1 3 r1.toNat) + 1) ∧ ab_rg ((M1 1 1) + 1) ∧ ab_wp d 28 80 [some (.inr (.inr 1)), some (.inr (.inr u)), some (.inl r1), some (.inl 0)] [] (ab_w (ab_w M1 3 r1.toNat ((M1 3 r1.toNat) + 1)) 1 1 ((M1 1 1) + 1)) Q) ∧ ((ab_stt 1002).getD r1.toNat 0 ≤ M1 3 r1.toNat → Q none (ab_w M1 1 2 3))) ∧ (r1 ≠ 0 → (M1 3 0 ≠ 0 → (0 ≤ r1 ∧ r1 < 7) ∧ (M1 3 r1.toNat < (ab_stt 1002).getD r1.toNat 0 → ab_rg ((M1 3 r1.toNat) + 1) ∧ ab_rg ((M1 1 1) + 1) ∧ ab_wp d 28 80 [some (.inr (.inr 1)), some (.inr (.inr u)), some (.inl r1), some (.inl 0)] [] (ab_w (ab_w M1 3 r1.toNat ((M1 3 r1.toNat) + 1)) 1 1 ((M1 1 1) + 1)) Q) ∧ ((ab_stt 1002).getD r1.toNat 0 ≤ M1 3 r1.toNat → Q none (ab_w M1 1 2 3))) ∧ (M1 3 0 = 0 → Q none (ab_w M1 1 2 1))))) : ab_wp d 28 0 [some (.inr (.inr 1)), some (.inr (.inr u)), none, none] [] M Q := by
  refine wp_sts 2 (pc' := 3) (ls' := [some (.inr (.inr 1)), some (.inr (.inr u)), none, none]) (st' := [.inr (.inr 1), .inr (.inr 1004)]) (M' := M) rfl ?_
  refine g_getR (j := 2) rfl hS rfl (str_r hS 1 3 2 rfl) (by decide) ?_
  refine wp_sts 1 (pc' := 7) (ls' := [some (.inr (.inr 1)), some (.inr (.inr u)), none, none]) (st' := [.inr (.inr 1), .inr (.inr 2), .inr (.inr 1004)]) (M' := M) rfl ?_
  refine g_getI rfl hS rfl ?_
  obtain ⟨hf1, h⟩ := h
  refine g_cald (n := 250) rfl hS rfl hf1 ?_
  obtain ⟨r1, M1, he, hS1, h⟩ := h
  refine g_callI (c := 186) (as := [.inr (.inr 1004), .inl (M 2 (M 1 1).toNat)]) (rs := []) rfl rfl hS hd rfl he ?_
  refine wp_sts 2 (pc' := 16) (ls' := [some (.inr (.inr 1)), some (.inr (.inr u)), some (.inl r1), none]) (st' := [.inl r1]) (M' := M1) rfl ?_
  refine c1_lt rfl (fun c => ?_) (fun c => ?_)
  · replace h := h.1 c
    refine wp_sts 2 (pc' := 34) (ls' := [some (.inr (.inr 1)), some (.inr (.inr u)), some (.inl r1), none]) (st' := [.inl 1, .inr (.inr 1)]) (M' := M1) rfl ?_
    refine g_putI rfl hS1 rfl ?_
    exact wp_ret rfl rfl rfl h
  · replace h := h.2 c
    refine wp_sts 1 (pc' := 20) (ls' := [some (.inr (.inr 1)), some (.inr (.inr u)), some (.inl r1), none]) (st' := [.inl r1]) (M' := M1) rfl ?_
    refine c1_eq rfl (fun c => ?_) (fun c => ?_)
    · replace h := h.1 c
      refine wp_sts 1 (pc' := 39) (ls' := [some (.inr (.inr 1)), some (.inr (.inr u)), some (.inl r1), none]) (st' := [.inr (.inr 1)]) (M' := M1) rfl ?_
      refine g_getR (j := 3) rfl hS1 rfl (str_r hS1 1 4 3 rfl) (by decide) ?_
      refine wp_sts 1 (pc' := 43) (ls' := [some (.inr (.inr 1)), some (.inr (.inr u)), some (.inl r1), none]) (st' := [.inl r1, .inr (.inr 3)]) (M' := M1) rfl ?_
      obtain ⟨hf2, h⟩ := h
      refine g_iald (n := 7) rfl hS1 rfl hf2 ?_
      refine wp_sts 2 (pc' := 48) (ls' := [some (.inr (.inr 1)), some (.inr (.inr u)), some (.inl r1), none]) (st' := [.inl r1, .inr (.inr 1002), .inl (M1 3 r1.toNat)]) (M' := M1) rfl ?_
      refine w_sld rfl (by decide) hf2 ?_
      refine c2_lt rfl (fun c => ?_) (fun c => ?_)
      · replace h := h.1 c
        refine wp_sts 1 (pc' := 59) (ls' := [some (.inr (.inr 1)), some (.inr (.inr u)), some (.inl r1), none]) (st' := [.inr (.inr 1)]) (M' := M1) rfl ?_
        refine g_getR (j := 3) rfl hS1 rfl (str_r hS1 1 4 3 rfl) (by decide) ?_
        refine wp_sts 2 (pc' := 64) (ls' := [some (.inr (.inr 1)), some (.inr (.inr u)), some (.inl r1), none]) (st' := [.inl r1, .inr (.inr 3), .inl r1, .inr (.inr 3)]) (M' := M1) rfl ?_
        refine g_iald (n := 7) rfl hS1 rfl hf2 ?_
        refine wp_sts 1 (pc' := 66) (ls' := [some (.inr (.inr 1)), some (.inr (.inr u)), some (.inl r1), none]) (st' := [.inl 1, .inl (M1 3 r1.toNat), .inl r1, .inr (.inr 3)]) (M' := M1) rfl ?_
        obtain ⟨hf3, h⟩ := h
        refine w_iadd rfl hf3 ?_
        refine g_iast (n := 7) rfl hS1 rfl hf2 ?_
        refine wp_sts 2 (pc' := 70) (ls' := [some (.inr (.inr 1)), some (.inr (.inr u)), some (.inl r1), none]) (st' := [.inr (.inr 1), .inr (.inr 1)]) (M' := (ab_w M1 3 r1.toNat ((M1 3 r1.toNat) + 1))) rfl ?_
        refine g_getI rfl (str_a (k := 3) (f := r1.toNat) (v := (M1 3 r1.toNat) + 1) hS1 rfl) rfl ?_
        refine wp_sts 1 (pc' := 74) (ls' := [some (.inr (.inr 1)), some (.inr (.inr u)), some (.inl r1), none]) (st' := [.inl 1, .inl (M1 1 1), .inr (.inr 1)]) (M' := (ab_w M1 3 r1.toNat ((M1 3 r1.toNat) + 1))) rfl ?_
        obtain ⟨hf4, h⟩ := h
        refine w_iadd rfl hf4 ?_
        refine g_putI rfl (str_a (k := 3) (f := r1.toNat) (v := (M1 3 r1.toNat) + 1) hS1 rfl) rfl ?_
        refine wp_sts 2 (pc' := 80) (ls' := [some (.inr (.inr 1)), some (.inr (.inr u)), some (.inl r1), some (.inl 0)]) (st' := []) (M' := (ab_w (ab_w M1 3 r1.toNat ((M1 3 r1.toNat) + 1)) 1 1 ((M1 1 1) + 1))) rfl ?_
        exact h
      · replace h := h.2 c
        refine wp_sts 2 (pc' := 54) (ls' := [some (.inr (.inr 1)), some (.inr (.inr u)), some (.inl r1), none]) (st' := [.inl 3, .inr (.inr 1)]) (M' := M1) rfl ?_
        refine g_putI rfl hS1 rfl ?_
        exact wp_ret rfl rfl rfl h
    · replace h := h.2 c
      refine wp_sts 1 (pc' := 24) (ls' := [some (.inr (.inr 1)), some (.inr (.inr u)), some (.inl r1), none]) (st' := [.inr (.inr 1)]) (M' := M1) rfl ?_
      refine g_getR (j := 3) rfl hS1 rfl (str_r hS1 1 4 3 rfl) (by decide) ?_
      refine wp_sts 1 (pc' := 28) (ls' := [some (.inr (.inr 1)), some (.inr (.inr u)), some (.inl r1), none]) (st' := [.inl 0, .inr (.inr 3)]) (M' := M1) rfl ?_
      refine g_iald (n := 7) rfl hS1 rfl (by decide) ?_
      refine c1_ne rfl (fun c => ?_) (fun c => ?_)
      · replace h := h.1 c
        refine wp_sts 1 (pc' := 39) (ls' := [some (.inr (.inr 1)), some (.inr (.inr u)), some (.inl r1), none]) (st' := [.inr (.inr 1)]) (M' := M1) rfl ?_
        refine g_getR (j := 3) rfl hS1 rfl (str_r hS1 1 4 3 rfl) (by decide) ?_
        refine wp_sts 1 (pc' := 43) (ls' := [some (.inr (.inr 1)), some (.inr (.inr u)), some (.inl r1), none]) (st' := [.inl r1, .inr (.inr 3)]) (M' := M1) rfl ?_
        obtain ⟨hf2, h⟩ := h
        refine g_iald (n := 7) rfl hS1 rfl hf2 ?_
        refine wp_sts 2 (pc' := 48) (ls' := [some (.inr (.inr 1)), some (.inr (.inr u)), some (.inl r1), none]) (st' := [.inl r1, .inr (.inr 1002), .inl (M1 3 r1.toNat)]) (M' := M1) rfl ?_
        refine w_sld rfl (by decide) hf2 ?_
        refine c2_lt rfl (fun c => ?_) (fun c => ?_)
        · replace h := h.1 c
          refine wp_sts 1 (pc' := 59) (ls' := [some (.inr (.inr 1)), some (.inr (.inr u)), some (.inl r1), none]) (st' := [.inr (.inr 1)]) (M' := M1) rfl ?_
          refine g_getR (j := 3) rfl hS1 rfl (str_r hS1 1 4 3 rfl) (by decide) ?_
          refine wp_sts 2 (pc' := 64) (ls' := [some (.inr (.inr 1)), some (.inr (.inr u)), some (.inl r1), none]) (st' := [.inl r1, .inr (.inr 3), .inl r1, .inr (.inr 3)]) (M' := M1) rfl ?_
          refine g_iald (n := 7) rfl hS1 rfl hf2 ?_
          refine wp_sts 1 (pc' := 66) (ls' := [some (.inr (.inr 1)), some (.inr (.inr u)), some (.inl r1), none]) (st' := [.inl 1, .inl (M1 3 r1.toNat), .inl r1, .inr (.inr 3)]) (M' := M1) rfl ?_
          obtain ⟨hf3, h⟩ := h
          refine w_iadd rfl hf3 ?_
          refine g_iast (n := 7) rfl hS1 rfl hf2 ?_
          refine wp_sts 2 (pc' := 70) (ls' := [some (.inr (.inr 1)), some (.inr (.inr u)), some (.inl r1), none]) (st' := [.inr (.inr 1), .inr (.inr 1)]) (M' := (ab_w M1 3 r1.toNat ((M1 3 r1.toNat) + 1))) rfl ?_
          refine g_getI rfl (str_a (k := 3) (f := r1.toNat) (v := (M1 3 r1.toNat) + 1) hS1 rfl) rfl ?_
          refine wp_sts 1 (pc' := 74) (ls' := [some (.inr (.inr 1)), some (.inr (.inr u)), some (.inl r1), none]) (st' := [.inl 1, .inl (M1 1 1), .inr (.inr 1)]) (M' := (ab_w M1 3 r1.toNat ((M1 3 r1.toNat) + 1))) rfl ?_
          obtain ⟨hf4, h⟩ := h
          refine w_iadd rfl hf4 ?_
          refine g_putI rfl (str_a (k := 3) (f := r1.toNat) (v := (M1 3 r1.toNat) + 1) hS1 rfl) rfl ?_
          refine wp_sts 2 (pc' := 80) (ls' := [some (.inr (.inr 1)), some (.inr (.inr u)), some (.inl r1), some (.inl 0)]) (st' := []) (M' := (ab_w (ab_w M1 3 r1.toNat ((M1 3 r1.toNat) + 1)) 1 1 ((M1 1 1) + 1))) rfl ?_
          exact h
        · replace h := h.2 c
          refine wp_sts 2 (pc' := 54) (ls' := [some (.inr (.inr 1)), some (.inr (.inr u)), some (.inl r1), none]) (st' := [.inl 3, .inr (.inr 1)]) (M' := M1) rfl ?_
          refine g_putI rfl hS1 rfl ?_
          exact wp_ret rfl rfl rfl h
      · replace h := h.2 c
        refine wp_sts 2 (pc' := 34) (ls' := [some (.inr (.inr 1)), some (.inr (.inr u)), some (.inl r1), none]) (st' := [.inl 1, .inr (.inr 1)]) (M' := M1) rfl ?_
        refine g_putI rfl hS1 rfl ?_
        exact wp_ret rfl rfl rfl h
/- Reader.readClause, at 80 -/
theorem b28_80 {d t : Nat} {u : Nat} {x2 : Int} {x3 : Int} {M : ab_M} {Q : Option ab_V → ab_M → Prop} (hd : 1 ≤ d) (hS : pu_str t M) (hu : pu_T u) (h : (0 ≤ x2 ∧ x2 < 7) ∧ ((ab_stt 1001).getD x2.toNat 0 ≤ x3 → (M 1 2 ≠ 0 → Q none M) ∧ (M 1 2 = 0 → ∃ M1, ab_ev (d - 1) 29 [.inr (.inr 1), .inr (.inr u), .inl x2] M none M1 ∧ pu_str t M1 ∧ Q none M1)) ∧ (x3 < (ab_stt 1001).getD x2.toNat 0 → (M 1 2 ≠ 0 → (M 1 2 ≠ 0 → Q none M) ∧ (M 1 2 = 0 → ∃ M1, ab_ev (d - 1) 29 [.inr (.inr 1), .inr (.inr u), .inl x2] M none M1 ∧ pu_str t M1 ∧ Q none M1)) ∧ (M 1 2 = 0 → ∃ M1, ab_ev (d - 1) 31 [.inr (.inr 1), .inr (.inr u), .inl x2, .inl x3] M none M1 ∧ pu_str t M1 ∧ ab_rg (x3 + 1) ∧ ab_wp d 28 80 [some (.inr (.inr 1)), some (.inr (.inr u)), some (.inl x2), some (.inl (x3 + 1))] [] M1 Q))) : ab_wp d 28 80 [some (.inr (.inr 1)), some (.inr (.inr u)), some (.inl x2), some (.inl x3)] [] M Q := by
  refine wp_sts 3 (pc' := 85) (ls' := [some (.inr (.inr 1)), some (.inr (.inr u)), some (.inl x2), some (.inl x3)]) (st' := [.inl x2, .inr (.inr 1001), .inl x3]) (M' := M) rfl ?_
  obtain ⟨hf1, h⟩ := h
  refine w_sld rfl (by decide) hf1 ?_
  refine c2_ge rfl (fun c => ?_) (fun c => ?_)
  · replace h := h.1 c
    refine wp_sts 1 (pc' := 110) (ls' := [some (.inr (.inr 1)), some (.inr (.inr u)), some (.inl x2), some (.inl x3)]) (st' := [.inr (.inr 1)]) (M' := M) rfl ?_
    refine g_getI rfl hS rfl ?_
    refine c1_ne rfl (fun c => ?_) (fun c => ?_)
    · replace h := h.1 c
      exact wp_ret rfl rfl rfl h
    · replace h := h.2 c
      refine wp_sts 3 (pc' := 119) (ls' := [some (.inr (.inr 1)), some (.inr (.inr u)), some (.inl x2), some (.inl x3)]) (st' := [.inl x2, .inr (.inr u), .inr (.inr 1)]) (M' := M) rfl ?_
      obtain ⟨M1, he, hS1, h⟩ := h
      refine g_callV (c := 29) (as := [.inr (.inr 1), .inr (.inr u), .inl x2]) (rs := []) rfl rfl hS hd rfl he ?_
      exact wp_ret rfl rfl rfl h
  · replace h := h.2 c
    refine wp_sts 1 (pc' := 90) (ls' := [some (.inr (.inr 1)), some (.inr (.inr u)), some (.inl x2), some (.inl x3)]) (st' := [.inr (.inr 1)]) (M' := M) rfl ?_
    refine g_getI rfl hS rfl ?_
    refine c1_ne rfl (fun c => ?_) (fun c => ?_)
    · replace h := h.1 c
      refine wp_sts 1 (pc' := 110) (ls' := [some (.inr (.inr 1)), some (.inr (.inr u)), some (.inl x2), some (.inl x3)]) (st' := [.inr (.inr 1)]) (M' := M) rfl ?_
      refine g_getI rfl hS rfl ?_
      refine c1_ne rfl (fun c => ?_) (fun c => ?_)
      · replace h := h.1 c
        exact wp_ret rfl rfl rfl h
      · replace h := h.2 c
        refine wp_sts 3 (pc' := 119) (ls' := [some (.inr (.inr 1)), some (.inr (.inr u)), some (.inl x2), some (.inl x3)]) (st' := [.inl x2, .inr (.inr u), .inr (.inr 1)]) (M' := M) rfl ?_
        obtain ⟨M1, he, hS1, h⟩ := h
        refine g_callV (c := 29) (as := [.inr (.inr 1), .inr (.inr u), .inl x2]) (rs := []) rfl rfl hS hd rfl he ?_
        exact wp_ret rfl rfl rfl h
    · replace h := h.2 c
      refine wp_sts 4 (pc' := 100) (ls' := [some (.inr (.inr 1)), some (.inr (.inr u)), some (.inl x2), some (.inl x3)]) (st' := [.inl x3, .inl x2, .inr (.inr u), .inr (.inr 1)]) (M' := M) rfl ?_
      obtain ⟨M1, he, hS1, h⟩ := h
      refine g_callV (c := 31) (as := [.inr (.inr 1), .inr (.inr u), .inl x2, .inl x3]) (rs := []) rfl rfl hS hd rfl he ?_
      obtain ⟨hf2, h⟩ := h
      refine w_iinc rfl rfl hf2 ?_
      refine wp_sts 1 (pc' := 80) (ls' := [some (.inr (.inr 1)), some (.inr (.inr u)), some (.inl x2), some (.inl (x3 + 1))]) (st' := []) (M' := M1) rfl ?_
      exact h
/- Reader.readEnd, at 0 -/
theorem b29_0 {d t : Nat} {u : Nat} {x2 : Int} {M : ab_M} {Q : Option ab_V → ab_M → Prop} (hd : 1 ≤ d) (hS : pu_str t M) (hu : pu_T u) (h : ∃ M1, ab_ev (d - 1) 27 [.inr (.inr 1)] M none M1 ∧ pu_str t M1 ∧ (M1 1 0 ≤ M1 1 1 → Q none (ab_w M1 1 2 1)) ∧ (M1 1 1 < M1 1 0 → (0 ≤ M1 1 1 ∧ M1 1 1 < 250) ∧ (M1 2 (M1 1 1).toNat = 59 → ab_rg ((M1 1 1) + 1) ∧ ∃ M2, ab_ev (d - 1) 35 [.inr (.inr 1), .inr (.inr u), .inl x2] (ab_w M1 1 1 ((M1 1 1) + 1)) none M2 ∧ pu_str t M2 ∧ ∃ M3, ab_ev (d - 1) 27 [.inr (.inr 1)] M2 none M3 ∧ pu_str t M3 ∧ Q none M3) ∧ (M1 2 (M1 1 1).toNat ≠ 59 → Q none (ab_w M1 1 2 1)))) : ab_wp d 29 0 [some (.inr (.inr 1)), some (.inr (.inr u)), some (.inl x2)] [] M Q := by
  refine wp_sts 1 (pc' := 1) (ls' := [some (.inr (.inr 1)), some (.inr (.inr u)), some (.inl x2)]) (st' := [.inr (.inr 1)]) (M' := M) rfl ?_
  obtain ⟨M1, he, hS1, h⟩ := h
  refine g_callV (c := 27) (as := [.inr (.inr 1)]) (rs := []) rfl rfl hS hd rfl he ?_
  refine wp_sts 1 (pc' := 5) (ls' := [some (.inr (.inr 1)), some (.inr (.inr u)), some (.inl x2)]) (st' := [.inr (.inr 1)]) (M' := M1) rfl ?_
  refine g_getI rfl hS1 rfl ?_
  refine wp_sts 1 (pc' := 9) (ls' := [some (.inr (.inr 1)), some (.inr (.inr u)), some (.inl x2)]) (st' := [.inr (.inr 1), .inl (M1 1 1)]) (M' := M1) rfl ?_
  refine g_getI rfl hS1 rfl ?_
  refine c2_ge rfl (fun c => ?_) (fun c => ?_)
  · replace h := h.1 c
    refine wp_sts 2 (pc' := 31) (ls' := [some (.inr (.inr 1)), some (.inr (.inr u)), some (.inl x2)]) (st' := [.inl 1, .inr (.inr 1)]) (M' := M1) rfl ?_
    refine g_putI rfl hS1 rfl ?_
    exact wp_ret rfl rfl rfl h
  · replace h := h.2 c
    refine wp_sts 1 (pc' := 16) (ls' := [some (.inr (.inr 1)), some (.inr (.inr u)), some (.inl x2)]) (st' := [.inr (.inr 1)]) (M' := M1) rfl ?_
    refine g_getR (j := 2) rfl hS1 rfl (str_r hS1 1 3 2 rfl) (by decide) ?_
    refine wp_sts 1 (pc' := 20) (ls' := [some (.inr (.inr 1)), some (.inr (.inr u)), some (.inl x2)]) (st' := [.inr (.inr 1), .inr (.inr 2)]) (M' := M1) rfl ?_
    refine g_getI rfl hS1 rfl ?_
    obtain ⟨hf1, h⟩ := h
    refine g_cald (n := 250) rfl hS1 rfl hf1 ?_
    refine wp_sts 1 (pc' := 26) (ls' := [some (.inr (.inr 1)), some (.inr (.inr u)), some (.inl x2)]) (st' := [.inl 59, .inl (M1 2 (M1 1 1).toNat)]) (M' := M1) rfl ?_
    refine c2_eq rfl (fun c => ?_) (fun c => ?_)
    · replace h := h.1 c
      refine wp_sts 2 (pc' := 37) (ls' := [some (.inr (.inr 1)), some (.inr (.inr u)), some (.inl x2)]) (st' := [.inr (.inr 1), .inr (.inr 1)]) (M' := M1) rfl ?_
      refine g_getI rfl hS1 rfl ?_
      refine wp_sts 1 (pc' := 41) (ls' := [some (.inr (.inr 1)), some (.inr (.inr u)), some (.inl x2)]) (st' := [.inl 1, .inl (M1 1 1), .inr (.inr 1)]) (M' := M1) rfl ?_
      obtain ⟨hf2, h⟩ := h
      refine w_iadd rfl hf2 ?_
      refine g_putI rfl hS1 rfl ?_
      refine wp_sts 3 (pc' := 48) (ls' := [some (.inr (.inr 1)), some (.inr (.inr u)), some (.inl x2)]) (st' := [.inl x2, .inr (.inr u), .inr (.inr 1)]) (M' := (ab_w M1 1 1 ((M1 1 1) + 1))) rfl ?_
      obtain ⟨M2, he, hS2, h⟩ := h
      refine g_callV (c := 35) (as := [.inr (.inr 1), .inr (.inr u), .inl x2]) (rs := []) rfl rfl (str_w (k := 1) (f := 1) (v := (M1 1 1) + 1) hS1 rfl) hd rfl he ?_
      refine wp_sts 1 (pc' := 52) (ls' := [some (.inr (.inr 1)), some (.inr (.inr u)), some (.inl x2)]) (st' := [.inr (.inr 1)]) (M' := M2) rfl ?_
      obtain ⟨M3, he, hS3, h⟩ := h
      refine g_callV (c := 27) (as := [.inr (.inr 1)]) (rs := []) rfl rfl hS2 hd rfl he ?_
      exact wp_ret rfl rfl rfl h
    · replace h := h.2 c
      refine wp_sts 2 (pc' := 31) (ls' := [some (.inr (.inr 1)), some (.inr (.inr u)), some (.inl x2)]) (st' := [.inl 1, .inr (.inr 1)]) (M' := M1) rfl ?_
      refine g_putI rfl hS1 rfl ?_
      exact wp_ret rfl rfl rfl h
/- Reader.isFigure, at 0 -/
theorem b30_0 {d t : Nat}  {x0 : Int} {M : ab_M} {Q : Option ab_V → ab_M → Prop} (hd : 1 ≤ d) (hS : pu_str t M)  (h : (x0 < 48 → Q (some (.inl 0)) M) ∧ (48 ≤ x0 → (57 < x0 → Q (some (.inl 0)) M) ∧ (x0 ≤ 57 → Q (some (.inl 1)) M))) : ab_wp d 30 0 [some (.inl x0)] [] M Q := by
  refine wp_sts 2 (pc' := 3) (ls' := [some (.inl x0)]) (st' := [.inl 48, .inl x0]) (M' := M) rfl ?_
  refine c2_lt rfl (fun c => ?_) (fun c => ?_)
  · replace h := h.1 c
    refine wp_sts 1 (pc' := 17) (ls' := [some (.inl x0)]) (st' := [.inl 0]) (M' := M) rfl ?_
    exact g_retB rfl (by decide) h
  · replace h := h.2 c
    refine wp_sts 2 (pc' := 9) (ls' := [some (.inl x0)]) (st' := [.inl 57, .inl x0]) (M' := M) rfl ?_
    refine c2_gt rfl (fun c => ?_) (fun c => ?_)
    · replace h := h.1 c
      refine wp_sts 1 (pc' := 17) (ls' := [some (.inl x0)]) (st' := [.inl 0]) (M' := M) rfl ?_
      exact g_retB rfl (by decide) h
    · replace h := h.2 c
      refine wp_sts 2 (pc' := 17) (ls' := [some (.inl x0)]) (st' := [.inl 1]) (M' := M) rfl ?_
      exact g_retB rfl (by decide) h
/- Reader.readNumber, at 0 -/
set_option maxRecDepth 100000 in
theorem b31_0 {d t : Nat} {u : Nat} {x2 : Int} {x3 : Int} {M : ab_M} {Q : Option ab_V → ab_M → Prop} (hd : 1 ≤ d) (hS : pu_str t M) (hu : pu_T u) (h : ∃ M1, ab_ev (d - 1) 27 [.inr (.inr 1)] M none M1 ∧ pu_str t M1 ∧ ab_wp d 31 13 [some (.inr (.inr 1)), some (.inr (.inr u)), some (.inl x2), some (.inl x3), some (.inl (M1 1 1)), some (.inl 0), none] [] M1 Q) : ab_wp d 31 0 [some (.inr (.inr 1)), some (.inr (.inr u)), some (.inl x2), some (.inl x3), none, none, none] [] M Q := by
  refine wp_sts 1 (pc' := 1) (ls' := [some (.inr (.inr 1)), some (.inr (.inr u)), some (.inl x2), some (.inl x3), none, none, none]) (st' := [.inr (.inr 1)]) (M' := M) rfl ?_
  obtain ⟨M1, he, hS1, h⟩ := h
  refine g_callV (c := 27) (as := [.inr (.inr 1)]) (rs := []) rfl rfl hS hd rfl he ?_
  refine wp_sts 1 (pc' := 5) (ls' := [some (.inr (.inr 1)), some (.inr (.inr u)), some (.inl x2), some (.inl x3), none, none, none]) (st' := [.inr (.inr 1)]) (M' := M1) rfl ?_
  refine g_getI rfl hS1 rfl ?_
  refine wp_sts 3 (pc' := 13) (ls' := [some (.inr (.inr 1)), some (.inr (.inr u)), some (.inl x2), some (.inl x3), some (.inl (M1 1 1)), some (.inl 0), none]) (st' := []) (M' := M1) rfl ?_
  exact h
/- Reader.readNumber, at 13 -/
set_option maxRecDepth 100000 in
theorem b31_13 {d t : Nat} {u : Nat} {x2 : Int} {x3 : Int} {x4 : Int} {x5 : Int} {M : ab_M} {Q : Option ab_V → ab_M → Prop} (hd : 1 ≤ d) (hS : pu_str t M) (hu : pu_T u) (h : (M 1 0 ≤ M 1 1 → ab_rg ((M 1 1) - x4) ∧ ((M 1 1) - x4 ≠ 0 → (3 < (M 1 1) - x4 → ab_wp d 31 138 [some (.inr (.inr 1)), some (.inr (.inr u)), some (.inl x2), some (.inl x3), some (.inl x4), some (.inl x5), some (.inl ((M 1 1) - x4))] [] M Q) ∧ ((M 1 1) - x4 ≤ 3 → ∃ r1 M1, ab_ev (d - 1) 32 [.inl x2, .inl x3] M (some (.inl r1)) M1 ∧ pu_str t M1 ∧ (x5 < r1 → ab_wp d 31 138 [some (.inr (.inr 1)), some (.inr (.inr u)), some (.inl x2), some (.inl x3), some (.inl x4), some (.inl x5), some (.inl ((M 1 1) - x4))] [] M1 Q) ∧ (r1 ≤ x5 → ∃ r2 M2, ab_ev (d - 1) 33 [.inr (.inr 1), .inr (.inr u), .inl x2, .inl x3] M1 (some (.inl r2)) M2 ∧ pu_str t M2 ∧ (x5 ≤ r2 → ∃ r3 M3, ab_ev (d - 1) 34 [.inr (.inr 1), .inr (.inr u), .inl x2, .inl x3, .inl x5] M2 (some (.inl r3)) M3 ∧ pu_str t M3 ∧ (r3 = 0 → ab_wp d 31 163 [some (.inr (.inr 1)), some (.inr (.inr u)), some (.inl x2), some (.inl x3), some (.inl x4), some (.inl x5), some (.inl ((M 1 1) - x4))] [] M3 Q) ∧ (r3 ≠ 0 → ab_wp d 31 163 [some (.inr (.inr 1)), some (.inr (.inr u)), some (.inl x2), some (.inl x3), some (.inl x4), some (.inl x5), some (.inl ((M 1 1) - x4))] [] (ab_w M3 1 2 4) Q)) ∧ (r2 < x5 → ab_wp d 31 138 [some (.inr (.inr 1)), some (.inr (.inr u)), some (.inl x2), some (.inl x3), some (.inl x4), some (.inl x5), some (.inl ((M 1 1) - x4))] [] M2 Q)))) ∧ ((M 1 1) - x4 = 0 → ab_wp d 31 163 [some (.inr (.inr 1)), some (.inr (.inr u)), some (.inl x2), some (.inl x3), some (.inl x4), some (.inl x5), some (.inl ((M 1 1) - x4))] [] (ab_w M 1 2 1) Q)) ∧ (M 1 1 < M 1 0 → (0 ≤ M 1 1 ∧ M 1 1 < 250) ∧ ∃ r1 M1, ab_ev (d - 1) 30 [.inl (M 2 (M 1 1).toNat)] M (some (.inl r1)) M1 ∧ pu_str t M1 ∧ (r1 = 0 → ab_rg ((M1 1 1) - x4) ∧ ((M1 1 1) - x4 ≠ 0 → (3 < (M1 1 1) - x4 → ab_wp d 31 138 [some (.inr (.inr 1)), some (.inr (.inr u)), some (.inl x2), some (.inl x3), some (.inl x4), some (.inl x5), some (.inl ((M1 1 1) - x4))] [] M1 Q) ∧ ((M1 1 1) - x4 ≤ 3 → ∃ r2 M2, ab_ev (d - 1) 32 [.inl x2, .inl x3] M1 (some (.inl r2)) M2 ∧ pu_str t M2 ∧ (x5 < r2 → ab_wp d 31 138 [some (.inr (.inr 1)), some (.inr (.inr u)), some (.inl x2), some (.inl x3), some (.inl x4), some (.inl x5), some (.inl ((M1 1 1) - x4))] [] M2 Q) ∧ (r2 ≤ x5 → ∃ r3 M3, ab_ev (d - 1) 33 [.inr (.inr 1), .inr (.inr u), .inl x2, .inl x3] M2 (some (.inl r3)) M3 ∧ pu_str t M3 ∧ (x5 ≤ r3 → ∃ r4 M4, ab_ev (d - 1) 34 [.inr (.inr 1), .inr (.inr u), .inl x2, .inl x3, .inl x5] M3 (some (.inl r4)) M4 ∧ pu_str t M4 ∧ (r4 = 0 → ab_wp d 31 163 [some (.inr (.inr 1)), some (.inr (.inr u)), some (.inl x2), some (.inl x3), some (.inl x4), some (.inl x5), some (.inl ((M1 1 1) - x4))] [] M4 Q) ∧ (r4 ≠ 0 → ab_wp d 31 163 [some (.inr (.inr 1)), some (.inr (.inr u)), some (.inl x2), some (.inl x3), some (.inl x4), some (.inl x5), some (.inl ((M1 1 1) - x4))] [] (ab_w M4 1 2 4) Q)) ∧ (r3 < x5 → ab_wp d 31 138 [some (.inr (.inr 1)), some (.inr (.inr u)), some (.inl x2), some (.inl x3), some (.inl x4), some (.inl x5), some (.inl ((M1 1 1) - x4))] [] M3 Q)))) ∧ ((M1 1 1) - x4 = 0 → ab_wp d 31 163 [some (.inr (.inr 1)), some (.inr (.inr u)), some (.inl x2), some (.inl x3), some (.inl x4), some (.inl x5), some (.inl ((M1 1 1) - x4))] [] (ab_w M1 1 2 1) Q)) ∧ (r1 ≠ 0 → ab_rg ((M1 1 1) - x4) ∧ (3 ≤ (M1 1 1) - x4 → ab_rg ((M1 1 1) + 1) ∧ ab_wp d 31 13 [some (.inr (.inr 1)), some (.inr (.inr u)), some (.inl x2), some (.inl x3), some (.inl x4), some (.inl x5), none] [] (ab_w M1 1 1 ((M1 1 1) + 1)) Q) ∧ ((M1 1 1) - x4 < 3 → ab_rg (x5 * 10) ∧ (0 ≤ M1 1 1 ∧ M1 1 1 < 250) ∧ ab_rg ((M1 2 (M1 1 1).toNat) - 48) ∧ ab_rg ((x5 * 10) + ((M1 2 (M1 1 1).toNat) - 48)) ∧ ab_rg ((M1 1 1) + 1) ∧ ab_wp d 31 13 [some (.inr (.inr 1)), some (.inr (.inr u)), some (.inl x2), some (.inl x3), some (.inl x4), some (.inl ((x5 * 10) + ((M1 2 (M1 1 1).toNat) - 48))), none] [] (ab_w M1 1 1 ((M1 1 1) + 1)) Q)))) : ab_wp d 31 13 [some (.inr (.inr 1)), some (.inr (.inr u)), some (.inl x2), some (.inl x3), some (.inl x4), some (.inl x5), none] [] M Q := by
  refine wp_sts 1 (pc' := 14) (ls' := [some (.inr (.inr 1)), some (.inr (.inr u)), some (.inl x2), some (.inl x3), some (.inl x4), some (.inl x5), none]) (st' := [.inr (.inr 1)]) (M' := M) rfl ?_
  refine g_getI rfl hS rfl ?_
  refine wp_sts 1 (pc' := 18) (ls' := [some (.inr (.inr 1)), some (.inr (.inr u)), some (.inl x2), some (.inl x3), some (.inl x4), some (.inl x5), none]) (st' := [.inr (.inr 1), .inl (M 1 1)]) (M' := M) rfl ?_
  refine g_getI rfl hS rfl ?_
  refine c2_ge rfl (fun c => ?_) (fun c => ?_)
  · replace h := h.1 c
    refine wp_sts 1 (pc' := 89) (ls' := [some (.inr (.inr 1)), some (.inr (.inr u)), some (.inl x2), some (.inl x3), some (.inl x4), some (.inl x5), none]) (st' := [.inr (.inr 1)]) (M' := M) rfl ?_
    refine g_getI rfl hS rfl ?_
    refine wp_sts 1 (pc' := 94) (ls' := [some (.inr (.inr 1)), some (.inr (.inr u)), some (.inl x2), some (.inl x3), some (.inl x4), some (.inl x5), none]) (st' := [.inl x4, .inl (M 1 1)]) (M' := M) rfl ?_
    obtain ⟨hf1, h⟩ := h
    refine w_isub rfl hf1 ?_
    refine wp_sts 2 (pc' := 99) (ls' := [some (.inr (.inr 1)), some (.inr (.inr u)), some (.inl x2), some (.inl x3), some (.inl x4), some (.inl x5), some (.inl ((M 1 1) - x4))]) (st' := [.inl ((M 1 1) - x4)]) (M' := M) rfl ?_
    refine c1_ne rfl (fun c => ?_) (fun c => ?_)
    · replace h := h.1 c
      refine wp_sts 2 (pc' := 113) (ls' := [some (.inr (.inr 1)), some (.inr (.inr u)), some (.inl x2), some (.inl x3), some (.inl x4), some (.inl x5), some (.inl ((M 1 1) - x4))]) (st' := [.inl 3, .inl ((M 1 1) - x4)]) (M' := M) rfl ?_
      refine c2_gt rfl (fun c => ?_) (fun c => ?_)
      · replace h := h.1 c
        exact h
      · replace h := h.2 c
        refine wp_sts 3 (pc' := 120) (ls' := [some (.inr (.inr 1)), some (.inr (.inr u)), some (.inl x2), some (.inl x3), some (.inl x4), some (.inl x5), some (.inl ((M 1 1) - x4))]) (st' := [.inl x3, .inl x2, .inl x5]) (M' := M) rfl ?_
        obtain ⟨r1, M1, he, hS1, h⟩ := h
        refine g_callI (c := 32) (as := [.inl x2, .inl x3]) (rs := [.inl x5]) rfl rfl hS hd rfl he ?_
        refine c2_lt rfl (fun c => ?_) (fun c => ?_)
        · replace h := h.1 c
          exact h
        · replace h := h.2 c
          refine wp_sts 5 (pc' := 132) (ls' := [some (.inr (.inr 1)), some (.inr (.inr u)), some (.inl x2), some (.inl x3), some (.inl x4), some (.inl x5), some (.inl ((M 1 1) - x4))]) (st' := [.inl x3, .inl x2, .inr (.inr u), .inr (.inr 1), .inl x5]) (M' := M1) rfl ?_
          obtain ⟨r2, M2, he, hS2, h⟩ := h
          refine g_callI (c := 33) (as := [.inr (.inr 1), .inr (.inr u), .inl x2, .inl x3]) (rs := [.inl x5]) rfl rfl hS1 hd rfl he ?_
          refine c2_le rfl (fun c => ?_) (fun c => ?_)
          · replace h := h.1 c
            refine wp_sts 5 (pc' := 152) (ls' := [some (.inr (.inr 1)), some (.inr (.inr u)), some (.inl x2), some (.inl x3), some (.inl x4), some (.inl x5), some (.inl ((M 1 1) - x4))]) (st' := [.inl x5, .inl x3, .inl x2, .inr (.inr u), .inr (.inr 1)]) (M' := M2) rfl ?_
            obtain ⟨r3, M3, he, hS3, h⟩ := h
            refine g_callI (c := 34) (as := [.inr (.inr 1), .inr (.inr u), .inl x2, .inl x3, .inl x5]) (rs := []) rfl rfl hS2 hd rfl he ?_
            refine c1_eq rfl (fun c => ?_) (fun c => ?_)
            · replace h := h.1 c
              exact h
            · replace h := h.2 c
              refine wp_sts 2 (pc' := 160) (ls' := [some (.inr (.inr 1)), some (.inr (.inr u)), some (.inl x2), some (.inl x3), some (.inl x4), some (.inl x5), some (.inl ((M 1 1) - x4))]) (st' := [.inl 4, .inr (.inr 1)]) (M' := M3) rfl ?_
              refine g_putI rfl hS3 rfl ?_
              exact h
          · replace h := h.2 c
            exact h
    · replace h := h.2 c
      refine wp_sts 2 (pc' := 104) (ls' := [some (.inr (.inr 1)), some (.inr (.inr u)), some (.inl x2), some (.inl x3), some (.inl x4), some (.inl x5), some (.inl ((M 1 1) - x4))]) (st' := [.inl 1, .inr (.inr 1)]) (M' := M) rfl ?_
      refine g_putI rfl hS rfl ?_
      refine wp_sts 1 (pc' := 163) (ls' := [some (.inr (.inr 1)), some (.inr (.inr u)), some (.inl x2), some (.inl x3), some (.inl x4), some (.inl x5), some (.inl ((M 1 1) - x4))]) (st' := []) (M' := (ab_w M 1 2 1)) rfl ?_
      exact h
  · replace h := h.2 c
    refine wp_sts 1 (pc' := 25) (ls' := [some (.inr (.inr 1)), some (.inr (.inr u)), some (.inl x2), some (.inl x3), some (.inl x4), some (.inl x5), none]) (st' := [.inr (.inr 1)]) (M' := M) rfl ?_
    refine g_getR (j := 2) rfl hS rfl (str_r hS 1 3 2 rfl) (by decide) ?_
    refine wp_sts 1 (pc' := 29) (ls' := [some (.inr (.inr 1)), some (.inr (.inr u)), some (.inl x2), some (.inl x3), some (.inl x4), some (.inl x5), none]) (st' := [.inr (.inr 1), .inr (.inr 2)]) (M' := M) rfl ?_
    refine g_getI rfl hS rfl ?_
    obtain ⟨hf1, h⟩ := h
    refine g_cald (n := 250) rfl hS rfl hf1 ?_
    obtain ⟨r1, M1, he, hS1, h⟩ := h
    refine g_callI (c := 30) (as := [.inl (M 2 (M 1 1).toNat)]) (rs := []) rfl rfl hS hd rfl he ?_
    refine c1_eq rfl (fun c => ?_) (fun c => ?_)
    · replace h := h.1 c
      refine wp_sts 1 (pc' := 89) (ls' := [some (.inr (.inr 1)), some (.inr (.inr u)), some (.inl x2), some (.inl x3), some (.inl x4), some (.inl x5), none]) (st' := [.inr (.inr 1)]) (M' := M1) rfl ?_
      refine g_getI rfl hS1 rfl ?_
      refine wp_sts 1 (pc' := 94) (ls' := [some (.inr (.inr 1)), some (.inr (.inr u)), some (.inl x2), some (.inl x3), some (.inl x4), some (.inl x5), none]) (st' := [.inl x4, .inl (M1 1 1)]) (M' := M1) rfl ?_
      obtain ⟨hf2, h⟩ := h
      refine w_isub rfl hf2 ?_
      refine wp_sts 2 (pc' := 99) (ls' := [some (.inr (.inr 1)), some (.inr (.inr u)), some (.inl x2), some (.inl x3), some (.inl x4), some (.inl x5), some (.inl ((M1 1 1) - x4))]) (st' := [.inl ((M1 1 1) - x4)]) (M' := M1) rfl ?_
      refine c1_ne rfl (fun c => ?_) (fun c => ?_)
      · replace h := h.1 c
        refine wp_sts 2 (pc' := 113) (ls' := [some (.inr (.inr 1)), some (.inr (.inr u)), some (.inl x2), some (.inl x3), some (.inl x4), some (.inl x5), some (.inl ((M1 1 1) - x4))]) (st' := [.inl 3, .inl ((M1 1 1) - x4)]) (M' := M1) rfl ?_
        refine c2_gt rfl (fun c => ?_) (fun c => ?_)
        · replace h := h.1 c
          exact h
        · replace h := h.2 c
          refine wp_sts 3 (pc' := 120) (ls' := [some (.inr (.inr 1)), some (.inr (.inr u)), some (.inl x2), some (.inl x3), some (.inl x4), some (.inl x5), some (.inl ((M1 1 1) - x4))]) (st' := [.inl x3, .inl x2, .inl x5]) (M' := M1) rfl ?_
          obtain ⟨r2, M2, he, hS2, h⟩ := h
          refine g_callI (c := 32) (as := [.inl x2, .inl x3]) (rs := [.inl x5]) rfl rfl hS1 hd rfl he ?_
          refine c2_lt rfl (fun c => ?_) (fun c => ?_)
          · replace h := h.1 c
            exact h
          · replace h := h.2 c
            refine wp_sts 5 (pc' := 132) (ls' := [some (.inr (.inr 1)), some (.inr (.inr u)), some (.inl x2), some (.inl x3), some (.inl x4), some (.inl x5), some (.inl ((M1 1 1) - x4))]) (st' := [.inl x3, .inl x2, .inr (.inr u), .inr (.inr 1), .inl x5]) (M' := M2) rfl ?_
            obtain ⟨r3, M3, he, hS3, h⟩ := h
            refine g_callI (c := 33) (as := [.inr (.inr 1), .inr (.inr u), .inl x2, .inl x3]) (rs := [.inl x5]) rfl rfl hS2 hd rfl he ?_
            refine c2_le rfl (fun c => ?_) (fun c => ?_)
            · replace h := h.1 c
              refine wp_sts 5 (pc' := 152) (ls' := [some (.inr (.inr 1)), some (.inr (.inr u)), some (.inl x2), some (.inl x3), some (.inl x4), some (.inl x5), some (.inl ((M1 1 1) - x4))]) (st' := [.inl x5, .inl x3, .inl x2, .inr (.inr u), .inr (.inr 1)]) (M' := M3) rfl ?_
              obtain ⟨r4, M4, he, hS4, h⟩ := h
              refine g_callI (c := 34) (as := [.inr (.inr 1), .inr (.inr u), .inl x2, .inl x3, .inl x5]) (rs := []) rfl rfl hS3 hd rfl he ?_
              refine c1_eq rfl (fun c => ?_) (fun c => ?_)
              · replace h := h.1 c
                exact h
              · replace h := h.2 c
                refine wp_sts 2 (pc' := 160) (ls' := [some (.inr (.inr 1)), some (.inr (.inr u)), some (.inl x2), some (.inl x3), some (.inl x4), some (.inl x5), some (.inl ((M1 1 1) - x4))]) (st' := [.inl 4, .inr (.inr 1)]) (M' := M4) rfl ?_
                refine g_putI rfl hS4 rfl ?_
                exact h
            · replace h := h.2 c
              exact h
      · replace h := h.2 c
        refine wp_sts 2 (pc' := 104) (ls' := [some (.inr (.inr 1)), some (.inr (.inr u)), some (.inl x2), some (.inl x3), some (.inl x4), some (.inl x5), some (.inl ((M1 1 1) - x4))]) (st' := [.inl 1, .inr (.inr 1)]) (M' := M1) rfl ?_
        refine g_putI rfl hS1 rfl ?_
        refine wp_sts 1 (pc' := 163) (ls' := [some (.inr (.inr 1)), some (.inr (.inr u)), some (.inl x2), some (.inl x3), some (.inl x4), some (.inl x5), some (.inl ((M1 1 1) - x4))]) (st' := []) (M' := (ab_w M1 1 2 1)) rfl ?_
        exact h
    · replace h := h.2 c
      refine wp_sts 1 (pc' := 40) (ls' := [some (.inr (.inr 1)), some (.inr (.inr u)), some (.inl x2), some (.inl x3), some (.inl x4), some (.inl x5), none]) (st' := [.inr (.inr 1)]) (M' := M1) rfl ?_
      refine g_getI rfl hS1 rfl ?_
      refine wp_sts 1 (pc' := 45) (ls' := [some (.inr (.inr 1)), some (.inr (.inr u)), some (.inl x2), some (.inl x3), some (.inl x4), some (.inl x5), none]) (st' := [.inl x4, .inl (M1 1 1)]) (M' := M1) rfl ?_
      obtain ⟨hf2, h⟩ := h
      refine w_isub rfl hf2 ?_
      refine wp_sts 1 (pc' := 47) (ls' := [some (.inr (.inr 1)), some (.inr (.inr u)), some (.inl x2), some (.inl x3), some (.inl x4), some (.inl x5), none]) (st' := [.inl 3, .inl ((M1 1 1) - x4)]) (M' := M1) rfl ?_
      refine c2_ge rfl (fun c => ?_) (fun c => ?_)
      · replace h := h.1 c
        refine wp_sts 4 (pc' := 77) (ls' := [some (.inr (.inr 1)), some (.inr (.inr u)), some (.inl x2), some (.inl x3), some (.inl x4), some (.inl x5), none]) (st' := [.inr (.inr 1), .inr (.inr 1)]) (M' := M1) rfl ?_
        refine g_getI rfl hS1 rfl ?_
        refine wp_sts 1 (pc' := 81) (ls' := [some (.inr (.inr 1)), some (.inr (.inr u)), some (.inl x2), some (.inl x3), some (.inl x4), some (.inl x5), none]) (st' := [.inl 1, .inl (M1 1 1), .inr (.inr 1)]) (M' := M1) rfl ?_
        obtain ⟨hf3, h⟩ := h
        refine w_iadd rfl hf3 ?_
        refine g_putI rfl hS1 rfl ?_
        refine wp_sts 1 (pc' := 13) (ls' := [some (.inr (.inr 1)), some (.inr (.inr u)), some (.inl x2), some (.inl x3), some (.inl x4), some (.inl x5), none]) (st' := []) (M' := (ab_w M1 1 1 ((M1 1 1) + 1))) rfl ?_
        exact h
      · replace h := h.2 c
        refine wp_sts 2 (pc' := 54) (ls' := [some (.inr (.inr 1)), some (.inr (.inr u)), some (.inl x2), some (.inl x3), some (.inl x4), some (.inl x5), none]) (st' := [.inl 10, .inl x5]) (M' := M1) rfl ?_
        obtain ⟨hf3, h⟩ := h
        refine w_imul rfl hf3 ?_
        refine wp_sts 1 (pc' := 56) (ls' := [some (.inr (.inr 1)), some (.inr (.inr u)), some (.inl x2), some (.inl x3), some (.inl x4), some (.inl x5), none]) (st' := [.inr (.inr 1), .inl (x5 * 10)]) (M' := M1) rfl ?_
        refine g_getR (j := 2) rfl hS1 rfl (str_r hS1 1 3 2 rfl) (by decide) ?_
        refine wp_sts 1 (pc' := 60) (ls' := [some (.inr (.inr 1)), some (.inr (.inr u)), some (.inl x2), some (.inl x3), some (.inl x4), some (.inl x5), none]) (st' := [.inr (.inr 1), .inr (.inr 2), .inl (x5 * 10)]) (M' := M1) rfl ?_
        refine g_getI rfl hS1 rfl ?_
        obtain ⟨hf4, h⟩ := h
        refine g_cald (n := 250) rfl hS1 rfl hf4 ?_
        refine wp_sts 1 (pc' := 66) (ls' := [some (.inr (.inr 1)), some (.inr (.inr u)), some (.inl x2), some (.inl x3), some (.inl x4), some (.inl x5), none]) (st' := [.inl 48, .inl (M1 2 (M1 1 1).toNat), .inl (x5 * 10)]) (M' := M1) rfl ?_
        obtain ⟨hf5, h⟩ := h
        refine w_isub rfl hf5 ?_
        obtain ⟨hf6, h⟩ := h
        refine w_iadd rfl hf6 ?_
        refine wp_sts 4 (pc' := 77) (ls' := [some (.inr (.inr 1)), some (.inr (.inr u)), some (.inl x2), some (.inl x3), some (.inl x4), some (.inl ((x5 * 10) + ((M1 2 (M1 1 1).toNat) - 48))), none]) (st' := [.inr (.inr 1), .inr (.inr 1)]) (M' := M1) rfl ?_
        refine g_getI rfl hS1 rfl ?_
        refine wp_sts 1 (pc' := 81) (ls' := [some (.inr (.inr 1)), some (.inr (.inr u)), some (.inl x2), some (.inl x3), some (.inl x4), some (.inl ((x5 * 10) + ((M1 2 (M1 1 1).toNat) - 48))), none]) (st' := [.inl 1, .inl (M1 1 1), .inr (.inr 1)]) (M' := M1) rfl ?_
        obtain ⟨hf7, h⟩ := h
        refine w_iadd rfl hf7 ?_
        refine g_putI rfl hS1 rfl ?_
        refine wp_sts 1 (pc' := 13) (ls' := [some (.inr (.inr 1)), some (.inr (.inr u)), some (.inl x2), some (.inl x3), some (.inl x4), some (.inl ((x5 * 10) + ((M1 2 (M1 1 1).toNat) - 48))), none]) (st' := []) (M' := (ab_w M1 1 1 ((M1 1 1) + 1))) rfl ?_
        exact h
/- Reader.readNumber, at 138 -/
set_option maxRecDepth 100000 in
theorem b31_138 {d t : Nat} {u : Nat} {x2 : Int} {x3 : Int} {x4 : Int} {x5 : Int} {x6 : Int} {M : ab_M} {Q : Option ab_V → ab_M → Prop} (hd : 1 ≤ d) (hS : pu_str t M) (hu : pu_T u) (h : ab_wp d 31 163 [some (.inr (.inr 1)), some (.inr (.inr u)), some (.inl x2), some (.inl x3), some (.inl x4), some (.inl x5), some (.inl x6)] [] (ab_w M 1 2 2) Q) : ab_wp d 31 138 [some (.inr (.inr 1)), some (.inr (.inr u)), some (.inl x2), some (.inl x3), some (.inl x4), some (.inl x5), some (.inl x6)] [] M Q := by
  refine wp_sts 2 (pc' := 140) (ls' := [some (.inr (.inr 1)), some (.inr (.inr u)), some (.inl x2), some (.inl x3), some (.inl x4), some (.inl x5), some (.inl x6)]) (st' := [.inl 2, .inr (.inr 1)]) (M' := M) rfl ?_
  refine g_putI rfl hS rfl ?_
  refine wp_sts 1 (pc' := 163) (ls' := [some (.inr (.inr 1)), some (.inr (.inr u)), some (.inl x2), some (.inl x3), some (.inl x4), some (.inl x5), some (.inl x6)]) (st' := []) (M' := (ab_w M 1 2 2)) rfl ?_
  exact h
/- Reader.readNumber, at 163 -/
set_option maxRecDepth 100000 in
theorem b31_163 {d t : Nat} {u : Nat} {x2 : Int} {x3 : Int} {x4 : Int} {x5 : Int} {x6 : Int} {M : ab_M} {Q : Option ab_V → ab_M → Prop} (hd : 1 ≤ d) (hS : pu_str t M) (hu : pu_T u) (h : (0 ≤ x3 ∧ x3 < 4) ∧ (M 1 2 ≠ 0 → Q none (ab_w (ab_w M 4 x3.toNat x5) 1 1 x4)) ∧ (M 1 2 = 0 → Q none (ab_w (ab_w M 4 x3.toNat x5) 1 1 (M 1 1)))) : ab_wp d 31 163 [some (.inr (.inr 1)), some (.inr (.inr u)), some (.inl x2), some (.inl x3), some (.inl x4), some (.inl x5), some (.inl x6)] [] M Q := by
  refine wp_sts 1 (pc' := 164) (ls' := [some (.inr (.inr 1)), some (.inr (.inr u)), some (.inl x2), some (.inl x3), some (.inl x4), some (.inl x5), some (.inl x6)]) (st' := [.inr (.inr 1)]) (M' := M) rfl ?_
  refine g_getR (j := 4) rfl hS rfl (str_r hS 1 5 4 rfl) (by decide) ?_
  refine wp_sts 2 (pc' := 170) (ls' := [some (.inr (.inr 1)), some (.inr (.inr u)), some (.inl x2), some (.inl x3), some (.inl x4), some (.inl x5), some (.inl x6)]) (st' := [.inl x5, .inl x3, .inr (.inr 4)]) (M' := M) rfl ?_
  obtain ⟨hf1, h⟩ := h
  refine g_iast (n := 4) rfl hS rfl hf1 ?_
  refine wp_sts 2 (pc' := 173) (ls' := [some (.inr (.inr 1)), some (.inr (.inr u)), some (.inl x2), some (.inl x3), some (.inl x4), some (.inl x5), some (.inl x6)]) (st' := [.inr (.inr 1), .inr (.inr 1)]) (M' := (ab_w M 4 x3.toNat x5)) rfl ?_
  refine g_getI rfl (str_a (k := 4) (f := x3.toNat) (v := x5) hS rfl) rfl ?_
  refine c1_ne rfl (fun c => ?_) (fun c => ?_)
  · replace h := h.1 c
    refine wp_sts 1 (pc' := 188) (ls' := [some (.inr (.inr 1)), some (.inr (.inr u)), some (.inl x2), some (.inl x3), some (.inl x4), some (.inl x5), some (.inl x6)]) (st' := [.inl x4, .inr (.inr 1)]) (M' := (ab_w M 4 x3.toNat x5)) rfl ?_
    refine g_putI rfl (str_a (k := 4) (f := x3.toNat) (v := x5) hS rfl) rfl ?_
    exact wp_ret rfl rfl rfl h
  · replace h := h.2 c
    refine wp_sts 1 (pc' := 180) (ls' := [some (.inr (.inr 1)), some (.inr (.inr u)), some (.inl x2), some (.inl x3), some (.inl x4), some (.inl x5), some (.inl x6)]) (st' := [.inr (.inr 1), .inr (.inr 1)]) (M' := (ab_w M 4 x3.toNat x5)) rfl ?_
    refine g_getI rfl (str_a (k := 4) (f := x3.toNat) (v := x5) hS rfl) rfl ?_
    refine wp_sts 1 (pc' := 188) (ls' := [some (.inr (.inr 1)), some (.inr (.inr u)), some (.inl x2), some (.inl x3), some (.inl x4), some (.inl x5), some (.inl x6)]) (st' := [.inl (M 1 1), .inr (.inr 1)]) (M' := (ab_w M 4 x3.toNat x5)) rfl ?_
    refine g_putI rfl (str_a (k := 4) (f := x3.toNat) (v := x5) hS rfl) rfl ?_
    exact wp_ret rfl rfl rfl h
/- Reader.lowest, at 0 -/
theorem b32_0 {d t : Nat}  {x0 : Int} {x1 : Int} {M : ab_M} {Q : Option ab_V → ab_M → Prop} (hd : 1 ≤ d) (hS : pu_str t M)  (h : (x0 < 0 ∨ 6 < x0 → Q (some (.inl 0)) M) ∧ (x0 = 0 → (x1 ≠ 0 → Q (some (.inl 0)) M) ∧ (x1 = 0 → Q (some (.inl 1)) M)) ∧ (x0 = 1 → (x1 ≠ 2 → Q (some (.inl 0)) M) ∧ (x1 = 2 → Q (some (.inl 1)) M)) ∧ (x0 = 2 → Q (some (.inl 0)) M) ∧ (x0 = 3 → (x1 = 1 → Q (some (.inl 1)) M) ∧ (x1 ≠ 1 → (x1 ≠ 2 → Q (some (.inl 0)) M) ∧ (x1 = 2 → Q (some (.inl 1)) M))) ∧ (x0 = 4 → Q (some (.inl 0)) M) ∧ (x0 = 5 → Q (some (.inl 0)) M) ∧ (x0 = 6 → Q (some (.inl 1)) M)) : ab_wp d 32 0 [some (.inl x0), some (.inl x1)] [] M Q := by
  refine wp_sts 1 (pc' := 1) (ls' := [some (.inl x0), some (.inl x1)]) (st' := [.inl x0]) (M' := M) rfl ?_
  refine w_sw (tg := [(0, 44), (1, 54), (2, 83), (3, 65), (4, 83), (5, 83), (6, 81)]) rfl rfl (fun c => ?_) ⟨fun c => ?_, fun c => ?_, fun c => ?_, fun c => ?_, fun c => ?_, fun c => ?_, fun c => ?_, trivial⟩
  · replace h := h.1 c
    refine wp_sts 1 (pc' := 84) (ls' := [some (.inl x0), some (.inl x1)]) (st' := [.inl 0]) (M' := M) rfl ?_
    exact wp_ret rfl rfl (z := (some (.inl 0), M)) rfl h
  · replace h := h.2.1 c
    refine wp_sts 1 (pc' := 45) (ls' := [some (.inl x0), some (.inl x1)]) (st' := [.inl x1]) (M' := M) rfl ?_
    refine c1_ne rfl (fun c => ?_) (fun c => ?_)
    · replace h := h.1 c
      refine wp_sts 1 (pc' := 53) (ls' := [some (.inl x0), some (.inl x1)]) (st' := [.inl 0]) (M' := M) rfl ?_
      exact wp_ret rfl rfl (z := (some (.inl 0), M)) rfl h
    · replace h := h.2 c
      refine wp_sts 2 (pc' := 53) (ls' := [some (.inl x0), some (.inl x1)]) (st' := [.inl 1]) (M' := M) rfl ?_
      exact wp_ret rfl rfl (z := (some (.inl 1), M)) rfl h
  · replace h := h.2.2.1 c
    refine wp_sts 2 (pc' := 56) (ls' := [some (.inl x0), some (.inl x1)]) (st' := [.inl 2, .inl x1]) (M' := M) rfl ?_
    refine c2_ne rfl (fun c => ?_) (fun c => ?_)
    · replace h := h.1 c
      refine wp_sts 1 (pc' := 64) (ls' := [some (.inl x0), some (.inl x1)]) (st' := [.inl 0]) (M' := M) rfl ?_
      exact wp_ret rfl rfl (z := (some (.inl 0), M)) rfl h
    · replace h := h.2 c
      refine wp_sts 2 (pc' := 64) (ls' := [some (.inl x0), some (.inl x1)]) (st' := [.inl 1]) (M' := M) rfl ?_
      exact wp_ret rfl rfl (z := (some (.inl 1), M)) rfl h
  · replace h := h.2.2.2.1 c
    refine wp_sts 1 (pc' := 84) (ls' := [some (.inl x0), some (.inl x1)]) (st' := [.inl 0]) (M' := M) rfl ?_
    exact wp_ret rfl rfl (z := (some (.inl 0), M)) rfl h
  · replace h := h.2.2.2.2.1 c
    refine wp_sts 2 (pc' := 67) (ls' := [some (.inl x0), some (.inl x1)]) (st' := [.inl 1, .inl x1]) (M' := M) rfl ?_
    refine c2_eq rfl (fun c => ?_) (fun c => ?_)
    · replace h := h.1 c
      refine wp_sts 2 (pc' := 80) (ls' := [some (.inl x0), some (.inl x1)]) (st' := [.inl 1]) (M' := M) rfl ?_
      exact wp_ret rfl rfl (z := (some (.inl 1), M)) rfl h
    · replace h := h.2 c
      refine wp_sts 2 (pc' := 72) (ls' := [some (.inl x0), some (.inl x1)]) (st' := [.inl 2, .inl x1]) (M' := M) rfl ?_
      refine c2_ne rfl (fun c => ?_) (fun c => ?_)
      · replace h := h.1 c
        refine wp_sts 1 (pc' := 80) (ls' := [some (.inl x0), some (.inl x1)]) (st' := [.inl 0]) (M' := M) rfl ?_
        exact wp_ret rfl rfl (z := (some (.inl 0), M)) rfl h
      · replace h := h.2 c
        refine wp_sts 2 (pc' := 80) (ls' := [some (.inl x0), some (.inl x1)]) (st' := [.inl 1]) (M' := M) rfl ?_
        exact wp_ret rfl rfl (z := (some (.inl 1), M)) rfl h
  · replace h := h.2.2.2.2.2.1 c
    refine wp_sts 1 (pc' := 84) (ls' := [some (.inl x0), some (.inl x1)]) (st' := [.inl 0]) (M' := M) rfl ?_
    exact wp_ret rfl rfl (z := (some (.inl 0), M)) rfl h
  · replace h := h.2.2.2.2.2.2.1 c
    refine wp_sts 1 (pc' := 84) (ls' := [some (.inl x0), some (.inl x1)]) (st' := [.inl 0]) (M' := M) rfl ?_
    exact wp_ret rfl rfl (z := (some (.inl 0), M)) rfl h
  · replace h := h.2.2.2.2.2.2.2 c
    refine wp_sts 1 (pc' := 82) (ls' := [some (.inl x0), some (.inl x1)]) (st' := [.inl 1]) (M' := M) rfl ?_
    exact wp_ret rfl rfl (z := (some (.inl 1), M)) rfl h
/- Reader.highest, at 0 -/
theorem b33_0 {d t : Nat} {u : Nat} {x2 : Int} {x3 : Int} {M : ab_M} {Q : Option ab_V → ab_M → Prop} (hd : 1 ≤ d) (hS : pu_str t M) (hu : pu_T u) (h : (x2 < 0 ∨ 5 < x2 → ab_rg ((ab_shl 1 (M u 3)) - 1) ∧ Q (some (.inl ((ab_shl 1 (M u 3)) - 1))) M) ∧ (x2 = 0 → (x3 ≠ 0 → ab_rg ((M 4 0) - 1) ∧ Q (some (.inl ((M 4 0) - 1))) M) ∧ (x3 = 0 → Q (some (.inl 7)) M)) ∧ (x2 = 1 → (2 ≤ x3 → Q (some (.inl 30)) M) ∧ (x3 < 2 → ab_rg ((M u 0) - 1) ∧ Q (some (.inl ((M u 0) - 1))) M)) ∧ (x2 = 2 → (x3 ≠ 0 → Q (some (.inl 99)) M) ∧ (x3 = 0 → ab_rg ((M u 0) - 1) ∧ Q (some (.inl ((M u 0) - 1))) M)) ∧ (x2 = 3 → (x3 ≠ 0 → (0 ≤ x3 ∧ x3 < 4) ∧ Q (some (.inl ((ab_stt 1003).getD x3.toNat 0))) M) ∧ (x3 = 0 → ab_rg ((M u 2) - 1) ∧ Q (some (.inl ((M u 2) - 1))) M)) ∧ (x2 = 4 → (x3 ≠ 0 → Q (some (.inl 99)) M) ∧ (x3 = 0 → ab_rg ((M u 3) - 1) ∧ Q (some (.inl ((M u 3) - 1))) M)) ∧ (x2 = 5 → (2 ≤ x3 → Q (some (.inl 10)) M) ∧ (x3 < 2 → ab_rg ((M u 2) - 1) ∧ Q (some (.inl ((M u 2) - 1))) M))) : ab_wp d 33 0 [some (.inr (.inr 1)), some (.inr (.inr u)), some (.inl x2), some (.inl x3)] [] M Q := by
  refine wp_sts 1 (pc' := 1) (ls' := [some (.inr (.inr 1)), some (.inr (.inr u)), some (.inl x2), some (.inl x3)]) (st' := [.inl x2]) (M' := M) rfl ?_
  refine w_sw (tg := [(0, 40), (1, 58), (2, 75), (3, 91), (4, 110), (5, 126)]) rfl rfl (fun c => ?_) ⟨fun c => ?_, fun c => ?_, fun c => ?_, fun c => ?_, fun c => ?_, fun c => ?_, trivial⟩
  · replace h := h.1 c
    refine wp_sts 2 (pc' := 145) (ls' := [some (.inr (.inr 1)), some (.inr (.inr u)), some (.inl x2), some (.inl x3)]) (st' := [.inr (.inr u), .inl 1]) (M' := M) rfl ?_
    refine g_getI rfl hS (fT (P := fun z => pu_bI z 3 8 = true) hu rfl rfl) ?_
    refine wp_sts 2 (pc' := 150) (ls' := [some (.inr (.inr 1)), some (.inr (.inr u)), some (.inl x2), some (.inl x3)]) (st' := [.inl 1, .inl (ab_shl 1 (M u 3))]) (M' := M) rfl ?_
    obtain ⟨hf1, h⟩ := h
    refine w_isub rfl hf1 ?_
    exact wp_ret rfl rfl (z := (some (.inl ((ab_shl 1 (M u 3)) - 1)), M)) rfl h
  · replace h := h.2.1 c
    refine wp_sts 1 (pc' := 41) (ls' := [some (.inr (.inr 1)), some (.inr (.inr u)), some (.inl x2), some (.inl x3)]) (st' := [.inl x3]) (M' := M) rfl ?_
    refine c1_ne rfl (fun c => ?_) (fun c => ?_)
    · replace h := h.1 c
      refine wp_sts 1 (pc' := 50) (ls' := [some (.inr (.inr 1)), some (.inr (.inr u)), some (.inl x2), some (.inl x3)]) (st' := [.inr (.inr 1)]) (M' := M) rfl ?_
      refine g_getR (j := 4) rfl hS rfl (str_r hS 1 5 4 rfl) (by decide) ?_
      refine wp_sts 1 (pc' := 54) (ls' := [some (.inr (.inr 1)), some (.inr (.inr u)), some (.inl x2), some (.inl x3)]) (st' := [.inl 0, .inr (.inr 4)]) (M' := M) rfl ?_
      refine g_iald (n := 4) rfl hS rfl (by decide) ?_
      refine wp_sts 1 (pc' := 56) (ls' := [some (.inr (.inr 1)), some (.inr (.inr u)), some (.inl x2), some (.inl x3)]) (st' := [.inl 1, .inl (M 4 0)]) (M' := M) rfl ?_
      obtain ⟨hf1, h⟩ := h
      refine w_isub rfl hf1 ?_
      exact wp_ret rfl rfl (z := (some (.inl ((M 4 0) - 1)), M)) rfl h
    · replace h := h.2 c
      refine wp_sts 2 (pc' := 57) (ls' := [some (.inr (.inr 1)), some (.inr (.inr u)), some (.inl x2), some (.inl x3)]) (st' := [.inl 7]) (M' := M) rfl ?_
      exact wp_ret rfl rfl (z := (some (.inl 7), M)) rfl h
  · replace h := h.2.2.1 c
    refine wp_sts 2 (pc' := 60) (ls' := [some (.inr (.inr 1)), some (.inr (.inr u)), some (.inl x2), some (.inl x3)]) (st' := [.inl 2, .inl x3]) (M' := M) rfl ?_
    refine c2_ge rfl (fun c => ?_) (fun c => ?_)
    · replace h := h.1 c
      refine wp_sts 1 (pc' := 74) (ls' := [some (.inr (.inr 1)), some (.inr (.inr u)), some (.inl x2), some (.inl x3)]) (st' := [.inl 30]) (M' := M) rfl ?_
      exact wp_ret rfl rfl (z := (some (.inl 30), M)) rfl h
    · replace h := h.2 c
      refine wp_sts 1 (pc' := 64) (ls' := [some (.inr (.inr 1)), some (.inr (.inr u)), some (.inl x2), some (.inl x3)]) (st' := [.inr (.inr u)]) (M' := M) rfl ?_
      refine g_getI rfl hS (fT (P := fun z => pu_bI z 0 8 = true) hu rfl rfl) ?_
      refine wp_sts 1 (pc' := 68) (ls' := [some (.inr (.inr 1)), some (.inr (.inr u)), some (.inl x2), some (.inl x3)]) (st' := [.inl 1, .inl (M u 0)]) (M' := M) rfl ?_
      obtain ⟨hf1, h⟩ := h
      refine w_isub rfl hf1 ?_
      refine wp_sts 1 (pc' := 74) (ls' := [some (.inr (.inr 1)), some (.inr (.inr u)), some (.inl x2), some (.inl x3)]) (st' := [.inl ((M u 0) - 1)]) (M' := M) rfl ?_
      exact wp_ret rfl rfl (z := (some (.inl ((M u 0) - 1)), M)) rfl h
  · replace h := h.2.2.2.1 c
    refine wp_sts 1 (pc' := 76) (ls' := [some (.inr (.inr 1)), some (.inr (.inr u)), some (.inl x2), some (.inl x3)]) (st' := [.inl x3]) (M' := M) rfl ?_
    refine c1_ne rfl (fun c => ?_) (fun c => ?_)
    · replace h := h.1 c
      refine wp_sts 1 (pc' := 90) (ls' := [some (.inr (.inr 1)), some (.inr (.inr u)), some (.inl x2), some (.inl x3)]) (st' := [.inl 99]) (M' := M) rfl ?_
      exact wp_ret rfl rfl (z := (some (.inl 99), M)) rfl h
    · replace h := h.2 c
      refine wp_sts 1 (pc' := 80) (ls' := [some (.inr (.inr 1)), some (.inr (.inr u)), some (.inl x2), some (.inl x3)]) (st' := [.inr (.inr u)]) (M' := M) rfl ?_
      refine g_getI rfl hS (fT (P := fun z => pu_bI z 0 8 = true) hu rfl rfl) ?_
      refine wp_sts 1 (pc' := 84) (ls' := [some (.inr (.inr 1)), some (.inr (.inr u)), some (.inl x2), some (.inl x3)]) (st' := [.inl 1, .inl (M u 0)]) (M' := M) rfl ?_
      obtain ⟨hf1, h⟩ := h
      refine w_isub rfl hf1 ?_
      refine wp_sts 1 (pc' := 90) (ls' := [some (.inr (.inr 1)), some (.inr (.inr u)), some (.inl x2), some (.inl x3)]) (st' := [.inl ((M u 0) - 1)]) (M' := M) rfl ?_
      exact wp_ret rfl rfl (z := (some (.inl ((M u 0) - 1)), M)) rfl h
  · replace h := h.2.2.2.2.1 c
    refine wp_sts 1 (pc' := 92) (ls' := [some (.inr (.inr 1)), some (.inr (.inr u)), some (.inl x2), some (.inl x3)]) (st' := [.inl x3]) (M' := M) rfl ?_
    refine c1_ne rfl (fun c => ?_) (fun c => ?_)
    · replace h := h.1 c
      refine wp_sts 2 (pc' := 108) (ls' := [some (.inr (.inr 1)), some (.inr (.inr u)), some (.inl x2), some (.inl x3)]) (st' := [.inl x3, .inr (.inr 1003)]) (M' := M) rfl ?_
      obtain ⟨hf1, h⟩ := h
      refine w_sld rfl (by decide) hf1 ?_
      exact wp_ret rfl rfl (z := (some (.inl ((ab_stt 1003).getD x3.toNat 0)), M)) rfl h
    · replace h := h.2 c
      refine wp_sts 1 (pc' := 96) (ls' := [some (.inr (.inr 1)), some (.inr (.inr u)), some (.inl x2), some (.inl x3)]) (st' := [.inr (.inr u)]) (M' := M) rfl ?_
      refine g_getI rfl hS (fT (P := fun z => pu_bI z 2 8 = true) hu rfl rfl) ?_
      refine wp_sts 1 (pc' := 100) (ls' := [some (.inr (.inr 1)), some (.inr (.inr u)), some (.inl x2), some (.inl x3)]) (st' := [.inl 1, .inl (M u 2)]) (M' := M) rfl ?_
      obtain ⟨hf1, h⟩ := h
      refine w_isub rfl hf1 ?_
      refine wp_sts 1 (pc' := 109) (ls' := [some (.inr (.inr 1)), some (.inr (.inr u)), some (.inl x2), some (.inl x3)]) (st' := [.inl ((M u 2) - 1)]) (M' := M) rfl ?_
      exact wp_ret rfl rfl (z := (some (.inl ((M u 2) - 1)), M)) rfl h
  · replace h := h.2.2.2.2.2.1 c
    refine wp_sts 1 (pc' := 111) (ls' := [some (.inr (.inr 1)), some (.inr (.inr u)), some (.inl x2), some (.inl x3)]) (st' := [.inl x3]) (M' := M) rfl ?_
    refine c1_ne rfl (fun c => ?_) (fun c => ?_)
    · replace h := h.1 c
      refine wp_sts 1 (pc' := 125) (ls' := [some (.inr (.inr 1)), some (.inr (.inr u)), some (.inl x2), some (.inl x3)]) (st' := [.inl 99]) (M' := M) rfl ?_
      exact wp_ret rfl rfl (z := (some (.inl 99), M)) rfl h
    · replace h := h.2 c
      refine wp_sts 1 (pc' := 115) (ls' := [some (.inr (.inr 1)), some (.inr (.inr u)), some (.inl x2), some (.inl x3)]) (st' := [.inr (.inr u)]) (M' := M) rfl ?_
      refine g_getI rfl hS (fT (P := fun z => pu_bI z 3 8 = true) hu rfl rfl) ?_
      refine wp_sts 1 (pc' := 119) (ls' := [some (.inr (.inr 1)), some (.inr (.inr u)), some (.inl x2), some (.inl x3)]) (st' := [.inl 1, .inl (M u 3)]) (M' := M) rfl ?_
      obtain ⟨hf1, h⟩ := h
      refine w_isub rfl hf1 ?_
      refine wp_sts 1 (pc' := 125) (ls' := [some (.inr (.inr 1)), some (.inr (.inr u)), some (.inl x2), some (.inl x3)]) (st' := [.inl ((M u 3) - 1)]) (M' := M) rfl ?_
      exact wp_ret rfl rfl (z := (some (.inl ((M u 3) - 1)), M)) rfl h
  · replace h := h.2.2.2.2.2.2 c
    refine wp_sts 2 (pc' := 128) (ls' := [some (.inr (.inr 1)), some (.inr (.inr u)), some (.inl x2), some (.inl x3)]) (st' := [.inl 2, .inl x3]) (M' := M) rfl ?_
    refine c2_ge rfl (fun c => ?_) (fun c => ?_)
    · replace h := h.1 c
      refine wp_sts 1 (pc' := 142) (ls' := [some (.inr (.inr 1)), some (.inr (.inr u)), some (.inl x2), some (.inl x3)]) (st' := [.inl 10]) (M' := M) rfl ?_
      exact wp_ret rfl rfl (z := (some (.inl 10), M)) rfl h
    · replace h := h.2 c
      refine wp_sts 1 (pc' := 132) (ls' := [some (.inr (.inr 1)), some (.inr (.inr u)), some (.inl x2), some (.inl x3)]) (st' := [.inr (.inr u)]) (M' := M) rfl ?_
      refine g_getI rfl hS (fT (P := fun z => pu_bI z 2 8 = true) hu rfl rfl) ?_
      refine wp_sts 1 (pc' := 136) (ls' := [some (.inr (.inr 1)), some (.inr (.inr u)), some (.inl x2), some (.inl x3)]) (st' := [.inl 1, .inl (M u 2)]) (M' := M) rfl ?_
      obtain ⟨hf1, h⟩ := h
      refine w_isub rfl hf1 ?_
      refine wp_sts 1 (pc' := 142) (ls' := [some (.inr (.inr 1)), some (.inr (.inr u)), some (.inl x2), some (.inl x3)]) (st' := [.inl ((M u 2) - 1)]) (M' := M) rfl ?_
      exact wp_ret rfl rfl (z := (some (.inl ((M u 2) - 1)), M)) rfl h
/- Reader.again, at 0 -/
theorem b34_0 {d t : Nat} {u : Nat} {x2 : Int} {x3 : Int} {x4 : Int} {M : ab_M} {Q : Option ab_V → ab_M → Prop} (hd : 1 ≤ d) (hS : pu_str t M) (hu : pu_T u) (h : (x2 ≠ 4 → (x3 = 1 → (x2 ≠ 1 → (x2 ≠ 5 → ab_wp d 34 112 [some (.inr (.inr 1)), some (.inr (.inr u)), some (.inl x2), some (.inl x3), some (.inl x4)] [.inl 0] M Q) ∧ (x2 = 5 → (x4 = M 4 0 → ab_wp d 34 112 [some (.inr (.inr 1)), some (.inr (.inr u)), some (.inl x2), some (.inl x3), some (.inl x4)] [.inl 1] M Q) ∧ (x4 ≠ M 4 0 → (0 ≤ M 4 0 ∧ M 4 0 < 6) ∧ (0 ≤ x4 ∧ x4 < 6) ∧ (M (u + 25 + (M 4 0).toNat) x4.toNat = (-1) → ab_wp d 34 112 [some (.inr (.inr 1)), some (.inr (.inr u)), some (.inl x2), some (.inl x3), some (.inl x4)] [.inl 0] M Q) ∧ (M (u + 25 + (M 4 0).toNat) x4.toNat ≠ (-1) → ab_wp d 34 112 [some (.inr (.inr 1)), some (.inr (.inr u)), some (.inl x2), some (.inl x3), some (.inl x4)] [.inl 1] M Q)))) ∧ (x2 = 1 → (x4 = M 4 0 → Q (some (.inl 1)) M) ∧ (x4 ≠ M 4 0 → (0 ≤ M 4 0 ∧ M 4 0 < 7) ∧ (0 ≤ x4 ∧ x4 < 7) ∧ (M (u + 2 + (M 4 0).toNat) x4.toNat = (-1) → Q (some (.inl 0)) M) ∧ (M (u + 2 + (M 4 0).toNat) x4.toNat ≠ (-1) → Q (some (.inl 1)) M)))) ∧ (x3 ≠ 1 → Q (some (.inl 0)) M)) ∧ (x2 = 4 → (x3 ≠ 0 → (x3 = 1 → (x2 ≠ 1 → (x2 ≠ 5 → ab_wp d 34 112 [some (.inr (.inr 1)), some (.inr (.inr u)), some (.inl x2), some (.inl x3), some (.inl x4)] [.inl 0] M Q) ∧ (x2 = 5 → (x4 = M 4 0 → ab_wp d 34 112 [some (.inr (.inr 1)), some (.inr (.inr u)), some (.inl x2), some (.inl x3), some (.inl x4)] [.inl 1] M Q) ∧ (x4 ≠ M 4 0 → (0 ≤ M 4 0 ∧ M 4 0 < 6) ∧ (0 ≤ x4 ∧ x4 < 6) ∧ (M (u + 25 + (M 4 0).toNat) x4.toNat = (-1) → ab_wp d 34 112 [some (.inr (.inr 1)), some (.inr (.inr u)), some (.inl x2), some (.inl x3), some (.inl x4)] [.inl 0] M Q) ∧ (M (u + 25 + (M 4 0).toNat) x4.toNat ≠ (-1) → ab_wp d 34 112 [some (.inr (.inr 1)), some (.inr (.inr u)), some (.inl x2), some (.inl x3), some (.inl x4)] [.inl 1] M Q)))) ∧ (x2 = 1 → (x4 = M 4 0 → Q (some (.inl 1)) M) ∧ (x4 ≠ M 4 0 → (0 ≤ M 4 0 ∧ M 4 0 < 7) ∧ (0 ≤ x4 ∧ x4 < 7) ∧ (M (u + 2 + (M 4 0).toNat) x4.toNat = (-1) → Q (some (.inl 0)) M) ∧ (M (u + 2 + (M 4 0).toNat) x4.toNat ≠ (-1) → Q (some (.inl 1)) M)))) ∧ (x3 ≠ 1 → Q (some (.inl 0)) M)) ∧ (x3 = 0 → (0 ≤ x4 ∧ x4 < 6) ∧ (M (u + 23) x4.toNat = (-1) → Q (some (.inl 0)) M) ∧ (M (u + 23) x4.toNat ≠ (-1) → Q (some (.inl 1)) M)))) : ab_wp d 34 0 [some (.inr (.inr 1)), some (.inr (.inr u)), some (.inl x2), some (.inl x3), some (.inl x4)] [] M Q := by
  refine wp_sts 2 (pc' := 2) (ls' := [some (.inr (.inr 1)), some (.inr (.inr u)), some (.inl x2), some (.inl x3), some (.inl x4)]) (st' := [.inl 4, .inl x2]) (M' := M) rfl ?_
  refine c2_ne rfl (fun c => ?_) (fun c => ?_)
  · replace h := h.1 c
    refine wp_sts 2 (pc' := 28) (ls' := [some (.inr (.inr 1)), some (.inr (.inr u)), some (.inl x2), some (.inl x3), some (.inl x4)]) (st' := [.inl 1, .inl x3]) (M' := M) rfl ?_
    refine c2_eq rfl (fun c => ?_) (fun c => ?_)
    · replace h := h.1 c
      refine wp_sts 2 (pc' := 35) (ls' := [some (.inr (.inr 1)), some (.inr (.inr u)), some (.inl x2), some (.inl x3), some (.inl x4)]) (st' := [.inl 1, .inl x2]) (M' := M) rfl ?_
      refine c2_ne rfl (fun c => ?_) (fun c => ?_)
      · replace h := h.1 c
        refine wp_sts 2 (pc' := 75) (ls' := [some (.inr (.inr 1)), some (.inr (.inr u)), some (.inl x2), some (.inl x3), some (.inl x4)]) (st' := [.inl 5, .inl x2]) (M' := M) rfl ?_
        refine c2_ne rfl (fun c => ?_) (fun c => ?_)
        · replace h := h.1 c
          refine wp_sts 1 (pc' := 112) (ls' := [some (.inr (.inr 1)), some (.inr (.inr u)), some (.inl x2), some (.inl x3), some (.inl x4)]) (st' := [.inl 0]) (M' := M) rfl ?_
          exact h
        · replace h := h.2 c
          refine wp_sts 2 (pc' := 81) (ls' := [some (.inr (.inr 1)), some (.inr (.inr u)), some (.inl x2), some (.inl x3), some (.inl x4)]) (st' := [.inr (.inr 1), .inl x4]) (M' := M) rfl ?_
          refine g_getR (j := 4) rfl hS rfl (str_r hS 1 5 4 rfl) (by decide) ?_
          refine wp_sts 1 (pc' := 85) (ls' := [some (.inr (.inr 1)), some (.inr (.inr u)), some (.inl x2), some (.inl x3), some (.inl x4)]) (st' := [.inl 0, .inr (.inr 4), .inl x4]) (M' := M) rfl ?_
          refine g_iald (n := 4) rfl hS rfl (by decide) ?_
          refine c2_eq rfl (fun c => ?_) (fun c => ?_)
          · replace h := h.1 c
            refine wp_sts 2 (pc' := 112) (ls' := [some (.inr (.inr 1)), some (.inr (.inr u)), some (.inl x2), some (.inl x3), some (.inl x4)]) (st' := [.inl 1]) (M' := M) rfl ?_
            exact h
          · replace h := h.2 c
            refine wp_sts 1 (pc' := 90) (ls' := [some (.inr (.inr 1)), some (.inr (.inr u)), some (.inl x2), some (.inl x3), some (.inl x4)]) (st' := [.inr (.inr u)]) (M' := M) rfl ?_
            refine g_getR (j := u + 24) rfl hS (fT (P := fun z => pu_bJ 2 z 14 8 = true) hu rfl rfl) (fT (P := fun z => M z 14 = ((z + 24 : Nat) : Int)) hu (str_r hS 5 14 29 rfl) (str_r hS 37 14 61 rfl)) (fT (P := fun z => z + 24 < 1000) hu (by decide) (by decide)) ?_
            refine wp_sts 1 (pc' := 94) (ls' := [some (.inr (.inr 1)), some (.inr (.inr u)), some (.inl x2), some (.inl x3), some (.inl x4)]) (st' := [.inr (.inr 1), .inr (.inr (u + 24))]) (M' := M) rfl ?_
            refine g_getR (j := 4) rfl hS rfl (str_r hS 1 5 4 rfl) (by decide) ?_
            refine wp_sts 1 (pc' := 98) (ls' := [some (.inr (.inr 1)), some (.inr (.inr u)), some (.inl x2), some (.inl x3), some (.inl x4)]) (st' := [.inl 0, .inr (.inr 4), .inr (.inr (u + 24))]) (M' := M) rfl ?_
            refine g_iald (n := 4) rfl hS rfl (by decide) ?_
            obtain ⟨hf1, h⟩ := h
            refine g_aald (n := 6) (j := u + 25 + (M 4 0).toNat) rfl hS (fT (P := fun z => ab_arB 24 (z + 24) 6 = true) hu rfl rfl) hf1 (fT (P := fun z => M (z + 24) (M 4 0).toNat = ((z + 25 + (M 4 0).toNat : Nat) : Int)) hu (row_rf (n := 6) hS (by decide) hf1) (row_rf (n := 6) hS (by decide) hf1)) (fT (P := fun z => z + 25 + (M 4 0).toNat < 1000) hu (row_lt (n := 6) (by decide) hf1) (row_lt (n := 6) (by decide) hf1)) ?_
            refine wp_sts 1 (pc' := 102) (ls' := [some (.inr (.inr 1)), some (.inr (.inr u)), some (.inl x2), some (.inl x3), some (.inl x4)]) (st' := [.inl x4, .inr (.inr (u + 25 + (M 4 0).toNat))]) (M' := M) rfl ?_
            obtain ⟨hf2, h⟩ := h
            refine g_iald (n := 6) rfl hS (fT (P := fun z => ab_arB 20 (z + 25 + (M 4 0).toNat) 6 = true) hu (row_ar (n := 6) (by decide) hf1) (row_ar (n := 6) (by decide) hf1)) hf2 ?_
            refine wp_sts 1 (pc' := 104) (ls' := [some (.inr (.inr 1)), some (.inr (.inr u)), some (.inl x2), some (.inl x3), some (.inl x4)]) (st' := [.inl ((-1)), .inl (M (u + 25 + (M 4 0).toNat) x4.toNat)]) (M' := M) rfl ?_
            refine c2_eq rfl (fun c => ?_) (fun c => ?_)
            · replace h := h.1 c
              refine wp_sts 1 (pc' := 112) (ls' := [some (.inr (.inr 1)), some (.inr (.inr u)), some (.inl x2), some (.inl x3), some (.inl x4)]) (st' := [.inl 0]) (M' := M) rfl ?_
              exact h
            · replace h := h.2 c
              refine wp_sts 2 (pc' := 112) (ls' := [some (.inr (.inr 1)), some (.inr (.inr u)), some (.inl x2), some (.inl x3), some (.inl x4)]) (st' := [.inl 1]) (M' := M) rfl ?_
              exact h
      · replace h := h.2 c
        refine wp_sts 2 (pc' := 41) (ls' := [some (.inr (.inr 1)), some (.inr (.inr u)), some (.inl x2), some (.inl x3), some (.inl x4)]) (st' := [.inr (.inr 1), .inl x4]) (M' := M) rfl ?_
        refine g_getR (j := 4) rfl hS rfl (str_r hS 1 5 4 rfl) (by decide) ?_
        refine wp_sts 1 (pc' := 45) (ls' := [some (.inr (.inr 1)), some (.inr (.inr u)), some (.inl x2), some (.inl x3), some (.inl x4)]) (st' := [.inl 0, .inr (.inr 4), .inl x4]) (M' := M) rfl ?_
        refine g_iald (n := 4) rfl hS rfl (by decide) ?_
        refine c2_eq rfl (fun c => ?_) (fun c => ?_)
        · replace h := h.1 c
          refine wp_sts 2 (pc' := 72) (ls' := [some (.inr (.inr 1)), some (.inr (.inr u)), some (.inl x2), some (.inl x3), some (.inl x4)]) (st' := [.inl 1]) (M' := M) rfl ?_
          exact g_retB rfl (by decide) h
        · replace h := h.2 c
          refine wp_sts 1 (pc' := 50) (ls' := [some (.inr (.inr 1)), some (.inr (.inr u)), some (.inl x2), some (.inl x3), some (.inl x4)]) (st' := [.inr (.inr u)]) (M' := M) rfl ?_
          refine g_getR (j := u + 1) rfl hS (fT (P := fun z => pu_bJ 2 z 5 8 = true) hu rfl rfl) (fT (P := fun z => M z 5 = ((z + 1 : Nat) : Int)) hu (str_r hS 5 5 6 rfl) (str_r hS 37 5 38 rfl)) (fT (P := fun z => z + 1 < 1000) hu (by decide) (by decide)) ?_
          refine wp_sts 1 (pc' := 54) (ls' := [some (.inr (.inr 1)), some (.inr (.inr u)), some (.inl x2), some (.inl x3), some (.inl x4)]) (st' := [.inr (.inr 1), .inr (.inr (u + 1))]) (M' := M) rfl ?_
          refine g_getR (j := 4) rfl hS rfl (str_r hS 1 5 4 rfl) (by decide) ?_
          refine wp_sts 1 (pc' := 58) (ls' := [some (.inr (.inr 1)), some (.inr (.inr u)), some (.inl x2), some (.inl x3), some (.inl x4)]) (st' := [.inl 0, .inr (.inr 4), .inr (.inr (u + 1))]) (M' := M) rfl ?_
          refine g_iald (n := 4) rfl hS rfl (by decide) ?_
          obtain ⟨hf1, h⟩ := h
          refine g_aald (n := 7) (j := u + 2 + (M 4 0).toNat) rfl hS (fT (P := fun z => ab_arB 24 (z + 1) 7 = true) hu rfl rfl) hf1 (fT (P := fun z => M (z + 1) (M 4 0).toNat = ((z + 2 + (M 4 0).toNat : Nat) : Int)) hu (row_rf (n := 7) hS (by decide) hf1) (row_rf (n := 7) hS (by decide) hf1)) (fT (P := fun z => z + 2 + (M 4 0).toNat < 1000) hu (row_lt (n := 7) (by decide) hf1) (row_lt (n := 7) (by decide) hf1)) ?_
          refine wp_sts 1 (pc' := 62) (ls' := [some (.inr (.inr 1)), some (.inr (.inr u)), some (.inl x2), some (.inl x3), some (.inl x4)]) (st' := [.inl x4, .inr (.inr (u + 2 + (M 4 0).toNat))]) (M' := M) rfl ?_
          obtain ⟨hf2, h⟩ := h
          refine g_iald (n := 7) rfl hS (fT (P := fun z => ab_arB 20 (z + 2 + (M 4 0).toNat) 7 = true) hu (row_ar (n := 7) (by decide) hf1) (row_ar (n := 7) (by decide) hf1)) hf2 ?_
          refine wp_sts 1 (pc' := 64) (ls' := [some (.inr (.inr 1)), some (.inr (.inr u)), some (.inl x2), some (.inl x3), some (.inl x4)]) (st' := [.inl ((-1)), .inl (M (u + 2 + (M 4 0).toNat) x4.toNat)]) (M' := M) rfl ?_
          refine c2_eq rfl (fun c => ?_) (fun c => ?_)
          · replace h := h.1 c
            refine wp_sts 1 (pc' := 72) (ls' := [some (.inr (.inr 1)), some (.inr (.inr u)), some (.inl x2), some (.inl x3), some (.inl x4)]) (st' := [.inl 0]) (M' := M) rfl ?_
            exact g_retB rfl (by decide) h
          · replace h := h.2 c
            refine wp_sts 2 (pc' := 72) (ls' := [some (.inr (.inr 1)), some (.inr (.inr u)), some (.inl x2), some (.inl x3), some (.inl x4)]) (st' := [.inl 1]) (M' := M) rfl ?_
            exact g_retB rfl (by decide) h
    · replace h := h.2 c
      refine wp_sts 1 (pc' := 32) (ls' := [some (.inr (.inr 1)), some (.inr (.inr u)), some (.inl x2), some (.inl x3), some (.inl x4)]) (st' := [.inl 0]) (M' := M) rfl ?_
      exact g_retB rfl (by decide) h
  · replace h := h.2 c
    refine wp_sts 1 (pc' := 6) (ls' := [some (.inr (.inr 1)), some (.inr (.inr u)), some (.inl x2), some (.inl x3), some (.inl x4)]) (st' := [.inl x3]) (M' := M) rfl ?_
    refine c1_ne rfl (fun c => ?_) (fun c => ?_)
    · replace h := h.1 c
      refine wp_sts 2 (pc' := 28) (ls' := [some (.inr (.inr 1)), some (.inr (.inr u)), some (.inl x2), some (.inl x3), some (.inl x4)]) (st' := [.inl 1, .inl x3]) (M' := M) rfl ?_
      refine c2_eq rfl (fun c => ?_) (fun c => ?_)
      · replace h := h.1 c
        refine wp_sts 2 (pc' := 35) (ls' := [some (.inr (.inr 1)), some (.inr (.inr u)), some (.inl x2), some (.inl x3), some (.inl x4)]) (st' := [.inl 1, .inl x2]) (M' := M) rfl ?_
        refine c2_ne rfl (fun c => ?_) (fun c => ?_)
        · replace h := h.1 c
          refine wp_sts 2 (pc' := 75) (ls' := [some (.inr (.inr 1)), some (.inr (.inr u)), some (.inl x2), some (.inl x3), some (.inl x4)]) (st' := [.inl 5, .inl x2]) (M' := M) rfl ?_
          refine c2_ne rfl (fun c => ?_) (fun c => ?_)
          · replace h := h.1 c
            refine wp_sts 1 (pc' := 112) (ls' := [some (.inr (.inr 1)), some (.inr (.inr u)), some (.inl x2), some (.inl x3), some (.inl x4)]) (st' := [.inl 0]) (M' := M) rfl ?_
            exact h
          · replace h := h.2 c
            refine wp_sts 2 (pc' := 81) (ls' := [some (.inr (.inr 1)), some (.inr (.inr u)), some (.inl x2), some (.inl x3), some (.inl x4)]) (st' := [.inr (.inr 1), .inl x4]) (M' := M) rfl ?_
            refine g_getR (j := 4) rfl hS rfl (str_r hS 1 5 4 rfl) (by decide) ?_
            refine wp_sts 1 (pc' := 85) (ls' := [some (.inr (.inr 1)), some (.inr (.inr u)), some (.inl x2), some (.inl x3), some (.inl x4)]) (st' := [.inl 0, .inr (.inr 4), .inl x4]) (M' := M) rfl ?_
            refine g_iald (n := 4) rfl hS rfl (by decide) ?_
            refine c2_eq rfl (fun c => ?_) (fun c => ?_)
            · replace h := h.1 c
              refine wp_sts 2 (pc' := 112) (ls' := [some (.inr (.inr 1)), some (.inr (.inr u)), some (.inl x2), some (.inl x3), some (.inl x4)]) (st' := [.inl 1]) (M' := M) rfl ?_
              exact h
            · replace h := h.2 c
              refine wp_sts 1 (pc' := 90) (ls' := [some (.inr (.inr 1)), some (.inr (.inr u)), some (.inl x2), some (.inl x3), some (.inl x4)]) (st' := [.inr (.inr u)]) (M' := M) rfl ?_
              refine g_getR (j := u + 24) rfl hS (fT (P := fun z => pu_bJ 2 z 14 8 = true) hu rfl rfl) (fT (P := fun z => M z 14 = ((z + 24 : Nat) : Int)) hu (str_r hS 5 14 29 rfl) (str_r hS 37 14 61 rfl)) (fT (P := fun z => z + 24 < 1000) hu (by decide) (by decide)) ?_
              refine wp_sts 1 (pc' := 94) (ls' := [some (.inr (.inr 1)), some (.inr (.inr u)), some (.inl x2), some (.inl x3), some (.inl x4)]) (st' := [.inr (.inr 1), .inr (.inr (u + 24))]) (M' := M) rfl ?_
              refine g_getR (j := 4) rfl hS rfl (str_r hS 1 5 4 rfl) (by decide) ?_
              refine wp_sts 1 (pc' := 98) (ls' := [some (.inr (.inr 1)), some (.inr (.inr u)), some (.inl x2), some (.inl x3), some (.inl x4)]) (st' := [.inl 0, .inr (.inr 4), .inr (.inr (u + 24))]) (M' := M) rfl ?_
              refine g_iald (n := 4) rfl hS rfl (by decide) ?_
              obtain ⟨hf1, h⟩ := h
              refine g_aald (n := 6) (j := u + 25 + (M 4 0).toNat) rfl hS (fT (P := fun z => ab_arB 24 (z + 24) 6 = true) hu rfl rfl) hf1 (fT (P := fun z => M (z + 24) (M 4 0).toNat = ((z + 25 + (M 4 0).toNat : Nat) : Int)) hu (row_rf (n := 6) hS (by decide) hf1) (row_rf (n := 6) hS (by decide) hf1)) (fT (P := fun z => z + 25 + (M 4 0).toNat < 1000) hu (row_lt (n := 6) (by decide) hf1) (row_lt (n := 6) (by decide) hf1)) ?_
              refine wp_sts 1 (pc' := 102) (ls' := [some (.inr (.inr 1)), some (.inr (.inr u)), some (.inl x2), some (.inl x3), some (.inl x4)]) (st' := [.inl x4, .inr (.inr (u + 25 + (M 4 0).toNat))]) (M' := M) rfl ?_
              obtain ⟨hf2, h⟩ := h
              refine g_iald (n := 6) rfl hS (fT (P := fun z => ab_arB 20 (z + 25 + (M 4 0).toNat) 6 = true) hu (row_ar (n := 6) (by decide) hf1) (row_ar (n := 6) (by decide) hf1)) hf2 ?_
              refine wp_sts 1 (pc' := 104) (ls' := [some (.inr (.inr 1)), some (.inr (.inr u)), some (.inl x2), some (.inl x3), some (.inl x4)]) (st' := [.inl ((-1)), .inl (M (u + 25 + (M 4 0).toNat) x4.toNat)]) (M' := M) rfl ?_
              refine c2_eq rfl (fun c => ?_) (fun c => ?_)
              · replace h := h.1 c
                refine wp_sts 1 (pc' := 112) (ls' := [some (.inr (.inr 1)), some (.inr (.inr u)), some (.inl x2), some (.inl x3), some (.inl x4)]) (st' := [.inl 0]) (M' := M) rfl ?_
                exact h
              · replace h := h.2 c
                refine wp_sts 2 (pc' := 112) (ls' := [some (.inr (.inr 1)), some (.inr (.inr u)), some (.inl x2), some (.inl x3), some (.inl x4)]) (st' := [.inl 1]) (M' := M) rfl ?_
                exact h
        · replace h := h.2 c
          refine wp_sts 2 (pc' := 41) (ls' := [some (.inr (.inr 1)), some (.inr (.inr u)), some (.inl x2), some (.inl x3), some (.inl x4)]) (st' := [.inr (.inr 1), .inl x4]) (M' := M) rfl ?_
          refine g_getR (j := 4) rfl hS rfl (str_r hS 1 5 4 rfl) (by decide) ?_
          refine wp_sts 1 (pc' := 45) (ls' := [some (.inr (.inr 1)), some (.inr (.inr u)), some (.inl x2), some (.inl x3), some (.inl x4)]) (st' := [.inl 0, .inr (.inr 4), .inl x4]) (M' := M) rfl ?_
          refine g_iald (n := 4) rfl hS rfl (by decide) ?_
          refine c2_eq rfl (fun c => ?_) (fun c => ?_)
          · replace h := h.1 c
            refine wp_sts 2 (pc' := 72) (ls' := [some (.inr (.inr 1)), some (.inr (.inr u)), some (.inl x2), some (.inl x3), some (.inl x4)]) (st' := [.inl 1]) (M' := M) rfl ?_
            exact g_retB rfl (by decide) h
          · replace h := h.2 c
            refine wp_sts 1 (pc' := 50) (ls' := [some (.inr (.inr 1)), some (.inr (.inr u)), some (.inl x2), some (.inl x3), some (.inl x4)]) (st' := [.inr (.inr u)]) (M' := M) rfl ?_
            refine g_getR (j := u + 1) rfl hS (fT (P := fun z => pu_bJ 2 z 5 8 = true) hu rfl rfl) (fT (P := fun z => M z 5 = ((z + 1 : Nat) : Int)) hu (str_r hS 5 5 6 rfl) (str_r hS 37 5 38 rfl)) (fT (P := fun z => z + 1 < 1000) hu (by decide) (by decide)) ?_
            refine wp_sts 1 (pc' := 54) (ls' := [some (.inr (.inr 1)), some (.inr (.inr u)), some (.inl x2), some (.inl x3), some (.inl x4)]) (st' := [.inr (.inr 1), .inr (.inr (u + 1))]) (M' := M) rfl ?_
            refine g_getR (j := 4) rfl hS rfl (str_r hS 1 5 4 rfl) (by decide) ?_
            refine wp_sts 1 (pc' := 58) (ls' := [some (.inr (.inr 1)), some (.inr (.inr u)), some (.inl x2), some (.inl x3), some (.inl x4)]) (st' := [.inl 0, .inr (.inr 4), .inr (.inr (u + 1))]) (M' := M) rfl ?_
            refine g_iald (n := 4) rfl hS rfl (by decide) ?_
            obtain ⟨hf1, h⟩ := h
            refine g_aald (n := 7) (j := u + 2 + (M 4 0).toNat) rfl hS (fT (P := fun z => ab_arB 24 (z + 1) 7 = true) hu rfl rfl) hf1 (fT (P := fun z => M (z + 1) (M 4 0).toNat = ((z + 2 + (M 4 0).toNat : Nat) : Int)) hu (row_rf (n := 7) hS (by decide) hf1) (row_rf (n := 7) hS (by decide) hf1)) (fT (P := fun z => z + 2 + (M 4 0).toNat < 1000) hu (row_lt (n := 7) (by decide) hf1) (row_lt (n := 7) (by decide) hf1)) ?_
            refine wp_sts 1 (pc' := 62) (ls' := [some (.inr (.inr 1)), some (.inr (.inr u)), some (.inl x2), some (.inl x3), some (.inl x4)]) (st' := [.inl x4, .inr (.inr (u + 2 + (M 4 0).toNat))]) (M' := M) rfl ?_
            obtain ⟨hf2, h⟩ := h
            refine g_iald (n := 7) rfl hS (fT (P := fun z => ab_arB 20 (z + 2 + (M 4 0).toNat) 7 = true) hu (row_ar (n := 7) (by decide) hf1) (row_ar (n := 7) (by decide) hf1)) hf2 ?_
            refine wp_sts 1 (pc' := 64) (ls' := [some (.inr (.inr 1)), some (.inr (.inr u)), some (.inl x2), some (.inl x3), some (.inl x4)]) (st' := [.inl ((-1)), .inl (M (u + 2 + (M 4 0).toNat) x4.toNat)]) (M' := M) rfl ?_
            refine c2_eq rfl (fun c => ?_) (fun c => ?_)
            · replace h := h.1 c
              refine wp_sts 1 (pc' := 72) (ls' := [some (.inr (.inr 1)), some (.inr (.inr u)), some (.inl x2), some (.inl x3), some (.inl x4)]) (st' := [.inl 0]) (M' := M) rfl ?_
              exact g_retB rfl (by decide) h
            · replace h := h.2 c
              refine wp_sts 2 (pc' := 72) (ls' := [some (.inr (.inr 1)), some (.inr (.inr u)), some (.inl x2), some (.inl x3), some (.inl x4)]) (st' := [.inl 1]) (M' := M) rfl ?_
              exact g_retB rfl (by decide) h
      · replace h := h.2 c
        refine wp_sts 1 (pc' := 32) (ls' := [some (.inr (.inr 1)), some (.inr (.inr u)), some (.inl x2), some (.inl x3), some (.inl x4)]) (st' := [.inl 0]) (M' := M) rfl ?_
        exact g_retB rfl (by decide) h
    · replace h := h.2 c
      refine wp_sts 1 (pc' := 10) (ls' := [some (.inr (.inr 1)), some (.inr (.inr u)), some (.inl x2), some (.inl x3), some (.inl x4)]) (st' := [.inr (.inr u)]) (M' := M) rfl ?_
      refine g_getR (j := u + 23) rfl hS (fT (P := fun z => pu_bJ 2 z 13 8 = true) hu rfl rfl) (fT (P := fun z => M z 13 = ((z + 23 : Nat) : Int)) hu (str_r hS 5 13 28 rfl) (str_r hS 37 13 60 rfl)) (fT (P := fun z => z + 23 < 1000) hu (by decide) (by decide)) ?_
      refine wp_sts 1 (pc' := 15) (ls' := [some (.inr (.inr 1)), some (.inr (.inr u)), some (.inl x2), some (.inl x3), some (.inl x4)]) (st' := [.inl x4, .inr (.inr (u + 23))]) (M' := M) rfl ?_
      obtain ⟨hf1, h⟩ := h
      refine g_iald (n := 6) rfl hS (fT (P := fun z => ab_arB 20 (z + 23) 6 = true) hu rfl rfl) hf1 ?_
      refine wp_sts 1 (pc' := 17) (ls' := [some (.inr (.inr 1)), some (.inr (.inr u)), some (.inl x2), some (.inl x3), some (.inl x4)]) (st' := [.inl ((-1)), .inl (M (u + 23) x4.toNat)]) (M' := M) rfl ?_
      refine c2_eq rfl (fun c => ?_) (fun c => ?_)
      · replace h := h.1 c
        refine wp_sts 1 (pc' := 25) (ls' := [some (.inr (.inr 1)), some (.inr (.inr u)), some (.inl x2), some (.inl x3), some (.inl x4)]) (st' := [.inl 0]) (M' := M) rfl ?_
        exact g_retB rfl (by decide) h
      · replace h := h.2 c
        refine wp_sts 2 (pc' := 25) (ls' := [some (.inr (.inr 1)), some (.inr (.inr u)), some (.inl x2), some (.inl x3), some (.inl x4)]) (st' := [.inl 1]) (M' := M) rfl ?_
        exact g_retB rfl (by decide) h
/- Reader.again, at 112 -/
theorem b34_112 {d t : Nat} {u : Nat} {x2 : Int} {x3 : Int} {x4 : Int} {x100 : Int} {M : ab_M} {Q : Option ab_V → ab_M → Prop} (hd : 1 ≤ d) (hS : pu_str t M) (hu : pu_T u) (h : (x100 = 0 ∨ x100 = 1) ∧ Q (some (.inl x100)) M) : ab_wp d 34 112 [some (.inr (.inr 1)), some (.inr (.inr u)), some (.inl x2), some (.inl x3), some (.inl x4)] [.inl x100] M Q := by
  exact g_retB rfl h.1 h.2
/- Reader.take, at 0 -/
set_option maxRecDepth 100000 in
theorem b35_0 {d t : Nat} {u : Nat} {x2 : Int} {M : ab_M} {Q : Option ab_V → ab_M → Prop} (hd : 1 ≤ d) (hS : pu_str t M) (hu : pu_T u) (h : (x2 < 0 ∨ 5 < x2 → (0 ≤ M u 4 ∧ M u 4 < 4) ∧ ab_rg (((ab_w M (u + 31) (M u 4).toNat (M 4 0)) u 4) + 1) ∧ Q none (ab_w (ab_w M (u + 31) (M u 4).toNat (M 4 0)) u 4 (((ab_w M (u + 31) (M u 4).toNat (M 4 0)) u 4) + 1))) ∧ (x2 = 0 → Q none (ab_w (ab_w M u 0 (M 4 0)) u 1 ((ab_w M u 0 (M 4 0)) 4 1))) ∧ (x2 = 1 → (0 ≤ M 4 0 ∧ M 4 0 < 7) ∧ (0 ≤ M 4 1 ∧ M 4 1 < 7) ∧ (0 ≤ (ab_w M (u + 2 + (M 4 0).toNat) (M 4 1).toNat (M 4 2)) 4 1 ∧ (ab_w M (u + 2 + (M 4 0).toNat) (M 4 1).toNat (M 4 2)) 4 1 < 7) ∧ (0 ≤ (ab_w M (u + 2 + (M 4 0).toNat) (M 4 1).toNat (M 4 2)) 4 0 ∧ (ab_w M (u + 2 + (M 4 0).toNat) (M 4 1).toNat (M 4 2)) 4 0 < 7) ∧ Q none (ab_w (ab_w M (u + 2 + (M 4 0).toNat) (M 4 1).toNat (M 4 2)) (u + 2 + ((ab_w M (u + 2 + (M 4 0).toNat) (M 4 1).toNat (M 4 2)) 4 1).toNat) ((ab_w M (u + 2 + (M 4 0).toNat) (M 4 1).toNat (M 4 2)) 4 0).toNat ((ab_w M (u + 2 + (M 4 0).toNat) (M 4 1).toNat (M 4 2)) 4 2))) ∧ (x2 = 2 → (0 ≤ M u 2 ∧ M u 2 < 6) ∧ (0 ≤ (ab_w M (u + 17) (M u 2).toNat (M 4 0)) u 2 ∧ (ab_w M (u + 17) (M u 2).toNat (M 4 0)) u 2 < 6) ∧ ab_rg (((ab_w (ab_w M (u + 17) (M u 2).toNat (M 4 0)) (u + 18) ((ab_w M (u + 17) (M u 2).toNat (M 4 0)) u 2).toNat ((ab_w M (u + 17) (M u 2).toNat (M 4 0)) 4 1)) u 2) + 1) ∧ Q none (ab_w (ab_w (ab_w M (u + 17) (M u 2).toNat (M 4 0)) (u + 18) ((ab_w M (u + 17) (M u 2).toNat (M 4 0)) u 2).toNat ((ab_w M (u + 17) (M u 2).toNat (M 4 0)) 4 1)) u 2 (((ab_w (ab_w M (u + 17) (M u 2).toNat (M 4 0)) (u + 18) ((ab_w M (u + 17) (M u 2).toNat (M 4 0)) u 2).toNat ((ab_w M (u + 17) (M u 2).toNat (M 4 0)) 4 1)) u 2) + 1))) ∧ (x2 = 3 → ∃ M1, ab_ev (d - 1) 36 [.inr (.inr 1), .inr (.inr u)] M none M1 ∧ pu_str t M1 ∧ Q none M1) ∧ (x2 = 4 → (0 ≤ M 4 0 ∧ M 4 0 < 6) ∧ Q none (ab_w M (u + 23) (M 4 0).toNat (M 4 1))) ∧ (x2 = 5 → (0 ≤ M 4 0 ∧ M 4 0 < 6) ∧ (0 ≤ M 4 1 ∧ M 4 1 < 6) ∧ Q none (ab_w M (u + 25 + (M 4 0).toNat) (M 4 1).toNat (M 4 2)))) : ab_wp d 35 0 [some (.inr (.inr 1)), some (.inr (.inr u)), some (.inl x2)] [] M Q := by
  refine wp_sts 1 (pc' := 1) (ls' := [some (.inr (.inr 1)), some (.inr (.inr u)), some (.inl x2)]) (st' := [.inl x2]) (M' := M) rfl ?_
  refine w_sw (tg := [(0, 40), (1, 63), (2, 114), (3, 157), (4, 165), (5, 185)]) rfl rfl (fun c => ?_) ⟨fun c => ?_, fun c => ?_, fun c => ?_, fun c => ?_, fun c => ?_, fun c => ?_, trivial⟩
  · replace h := h.1 c
    refine wp_sts 1 (pc' := 213) (ls' := [some (.inr (.inr 1)), some (.inr (.inr u)), some (.inl x2)]) (st' := [.inr (.inr u)]) (M' := M) rfl ?_
    refine g_getR (j := u + 31) rfl hS (fT (P := fun z => pu_bJ 2 z 15 8 = true) hu rfl rfl) (fT (P := fun z => M z 15 = ((z + 31 : Nat) : Int)) hu (str_r hS 5 15 36 rfl) (str_r hS 37 15 68 rfl)) (fT (P := fun z => z + 31 < 1000) hu (by decide) (by decide)) ?_
    refine wp_sts 1 (pc' := 217) (ls' := [some (.inr (.inr 1)), some (.inr (.inr u)), some (.inl x2)]) (st' := [.inr (.inr u), .inr (.inr (u + 31))]) (M' := M) rfl ?_
    refine g_getI rfl hS (fT (P := fun z => pu_bI z 4 8 = true) hu rfl rfl) ?_
    refine wp_sts 1 (pc' := 221) (ls' := [some (.inr (.inr 1)), some (.inr (.inr u)), some (.inl x2)]) (st' := [.inr (.inr 1), .inl (M u 4), .inr (.inr (u + 31))]) (M' := M) rfl ?_
    refine g_getR (j := 4) rfl hS rfl (str_r hS 1 5 4 rfl) (by decide) ?_
    refine wp_sts 1 (pc' := 225) (ls' := [some (.inr (.inr 1)), some (.inr (.inr u)), some (.inl x2)]) (st' := [.inl 0, .inr (.inr 4), .inl (M u 4), .inr (.inr (u + 31))]) (M' := M) rfl ?_
    refine g_iald (n := 4) rfl hS rfl (by decide) ?_
    obtain ⟨hf1, h⟩ := h
    refine g_iast (n := 4) rfl hS (fT (P := fun z => ab_arB 20 (z + 31) 4 = true) hu rfl rfl) hf1 ?_
    refine wp_sts 2 (pc' := 229) (ls' := [some (.inr (.inr 1)), some (.inr (.inr u)), some (.inl x2)]) (st' := [.inr (.inr u), .inr (.inr u)]) (M' := (ab_w M (u + 31) (M u 4).toNat (M 4 0))) rfl ?_
    refine g_getI rfl (str_a (k := u + 31) (f := (M u 4).toNat) (v := M 4 0) hS (fT (P := fun z => pu_na (z + 31) = true) hu rfl rfl)) (fT (P := fun z => pu_bI z 4 8 = true) hu rfl rfl) ?_
    refine wp_sts 1 (pc' := 233) (ls' := [some (.inr (.inr 1)), some (.inr (.inr u)), some (.inl x2)]) (st' := [.inl 1, .inl ((ab_w M (u + 31) (M u 4).toNat (M 4 0)) u 4), .inr (.inr u)]) (M' := (ab_w M (u + 31) (M u 4).toNat (M 4 0))) rfl ?_
    obtain ⟨hf2, h⟩ := h
    refine w_iadd rfl hf2 ?_
    refine g_putI rfl (str_a (k := u + 31) (f := (M u 4).toNat) (v := M 4 0) hS (fT (P := fun z => pu_na (z + 31) = true) hu rfl rfl)) (fT (P := fun z => pu_bJ 0 z 4 8 = true) hu rfl rfl) ?_
    exact wp_ret rfl rfl rfl h
  · replace h := h.2.1 c
    refine wp_sts 2 (pc' := 42) (ls' := [some (.inr (.inr 1)), some (.inr (.inr u)), some (.inl x2)]) (st' := [.inr (.inr 1), .inr (.inr u)]) (M' := M) rfl ?_
    refine g_getR (j := 4) rfl hS rfl (str_r hS 1 5 4 rfl) (by decide) ?_
    refine wp_sts 1 (pc' := 46) (ls' := [some (.inr (.inr 1)), some (.inr (.inr u)), some (.inl x2)]) (st' := [.inl 0, .inr (.inr 4), .inr (.inr u)]) (M' := M) rfl ?_
    refine g_iald (n := 4) rfl hS rfl (by decide) ?_
    refine g_putI rfl hS (fT (P := fun z => pu_bJ 0 z 0 8 = true) hu rfl rfl) ?_
    refine wp_sts 2 (pc' := 52) (ls' := [some (.inr (.inr 1)), some (.inr (.inr u)), some (.inl x2)]) (st' := [.inr (.inr 1), .inr (.inr u)]) (M' := (ab_w M u 0 (M 4 0))) rfl ?_
    refine g_getR (j := 4) rfl (str_w (k := u) (f := 0) (v := M 4 0) hS (fT (P := fun z => pu_nr z 0 = true) hu rfl rfl)) rfl (str_r (str_w (k := u) (f := 0) (v := M 4 0) hS (fT (P := fun z => pu_nr z 0 = true) hu rfl rfl)) 1 5 4 rfl) (by decide) ?_
    refine wp_sts 1 (pc' := 56) (ls' := [some (.inr (.inr 1)), some (.inr (.inr u)), some (.inl x2)]) (st' := [.inl 1, .inr (.inr 4), .inr (.inr u)]) (M' := (ab_w M u 0 (M 4 0))) rfl ?_
    refine g_iald (n := 4) rfl (str_w (k := u) (f := 0) (v := M 4 0) hS (fT (P := fun z => pu_nr z 0 = true) hu rfl rfl)) rfl (by decide) ?_
    refine g_putI rfl (str_w (k := u) (f := 0) (v := M 4 0) hS (fT (P := fun z => pu_nr z 0 = true) hu rfl rfl)) (fT (P := fun z => pu_bJ 0 z 1 8 = true) hu rfl rfl) ?_
    refine wp_sts 1 (pc' := 237) (ls' := [some (.inr (.inr 1)), some (.inr (.inr u)), some (.inl x2)]) (st' := []) (M' := (ab_w (ab_w M u 0 (M 4 0)) u 1 ((ab_w M u 0 (M 4 0)) 4 1))) rfl ?_
    exact wp_ret rfl rfl rfl h
  · replace h := h.2.2.1 c
    refine wp_sts 1 (pc' := 64) (ls' := [some (.inr (.inr 1)), some (.inr (.inr u)), some (.inl x2)]) (st' := [.inr (.inr u)]) (M' := M) rfl ?_
    refine g_getR (j := u + 1) rfl hS (fT (P := fun z => pu_bJ 2 z 5 8 = true) hu rfl rfl) (fT (P := fun z => M z 5 = ((z + 1 : Nat) : Int)) hu (str_r hS 5 5 6 rfl) (str_r hS 37 5 38 rfl)) (fT (P := fun z => z + 1 < 1000) hu (by decide) (by decide)) ?_
    refine wp_sts 1 (pc' := 68) (ls' := [some (.inr (.inr 1)), some (.inr (.inr u)), some (.inl x2)]) (st' := [.inr (.inr 1), .inr (.inr (u + 1))]) (M' := M) rfl ?_
    refine g_getR (j := 4) rfl hS rfl (str_r hS 1 5 4 rfl) (by decide) ?_
    refine wp_sts 1 (pc' := 72) (ls' := [some (.inr (.inr 1)), some (.inr (.inr u)), some (.inl x2)]) (st' := [.inl 0, .inr (.inr 4), .inr (.inr (u + 1))]) (M' := M) rfl ?_
    refine g_iald (n := 4) rfl hS rfl (by decide) ?_
    obtain ⟨hf1, h⟩ := h
    refine g_aald (n := 7) (j := u + 2 + (M 4 0).toNat) rfl hS (fT (P := fun z => ab_arB 24 (z + 1) 7 = true) hu rfl rfl) hf1 (fT (P := fun z => M (z + 1) (M 4 0).toNat = ((z + 2 + (M 4 0).toNat : Nat) : Int)) hu (row_rf (n := 7) hS (by decide) hf1) (row_rf (n := 7) hS (by decide) hf1)) (fT (P := fun z => z + 2 + (M 4 0).toNat < 1000) hu (row_lt (n := 7) (by decide) hf1) (row_lt (n := 7) (by decide) hf1)) ?_
    refine wp_sts 1 (pc' := 75) (ls' := [some (.inr (.inr 1)), some (.inr (.inr u)), some (.inl x2)]) (st' := [.inr (.inr 1), .inr (.inr (u + 2 + (M 4 0).toNat))]) (M' := M) rfl ?_
    refine g_getR (j := 4) rfl hS rfl (str_r hS 1 5 4 rfl) (by decide) ?_
    refine wp_sts 1 (pc' := 79) (ls' := [some (.inr (.inr 1)), some (.inr (.inr u)), some (.inl x2)]) (st' := [.inl 1, .inr (.inr 4), .inr (.inr (u + 2 + (M 4 0).toNat))]) (M' := M) rfl ?_
    refine g_iald (n := 4) rfl hS rfl (by decide) ?_
    refine wp_sts 1 (pc' := 81) (ls' := [some (.inr (.inr 1)), some (.inr (.inr u)), some (.inl x2)]) (st' := [.inr (.inr 1), .inl (M 4 1), .inr (.inr (u + 2 + (M 4 0).toNat))]) (M' := M) rfl ?_
    refine g_getR (j := 4) rfl hS rfl (str_r hS 1 5 4 rfl) (by decide) ?_
    refine wp_sts 1 (pc' := 85) (ls' := [some (.inr (.inr 1)), some (.inr (.inr u)), some (.inl x2)]) (st' := [.inl 2, .inr (.inr 4), .inl (M 4 1), .inr (.inr (u + 2 + (M 4 0).toNat))]) (M' := M) rfl ?_
    refine g_iald (n := 4) rfl hS rfl (by decide) ?_
    obtain ⟨hf2, h⟩ := h
    refine g_iast (n := 7) rfl hS (fT (P := fun z => ab_arB 20 (z + 2 + (M 4 0).toNat) 7 = true) hu (row_ar (n := 7) (by decide) hf1) (row_ar (n := 7) (by decide) hf1)) hf2 ?_
    refine wp_sts 1 (pc' := 88) (ls' := [some (.inr (.inr 1)), some (.inr (.inr u)), some (.inl x2)]) (st' := [.inr (.inr u)]) (M' := (ab_w M (u + 2 + (M 4 0).toNat) (M 4 1).toNat (M 4 2))) rfl ?_
    refine g_getR (j := u + 1) rfl (str_a (k := u + 2 + (M 4 0).toNat) (f := (M 4 1).toNat) (v := M 4 2) hS (fT (P := fun z => pu_na (z + 2 + (M 4 0).toNat) = true) hu (row_na (n := 7) (by decide) hf1) (row_na (n := 7) (by decide) hf1))) (fT (P := fun z => pu_bJ 2 z 5 8 = true) hu rfl rfl) (fT (P := fun z => (ab_w M (u + 2 + (M 4 0).toNat) (M 4 1).toNat (M 4 2)) z 5 = ((z + 1 : Nat) : Int)) hu (str_r (str_a (k := u + 2 + (M 4 0).toNat) (f := (M 4 1).toNat) (v := M 4 2) hS (fT (P := fun z => pu_na (z + 2 + (M 4 0).toNat) = true) hu (row_na (n := 7) (by decide) hf1) (row_na (n := 7) (by decide) hf1))) 5 5 6 rfl) (str_r (str_a (k := u + 2 + (M 4 0).toNat) (f := (M 4 1).toNat) (v := M 4 2) hS (fT (P := fun z => pu_na (z + 2 + (M 4 0).toNat) = true) hu (row_na (n := 7) (by decide) hf1) (row_na (n := 7) (by decide) hf1))) 37 5 38 rfl)) (fT (P := fun z => z + 1 < 1000) hu (by decide) (by decide)) ?_
    refine wp_sts 1 (pc' := 92) (ls' := [some (.inr (.inr 1)), some (.inr (.inr u)), some (.inl x2)]) (st' := [.inr (.inr 1), .inr (.inr (u + 1))]) (M' := (ab_w M (u + 2 + (M 4 0).toNat) (M 4 1).toNat (M 4 2))) rfl ?_
    refine g_getR (j := 4) rfl (str_a (k := u + 2 + (M 4 0).toNat) (f := (M 4 1).toNat) (v := M 4 2) hS (fT (P := fun z => pu_na (z + 2 + (M 4 0).toNat) = true) hu (row_na (n := 7) (by decide) hf1) (row_na (n := 7) (by decide) hf1))) rfl (str_r (str_a (k := u + 2 + (M 4 0).toNat) (f := (M 4 1).toNat) (v := M 4 2) hS (fT (P := fun z => pu_na (z + 2 + (M 4 0).toNat) = true) hu (row_na (n := 7) (by decide) hf1) (row_na (n := 7) (by decide) hf1))) 1 5 4 rfl) (by decide) ?_
    refine wp_sts 1 (pc' := 96) (ls' := [some (.inr (.inr 1)), some (.inr (.inr u)), some (.inl x2)]) (st' := [.inl 1, .inr (.inr 4), .inr (.inr (u + 1))]) (M' := (ab_w M (u + 2 + (M 4 0).toNat) (M 4 1).toNat (M 4 2))) rfl ?_
    refine g_iald (n := 4) rfl (str_a (k := u + 2 + (M 4 0).toNat) (f := (M 4 1).toNat) (v := M 4 2) hS (fT (P := fun z => pu_na (z + 2 + (M 4 0).toNat) = true) hu (row_na (n := 7) (by decide) hf1) (row_na (n := 7) (by decide) hf1))) rfl (by decide) ?_
    obtain ⟨hf3, h⟩ := h
    refine g_aald (n := 7) (j := u + 2 + ((ab_w M (u + 2 + (M 4 0).toNat) (M 4 1).toNat (M 4 2)) 4 1).toNat) rfl (str_a (k := u + 2 + (M 4 0).toNat) (f := (M 4 1).toNat) (v := M 4 2) hS (fT (P := fun z => pu_na (z + 2 + (M 4 0).toNat) = true) hu (row_na (n := 7) (by decide) hf1) (row_na (n := 7) (by decide) hf1))) (fT (P := fun z => ab_arB 24 (z + 1) 7 = true) hu rfl rfl) hf3 (fT (P := fun z => (ab_w M (u + 2 + (M 4 0).toNat) (M 4 1).toNat (M 4 2)) (z + 1) ((ab_w M (u + 2 + (M 4 0).toNat) (M 4 1).toNat (M 4 2)) 4 1).toNat = ((z + 2 + ((ab_w M (u + 2 + (M 4 0).toNat) (M 4 1).toNat (M 4 2)) 4 1).toNat : Nat) : Int)) hu (row_rf (n := 7) (str_a (k := u + 2 + (M 4 0).toNat) (f := (M 4 1).toNat) (v := M 4 2) hS (fT (P := fun z => pu_na (z + 2 + (M 4 0).toNat) = true) hu (row_na (n := 7) (by decide) hf1) (row_na (n := 7) (by decide) hf1))) (by decide) hf3) (row_rf (n := 7) (str_a (k := u + 2 + (M 4 0).toNat) (f := (M 4 1).toNat) (v := M 4 2) hS (fT (P := fun z => pu_na (z + 2 + (M 4 0).toNat) = true) hu (row_na (n := 7) (by decide) hf1) (row_na (n := 7) (by decide) hf1))) (by decide) hf3)) (fT (P := fun z => z + 2 + ((ab_w M (u + 2 + (M 4 0).toNat) (M 4 1).toNat (M 4 2)) 4 1).toNat < 1000) hu (row_lt (n := 7) (by decide) hf3) (row_lt (n := 7) (by decide) hf3)) ?_
    refine wp_sts 1 (pc' := 99) (ls' := [some (.inr (.inr 1)), some (.inr (.inr u)), some (.inl x2)]) (st' := [.inr (.inr 1), .inr (.inr (u + 2 + ((ab_w M (u + 2 + (M 4 0).toNat) (M 4 1).toNat (M 4 2)) 4 1).toNat))]) (M' := (ab_w M (u + 2 + (M 4 0).toNat) (M 4 1).toNat (M 4 2))) rfl ?_
    refine g_getR (j := 4) rfl (str_a (k := u + 2 + (M 4 0).toNat) (f := (M 4 1).toNat) (v := M 4 2) hS (fT (P := fun z => pu_na (z + 2 + (M 4 0).toNat) = true) hu (row_na (n := 7) (by decide) hf1) (row_na (n := 7) (by decide) hf1))) rfl (str_r (str_a (k := u + 2 + (M 4 0).toNat) (f := (M 4 1).toNat) (v := M 4 2) hS (fT (P := fun z => pu_na (z + 2 + (M 4 0).toNat) = true) hu (row_na (n := 7) (by decide) hf1) (row_na (n := 7) (by decide) hf1))) 1 5 4 rfl) (by decide) ?_
    refine wp_sts 1 (pc' := 103) (ls' := [some (.inr (.inr 1)), some (.inr (.inr u)), some (.inl x2)]) (st' := [.inl 0, .inr (.inr 4), .inr (.inr (u + 2 + ((ab_w M (u + 2 + (M 4 0).toNat) (M 4 1).toNat (M 4 2)) 4 1).toNat))]) (M' := (ab_w M (u + 2 + (M 4 0).toNat) (M 4 1).toNat (M 4 2))) rfl ?_
    refine g_iald (n := 4) rfl (str_a (k := u + 2 + (M 4 0).toNat) (f := (M 4 1).toNat) (v := M 4 2) hS (fT (P := fun z => pu_na (z + 2 + (M 4 0).toNat) = true) hu (row_na (n := 7) (by decide) hf1) (row_na (n := 7) (by decide) hf1))) rfl (by decide) ?_
    refine wp_sts 1 (pc' := 105) (ls' := [some (.inr (.inr 1)), some (.inr (.inr u)), some (.inl x2)]) (st' := [.inr (.inr 1), .inl ((ab_w M (u + 2 + (M 4 0).toNat) (M 4 1).toNat (M 4 2)) 4 0), .inr (.inr (u + 2 + ((ab_w M (u + 2 + (M 4 0).toNat) (M 4 1).toNat (M 4 2)) 4 1).toNat))]) (M' := (ab_w M (u + 2 + (M 4 0).toNat) (M 4 1).toNat (M 4 2))) rfl ?_
    refine g_getR (j := 4) rfl (str_a (k := u + 2 + (M 4 0).toNat) (f := (M 4 1).toNat) (v := M 4 2) hS (fT (P := fun z => pu_na (z + 2 + (M 4 0).toNat) = true) hu (row_na (n := 7) (by decide) hf1) (row_na (n := 7) (by decide) hf1))) rfl (str_r (str_a (k := u + 2 + (M 4 0).toNat) (f := (M 4 1).toNat) (v := M 4 2) hS (fT (P := fun z => pu_na (z + 2 + (M 4 0).toNat) = true) hu (row_na (n := 7) (by decide) hf1) (row_na (n := 7) (by decide) hf1))) 1 5 4 rfl) (by decide) ?_
    refine wp_sts 1 (pc' := 109) (ls' := [some (.inr (.inr 1)), some (.inr (.inr u)), some (.inl x2)]) (st' := [.inl 2, .inr (.inr 4), .inl ((ab_w M (u + 2 + (M 4 0).toNat) (M 4 1).toNat (M 4 2)) 4 0), .inr (.inr (u + 2 + ((ab_w M (u + 2 + (M 4 0).toNat) (M 4 1).toNat (M 4 2)) 4 1).toNat))]) (M' := (ab_w M (u + 2 + (M 4 0).toNat) (M 4 1).toNat (M 4 2))) rfl ?_
    refine g_iald (n := 4) rfl (str_a (k := u + 2 + (M 4 0).toNat) (f := (M 4 1).toNat) (v := M 4 2) hS (fT (P := fun z => pu_na (z + 2 + (M 4 0).toNat) = true) hu (row_na (n := 7) (by decide) hf1) (row_na (n := 7) (by decide) hf1))) rfl (by decide) ?_
    obtain ⟨hf4, h⟩ := h
    refine g_iast (n := 7) rfl (str_a (k := u + 2 + (M 4 0).toNat) (f := (M 4 1).toNat) (v := M 4 2) hS (fT (P := fun z => pu_na (z + 2 + (M 4 0).toNat) = true) hu (row_na (n := 7) (by decide) hf1) (row_na (n := 7) (by decide) hf1))) (fT (P := fun z => ab_arB 20 (z + 2 + ((ab_w M (u + 2 + (M 4 0).toNat) (M 4 1).toNat (M 4 2)) 4 1).toNat) 7 = true) hu (row_ar (n := 7) (by decide) hf3) (row_ar (n := 7) (by decide) hf3)) hf4 ?_
    refine wp_sts 1 (pc' := 237) (ls' := [some (.inr (.inr 1)), some (.inr (.inr u)), some (.inl x2)]) (st' := []) (M' := (ab_w (ab_w M (u + 2 + (M 4 0).toNat) (M 4 1).toNat (M 4 2)) (u + 2 + ((ab_w M (u + 2 + (M 4 0).toNat) (M 4 1).toNat (M 4 2)) 4 1).toNat) ((ab_w M (u + 2 + (M 4 0).toNat) (M 4 1).toNat (M 4 2)) 4 0).toNat ((ab_w M (u + 2 + (M 4 0).toNat) (M 4 1).toNat (M 4 2)) 4 2))) rfl ?_
    exact wp_ret rfl rfl rfl h
  · replace h := h.2.2.2.1 c
    refine wp_sts 1 (pc' := 115) (ls' := [some (.inr (.inr 1)), some (.inr (.inr u)), some (.inl x2)]) (st' := [.inr (.inr u)]) (M' := M) rfl ?_
    refine g_getR (j := u + 17) rfl hS (fT (P := fun z => pu_bJ 2 z 7 8 = true) hu rfl rfl) (fT (P := fun z => M z 7 = ((z + 17 : Nat) : Int)) hu (str_r hS 5 7 22 rfl) (str_r hS 37 7 54 rfl)) (fT (P := fun z => z + 17 < 1000) hu (by decide) (by decide)) ?_
    refine wp_sts 1 (pc' := 119) (ls' := [some (.inr (.inr 1)), some (.inr (.inr u)), some (.inl x2)]) (st' := [.inr (.inr u), .inr (.inr (u + 17))]) (M' := M) rfl ?_
    refine g_getI rfl hS (fT (P := fun z => pu_bI z 2 8 = true) hu rfl rfl) ?_
    refine wp_sts 1 (pc' := 123) (ls' := [some (.inr (.inr 1)), some (.inr (.inr u)), some (.inl x2)]) (st' := [.inr (.inr 1), .inl (M u 2), .inr (.inr (u + 17))]) (M' := M) rfl ?_
    refine g_getR (j := 4) rfl hS rfl (str_r hS 1 5 4 rfl) (by decide) ?_
    refine wp_sts 1 (pc' := 127) (ls' := [some (.inr (.inr 1)), some (.inr (.inr u)), some (.inl x2)]) (st' := [.inl 0, .inr (.inr 4), .inl (M u 2), .inr (.inr (u + 17))]) (M' := M) rfl ?_
    refine g_iald (n := 4) rfl hS rfl (by decide) ?_
    obtain ⟨hf1, h⟩ := h
    refine g_iast (n := 6) rfl hS (fT (P := fun z => ab_arB 20 (z + 17) 6 = true) hu rfl rfl) hf1 ?_
    refine wp_sts 1 (pc' := 130) (ls' := [some (.inr (.inr 1)), some (.inr (.inr u)), some (.inl x2)]) (st' := [.inr (.inr u)]) (M' := (ab_w M (u + 17) (M u 2).toNat (M 4 0))) rfl ?_
    refine g_getR (j := u + 18) rfl (str_a (k := u + 17) (f := (M u 2).toNat) (v := M 4 0) hS (fT (P := fun z => pu_na (z + 17) = true) hu rfl rfl)) (fT (P := fun z => pu_bJ 2 z 8 8 = true) hu rfl rfl) (fT (P := fun z => (ab_w M (u + 17) (M u 2).toNat (M 4 0)) z 8 = ((z + 18 : Nat) : Int)) hu (str_r (str_a (k := u + 17) (f := (M u 2).toNat) (v := M 4 0) hS (fT (P := fun z => pu_na (z + 17) = true) hu rfl rfl)) 5 8 23 rfl) (str_r (str_a (k := u + 17) (f := (M u 2).toNat) (v := M 4 0) hS (fT (P := fun z => pu_na (z + 17) = true) hu rfl rfl)) 37 8 55 rfl)) (fT (P := fun z => z + 18 < 1000) hu (by decide) (by decide)) ?_
    refine wp_sts 1 (pc' := 134) (ls' := [some (.inr (.inr 1)), some (.inr (.inr u)), some (.inl x2)]) (st' := [.inr (.inr u), .inr (.inr (u + 18))]) (M' := (ab_w M (u + 17) (M u 2).toNat (M 4 0))) rfl ?_
    refine g_getI rfl (str_a (k := u + 17) (f := (M u 2).toNat) (v := M 4 0) hS (fT (P := fun z => pu_na (z + 17) = true) hu rfl rfl)) (fT (P := fun z => pu_bI z 2 8 = true) hu rfl rfl) ?_
    refine wp_sts 1 (pc' := 138) (ls' := [some (.inr (.inr 1)), some (.inr (.inr u)), some (.inl x2)]) (st' := [.inr (.inr 1), .inl ((ab_w M (u + 17) (M u 2).toNat (M 4 0)) u 2), .inr (.inr (u + 18))]) (M' := (ab_w M (u + 17) (M u 2).toNat (M 4 0))) rfl ?_
    refine g_getR (j := 4) rfl (str_a (k := u + 17) (f := (M u 2).toNat) (v := M 4 0) hS (fT (P := fun z => pu_na (z + 17) = true) hu rfl rfl)) rfl (str_r (str_a (k := u + 17) (f := (M u 2).toNat) (v := M 4 0) hS (fT (P := fun z => pu_na (z + 17) = true) hu rfl rfl)) 1 5 4 rfl) (by decide) ?_
    refine wp_sts 1 (pc' := 142) (ls' := [some (.inr (.inr 1)), some (.inr (.inr u)), some (.inl x2)]) (st' := [.inl 1, .inr (.inr 4), .inl ((ab_w M (u + 17) (M u 2).toNat (M 4 0)) u 2), .inr (.inr (u + 18))]) (M' := (ab_w M (u + 17) (M u 2).toNat (M 4 0))) rfl ?_
    refine g_iald (n := 4) rfl (str_a (k := u + 17) (f := (M u 2).toNat) (v := M 4 0) hS (fT (P := fun z => pu_na (z + 17) = true) hu rfl rfl)) rfl (by decide) ?_
    obtain ⟨hf2, h⟩ := h
    refine g_iast (n := 6) rfl (str_a (k := u + 17) (f := (M u 2).toNat) (v := M 4 0) hS (fT (P := fun z => pu_na (z + 17) = true) hu rfl rfl)) (fT (P := fun z => ab_arB 20 (z + 18) 6 = true) hu rfl rfl) hf2 ?_
    refine wp_sts 2 (pc' := 146) (ls' := [some (.inr (.inr 1)), some (.inr (.inr u)), some (.inl x2)]) (st' := [.inr (.inr u), .inr (.inr u)]) (M' := (ab_w (ab_w M (u + 17) (M u 2).toNat (M 4 0)) (u + 18) ((ab_w M (u + 17) (M u 2).toNat (M 4 0)) u 2).toNat ((ab_w M (u + 17) (M u 2).toNat (M 4 0)) 4 1))) rfl ?_
    refine g_getI rfl (str_a (k := u + 18) (f := ((ab_w M (u + 17) (M u 2).toNat (M 4 0)) u 2).toNat) (v := (ab_w M (u + 17) (M u 2).toNat (M 4 0)) 4 1) (str_a (k := u + 17) (f := (M u 2).toNat) (v := M 4 0) hS (fT (P := fun z => pu_na (z + 17) = true) hu rfl rfl)) (fT (P := fun z => pu_na (z + 18) = true) hu rfl rfl)) (fT (P := fun z => pu_bI z 2 8 = true) hu rfl rfl) ?_
    refine wp_sts 1 (pc' := 150) (ls' := [some (.inr (.inr 1)), some (.inr (.inr u)), some (.inl x2)]) (st' := [.inl 1, .inl ((ab_w (ab_w M (u + 17) (M u 2).toNat (M 4 0)) (u + 18) ((ab_w M (u + 17) (M u 2).toNat (M 4 0)) u 2).toNat ((ab_w M (u + 17) (M u 2).toNat (M 4 0)) 4 1)) u 2), .inr (.inr u)]) (M' := (ab_w (ab_w M (u + 17) (M u 2).toNat (M 4 0)) (u + 18) ((ab_w M (u + 17) (M u 2).toNat (M 4 0)) u 2).toNat ((ab_w M (u + 17) (M u 2).toNat (M 4 0)) 4 1))) rfl ?_
    obtain ⟨hf3, h⟩ := h
    refine w_iadd rfl hf3 ?_
    refine g_putI rfl (str_a (k := u + 18) (f := ((ab_w M (u + 17) (M u 2).toNat (M 4 0)) u 2).toNat) (v := (ab_w M (u + 17) (M u 2).toNat (M 4 0)) 4 1) (str_a (k := u + 17) (f := (M u 2).toNat) (v := M 4 0) hS (fT (P := fun z => pu_na (z + 17) = true) hu rfl rfl)) (fT (P := fun z => pu_na (z + 18) = true) hu rfl rfl)) (fT (P := fun z => pu_bJ 0 z 2 8 = true) hu rfl rfl) ?_
    refine wp_sts 1 (pc' := 237) (ls' := [some (.inr (.inr 1)), some (.inr (.inr u)), some (.inl x2)]) (st' := []) (M' := (ab_w (ab_w (ab_w M (u + 17) (M u 2).toNat (M 4 0)) (u + 18) ((ab_w M (u + 17) (M u 2).toNat (M 4 0)) u 2).toNat ((ab_w M (u + 17) (M u 2).toNat (M 4 0)) 4 1)) u 2 (((ab_w (ab_w M (u + 17) (M u 2).toNat (M 4 0)) (u + 18) ((ab_w M (u + 17) (M u 2).toNat (M 4 0)) u 2).toNat ((ab_w M (u + 17) (M u 2).toNat (M 4 0)) 4 1)) u 2) + 1))) rfl ?_
    exact wp_ret rfl rfl rfl h
  · replace h := h.2.2.2.2.1 c
    refine wp_sts 2 (pc' := 159) (ls' := [some (.inr (.inr 1)), some (.inr (.inr u)), some (.inl x2)]) (st' := [.inr (.inr u), .inr (.inr 1)]) (M' := M) rfl ?_
    obtain ⟨M1, he, hS1, h⟩ := h
    refine g_callV (c := 36) (as := [.inr (.inr 1), .inr (.inr u)]) (rs := []) rfl rfl hS hd rfl he ?_
    refine wp_sts 1 (pc' := 237) (ls' := [some (.inr (.inr 1)), some (.inr (.inr u)), some (.inl x2)]) (st' := []) (M' := M1) rfl ?_
    exact wp_ret rfl rfl rfl h
  · replace h := h.2.2.2.2.2.1 c
    refine wp_sts 1 (pc' := 166) (ls' := [some (.inr (.inr 1)), some (.inr (.inr u)), some (.inl x2)]) (st' := [.inr (.inr u)]) (M' := M) rfl ?_
    refine g_getR (j := u + 23) rfl hS (fT (P := fun z => pu_bJ 2 z 13 8 = true) hu rfl rfl) (fT (P := fun z => M z 13 = ((z + 23 : Nat) : Int)) hu (str_r hS 5 13 28 rfl) (str_r hS 37 13 60 rfl)) (fT (P := fun z => z + 23 < 1000) hu (by decide) (by decide)) ?_
    refine wp_sts 1 (pc' := 170) (ls' := [some (.inr (.inr 1)), some (.inr (.inr u)), some (.inl x2)]) (st' := [.inr (.inr 1), .inr (.inr (u + 23))]) (M' := M) rfl ?_
    refine g_getR (j := 4) rfl hS rfl (str_r hS 1 5 4 rfl) (by decide) ?_
    refine wp_sts 1 (pc' := 174) (ls' := [some (.inr (.inr 1)), some (.inr (.inr u)), some (.inl x2)]) (st' := [.inl 0, .inr (.inr 4), .inr (.inr (u + 23))]) (M' := M) rfl ?_
    refine g_iald (n := 4) rfl hS rfl (by decide) ?_
    refine wp_sts 1 (pc' := 176) (ls' := [some (.inr (.inr 1)), some (.inr (.inr u)), some (.inl x2)]) (st' := [.inr (.inr 1), .inl (M 4 0), .inr (.inr (u + 23))]) (M' := M) rfl ?_
    refine g_getR (j := 4) rfl hS rfl (str_r hS 1 5 4 rfl) (by decide) ?_
    refine wp_sts 1 (pc' := 180) (ls' := [some (.inr (.inr 1)), some (.inr (.inr u)), some (.inl x2)]) (st' := [.inl 1, .inr (.inr 4), .inl (M 4 0), .inr (.inr (u + 23))]) (M' := M) rfl ?_
    refine g_iald (n := 4) rfl hS rfl (by decide) ?_
    obtain ⟨hf1, h⟩ := h
    refine g_iast (n := 6) rfl hS (fT (P := fun z => ab_arB 20 (z + 23) 6 = true) hu rfl rfl) hf1 ?_
    refine wp_sts 1 (pc' := 237) (ls' := [some (.inr (.inr 1)), some (.inr (.inr u)), some (.inl x2)]) (st' := []) (M' := (ab_w M (u + 23) (M 4 0).toNat (M 4 1))) rfl ?_
    exact wp_ret rfl rfl rfl h
  · replace h := h.2.2.2.2.2.2 c
    refine wp_sts 1 (pc' := 186) (ls' := [some (.inr (.inr 1)), some (.inr (.inr u)), some (.inl x2)]) (st' := [.inr (.inr u)]) (M' := M) rfl ?_
    refine g_getR (j := u + 24) rfl hS (fT (P := fun z => pu_bJ 2 z 14 8 = true) hu rfl rfl) (fT (P := fun z => M z 14 = ((z + 24 : Nat) : Int)) hu (str_r hS 5 14 29 rfl) (str_r hS 37 14 61 rfl)) (fT (P := fun z => z + 24 < 1000) hu (by decide) (by decide)) ?_
    refine wp_sts 1 (pc' := 190) (ls' := [some (.inr (.inr 1)), some (.inr (.inr u)), some (.inl x2)]) (st' := [.inr (.inr 1), .inr (.inr (u + 24))]) (M' := M) rfl ?_
    refine g_getR (j := 4) rfl hS rfl (str_r hS 1 5 4 rfl) (by decide) ?_
    refine wp_sts 1 (pc' := 194) (ls' := [some (.inr (.inr 1)), some (.inr (.inr u)), some (.inl x2)]) (st' := [.inl 0, .inr (.inr 4), .inr (.inr (u + 24))]) (M' := M) rfl ?_
    refine g_iald (n := 4) rfl hS rfl (by decide) ?_
    obtain ⟨hf1, h⟩ := h
    refine g_aald (n := 6) (j := u + 25 + (M 4 0).toNat) rfl hS (fT (P := fun z => ab_arB 24 (z + 24) 6 = true) hu rfl rfl) hf1 (fT (P := fun z => M (z + 24) (M 4 0).toNat = ((z + 25 + (M 4 0).toNat : Nat) : Int)) hu (row_rf (n := 6) hS (by decide) hf1) (row_rf (n := 6) hS (by decide) hf1)) (fT (P := fun z => z + 25 + (M 4 0).toNat < 1000) hu (row_lt (n := 6) (by decide) hf1) (row_lt (n := 6) (by decide) hf1)) ?_
    refine wp_sts 1 (pc' := 197) (ls' := [some (.inr (.inr 1)), some (.inr (.inr u)), some (.inl x2)]) (st' := [.inr (.inr 1), .inr (.inr (u + 25 + (M 4 0).toNat))]) (M' := M) rfl ?_
    refine g_getR (j := 4) rfl hS rfl (str_r hS 1 5 4 rfl) (by decide) ?_
    refine wp_sts 1 (pc' := 201) (ls' := [some (.inr (.inr 1)), some (.inr (.inr u)), some (.inl x2)]) (st' := [.inl 1, .inr (.inr 4), .inr (.inr (u + 25 + (M 4 0).toNat))]) (M' := M) rfl ?_
    refine g_iald (n := 4) rfl hS rfl (by decide) ?_
    refine wp_sts 1 (pc' := 203) (ls' := [some (.inr (.inr 1)), some (.inr (.inr u)), some (.inl x2)]) (st' := [.inr (.inr 1), .inl (M 4 1), .inr (.inr (u + 25 + (M 4 0).toNat))]) (M' := M) rfl ?_
    refine g_getR (j := 4) rfl hS rfl (str_r hS 1 5 4 rfl) (by decide) ?_
    refine wp_sts 1 (pc' := 207) (ls' := [some (.inr (.inr 1)), some (.inr (.inr u)), some (.inl x2)]) (st' := [.inl 2, .inr (.inr 4), .inl (M 4 1), .inr (.inr (u + 25 + (M 4 0).toNat))]) (M' := M) rfl ?_
    refine g_iald (n := 4) rfl hS rfl (by decide) ?_
    obtain ⟨hf2, h⟩ := h
    refine g_iast (n := 6) rfl hS (fT (P := fun z => ab_arB 20 (z + 25 + (M 4 0).toNat) 6 = true) hu (row_ar (n := 6) (by decide) hf1) (row_ar (n := 6) (by decide) hf1)) hf2 ?_
    refine wp_sts 1 (pc' := 237) (ls' := [some (.inr (.inr 1)), some (.inr (.inr u)), some (.inl x2)]) (st' := []) (M' := (ab_w M (u + 25 + (M 4 0).toNat) (M 4 1).toNat (M 4 2))) rfl ?_
    exact wp_ret rfl rfl rfl h
/- Reader.takeDeed, at 0 -/
theorem b36_0 {d t : Nat} {u : Nat}  {M : ab_M} {Q : Option ab_V → ab_M → Prop} (hd : 1 ≤ d) (hS : pu_str t M) (hu : pu_T u) (h : (0 ≤ M u 3 ∧ M u 3 < 6) ∧ ab_rg (((ab_w (ab_w (ab_w (ab_w M (u + 19) (M u 3).toNat (M 4 0)) (u + 20) (M u 3).toNat ((ab_w M (u + 19) (M u 3).toNat (M 4 0)) 4 1)) (u + 21) (M u 3).toNat ((ab_w (ab_w M (u + 19) (M u 3).toNat (M 4 0)) (u + 20) (M u 3).toNat ((ab_w M (u + 19) (M u 3).toNat (M 4 0)) 4 1)) 4 2)) (u + 22) (M u 3).toNat ((ab_w (ab_w (ab_w M (u + 19) (M u 3).toNat (M 4 0)) (u + 20) (M u 3).toNat ((ab_w M (u + 19) (M u 3).toNat (M 4 0)) 4 1)) (u + 21) (M u 3).toNat ((ab_w (ab_w M (u + 19) (M u 3).toNat (M 4 0)) (u + 20) (M u 3).toNat ((ab_w M (u + 19) (M u 3).toNat (M 4 0)) 4 1)) 4 2)) 4 3)) u 3) + 1) ∧ Q none (ab_w (ab_w (ab_w (ab_w (ab_w M (u + 19) (M u 3).toNat (M 4 0)) (u + 20) (M u 3).toNat ((ab_w M (u + 19) (M u 3).toNat (M 4 0)) 4 1)) (u + 21) (M u 3).toNat ((ab_w (ab_w M (u + 19) (M u 3).toNat (M 4 0)) (u + 20) (M u 3).toNat ((ab_w M (u + 19) (M u 3).toNat (M 4 0)) 4 1)) 4 2)) (u + 22) (M u 3).toNat ((ab_w (ab_w (ab_w M (u + 19) (M u 3).toNat (M 4 0)) (u + 20) (M u 3).toNat ((ab_w M (u + 19) (M u 3).toNat (M 4 0)) 4 1)) (u + 21) (M u 3).toNat ((ab_w (ab_w M (u + 19) (M u 3).toNat (M 4 0)) (u + 20) (M u 3).toNat ((ab_w M (u + 19) (M u 3).toNat (M 4 0)) 4 1)) 4 2)) 4 3)) u 3 (((ab_w (ab_w (ab_w (ab_w M (u + 19) (M u 3).toNat (M 4 0)) (u + 20) (M u 3).toNat ((ab_w M (u + 19) (M u 3).toNat (M 4 0)) 4 1)) (u + 21) (M u 3).toNat ((ab_w (ab_w M (u + 19) (M u 3).toNat (M 4 0)) (u + 20) (M u 3).toNat ((ab_w M (u + 19) (M u 3).toNat (M 4 0)) 4 1)) 4 2)) (u + 22) (M u 3).toNat ((ab_w (ab_w (ab_w M (u + 19) (M u 3).toNat (M 4 0)) (u + 20) (M u 3).toNat ((ab_w M (u + 19) (M u 3).toNat (M 4 0)) 4 1)) (u + 21) (M u 3).toNat ((ab_w (ab_w M (u + 19) (M u 3).toNat (M 4 0)) (u + 20) (M u 3).toNat ((ab_w M (u + 19) (M u 3).toNat (M 4 0)) 4 1)) 4 2)) 4 3)) u 3) + 1))) : ab_wp d 36 0 [some (.inr (.inr 1)), some (.inr (.inr u)), none] [] M Q := by
  refine wp_sts 1 (pc' := 1) (ls' := [some (.inr (.inr 1)), some (.inr (.inr u)), none]) (st' := [.inr (.inr u)]) (M' := M) rfl ?_
  refine g_getI rfl hS (fT (P := fun z => pu_bI z 3 8 = true) hu rfl rfl) ?_
  refine wp_sts 2 (pc' := 6) (ls' := [some (.inr (.inr 1)), some (.inr (.inr u)), some (.inl (M u 3))]) (st' := [.inr (.inr u)]) (M' := M) rfl ?_
  refine g_getR (j := u + 19) rfl hS (fT (P := fun z => pu_bJ 2 z 9 8 = true) hu rfl rfl) (fT (P := fun z => M z 9 = ((z + 19 : Nat) : Int)) hu (str_r hS 5 9 24 rfl) (str_r hS 37 9 56 rfl)) (fT (P := fun z => z + 19 < 1000) hu (by decide) (by decide)) ?_
  refine wp_sts 2 (pc' := 11) (ls' := [some (.inr (.inr 1)), some (.inr (.inr u)), some (.inl (M u 3))]) (st' := [.inr (.inr 1), .inl (M u 3), .inr (.inr (u + 19))]) (M' := M) rfl ?_
  refine g_getR (j := 4) rfl hS rfl (str_r hS 1 5 4 rfl) (by decide) ?_
  refine wp_sts 1 (pc' := 15) (ls' := [some (.inr (.inr 1)), some (.inr (.inr u)), some (.inl (M u 3))]) (st' := [.inl 0, .inr (.inr 4), .inl (M u 3), .inr (.inr (u + 19))]) (M' := M) rfl ?_
  refine g_iald (n := 4) rfl hS rfl (by decide) ?_
  obtain ⟨hf1, h⟩ := h
  refine g_iast (n := 6) rfl hS (fT (P := fun z => ab_arB 20 (z + 19) 6 = true) hu rfl rfl) hf1 ?_
  refine wp_sts 1 (pc' := 18) (ls' := [some (.inr (.inr 1)), some (.inr (.inr u)), some (.inl (M u 3))]) (st' := [.inr (.inr u)]) (M' := (ab_w M (u + 19) (M u 3).toNat (M 4 0))) rfl ?_
  refine g_getR (j := u + 20) rfl (str_a (k := u + 19) (f := (M u 3).toNat) (v := M 4 0) hS (fT (P := fun z => pu_na (z + 19) = true) hu rfl rfl)) (fT (P := fun z => pu_bJ 2 z 10 8 = true) hu rfl rfl) (fT (P := fun z => (ab_w M (u + 19) (M u 3).toNat (M 4 0)) z 10 = ((z + 20 : Nat) : Int)) hu (str_r (str_a (k := u + 19) (f := (M u 3).toNat) (v := M 4 0) hS (fT (P := fun z => pu_na (z + 19) = true) hu rfl rfl)) 5 10 25 rfl) (str_r (str_a (k := u + 19) (f := (M u 3).toNat) (v := M 4 0) hS (fT (P := fun z => pu_na (z + 19) = true) hu rfl rfl)) 37 10 57 rfl)) (fT (P := fun z => z + 20 < 1000) hu (by decide) (by decide)) ?_
  refine wp_sts 2 (pc' := 23) (ls' := [some (.inr (.inr 1)), some (.inr (.inr u)), some (.inl (M u 3))]) (st' := [.inr (.inr 1), .inl (M u 3), .inr (.inr (u + 20))]) (M' := (ab_w M (u + 19) (M u 3).toNat (M 4 0))) rfl ?_
  refine g_getR (j := 4) rfl (str_a (k := u + 19) (f := (M u 3).toNat) (v := M 4 0) hS (fT (P := fun z => pu_na (z + 19) = true) hu rfl rfl)) rfl (str_r (str_a (k := u + 19) (f := (M u 3).toNat) (v := M 4 0) hS (fT (P := fun z => pu_na (z + 19) = true) hu rfl rfl)) 1 5 4 rfl) (by decide) ?_
  refine wp_sts 1 (pc' := 27) (ls' := [some (.inr (.inr 1)), some (.inr (.inr u)), some (.inl (M u 3))]) (st' := [.inl 1, .inr (.inr 4), .inl (M u 3), .inr (.inr (u + 20))]) (M' := (ab_w M (u + 19) (M u 3).toNat (M 4 0))) rfl ?_
  refine g_iald (n := 4) rfl (str_a (k := u + 19) (f := (M u 3).toNat) (v := M 4 0) hS (fT (P := fun z => pu_na (z + 19) = true) hu rfl rfl)) rfl (by decide) ?_
  refine g_iast (n := 6) rfl (str_a (k := u + 19) (f := (M u 3).toNat) (v := M 4 0) hS (fT (P := fun z => pu_na (z + 19) = true) hu rfl rfl)) (fT (P := fun z => ab_arB 20 (z + 20) 6 = true) hu rfl rfl) hf1 ?_
  refine wp_sts 1 (pc' := 30) (ls' := [some (.inr (.inr 1)), some (.inr (.inr u)), some (.inl (M u 3))]) (st' := [.inr (.inr u)]) (M' := (ab_w (ab_w M (u + 19) (M u 3).toNat (M 4 0)) (u + 20) (M u 3).toNat ((ab_w M (u + 19) (M u 3).toNat (M 4 0)) 4 1))) rfl ?_
  refine g_getR (j := u + 21) rfl (str_a (k := u + 20) (f := (M u 3).toNat) (v := (ab_w M (u + 19) (M u 3).toNat (M 4 0)) 4 1) (str_a (k := u + 19) (f := (M u 3).toNat) (v := M 4 0) hS (fT (P := fun z => pu_na (z + 19) = true) hu rfl rfl)) (fT (P := fun z => pu_na (z + 20) = true) hu rfl rfl)) (fT (P := fun z => pu_bJ 2 z 11 8 = true) hu rfl rfl) (fT (P := fun z => (ab_w (ab_w M (u + 19) (M u 3).toNat (M 4 0)) (u + 20) (M u 3).toNat ((ab_w M (u + 19) (M u 3).toNat (M 4 0)) 4 1)) z 11 = ((z + 21 : Nat) : Int)) hu (str_r (str_a (k := u + 20) (f := (M u 3).toNat) (v := (ab_w M (u + 19) (M u 3).toNat (M 4 0)) 4 1) (str_a (k := u + 19) (f := (M u 3).toNat) (v := M 4 0) hS (fT (P := fun z => pu_na (z + 19) = true) hu rfl rfl)) (fT (P := fun z => pu_na (z + 20) = true) hu rfl rfl)) 5 11 26 rfl) (str_r (str_a (k := u + 20) (f := (M u 3).toNat) (v := (ab_w M (u + 19) (M u 3).toNat (M 4 0)) 4 1) (str_a (k := u + 19) (f := (M u 3).toNat) (v := M 4 0) hS (fT (P := fun z => pu_na (z + 19) = true) hu rfl rfl)) (fT (P := fun z => pu_na (z + 20) = true) hu rfl rfl)) 37 11 58 rfl)) (fT (P := fun z => z + 21 < 1000) hu (by decide) (by decide)) ?_
  refine wp_sts 2 (pc' := 35) (ls' := [some (.inr (.inr 1)), some (.inr (.inr u)), some (.inl (M u 3))]) (st' := [.inr (.inr 1), .inl (M u 3), .inr (.inr (u + 21))]) (M' := (ab_w (ab_w M (u + 19) (M u 3).toNat (M 4 0)) (u + 20) (M u 3).toNat ((ab_w M (u + 19) (M u 3).toNat (M 4 0)) 4 1))) rfl ?_
  refine g_getR (j := 4) rfl (str_a (k := u + 20) (f := (M u 3).toNat) (v := (ab_w M (u + 19) (M u 3).toNat (M 4 0)) 4 1) (str_a (k := u + 19) (f := (M u 3).toNat) (v := M 4 0) hS (fT (P := fun z => pu_na (z + 19) = true) hu rfl rfl)) (fT (P := fun z => pu_na (z + 20) = true) hu rfl rfl)) rfl (str_r (str_a (k := u + 20) (f := (M u 3).toNat) (v := (ab_w M (u + 19) (M u 3).toNat (M 4 0)) 4 1) (str_a (k := u + 19) (f := (M u 3).toNat) (v := M 4 0) hS (fT (P := fun z => pu_na (z + 19) = true) hu rfl rfl)) (fT (P := fun z => pu_na (z + 20) = true) hu rfl rfl)) 1 5 4 rfl) (by decide) ?_
  refine wp_sts 1 (pc' := 39) (ls' := [some (.inr (.inr 1)), some (.inr (.inr u)), some (.inl (M u 3))]) (st' := [.inl 2, .inr (.inr 4), .inl (M u 3), .inr (.inr (u + 21))]) (M' := (ab_w (ab_w M (u + 19) (M u 3).toNat (M 4 0)) (u + 20) (M u 3).toNat ((ab_w M (u + 19) (M u 3).toNat (M 4 0)) 4 1))) rfl ?_
  refine g_iald (n := 4) rfl (str_a (k := u + 20) (f := (M u 3).toNat) (v := (ab_w M (u + 19) (M u 3).toNat (M 4 0)) 4 1) (str_a (k := u + 19) (f := (M u 3).toNat) (v := M 4 0) hS (fT (P := fun z => pu_na (z + 19) = true) hu rfl rfl)) (fT (P := fun z => pu_na (z + 20) = true) hu rfl rfl)) rfl (by decide) ?_
  refine g_iast (n := 6) rfl (str_a (k := u + 20) (f := (M u 3).toNat) (v := (ab_w M (u + 19) (M u 3).toNat (M 4 0)) 4 1) (str_a (k := u + 19) (f := (M u 3).toNat) (v := M 4 0) hS (fT (P := fun z => pu_na (z + 19) = true) hu rfl rfl)) (fT (P := fun z => pu_na (z + 20) = true) hu rfl rfl)) (fT (P := fun z => ab_arB 20 (z + 21) 6 = true) hu rfl rfl) hf1 ?_
  refine wp_sts 1 (pc' := 42) (ls' := [some (.inr (.inr 1)), some (.inr (.inr u)), some (.inl (M u 3))]) (st' := [.inr (.inr u)]) (M' := (ab_w (ab_w (ab_w M (u + 19) (M u 3).toNat (M 4 0)) (u + 20) (M u 3).toNat ((ab_w M (u + 19) (M u 3).toNat (M 4 0)) 4 1)) (u + 21) (M u 3).toNat ((ab_w (ab_w M (u + 19) (M u 3).toNat (M 4 0)) (u + 20) (M u 3).toNat ((ab_w M (u + 19) (M u 3).toNat (M 4 0)) 4 1)) 4 2))) rfl ?_
  refine g_getR (j := u + 22) rfl (str_a (k := u + 21) (f := (M u 3).toNat) (v := (ab_w (ab_w M (u + 19) (M u 3).toNat (M 4 0)) (u + 20) (M u 3).toNat ((ab_w M (u + 19) (M u 3).toNat (M 4 0)) 4 1)) 4 2) (str_a (k := u + 20) (f := (M u 3).toNat) (v := (ab_w M (u + 19) (M u 3).toNat (M 4 0)) 4 1) (str_a (k := u + 19) (f := (M u 3).toNat) (v := M 4 0) hS (fT (P := fun z => pu_na (z + 19) = true) hu rfl rfl)) (fT (P := fun z => pu_na (z + 20) = true) hu rfl rfl)) (fT (P := fun z => pu_na (z + 21) = true) hu rfl rfl)) (fT (P := fun z => pu_bJ 2 z 12 8 = true) hu rfl rfl) (fT (P := fun z => (ab_w (ab_w (ab_w M (u + 19) (M u 3).toNat (M 4 0)) (u + 20) (M u 3).toNat ((ab_w M (u + 19) (M u 3).toNat (M 4 0)) 4 1)) (u + 21) (M u 3).toNat ((ab_w (ab_w M (u + 19) (M u 3).toNat (M 4 0)) (u + 20) (M u 3).toNat ((ab_w M (u + 19) (M u 3).toNat (M 4 0)) 4 1)) 4 2)) z 12 = ((z + 22 : Nat) : Int)) hu (str_r (str_a (k := u + 21) (f := (M u 3).toNat) (v := (ab_w (ab_w M (u + 19) (M u 3).toNat (M 4 0)) (u + 20) (M u 3).toNat ((ab_w M (u + 19) (M u 3).toNat (M 4 0)) 4 1)) 4 2) (str_a (k := u + 20) (f := (M u 3).toNat) (v := (ab_w M (u + 19) (M u 3).toNat (M 4 0)) 4 1) (str_a (k := u + 19) (f := (M u 3).toNat) (v := M 4 0) hS (fT (P := fun z => pu_na (z + 19) = true) hu rfl rfl)) (fT (P := fun z => pu_na (z + 20) = true) hu rfl rfl)) (fT (P := fun z => pu_na (z + 21) = true) hu rfl rfl)) 5 12 27 rfl) (str_r (str_a (k := u + 21) (f := (M u 3).toNat) (v := (ab_w (ab_w M (u + 19) (M u 3).toNat (M 4 0)) (u + 20) (M u 3).toNat ((ab_w M (u + 19) (M u 3).toNat (M 4 0)) 4 1)) 4 2) (str_a (k := u + 20) (f := (M u 3).toNat) (v := (ab_w M (u + 19) (M u 3).toNat (M 4 0)) 4 1) (str_a (k := u + 19) (f := (M u 3).toNat) (v := M 4 0) hS (fT (P := fun z => pu_na (z + 19) = true) hu rfl rfl)) (fT (P := fun z => pu_na (z + 20) = true) hu rfl rfl)) (fT (P := fun z => pu_na (z + 21) = true) hu rfl rfl)) 37 12 59 rfl)) (fT (P := fun z => z + 22 < 1000) hu (by decide) (by decide)) ?_
  refine wp_sts 2 (pc' := 47) (ls' := [some (.inr (.inr 1)), some (.inr (.inr u)), some (.inl (M u 3))]) (st' := [.inr (.inr 1), .inl (M u 3), .inr (.inr (u + 22))]) (M' := (ab_w (ab_w (ab_w M (u + 19) (M u 3).toNat (M 4 0)) (u + 20) (M u 3).toNat ((ab_w M (u + 19) (M u 3).toNat (M 4 0)) 4 1)) (u + 21) (M u 3).toNat ((ab_w (ab_w M (u + 19) (M u 3).toNat (M 4 0)) (u + 20) (M u 3).toNat ((ab_w M (u + 19) (M u 3).toNat (M 4 0)) 4 1)) 4 2))) rfl ?_
  refine g_getR (j := 4) rfl (str_a (k := u + 21) (f := (M u 3).toNat) (v := (ab_w (ab_w M (u + 19) (M u 3).toNat (M 4 0)) (u + 20) (M u 3).toNat ((ab_w M (u + 19) (M u 3).toNat (M 4 0)) 4 1)) 4 2) (str_a (k := u + 20) (f := (M u 3).toNat) (v := (ab_w M (u + 19) (M u 3).toNat (M 4 0)) 4 1) (str_a (k := u + 19) (f := (M u 3).toNat) (v := M 4 0) hS (fT (P := fun z => pu_na (z + 19) = true) hu rfl rfl)) (fT (P := fun z => pu_na (z + 20) = true) hu rfl rfl)) (fT (P := fun z => pu_na (z + 21) = true) hu rfl rfl)) rfl (str_r (str_a (k := u + 21) (f := (M u 3).toNat) (v := (ab_w (ab_w M (u + 19) (M u 3).toNat (M 4 0)) (u + 20) (M u 3).toNat ((ab_w M (u + 19) (M u 3).toNat (M 4 0)) 4 1)) 4 2) (str_a (k := u + 20) (f := (M u 3).toNat) (v := (ab_w M (u + 19) (M u 3).toNat (M 4 0)) 4 1) (str_a (k := u + 19) (f := (M u 3).toNat) (v := M 4 0) hS (fT (P := fun z => pu_na (z + 19) = true) hu rfl rfl)) (fT (P := fun z => pu_na (z + 20) = true) hu rfl rfl)) (fT (P := fun z => pu_na (z + 21) = true) hu rfl rfl)) 1 5 4 rfl) (by decide) ?_
  refine wp_sts 1 (pc' := 51) (ls' := [some (.inr (.inr 1)), some (.inr (.inr u)), some (.inl (M u 3))]) (st' := [.inl 3, .inr (.inr 4), .inl (M u 3), .inr (.inr (u + 22))]) (M' := (ab_w (ab_w (ab_w M (u + 19) (M u 3).toNat (M 4 0)) (u + 20) (M u 3).toNat ((ab_w M (u + 19) (M u 3).toNat (M 4 0)) 4 1)) (u + 21) (M u 3).toNat ((ab_w (ab_w M (u + 19) (M u 3).toNat (M 4 0)) (u + 20) (M u 3).toNat ((ab_w M (u + 19) (M u 3).toNat (M 4 0)) 4 1)) 4 2))) rfl ?_
  refine g_iald (n := 4) rfl (str_a (k := u + 21) (f := (M u 3).toNat) (v := (ab_w (ab_w M (u + 19) (M u 3).toNat (M 4 0)) (u + 20) (M u 3).toNat ((ab_w M (u + 19) (M u 3).toNat (M 4 0)) 4 1)) 4 2) (str_a (k := u + 20) (f := (M u 3).toNat) (v := (ab_w M (u + 19) (M u 3).toNat (M 4 0)) 4 1) (str_a (k := u + 19) (f := (M u 3).toNat) (v := M 4 0) hS (fT (P := fun z => pu_na (z + 19) = true) hu rfl rfl)) (fT (P := fun z => pu_na (z + 20) = true) hu rfl rfl)) (fT (P := fun z => pu_na (z + 21) = true) hu rfl rfl)) rfl (by decide) ?_
  refine g_iast (n := 6) rfl (str_a (k := u + 21) (f := (M u 3).toNat) (v := (ab_w (ab_w M (u + 19) (M u 3).toNat (M 4 0)) (u + 20) (M u 3).toNat ((ab_w M (u + 19) (M u 3).toNat (M 4 0)) 4 1)) 4 2) (str_a (k := u + 20) (f := (M u 3).toNat) (v := (ab_w M (u + 19) (M u 3).toNat (M 4 0)) 4 1) (str_a (k := u + 19) (f := (M u 3).toNat) (v := M 4 0) hS (fT (P := fun z => pu_na (z + 19) = true) hu rfl rfl)) (fT (P := fun z => pu_na (z + 20) = true) hu rfl rfl)) (fT (P := fun z => pu_na (z + 21) = true) hu rfl rfl)) (fT (P := fun z => ab_arB 20 (z + 22) 6 = true) hu rfl rfl) hf1 ?_
  refine wp_sts 2 (pc' := 55) (ls' := [some (.inr (.inr 1)), some (.inr (.inr u)), some (.inl (M u 3))]) (st' := [.inr (.inr u), .inr (.inr u)]) (M' := (ab_w (ab_w (ab_w (ab_w M (u + 19) (M u 3).toNat (M 4 0)) (u + 20) (M u 3).toNat ((ab_w M (u + 19) (M u 3).toNat (M 4 0)) 4 1)) (u + 21) (M u 3).toNat ((ab_w (ab_w M (u + 19) (M u 3).toNat (M 4 0)) (u + 20) (M u 3).toNat ((ab_w M (u + 19) (M u 3).toNat (M 4 0)) 4 1)) 4 2)) (u + 22) (M u 3).toNat ((ab_w (ab_w (ab_w M (u + 19) (M u 3).toNat (M 4 0)) (u + 20) (M u 3).toNat ((ab_w M (u + 19) (M u 3).toNat (M 4 0)) 4 1)) (u + 21) (M u 3).toNat ((ab_w (ab_w M (u + 19) (M u 3).toNat (M 4 0)) (u + 20) (M u 3).toNat ((ab_w M (u + 19) (M u 3).toNat (M 4 0)) 4 1)) 4 2)) 4 3))) rfl ?_
  refine g_getI rfl (str_a (k := u + 22) (f := (M u 3).toNat) (v := (ab_w (ab_w (ab_w M (u + 19) (M u 3).toNat (M 4 0)) (u + 20) (M u 3).toNat ((ab_w M (u + 19) (M u 3).toNat (M 4 0)) 4 1)) (u + 21) (M u 3).toNat ((ab_w (ab_w M (u + 19) (M u 3).toNat (M 4 0)) (u + 20) (M u 3).toNat ((ab_w M (u + 19) (M u 3).toNat (M 4 0)) 4 1)) 4 2)) 4 3) (str_a (k := u + 21) (f := (M u 3).toNat) (v := (ab_w (ab_w M (u + 19) (M u 3).toNat (M 4 0)) (u + 20) (M u 3).toNat ((ab_w M (u + 19) (M u 3).toNat (M 4 0)) 4 1)) 4 2) (str_a (k := u + 20) (f := (M u 3).toNat) (v := (ab_w M (u + 19) (M u 3).toNat (M 4 0)) 4 1) (str_a (k := u + 19) (f := (M u 3).toNat) (v := M 4 0) hS (fT (P := fun z => pu_na (z + 19) = true) hu rfl rfl)) (fT (P := fun z => pu_na (z + 20) = true) hu rfl rfl)) (fT (P := fun z => pu_na (z + 21) = true) hu rfl rfl)) (fT (P := fun z => pu_na (z + 22) = true) hu rfl rfl)) (fT (P := fun z => pu_bI z 3 8 = true) hu rfl rfl) ?_
  refine wp_sts 1 (pc' := 59) (ls' := [some (.inr (.inr 1)), some (.inr (.inr u)), some (.inl (M u 3))]) (st' := [.inl 1, .inl ((ab_w (ab_w (ab_w (ab_w M (u + 19) (M u 3).toNat (M 4 0)) (u + 20) (M u 3).toNat ((ab_w M (u + 19) (M u 3).toNat (M 4 0)) 4 1)) (u + 21) (M u 3).toNat ((ab_w (ab_w M (u + 19) (M u 3).toNat (M 4 0)) (u + 20) (M u 3).toNat ((ab_w M (u + 19) (M u 3).toNat (M 4 0)) 4 1)) 4 2)) (u + 22) (M u 3).toNat ((ab_w (ab_w (ab_w M (u + 19) (M u 3).toNat (M 4 0)) (u + 20) (M u 3).toNat ((ab_w M (u + 19) (M u 3).toNat (M 4 0)) 4 1)) (u + 21) (M u 3).toNat ((ab_w (ab_w M (u + 19) (M u 3).toNat (M 4 0)) (u + 20) (M u 3).toNat ((ab_w M (u + 19) (M u 3).toNat (M 4 0)) 4 1)) 4 2)) 4 3)) u 3), .inr (.inr u)]) (M' := (ab_w (ab_w (ab_w (ab_w M (u + 19) (M u 3).toNat (M 4 0)) (u + 20) (M u 3).toNat ((ab_w M (u + 19) (M u 3).toNat (M 4 0)) 4 1)) (u + 21) (M u 3).toNat ((ab_w (ab_w M (u + 19) (M u 3).toNat (M 4 0)) (u + 20) (M u 3).toNat ((ab_w M (u + 19) (M u 3).toNat (M 4 0)) 4 1)) 4 2)) (u + 22) (M u 3).toNat ((ab_w (ab_w (ab_w M (u + 19) (M u 3).toNat (M 4 0)) (u + 20) (M u 3).toNat ((ab_w M (u + 19) (M u 3).toNat (M 4 0)) 4 1)) (u + 21) (M u 3).toNat ((ab_w (ab_w M (u + 19) (M u 3).toNat (M 4 0)) (u + 20) (M u 3).toNat ((ab_w M (u + 19) (M u 3).toNat (M 4 0)) 4 1)) 4 2)) 4 3))) rfl ?_
  obtain ⟨hf2, h⟩ := h
  refine w_iadd rfl hf2 ?_
  refine g_putI rfl (str_a (k := u + 22) (f := (M u 3).toNat) (v := (ab_w (ab_w (ab_w M (u + 19) (M u 3).toNat (M 4 0)) (u + 20) (M u 3).toNat ((ab_w M (u + 19) (M u 3).toNat (M 4 0)) 4 1)) (u + 21) (M u 3).toNat ((ab_w (ab_w M (u + 19) (M u 3).toNat (M 4 0)) (u + 20) (M u 3).toNat ((ab_w M (u + 19) (M u 3).toNat (M 4 0)) 4 1)) 4 2)) 4 3) (str_a (k := u + 21) (f := (M u 3).toNat) (v := (ab_w (ab_w M (u + 19) (M u 3).toNat (M 4 0)) (u + 20) (M u 3).toNat ((ab_w M (u + 19) (M u 3).toNat (M 4 0)) 4 1)) 4 2) (str_a (k := u + 20) (f := (M u 3).toNat) (v := (ab_w M (u + 19) (M u 3).toNat (M 4 0)) 4 1) (str_a (k := u + 19) (f := (M u 3).toNat) (v := M 4 0) hS (fT (P := fun z => pu_na (z + 19) = true) hu rfl rfl)) (fT (P := fun z => pu_na (z + 20) = true) hu rfl rfl)) (fT (P := fun z => pu_na (z + 21) = true) hu rfl rfl)) (fT (P := fun z => pu_na (z + 22) = true) hu rfl rfl)) (fT (P := fun z => pu_bJ 0 z 3 8 = true) hu rfl rfl) ?_
  exact wp_ret rfl rfl rfl h
/- Rounds.tryAll, at 0 -/
theorem b38_0 {d t : Nat} {g : Nat} {u : Nat} {x2 : Int} {x3 : Int} {x4 : Int} {M : ab_M} {Q : Option ab_V → ab_M → Prop} (hd : 1 ≤ d) (hS : pu_str t M) (hg : pu_G g) (hu : pu_T u) (h : ∃ M1, ab_ev (d - 1) 193 [.inr (.inr (g + 2)), .inl ((-1))] M none M1 ∧ pu_str t M1 ∧ ∃ M2, ab_ev (d - 1) 39 [.inr (.inr g), .inr (.inr u), .inl x2, .inl x3, .inl x4, .inl 0] M1 none M2 ∧ pu_str t M2 ∧ Q none M2) : ab_wp d 38 0 [some (.inr (.inr g)), some (.inr (.inr u)), some (.inl x2), some (.inl x3), some (.inl x4)] [] M Q := by
  refine wp_sts 1 (pc' := 1) (ls' := [some (.inr (.inr g)), some (.inr (.inr u)), some (.inl x2), some (.inl x3), some (.inl x4)]) (st' := [.inr (.inr g)]) (M' := M) rfl ?_
  refine g_getR (j := g + 2) rfl hS (fG (P := fun z => pu_bJ 2 z 1 50 = true) hg rfl rfl rfl rfl) (fG (P := fun z => M z 1 = ((z + 2 : Nat) : Int)) hg (str_r hS 78 1 80 rfl) (str_r hS 82 1 84 rfl) (str_r hS 86 1 88 rfl) (str_r hS 90 1 92 rfl)) (fG (P := fun z => z + 2 < 1000) hg (by decide) (by decide) (by decide) (by decide)) ?_
  refine wp_sts 1 (pc' := 5) (ls' := [some (.inr (.inr g)), some (.inr (.inr u)), some (.inl x2), some (.inl x3), some (.inl x4)]) (st' := [.inl ((-1)), .inr (.inr (g + 2))]) (M' := M) rfl ?_
  obtain ⟨M1, he, hS1, h⟩ := h
  refine g_callV (c := 193) (as := [.inr (.inr (g + 2)), .inl ((-1))]) (rs := []) rfl rfl hS hd rfl he ?_
  refine wp_sts 6 (pc' := 15) (ls' := [some (.inr (.inr g)), some (.inr (.inr u)), some (.inl x2), some (.inl x3), some (.inl x4)]) (st' := [.inl 0, .inl x4, .inl x3, .inl x2, .inr (.inr u), .inr (.inr g)]) (M' := M1) rfl ?_
  obtain ⟨M2, he, hS2, h⟩ := h
  refine g_callV (c := 39) (as := [.inr (.inr g), .inr (.inr u), .inl x2, .inl x3, .inl x4, .inl 0]) (rs := []) rfl rfl hS1 hd rfl he ?_
  exact wp_ret rfl rfl rfl h
/- Rounds.goOn, at 0 -/
theorem b39_0 {d t : Nat} {g : Nat} {u : Nat} {x2 : Int} {x3 : Int} {x4 : Int} {x5 : Int} {M : ab_M} {Q : Option ab_V → ab_M → Prop} (hd : 1 ≤ d) (hS : pu_str t M) (hg : pu_G g) (hu : pu_T u) (h : ∃ M1, ab_ev (d - 1) (ab_meet (ab_kd g).1) [.inr (.inr g), .inr (.inr u), .inl x5, .inl x4] M none M1 ∧ pu_str t M1 ∧ (x5 < 6 → ab_wp d 39 20 [some (.inr (.inr g)), some (.inr (.inr u)), some (.inl x2), some (.inl x3), some (.inl x4), some (.inl x5), some (.inl 0), none] [] M1 Q) ∧ (6 ≤ x5 → Q none M1)) : ab_wp d 39 0 [some (.inr (.inr g)), some (.inr (.inr u)), some (.inl x2), some (.inl x3), some (.inl x4), some (.inl x5), none, none] [] M Q := by
  refine wp_sts 4 (pc' := 6) (ls' := [some (.inr (.inr g)), some (.inr (.inr u)), some (.inl x2), some (.inl x3), some (.inl x4), some (.inl x5), none, none]) (st' := [.inl x4, .inl x5, .inr (.inr u), .inr (.inr g)]) (M' := M) rfl ?_
  obtain ⟨M1, he, hS1, h⟩ := h
  refine g_callV (c := ab_meet (ab_kd g).1) (as := [.inr (.inr g), .inr (.inr u), .inl x5, .inl x4]) (rs := []) rfl rfl hS hd (fG (P := fun z => ab_argsN (.invokevirtual 28, 1, 300, 4) [.inl x4, .inl x5, .inr (.inr u), .inr (.inr z)] = some (ab_meet (ab_kd z).1, [.inr (.inr z), .inr (.inr u), .inl x5, .inl x4], [])) hg rfl rfl rfl rfl) he ?_
  refine wp_sts 2 (pc' := 13) (ls' := [some (.inr (.inr g)), some (.inr (.inr u)), some (.inl x2), some (.inl x3), some (.inl x4), some (.inl x5), none, none]) (st' := [.inl 6, .inl x5]) (M' := M1) rfl ?_
  refine c2_lt rfl (fun c => ?_) (fun c => ?_)
  · replace h := h.1 c
    refine wp_sts 2 (pc' := 20) (ls' := [some (.inr (.inr g)), some (.inr (.inr u)), some (.inl x2), some (.inl x3), some (.inl x4), some (.inl x5), some (.inl 0), none]) (st' := []) (M' := M1) rfl ?_
    exact h
  · replace h := h.2 c
    exact wp_ret rfl rfl rfl h
/- Rounds.goOn, at 20 -/
theorem b39_20 {d t : Nat} {g : Nat} {u : Nat} {x2 : Int} {x3 : Int} {x4 : Int} {x5 : Int} {x6 : Int} {y7 : Option ab_V} {M : ab_M} {Q : Option ab_V → ab_M → Prop} (hd : 1 ≤ d) (hS : pu_str t M) (hg : pu_G g) (hu : pu_T u) (h : (M u 3 ≤ x6 → Q none M) ∧ (x6 < M u 3 → (ab_and (ab_shr x2 x6) 1 ≠ 0 → ∃ r1 M1, ab_ev (d - 1) 63 [.inr (.inr u), .inl x6, .inl x3, .inl x4] M (some (.inl r1)) M1 ∧ pu_str t M1 ∧ (r1 = (-1) → ab_rg (x6 + 1) ∧ ab_wp d 39 20 [some (.inr (.inr g)), some (.inr (.inr u)), some (.inl x2), some (.inl x3), some (.inl x4), some (.inl x5), some (.inl (x6 + 1)), some (.inl r1)] [] M1 Q) ∧ (r1 ≠ (-1) → (0 ≤ x5 ∧ x5 < 6) ∧ (0 ≤ x6 ∧ x6 < 6) ∧ ∃ r2 M2, ab_ev (d - 1) 59 [.inr (.inr u), .inl x6] (ab_w (ab_w M1 (g + 1) x5.toNat x6) (g + 2) x6.toNat r1) (some (.inl r2)) M2 ∧ pu_str t M2 ∧ ab_rg (x5 + 1) ∧ ∃ M3, ab_ev (d - 1) 39 [.inr (.inr g), .inr (.inr u), .inl (ab_and x2 (ab_xor (ab_shl 1 x6) ((-1)))), .inl r2, .inl r1, .inl (x5 + 1)] M2 none M3 ∧ pu_str t M3 ∧ ab_rg (x6 + 1) ∧ ab_wp d 39 20 [some (.inr (.inr g)), some (.inr (.inr u)), some (.inl x2), some (.inl x3), some (.inl x4), some (.inl x5), some (.inl (x6 + 1)), some (.inl r1)] [] (ab_w M3 (g + 2) x6.toNat ((-1))) Q)) ∧ (ab_and (ab_shr x2 x6) 1 = 0 → ab_rg (x6 + 1) ∧ ab_wp d 39 20 [some (.inr (.inr g)), some (.inr (.inr u)), some (.inl x2), some (.inl x3), some (.inl x4), some (.inl x5), some (.inl (x6 + 1)), some (.inl ((-1)))] [] M Q))) : ab_wp d 39 20 [some (.inr (.inr g)), some (.inr (.inr u)), some (.inl x2), some (.inl x3), some (.inl x4), some (.inl x5), some (.inl x6), y7] [] M Q := by
  refine wp_sts 2 (pc' := 23) (ls' := [some (.inr (.inr g)), some (.inr (.inr u)), some (.inl x2), some (.inl x3), some (.inl x4), some (.inl x5), some (.inl x6), y7]) (st' := [.inr (.inr u), .inl x6]) (M' := M) rfl ?_
  refine g_getI rfl hS (fT (P := fun z => pu_bI z 3 8 = true) hu rfl rfl) ?_
  refine c2_ge rfl (fun c => ?_) (fun c => ?_)
  · replace h := h.1 c
    exact wp_ret rfl rfl rfl h
  · replace h := h.2 c
    refine wp_sts 5 (pc' := 35) (ls' := [some (.inr (.inr g)), some (.inr (.inr u)), some (.inl x2), some (.inl x3), some (.inl x4), some (.inl x5), some (.inl x6), y7]) (st' := [.inl (ab_and (ab_shr x2 x6) 1)]) (M' := M) rfl ?_
    refine c1_ne rfl (fun c => ?_) (fun c => ?_)
    · replace h := h.1 c
      refine wp_sts 4 (pc' := 48) (ls' := [some (.inr (.inr g)), some (.inr (.inr u)), some (.inl x2), some (.inl x3), some (.inl x4), some (.inl x5), some (.inl x6), y7]) (st' := [.inl x4, .inl x3, .inl x6, .inr (.inr u)]) (M' := M) rfl ?_
      obtain ⟨r1, M1, he, hS1, h⟩ := h
      refine g_callI (c := 63) (as := [.inr (.inr u), .inl x6, .inl x3, .inl x4]) (rs := []) rfl rfl hS hd (fT (P := fun z => ab_argsN (.invokevirtual 38, 1, 63, 4) [.inl x4, .inl x3, .inl x6, .inr (.inr z)] = some (63, [.inr (.inr z), .inl x6, .inl x3, .inl x4], [])) hu rfl rfl) he ?_
      refine wp_sts 3 (pc' := 56) (ls' := [some (.inr (.inr g)), some (.inr (.inr u)), some (.inl x2), some (.inl x3), some (.inl x4), some (.inl x5), some (.inl x6), some (.inl r1)]) (st' := [.inl ((-1)), .inl r1]) (M' := M1) rfl ?_
      refine c2_eq rfl (fun c => ?_) (fun c => ?_)
      · replace h := h.1 c
        obtain ⟨hf1, h⟩ := h
        refine w_iinc rfl rfl hf1 ?_
        refine wp_sts 1 (pc' := 20) (ls' := [some (.inr (.inr g)), some (.inr (.inr u)), some (.inl x2), some (.inl x3), some (.inl x4), some (.inl x5), some (.inl (x6 + 1)), some (.inl r1)]) (st' := []) (M' := M1) rfl ?_
        exact h
      · replace h := h.2 c
        refine wp_sts 1 (pc' := 60) (ls' := [some (.inr (.inr g)), some (.inr (.inr u)), some (.inl x2), some (.inl x3), some (.inl x4), some (.inl x5), some (.inl x6), some (.inl r1)]) (st' := [.inr (.inr g)]) (M' := M1) rfl ?_
        refine g_getR (j := g + 1) rfl hS1 (fG (P := fun z => pu_bJ 2 z 0 50 = true) hg rfl rfl rfl rfl) (fG (P := fun z => M1 z 0 = ((z + 1 : Nat) : Int)) hg (str_r hS1 78 0 79 rfl) (str_r hS1 82 0 83 rfl) (str_r hS1 86 0 87 rfl) (str_r hS1 90 0 91 rfl)) (fG (P := fun z => z + 1 < 1000) hg (by decide) (by decide) (by decide) (by decide)) ?_
        refine wp_sts 2 (pc' := 67) (ls' := [some (.inr (.inr g)), some (.inr (.inr u)), some (.inl x2), some (.inl x3), some (.inl x4), some (.inl x5), some (.inl x6), some (.inl r1)]) (st' := [.inl x6, .inl x5, .inr (.inr (g + 1))]) (M' := M1) rfl ?_
        obtain ⟨hf1, h⟩ := h
        refine g_iast (n := 6) rfl hS1 (fG (P := fun z => ab_arB 20 (z + 1) 6 = true) hg rfl rfl rfl rfl) hf1 ?_
        refine wp_sts 1 (pc' := 69) (ls' := [some (.inr (.inr g)), some (.inr (.inr u)), some (.inl x2), some (.inl x3), some (.inl x4), some (.inl x5), some (.inl x6), some (.inl r1)]) (st' := [.inr (.inr g)]) (M' := (ab_w M1 (g + 1) x5.toNat x6)) rfl ?_
        refine g_getR (j := g + 2) rfl (str_a (k := g + 1) (f := x5.toNat) (v := x6) hS1 (fG (P := fun z => pu_na (z + 1) = true) hg rfl rfl rfl rfl)) (fG (P := fun z => pu_bJ 2 z 1 50 = true) hg rfl rfl rfl rfl) (fG (P := fun z => (ab_w M1 (g + 1) x5.toNat x6) z 1 = ((z + 2 : Nat) : Int)) hg (str_r (str_a (k := g + 1) (f := x5.toNat) (v := x6) hS1 (fG (P := fun z => pu_na (z + 1) = true) hg rfl rfl rfl rfl)) 78 1 80 rfl) (str_r (str_a (k := g + 1) (f := x5.toNat) (v := x6) hS1 (fG (P := fun z => pu_na (z + 1) = true) hg rfl rfl rfl rfl)) 82 1 84 rfl) (str_r (str_a (k := g + 1) (f := x5.toNat) (v := x6) hS1 (fG (P := fun z => pu_na (z + 1) = true) hg rfl rfl rfl rfl)) 86 1 88 rfl) (str_r (str_a (k := g + 1) (f := x5.toNat) (v := x6) hS1 (fG (P := fun z => pu_na (z + 1) = true) hg rfl rfl rfl rfl)) 90 1 92 rfl)) (fG (P := fun z => z + 2 < 1000) hg (by decide) (by decide) (by decide) (by decide)) ?_
        refine wp_sts 2 (pc' := 76) (ls' := [some (.inr (.inr g)), some (.inr (.inr u)), some (.inl x2), some (.inl x3), some (.inl x4), some (.inl x5), some (.inl x6), some (.inl r1)]) (st' := [.inl r1, .inl x6, .inr (.inr (g + 2))]) (M' := (ab_w M1 (g + 1) x5.toNat x6)) rfl ?_
        obtain ⟨hf2, h⟩ := h
        refine g_iast (n := 6) rfl (str_a (k := g + 1) (f := x5.toNat) (v := x6) hS1 (fG (P := fun z => pu_na (z + 1) = true) hg rfl rfl rfl rfl)) (fG (P := fun z => ab_arB 20 (z + 2) 6 = true) hg rfl rfl rfl rfl) hf2 ?_
        refine wp_sts 11 (pc' := 90) (ls' := [some (.inr (.inr g)), some (.inr (.inr u)), some (.inl x2), some (.inl x3), some (.inl x4), some (.inl x5), some (.inl x6), some (.inl r1)]) (st' := [.inl x6, .inr (.inr u), .inl (ab_and x2 (ab_xor (ab_shl 1 x6) ((-1)))), .inr (.inr u), .inr (.inr g)]) (M' := (ab_w (ab_w M1 (g + 1) x5.toNat x6) (g + 2) x6.toNat r1)) rfl ?_
        obtain ⟨r2, M2, he, hS2, h⟩ := h
        refine g_callI (c := 59) (as := [.inr (.inr u), .inl x6]) (rs := [.inl (ab_and x2 (ab_xor (ab_shl 1 x6) ((-1)))), .inr (.inr u), .inr (.inr g)]) rfl rfl (str_a (k := g + 2) (f := x6.toNat) (v := r1) (str_a (k := g + 1) (f := x5.toNat) (v := x6) hS1 (fG (P := fun z => pu_na (z + 1) = true) hg rfl rfl rfl rfl)) (fG (P := fun z => pu_na (z + 2) = true) hg rfl rfl rfl rfl)) hd (fT (P := fun z => ab_argsN (.invokevirtual 42, 1, 59, 2) [.inl x6, .inr (.inr z), .inl (ab_and x2 (ab_xor (ab_shl 1 x6) ((-1)))), .inr (.inr u), .inr (.inr g)] = some (59, [.inr (.inr z), .inl x6], [.inl (ab_and x2 (ab_xor (ab_shl 1 x6) ((-1)))), .inr (.inr u), .inr (.inr g)])) hu rfl rfl) he ?_
        refine wp_sts 3 (pc' := 98) (ls' := [some (.inr (.inr g)), some (.inr (.inr u)), some (.inl x2), some (.inl x3), some (.inl x4), some (.inl x5), some (.inl x6), some (.inl r1)]) (st' := [.inl 1, .inl x5, .inl r1, .inl r2, .inl (ab_and x2 (ab_xor (ab_shl 1 x6) ((-1)))), .inr (.inr u), .inr (.inr g)]) (M' := M2) rfl ?_
        obtain ⟨hf3, h⟩ := h
        refine w_iadd rfl hf3 ?_
        obtain ⟨M3, he, hS3, h⟩ := h
        refine g_callV (c := 39) (as := [.inr (.inr g), .inr (.inr u), .inl (ab_and x2 (ab_xor (ab_shl 1 x6) ((-1)))), .inl r2, .inl r1, .inl (x5 + 1)]) (rs := []) rfl rfl hS2 hd rfl he ?_
        refine wp_sts 1 (pc' := 103) (ls' := [some (.inr (.inr g)), some (.inr (.inr u)), some (.inl x2), some (.inl x3), some (.inl x4), some (.inl x5), some (.inl x6), some (.inl r1)]) (st' := [.inr (.inr g)]) (M' := M3) rfl ?_
        refine g_getR (j := g + 2) rfl hS3 (fG (P := fun z => pu_bJ 2 z 1 50 = true) hg rfl rfl rfl rfl) (fG (P := fun z => M3 z 1 = ((z + 2 : Nat) : Int)) hg (str_r hS3 78 1 80 rfl) (str_r hS3 82 1 84 rfl) (str_r hS3 86 1 88 rfl) (str_r hS3 90 1 92 rfl)) (fG (P := fun z => z + 2 < 1000) hg (by decide) (by decide) (by decide) (by decide)) ?_
        refine wp_sts 2 (pc' := 109) (ls' := [some (.inr (.inr g)), some (.inr (.inr u)), some (.inl x2), some (.inl x3), some (.inl x4), some (.inl x5), some (.inl x6), some (.inl r1)]) (st' := [.inl ((-1)), .inl x6, .inr (.inr (g + 2))]) (M' := M3) rfl ?_
        refine g_iast (n := 6) rfl hS3 (fG (P := fun z => ab_arB 20 (z + 2) 6 = true) hg rfl rfl rfl rfl) hf2 ?_
        obtain ⟨hf4, h⟩ := h
        refine w_iinc rfl rfl hf4 ?_
        refine wp_sts 1 (pc' := 20) (ls' := [some (.inr (.inr g)), some (.inr (.inr u)), some (.inl x2), some (.inl x3), some (.inl x4), some (.inl x5), some (.inl (x6 + 1)), some (.inl r1)]) (st' := []) (M' := (ab_w M3 (g + 2) x6.toNat ((-1)))) rfl ?_
        exact h
    · replace h := h.2 c
      refine wp_sts 5 (pc' := 56) (ls' := [some (.inr (.inr g)), some (.inr (.inr u)), some (.inl x2), some (.inl x3), some (.inl x4), some (.inl x5), some (.inl x6), some (.inl ((-1)))]) (st' := [.inl ((-1)), .inl ((-1))]) (M' := M) rfl ?_
      refine c2_eq rfl (fun _ => ?_) (fun c => absurd c (by decide))
      obtain ⟨hf1, h⟩ := h
      refine w_iinc rfl rfl hf1 ?_
      refine wp_sts 1 (pc' := 20) (ls' := [some (.inr (.inr g)), some (.inr (.inr u)), some (.inl x2), some (.inl x3), some (.inl x4), some (.inl x5), some (.inl (x6 + 1)), some (.inl ((-1)))]) (st' := []) (M' := M) rfl ?_
      exact h
/- Rounds.setOfRow, at 0 -/
theorem b40_0 {d t : Nat} {g : Nat} {x1 : Int} {M : ab_M} {Q : Option ab_V → ab_M → Prop} (hd : 1 ≤ d) (hS : pu_str t M) (hg : pu_G g) (h : ab_wp d 40 4 [some (.inr (.inr g)), some (.inl x1), some (.inl 0), some (.inl 0)] [] M Q) : ab_wp d 40 0 [some (.inr (.inr g)), some (.inl x1), none, none] [] M Q := by
  refine wp_sts 4 (pc' := 4) (ls' := [some (.inr (.inr g)), some (.inl x1), some (.inl 0), some (.inl 0)]) (st' := []) (M' := M) rfl ?_
  exact h
/- Rounds.setOfRow, at 4 -/
theorem b40_4 {d t : Nat} {g : Nat} {x1 : Int} {x2 : Int} {x3 : Int} {M : ab_M} {Q : Option ab_V → ab_M → Prop} (hd : 1 ≤ d) (hS : pu_str t M) (hg : pu_G g) (h : (x1 ≤ x3 → Q (some (.inl x2)) M) ∧ (x3 < x1 → (0 ≤ x3 ∧ x3 < 6) ∧ ab_rg (x3 + 1) ∧ ab_wp d 40 4 [some (.inr (.inr g)), some (.inl x1), some (.inl (ab_or x2 (ab_shl 1 (M (g + 1) x3.toNat)))), some (.inl (x3 + 1))] [] M Q)) : ab_wp d 40 4 [some (.inr (.inr g)), some (.inl x1), some (.inl x2), some (.inl x3)] [] M Q := by
  refine wp_sts 2 (pc' := 6) (ls' := [some (.inr (.inr g)), some (.inl x1), some (.inl x2), some (.inl x3)]) (st' := [.inl x1, .inl x3]) (M' := M) rfl ?_
  refine c2_ge rfl (fun c => ?_) (fun c => ?_)
  · replace h := h.1 c
    refine wp_sts 1 (pc' := 27) (ls' := [some (.inr (.inr g)), some (.inl x1), some (.inl x2), some (.inl x3)]) (st' := [.inl x2]) (M' := M) rfl ?_
    exact wp_ret rfl rfl (z := (some (.inl x2), M)) rfl h
  · replace h := h.2 c
    refine wp_sts 3 (pc' := 12) (ls' := [some (.inr (.inr g)), some (.inl x1), some (.inl x2), some (.inl x3)]) (st' := [.inr (.inr g), .inl 1, .inl x2]) (M' := M) rfl ?_
    refine g_getR (j := g + 1) rfl hS (fG (P := fun z => pu_bJ 2 z 0 50 = true) hg rfl rfl rfl rfl) (fG (P := fun z => M z 0 = ((z + 1 : Nat) : Int)) hg (str_r hS 78 0 79 rfl) (str_r hS 82 0 83 rfl) (str_r hS 86 0 87 rfl) (str_r hS 90 0 91 rfl)) (fG (P := fun z => z + 1 < 1000) hg (by decide) (by decide) (by decide) (by decide)) ?_
    refine wp_sts 1 (pc' := 16) (ls' := [some (.inr (.inr g)), some (.inl x1), some (.inl x2), some (.inl x3)]) (st' := [.inl x3, .inr (.inr (g + 1)), .inl 1, .inl x2]) (M' := M) rfl ?_
    obtain ⟨hf1, h⟩ := h
    refine g_iald (n := 6) rfl hS (fG (P := fun z => ab_arB 20 (z + 1) 6 = true) hg rfl rfl rfl rfl) hf1 ?_
    refine wp_sts 3 (pc' := 20) (ls' := [some (.inr (.inr g)), some (.inl x1), some (.inl (ab_or x2 (ab_shl 1 (M (g + 1) x3.toNat)))), some (.inl x3)]) (st' := []) (M' := M) rfl ?_
    obtain ⟨hf2, h⟩ := h
    refine w_iinc rfl rfl hf2 ?_
    refine wp_sts 1 (pc' := 4) (ls' := [some (.inr (.inr g)), some (.inl x1), some (.inl (ab_or x2 (ab_shl 1 (M (g + 1) x3.toNat)))), some (.inl (x3 + 1))]) (st' := []) (M' := M) rfl ?_
    exact h
/- State.beginIn, at 0 -/
theorem b42_0 {d t : Nat} {u : Nat}  {M : ab_M} {Q : Option ab_V → ab_M → Prop} (hd : 1 ≤ d) (hS : pu_str t M) (hu : pu_T u) (h : ∃ M1, ab_ev (d - 1) 193 [.inr (.inr 70), .inl ((-1))] (ab_w (ab_w (ab_w M 69 0 0) 69 1 ((ab_w M 69 0 0) u 1)) 69 2 ((-1))) none M1 ∧ pu_str t M1 ∧ Q none M1) : ab_wp d 42 0 [some (.inr (.inr 69)), some (.inr (.inr u))] [] M Q := by
  refine wp_sts 2 (pc' := 2) (ls' := [some (.inr (.inr 69)), some (.inr (.inr u))]) (st' := [.inl 0, .inr (.inr 69)]) (M' := M) rfl ?_
  refine g_putI rfl hS rfl ?_
  refine wp_sts 2 (pc' := 7) (ls' := [some (.inr (.inr 69)), some (.inr (.inr u))]) (st' := [.inr (.inr u), .inr (.inr 69)]) (M' := (ab_w M 69 0 0)) rfl ?_
  refine g_getI rfl (str_w (k := 69) (f := 0) (v := 0) hS rfl) (fT (P := fun z => pu_bI z 1 8 = true) hu rfl rfl) ?_
  refine g_putI rfl (str_w (k := 69) (f := 0) (v := 0) hS rfl) rfl ?_
  refine wp_sts 2 (pc' := 15) (ls' := [some (.inr (.inr 69)), some (.inr (.inr u))]) (st' := [.inl ((-1)), .inr (.inr 69)]) (M' := (ab_w (ab_w M 69 0 0) 69 1 ((ab_w M 69 0 0) u 1))) rfl ?_
  refine g_putI rfl (str_w (k := 69) (f := 1) (v := (ab_w M 69 0 0) u 1) (str_w (k := 69) (f := 0) (v := 0) hS rfl) rfl) rfl ?_
  refine wp_sts 1 (pc' := 19) (ls' := [some (.inr (.inr 69)), some (.inr (.inr u))]) (st' := [.inr (.inr 69)]) (M' := (ab_w (ab_w (ab_w M 69 0 0) 69 1 ((ab_w M 69 0 0) u 1)) 69 2 ((-1)))) rfl ?_
  refine g_getR (j := 70) rfl (str_w (k := 69) (f := 2) (v := (-1)) (str_w (k := 69) (f := 1) (v := (ab_w M 69 0 0) u 1) (str_w (k := 69) (f := 0) (v := 0) hS rfl) rfl) rfl) rfl (str_r (str_w (k := 69) (f := 2) (v := (-1)) (str_w (k := 69) (f := 1) (v := (ab_w M 69 0 0) u 1) (str_w (k := 69) (f := 0) (v := 0) hS rfl) rfl) rfl) 69 5 70 rfl) (by decide) ?_
  refine wp_sts 1 (pc' := 23) (ls' := [some (.inr (.inr 69)), some (.inr (.inr u))]) (st' := [.inl ((-1)), .inr (.inr 70)]) (M' := (ab_w (ab_w (ab_w M 69 0 0) 69 1 ((ab_w M 69 0 0) u 1)) 69 2 ((-1)))) rfl ?_
  obtain ⟨M1, he, hS1, h⟩ := h
  refine g_callV (c := 193) (as := [.inr (.inr 70), .inl ((-1))]) (rs := []) rfl rfl (str_w (k := 69) (f := 2) (v := (-1)) (str_w (k := 69) (f := 1) (v := (ab_w M 69 0 0) u 1) (str_w (k := 69) (f := 0) (v := 0) hS rfl) rfl) rfl) hd rfl he ?_
  exact wp_ret rfl rfl rfl h
/- State.become, at 0 -/
theorem b43_0 {d t : Nat} {s : Nat} {s2 : Nat}  {M : ab_M} {Q : Option ab_V → ab_M → Prop} (hd : 1 ≤ d) (hS : pu_str t M) (hs : pu_S s) (hs2 : pu_S s2) (h : ((0 : Int) ≤ 6 ∧ (0 : Int) ≤ 0 ∧ (0 : Int) ≤ 0 ∧ 0 + 6 ≤ (6 : Int) ∧ 0 + 6 ≤ (6 : Int)) ∧ Q none (ab_cpm (ab_w (ab_w (ab_w (ab_w M s 0 (M s2 0)) s 1 ((ab_w M s 0 (M s2 0)) s2 1)) s 2 ((ab_w (ab_w M s 0 (M s2 0)) s 1 ((ab_w M s 0 (M s2 0)) s2 1)) s2 2)) s 3 ((ab_w (ab_w (ab_w M s 0 (M s2 0)) s 1 ((ab_w M s 0 (M s2 0)) s2 1)) s 2 ((ab_w (ab_w M s 0 (M s2 0)) s 1 ((ab_w M s 0 (M s2 0)) s2 1)) s2 2)) s2 3)) (s2 + 1) (s + 1) 0 0 6)) : ab_wp d 43 0 [some (.inr (.inr s)), some (.inr (.inr s2))] [] M Q := by
  refine wp_sts 2 (pc' := 2) (ls' := [some (.inr (.inr s)), some (.inr (.inr s2))]) (st' := [.inr (.inr s2), .inr (.inr s)]) (M' := M) rfl ?_
  refine g_getI rfl hS (fS (P := fun z => pu_bI z 0 7 = true) hs2 rfl rfl rfl) ?_
  refine g_putI rfl hS (fS (P := fun z => pu_bJ 0 z 0 7 = true) hs rfl rfl rfl) ?_
  refine wp_sts 2 (pc' := 10) (ls' := [some (.inr (.inr s)), some (.inr (.inr s2))]) (st' := [.inr (.inr s2), .inr (.inr s)]) (M' := (ab_w M s 0 (M s2 0))) rfl ?_
  refine g_getI rfl (str_w (k := s) (f := 0) (v := M s2 0) hS (fS (P := fun z => pu_nr z 0 = true) hs rfl rfl rfl)) (fS (P := fun z => pu_bI z 1 7 = true) hs2 rfl rfl rfl) ?_
  refine g_putI rfl (str_w (k := s) (f := 0) (v := M s2 0) hS (fS (P := fun z => pu_nr z 0 = true) hs rfl rfl rfl)) (fS (P := fun z => pu_bJ 0 z 1 7 = true) hs rfl rfl rfl) ?_
  refine wp_sts 2 (pc' := 18) (ls' := [some (.inr (.inr s)), some (.inr (.inr s2))]) (st' := [.inr (.inr s2), .inr (.inr s)]) (M' := (ab_w (ab_w M s 0 (M s2 0)) s 1 ((ab_w M s 0 (M s2 0)) s2 1))) rfl ?_
  refine g_getI rfl (str_w (k := s) (f := 1) (v := (ab_w M s 0 (M s2 0)) s2 1) (str_w (k := s) (f := 0) (v := M s2 0) hS (fS (P := fun z => pu_nr z 0 = true) hs rfl rfl rfl)) (fS (P := fun z => pu_nr z 1 = true) hs rfl rfl rfl)) (fS (P := fun z => pu_bI z 2 7 = true) hs2 rfl rfl rfl) ?_
  refine g_putI rfl (str_w (k := s) (f := 1) (v := (ab_w M s 0 (M s2 0)) s2 1) (str_w (k := s) (f := 0) (v := M s2 0) hS (fS (P := fun z => pu_nr z 0 = true) hs rfl rfl rfl)) (fS (P := fun z => pu_nr z 1 = true) hs rfl rfl rfl)) (fS (P := fun z => pu_bJ 0 z 2 7 = true) hs rfl rfl rfl) ?_
  refine wp_sts 2 (pc' := 26) (ls' := [some (.inr (.inr s)), some (.inr (.inr s2))]) (st' := [.inr (.inr s2), .inr (.inr s)]) (M' := (ab_w (ab_w (ab_w M s 0 (M s2 0)) s 1 ((ab_w M s 0 (M s2 0)) s2 1)) s 2 ((ab_w (ab_w M s 0 (M s2 0)) s 1 ((ab_w M s 0 (M s2 0)) s2 1)) s2 2))) rfl ?_
  refine g_getI rfl (str_w (k := s) (f := 2) (v := (ab_w (ab_w M s 0 (M s2 0)) s 1 ((ab_w M s 0 (M s2 0)) s2 1)) s2 2) (str_w (k := s) (f := 1) (v := (ab_w M s 0 (M s2 0)) s2 1) (str_w (k := s) (f := 0) (v := M s2 0) hS (fS (P := fun z => pu_nr z 0 = true) hs rfl rfl rfl)) (fS (P := fun z => pu_nr z 1 = true) hs rfl rfl rfl)) (fS (P := fun z => pu_nr z 2 = true) hs rfl rfl rfl)) (fS (P := fun z => pu_bI z 3 7 = true) hs2 rfl rfl rfl) ?_
  refine g_putI rfl (str_w (k := s) (f := 2) (v := (ab_w (ab_w M s 0 (M s2 0)) s 1 ((ab_w M s 0 (M s2 0)) s2 1)) s2 2) (str_w (k := s) (f := 1) (v := (ab_w M s 0 (M s2 0)) s2 1) (str_w (k := s) (f := 0) (v := M s2 0) hS (fS (P := fun z => pu_nr z 0 = true) hs rfl rfl rfl)) (fS (P := fun z => pu_nr z 1 = true) hs rfl rfl rfl)) (fS (P := fun z => pu_nr z 2 = true) hs rfl rfl rfl)) (fS (P := fun z => pu_bJ 0 z 3 7 = true) hs rfl rfl rfl) ?_
  refine wp_sts 1 (pc' := 33) (ls' := [some (.inr (.inr s)), some (.inr (.inr s2))]) (st' := [.inr (.inr s2)]) (M' := (ab_w (ab_w (ab_w (ab_w M s 0 (M s2 0)) s 1 ((ab_w M s 0 (M s2 0)) s2 1)) s 2 ((ab_w (ab_w M s 0 (M s2 0)) s 1 ((ab_w M s 0 (M s2 0)) s2 1)) s2 2)) s 3 ((ab_w (ab_w (ab_w M s 0 (M s2 0)) s 1 ((ab_w M s 0 (M s2 0)) s2 1)) s 2 ((ab_w (ab_w M s 0 (M s2 0)) s 1 ((ab_w M s 0 (M s2 0)) s2 1)) s2 2)) s2 3))) rfl ?_
  refine g_getR (j := s2 + 1) rfl (str_w (k := s) (f := 3) (v := (ab_w (ab_w (ab_w M s 0 (M s2 0)) s 1 ((ab_w M s 0 (M s2 0)) s2 1)) s 2 ((ab_w (ab_w M s 0 (M s2 0)) s 1 ((ab_w M s 0 (M s2 0)) s2 1)) s2 2)) s2 3) (str_w (k := s) (f := 2) (v := (ab_w (ab_w M s 0 (M s2 0)) s 1 ((ab_w M s 0 (M s2 0)) s2 1)) s2 2) (str_w (k := s) (f := 1) (v := (ab_w M s 0 (M s2 0)) s2 1) (str_w (k := s) (f := 0) (v := M s2 0) hS (fS (P := fun z => pu_nr z 0 = true) hs rfl rfl rfl)) (fS (P := fun z => pu_nr z 1 = true) hs rfl rfl rfl)) (fS (P := fun z => pu_nr z 2 = true) hs rfl rfl rfl)) (fS (P := fun z => pu_nr z 3 = true) hs rfl rfl rfl)) (fS (P := fun z => pu_bJ 2 z 5 7 = true) hs2 rfl rfl rfl) (fS (P := fun z => (ab_w (ab_w (ab_w (ab_w M s 0 (M s2 0)) s 1 ((ab_w M s 0 (M s2 0)) s2 1)) s 2 ((ab_w (ab_w M s 0 (M s2 0)) s 1 ((ab_w M s 0 (M s2 0)) s2 1)) s2 2)) s 3 ((ab_w (ab_w (ab_w M s 0 (M s2 0)) s 1 ((ab_w M s 0 (M s2 0)) s2 1)) s 2 ((ab_w (ab_w M s 0 (M s2 0)) s 1 ((ab_w M s 0 (M s2 0)) s2 1)) s2 2)) s2 3)) z 5 = ((z + 1 : Nat) : Int)) hs2 (str_r (str_w (k := s) (f := 3) (v := (ab_w (ab_w (ab_w M s 0 (M s2 0)) s 1 ((ab_w M s 0 (M s2 0)) s2 1)) s 2 ((ab_w (ab_w M s 0 (M s2 0)) s 1 ((ab_w M s 0 (M s2 0)) s2 1)) s2 2)) s2 3) (str_w (k := s) (f := 2) (v := (ab_w (ab_w M s 0 (M s2 0)) s 1 ((ab_w M s 0 (M s2 0)) s2 1)) s2 2) (str_w (k := s) (f := 1) (v := (ab_w M s 0 (M s2 0)) s2 1) (str_w (k := s) (f := 0) (v := M s2 0) hS (fS (P := fun z => pu_nr z 0 = true) hs rfl rfl rfl)) (fS (P := fun z => pu_nr z 1 = true) hs rfl rfl rfl)) (fS (P := fun z => pu_nr z 2 = true) hs rfl rfl rfl)) (fS (P := fun z => pu_nr z 3 = true) hs rfl rfl rfl)) 69 5 70 rfl) (str_r (str_w (k := s) (f := 3) (v := (ab_w (ab_w (ab_w M s 0 (M s2 0)) s 1 ((ab_w M s 0 (M s2 0)) s2 1)) s 2 ((ab_w (ab_w M s 0 (M s2 0)) s 1 ((ab_w M s 0 (M s2 0)) s2 1)) s2 2)) s2 3) (str_w (k := s) (f := 2) (v := (ab_w (ab_w M s 0 (M s2 0)) s 1 ((ab_w M s 0 (M s2 0)) s2 1)) s2 2) (str_w (k := s) (f := 1) (v := (ab_w M s 0 (M s2 0)) s2 1) (str_w (k := s) (f := 0) (v := M s2 0) hS (fS (P := fun z => pu_nr z 0 = true) hs rfl rfl rfl)) (fS (P := fun z => pu_nr z 1 = true) hs rfl rfl rfl)) (fS (P := fun z => pu_nr z 2 = true) hs rfl rfl rfl)) (fS (P := fun z => pu_nr z 3 = true) hs rfl rfl rfl)) 71 5 72 rfl) (str_r (str_w (k := s) (f := 3) (v := (ab_w (ab_w (ab_w M s 0 (M s2 0)) s 1 ((ab_w M s 0 (M s2 0)) s2 1)) s 2 ((ab_w (ab_w M s 0 (M s2 0)) s 1 ((ab_w M s 0 (M s2 0)) s2 1)) s2 2)) s2 3) (str_w (k := s) (f := 2) (v := (ab_w (ab_w M s 0 (M s2 0)) s 1 ((ab_w M s 0 (M s2 0)) s2 1)) s2 2) (str_w (k := s) (f := 1) (v := (ab_w M s 0 (M s2 0)) s2 1) (str_w (k := s) (f := 0) (v := M s2 0) hS (fS (P := fun z => pu_nr z 0 = true) hs rfl rfl rfl)) (fS (P := fun z => pu_nr z 1 = true) hs rfl rfl rfl)) (fS (P := fun z => pu_nr z 2 = true) hs rfl rfl rfl)) (fS (P := fun z => pu_nr z 3 = true) hs rfl rfl rfl)) 73 5 74 rfl)) (fS (P := fun z => z + 1 < 1000) hs2 (by decide) (by decide) (by decide)) ?_
  refine wp_sts 2 (pc' := 38) (ls' := [some (.inr (.inr s)), some (.inr (.inr s2))]) (st' := [.inr (.inr s), .inl 0, .inr (.inr (s2 + 1))]) (M' := (ab_w (ab_w (ab_w (ab_w M s 0 (M s2 0)) s 1 ((ab_w M s 0 (M s2 0)) s2 1)) s 2 ((ab_w (ab_w M s 0 (M s2 0)) s 1 ((ab_w M s 0 (M s2 0)) s2 1)) s2 2)) s 3 ((ab_w (ab_w (ab_w M s 0 (M s2 0)) s 1 ((ab_w M s 0 (M s2 0)) s2 1)) s 2 ((ab_w (ab_w M s 0 (M s2 0)) s 1 ((ab_w M s 0 (M s2 0)) s2 1)) s2 2)) s2 3))) rfl ?_
  refine g_getR (j := s + 1) rfl (str_w (k := s) (f := 3) (v := (ab_w (ab_w (ab_w M s 0 (M s2 0)) s 1 ((ab_w M s 0 (M s2 0)) s2 1)) s 2 ((ab_w (ab_w M s 0 (M s2 0)) s 1 ((ab_w M s 0 (M s2 0)) s2 1)) s2 2)) s2 3) (str_w (k := s) (f := 2) (v := (ab_w (ab_w M s 0 (M s2 0)) s 1 ((ab_w M s 0 (M s2 0)) s2 1)) s2 2) (str_w (k := s) (f := 1) (v := (ab_w M s 0 (M s2 0)) s2 1) (str_w (k := s) (f := 0) (v := M s2 0) hS (fS (P := fun z => pu_nr z 0 = true) hs rfl rfl rfl)) (fS (P := fun z => pu_nr z 1 = true) hs rfl rfl rfl)) (fS (P := fun z => pu_nr z 2 = true) hs rfl rfl rfl)) (fS (P := fun z => pu_nr z 3 = true) hs rfl rfl rfl)) (fS (P := fun z => pu_bJ 2 z 5 7 = true) hs rfl rfl rfl) (fS (P := fun z => (ab_w (ab_w (ab_w (ab_w M s 0 (M s2 0)) s 1 ((ab_w M s 0 (M s2 0)) s2 1)) s 2 ((ab_w (ab_w M s 0 (M s2 0)) s 1 ((ab_w M s 0 (M s2 0)) s2 1)) s2 2)) s 3 ((ab_w (ab_w (ab_w M s 0 (M s2 0)) s 1 ((ab_w M s 0 (M s2 0)) s2 1)) s 2 ((ab_w (ab_w M s 0 (M s2 0)) s 1 ((ab_w M s 0 (M s2 0)) s2 1)) s2 2)) s2 3)) z 5 = ((z + 1 : Nat) : Int)) hs (str_r (str_w (k := s) (f := 3) (v := (ab_w (ab_w (ab_w M s 0 (M s2 0)) s 1 ((ab_w M s 0 (M s2 0)) s2 1)) s 2 ((ab_w (ab_w M s 0 (M s2 0)) s 1 ((ab_w M s 0 (M s2 0)) s2 1)) s2 2)) s2 3) (str_w (k := s) (f := 2) (v := (ab_w (ab_w M s 0 (M s2 0)) s 1 ((ab_w M s 0 (M s2 0)) s2 1)) s2 2) (str_w (k := s) (f := 1) (v := (ab_w M s 0 (M s2 0)) s2 1) (str_w (k := s) (f := 0) (v := M s2 0) hS (fS (P := fun z => pu_nr z 0 = true) hs rfl rfl rfl)) (fS (P := fun z => pu_nr z 1 = true) hs rfl rfl rfl)) (fS (P := fun z => pu_nr z 2 = true) hs rfl rfl rfl)) (fS (P := fun z => pu_nr z 3 = true) hs rfl rfl rfl)) 69 5 70 rfl) (str_r (str_w (k := s) (f := 3) (v := (ab_w (ab_w (ab_w M s 0 (M s2 0)) s 1 ((ab_w M s 0 (M s2 0)) s2 1)) s 2 ((ab_w (ab_w M s 0 (M s2 0)) s 1 ((ab_w M s 0 (M s2 0)) s2 1)) s2 2)) s2 3) (str_w (k := s) (f := 2) (v := (ab_w (ab_w M s 0 (M s2 0)) s 1 ((ab_w M s 0 (M s2 0)) s2 1)) s2 2) (str_w (k := s) (f := 1) (v := (ab_w M s 0 (M s2 0)) s2 1) (str_w (k := s) (f := 0) (v := M s2 0) hS (fS (P := fun z => pu_nr z 0 = true) hs rfl rfl rfl)) (fS (P := fun z => pu_nr z 1 = true) hs rfl rfl rfl)) (fS (P := fun z => pu_nr z 2 = true) hs rfl rfl rfl)) (fS (P := fun z => pu_nr z 3 = true) hs rfl rfl rfl)) 71 5 72 rfl) (str_r (str_w (k := s) (f := 3) (v := (ab_w (ab_w (ab_w M s 0 (M s2 0)) s 1 ((ab_w M s 0 (M s2 0)) s2 1)) s 2 ((ab_w (ab_w M s 0 (M s2 0)) s 1 ((ab_w M s 0 (M s2 0)) s2 1)) s2 2)) s2 3) (str_w (k := s) (f := 2) (v := (ab_w (ab_w M s 0 (M s2 0)) s 1 ((ab_w M s 0 (M s2 0)) s2 1)) s2 2) (str_w (k := s) (f := 1) (v := (ab_w M s 0 (M s2 0)) s2 1) (str_w (k := s) (f := 0) (v := M s2 0) hS (fS (P := fun z => pu_nr z 0 = true) hs rfl rfl rfl)) (fS (P := fun z => pu_nr z 1 = true) hs rfl rfl rfl)) (fS (P := fun z => pu_nr z 2 = true) hs rfl rfl rfl)) (fS (P := fun z => pu_nr z 3 = true) hs rfl rfl rfl)) 73 5 74 rfl)) (fS (P := fun z => z + 1 < 1000) hs (by decide) (by decide) (by decide)) ?_
  refine wp_sts 2 (pc' := 44) (ls' := [some (.inr (.inr s)), some (.inr (.inr s2))]) (st' := [.inl 6, .inl 0, .inr (.inr (s + 1)), .inl 0, .inr (.inr (s2 + 1))]) (M' := (ab_w (ab_w (ab_w (ab_w M s 0 (M s2 0)) s 1 ((ab_w M s 0 (M s2 0)) s2 1)) s 2 ((ab_w (ab_w M s 0 (M s2 0)) s 1 ((ab_w M s 0 (M s2 0)) s2 1)) s2 2)) s 3 ((ab_w (ab_w (ab_w M s 0 (M s2 0)) s 1 ((ab_w M s 0 (M s2 0)) s2 1)) s 2 ((ab_w (ab_w M s 0 (M s2 0)) s 1 ((ab_w M s 0 (M s2 0)) s2 1)) s2 2)) s2 3))) rfl ?_
  obtain ⟨hc, h⟩ := h
  refine w_cpy (n1 := 6) (n2 := 6) rfl (str_w (k := s) (f := 3) (v := (ab_w (ab_w (ab_w M s 0 (M s2 0)) s 1 ((ab_w M s 0 (M s2 0)) s2 1)) s 2 ((ab_w (ab_w M s 0 (M s2 0)) s 1 ((ab_w M s 0 (M s2 0)) s2 1)) s2 2)) s2 3) (str_w (k := s) (f := 2) (v := (ab_w (ab_w M s 0 (M s2 0)) s 1 ((ab_w M s 0 (M s2 0)) s2 1)) s2 2) (str_w (k := s) (f := 1) (v := (ab_w M s 0 (M s2 0)) s2 1) (str_w (k := s) (f := 0) (v := M s2 0) hS (fS (P := fun z => pu_nr z 0 = true) hs rfl rfl rfl)) (fS (P := fun z => pu_nr z 1 = true) hs rfl rfl rfl)) (fS (P := fun z => pu_nr z 2 = true) hs rfl rfl rfl)) (fS (P := fun z => pu_nr z 3 = true) hs rfl rfl rfl)).1 (fS (P := fun z => ab_arB 20 (z + 1) 6 = true) hs2 rfl rfl rfl) (fS (P := fun z => ab_arB 20 (z + 1) 6 = true) hs rfl rfl rfl) hc (by decide) ?_
  exact wp_ret rfl rfl rfl h
/- State.standOf, at 0 -/
theorem b44_0 {d t : Nat} {u : Nat} {x2 : Int} {M : ab_M} {Q : Option ab_V → ab_M → Prop} (hd : 1 ≤ d) (hS : pu_str t M) (hu : pu_T u) (h : (0 ≤ x2 ∧ x2 < 6) ∧ (M 70 x2.toNat = (-1) → ab_rg ((M (u + 21) x2.toNat) - (M (u + 20) x2.toNat)) ∧ (M 69 0 ≤ (M (u + 21) x2.toNat) - (M (u + 20) x2.toNat) → Q (some (.inl 0)) M) ∧ ((M (u + 21) x2.toNat) - (M (u + 20) x2.toNat) < M 69 0 → Q (some (.inl 2)) M)) ∧ (M 70 x2.toNat ≠ (-1) → Q (some (.inl 1)) M)) : ab_wp d 44 0 [some (.inr (.inr 69)), some (.inr (.inr u)), some (.inl x2)] [] M Q := by
  refine wp_sts 1 (pc' := 1) (ls' := [some (.inr (.inr 69)), some (.inr (.inr u)), some (.inl x2)]) (st' := [.inr (.inr 69)]) (M' := M) rfl ?_
  refine g_getR (j := 70) rfl hS rfl (str_r hS 69 5 70 rfl) (by decide) ?_
  refine wp_sts 1 (pc' := 5) (ls' := [some (.inr (.inr 69)), some (.inr (.inr u)), some (.inl x2)]) (st' := [.inl x2, .inr (.inr 70)]) (M' := M) rfl ?_
  obtain ⟨hf1, h⟩ := h
  refine g_iald (n := 6) rfl hS rfl hf1 ?_
  refine wp_sts 1 (pc' := 7) (ls' := [some (.inr (.inr 69)), some (.inr (.inr u)), some (.inl x2)]) (st' := [.inl ((-1)), .inl (M 70 x2.toNat)]) (M' := M) rfl ?_
  refine c2_eq rfl (fun c => ?_) (fun c => ?_)
  · replace h := h.1 c
    refine wp_sts 1 (pc' := 13) (ls' := [some (.inr (.inr 69)), some (.inr (.inr u)), some (.inl x2)]) (st' := [.inr (.inr 69)]) (M' := M) rfl ?_
    refine g_getI rfl hS rfl ?_
    refine wp_sts 1 (pc' := 17) (ls' := [some (.inr (.inr 69)), some (.inr (.inr u)), some (.inl x2)]) (st' := [.inr (.inr u), .inl (M 69 0)]) (M' := M) rfl ?_
    refine g_getR (j := u + 21) rfl hS (fT (P := fun z => pu_bJ 2 z 11 8 = true) hu rfl rfl) (fT (P := fun z => M z 11 = ((z + 21 : Nat) : Int)) hu (str_r hS 5 11 26 rfl) (str_r hS 37 11 58 rfl)) (fT (P := fun z => z + 21 < 1000) hu (by decide) (by decide)) ?_
    refine wp_sts 1 (pc' := 21) (ls' := [some (.inr (.inr 69)), some (.inr (.inr u)), some (.inl x2)]) (st' := [.inl x2, .inr (.inr (u + 21)), .inl (M 69 0)]) (M' := M) rfl ?_
    refine g_iald (n := 6) rfl hS (fT (P := fun z => ab_arB 20 (z + 21) 6 = true) hu rfl rfl) hf1 ?_
    refine wp_sts 1 (pc' := 23) (ls' := [some (.inr (.inr 69)), some (.inr (.inr u)), some (.inl x2)]) (st' := [.inr (.inr u), .inl (M (u + 21) x2.toNat), .inl (M 69 0)]) (M' := M) rfl ?_
    refine g_getR (j := u + 20) rfl hS (fT (P := fun z => pu_bJ 2 z 10 8 = true) hu rfl rfl) (fT (P := fun z => M z 10 = ((z + 20 : Nat) : Int)) hu (str_r hS 5 10 25 rfl) (str_r hS 37 10 57 rfl)) (fT (P := fun z => z + 20 < 1000) hu (by decide) (by decide)) ?_
    refine wp_sts 1 (pc' := 27) (ls' := [some (.inr (.inr 69)), some (.inr (.inr u)), some (.inl x2)]) (st' := [.inl x2, .inr (.inr (u + 20)), .inl (M (u + 21) x2.toNat), .inl (M 69 0)]) (M' := M) rfl ?_
    refine g_iald (n := 6) rfl hS (fT (P := fun z => ab_arB 20 (z + 20) 6 = true) hu rfl rfl) hf1 ?_
    obtain ⟨hf2, h⟩ := h
    refine w_isub rfl hf2 ?_
    refine c2_le rfl (fun c => ?_) (fun c => ?_)
    · replace h := h.1 c
      refine wp_sts 1 (pc' := 37) (ls' := [some (.inr (.inr 69)), some (.inr (.inr u)), some (.inl x2)]) (st' := [.inl 0]) (M' := M) rfl ?_
      exact wp_ret rfl rfl (z := (some (.inl 0), M)) rfl h
    · replace h := h.2 c
      refine wp_sts 2 (pc' := 37) (ls' := [some (.inr (.inr 69)), some (.inr (.inr u)), some (.inl x2)]) (st' := [.inl 2]) (M' := M) rfl ?_
      exact wp_ret rfl rfl (z := (some (.inl 2), M)) rfl h
  · replace h := h.2 c
    refine wp_sts 1 (pc' := 11) (ls' := [some (.inr (.inr 69)), some (.inr (.inr u)), some (.inl x2)]) (st' := [.inl 1]) (M' := M) rfl ?_
    exact wp_ret rfl rfl (z := (some (.inl 1), M)) rfl h
/- State.reaches, at 0 -/
theorem b45_0 {d t : Nat} {u : Nat} {x2 : Int} {M : ab_M} {Q : Option ab_V → ab_M → Prop} (hd : 1 ≤ d) (hS : pu_str t M) (hu : pu_T u) (h : (0 ≤ x2 ∧ x2 < 6) ∧ ∃ r1 M1, ab_ev (d - 1) 58 [.inr (.inr u), .inl (M 69 1), .inl (M (u + 17) x2.toNat)] M (some (.inl r1)) M1 ∧ pu_str t M1 ∧ (r1 = (-1) → Q (some (.inl 0)) M1) ∧ (r1 ≠ (-1) → Q (some (.inl 1)) M1)) : ab_wp d 45 0 [some (.inr (.inr 69)), some (.inr (.inr u)), some (.inl x2)] [] M Q := by
  refine wp_sts 2 (pc' := 2) (ls' := [some (.inr (.inr 69)), some (.inr (.inr u)), some (.inl x2)]) (st' := [.inr (.inr 69), .inr (.inr u)]) (M' := M) rfl ?_
  refine g_getI rfl hS rfl ?_
  refine wp_sts 1 (pc' := 6) (ls' := [some (.inr (.inr 69)), some (.inr (.inr u)), some (.inl x2)]) (st' := [.inr (.inr u), .inl (M 69 1), .inr (.inr u)]) (M' := M) rfl ?_
  refine g_getR (j := u + 17) rfl hS (fT (P := fun z => pu_bJ 2 z 7 8 = true) hu rfl rfl) (fT (P := fun z => M z 7 = ((z + 17 : Nat) : Int)) hu (str_r hS 5 7 22 rfl) (str_r hS 37 7 54 rfl)) (fT (P := fun z => z + 17 < 1000) hu (by decide) (by decide)) ?_
  refine wp_sts 1 (pc' := 10) (ls' := [some (.inr (.inr 69)), some (.inr (.inr u)), some (.inl x2)]) (st' := [.inl x2, .inr (.inr (u + 17)), .inl (M 69 1), .inr (.inr u)]) (M' := M) rfl ?_
  obtain ⟨hf1, h⟩ := h
  refine g_iald (n := 6) rfl hS (fT (P := fun z => ab_arB 20 (z + 17) 6 = true) hu rfl rfl) hf1 ?_
  obtain ⟨r1, M1, he, hS1, h⟩ := h
  refine g_callI (c := 58) (as := [.inr (.inr u), .inl (M 69 1), .inl (M (u + 17) x2.toNat)]) (rs := []) rfl rfl hS hd (fT (P := fun z => ab_argsN (.invokevirtual 54, 1, 58, 3) [.inl (M (u + 17) x2.toNat), .inl (M 69 1), .inr (.inr z)] = some (58, [.inr (.inr z), .inl (M 69 1), .inl (M (u + 17) x2.toNat)], [])) hu rfl rfl) he ?_
  refine wp_sts 1 (pc' := 15) (ls' := [some (.inr (.inr 69)), some (.inr (.inr u)), some (.inl x2)]) (st' := [.inl ((-1)), .inl r1]) (M' := M1) rfl ?_
  refine c2_eq rfl (fun c => ?_) (fun c => ?_)
  · replace h := h.1 c
    refine wp_sts 1 (pc' := 23) (ls' := [some (.inr (.inr 69)), some (.inr (.inr u)), some (.inl x2)]) (st' := [.inl 0]) (M' := M1) rfl ?_
    exact g_retB rfl (by decide) h
  · replace h := h.2 c
    refine wp_sts 2 (pc' := 23) (ls' := [some (.inr (.inr 69)), some (.inr (.inr u)), some (.inl x2)]) (st' := [.inl 1]) (M' := M1) rfl ?_
    exact g_retB rfl (by decide) h
/- State.hand, at 0 -/
theorem b46_0 {d t : Nat} {u : Nat} {x2 : Int} {M : ab_M} {Q : Option ab_V → ab_M → Prop} (hd : 1 ≤ d) (hS : pu_str t M) (hu : pu_T u) (h : (0 ≤ x2 ∧ x2 < 6) ∧ ∃ r1 M1, ab_ev (d - 1) 58 [.inr (.inr u), .inl (M 69 1), .inl (M (u + 17) x2.toNat)] M (some (.inl r1)) M1 ∧ pu_str t M1 ∧ ab_rg ((M 69 0) + r1) ∧ Q none (ab_w (ab_w (ab_w M1 69 0 ((M 69 0) + r1)) 69 1 ((ab_w M1 69 0 ((M 69 0) + r1)) (u + 17) x2.toNat)) 69 2 x2)) : ab_wp d 46 0 [some (.inr (.inr 69)), some (.inr (.inr u)), some (.inl x2)] [] M Q := by
  refine wp_sts 2 (pc' := 2) (ls' := [some (.inr (.inr 69)), some (.inr (.inr u)), some (.inl x2)]) (st' := [.inr (.inr 69), .inr (.inr 69)]) (M' := M) rfl ?_
  refine g_getI rfl hS rfl ?_
  refine wp_sts 2 (pc' := 7) (ls' := [some (.inr (.inr 69)), some (.inr (.inr u)), some (.inl x2)]) (st' := [.inr (.inr 69), .inr (.inr u), .inl (M 69 0), .inr (.inr 69)]) (M' := M) rfl ?_
  refine g_getI rfl hS rfl ?_
  refine wp_sts 1 (pc' := 11) (ls' := [some (.inr (.inr 69)), some (.inr (.inr u)), some (.inl x2)]) (st' := [.inr (.inr u), .inl (M 69 1), .inr (.inr u), .inl (M 69 0), .inr (.inr 69)]) (M' := M) rfl ?_
  refine g_getR (j := u + 17) rfl hS (fT (P := fun z => pu_bJ 2 z 7 8 = true) hu rfl rfl) (fT (P := fun z => M z 7 = ((z + 17 : Nat) : Int)) hu (str_r hS 5 7 22 rfl) (str_r hS 37 7 54 rfl)) (fT (P := fun z => z + 17 < 1000) hu (by decide) (by decide)) ?_
  refine wp_sts 1 (pc' := 15) (ls' := [some (.inr (.inr 69)), some (.inr (.inr u)), some (.inl x2)]) (st' := [.inl x2, .inr (.inr (u + 17)), .inl (M 69 1), .inr (.inr u), .inl (M 69 0), .inr (.inr 69)]) (M' := M) rfl ?_
  obtain ⟨hf1, h⟩ := h
  refine g_iald (n := 6) rfl hS (fT (P := fun z => ab_arB 20 (z + 17) 6 = true) hu rfl rfl) hf1 ?_
  obtain ⟨r1, M1, he, hS1, h⟩ := h
  refine g_callI (c := 58) (as := [.inr (.inr u), .inl (M 69 1), .inl (M (u + 17) x2.toNat)]) (rs := [.inl (M 69 0), .inr (.inr 69)]) rfl rfl hS hd (fT (P := fun z => ab_argsN (.invokevirtual 54, 1, 58, 3) [.inl (M (u + 17) x2.toNat), .inl (M 69 1), .inr (.inr z), .inl (M 69 0), .inr (.inr 69)] = some (58, [.inr (.inr z), .inl (M 69 1), .inl (M (u + 17) x2.toNat)], [.inl (M 69 0), .inr (.inr 69)])) hu rfl rfl) he ?_
  obtain ⟨hf2, h⟩ := h
  refine w_iadd rfl hf2 ?_
  refine g_putI rfl hS1 rfl ?_
  refine wp_sts 2 (pc' := 25) (ls' := [some (.inr (.inr 69)), some (.inr (.inr u)), some (.inl x2)]) (st' := [.inr (.inr u), .inr (.inr 69)]) (M' := (ab_w M1 69 0 ((M 69 0) + r1))) rfl ?_
  refine g_getR (j := u + 17) rfl (str_w (k := 69) (f := 0) (v := (M 69 0) + r1) hS1 rfl) (fT (P := fun z => pu_bJ 2 z 7 8 = true) hu rfl rfl) (fT (P := fun z => (ab_w M1 69 0 ((M 69 0) + r1)) z 7 = ((z + 17 : Nat) : Int)) hu (str_r (str_w (k := 69) (f := 0) (v := (M 69 0) + r1) hS1 rfl) 5 7 22 rfl) (str_r (str_w (k := 69) (f := 0) (v := (M 69 0) + r1) hS1 rfl) 37 7 54 rfl)) (fT (P := fun z => z + 17 < 1000) hu (by decide) (by decide)) ?_
  refine wp_sts 1 (pc' := 29) (ls' := [some (.inr (.inr 69)), some (.inr (.inr u)), some (.inl x2)]) (st' := [.inl x2, .inr (.inr (u + 17)), .inr (.inr 69)]) (M' := (ab_w M1 69 0 ((M 69 0) + r1))) rfl ?_
  refine g_iald (n := 6) rfl (str_w (k := 69) (f := 0) (v := (M 69 0) + r1) hS1 rfl) (fT (P := fun z => ab_arB 20 (z + 17) 6 = true) hu rfl rfl) hf1 ?_
  refine g_putI rfl (str_w (k := 69) (f := 0) (v := (M 69 0) + r1) hS1 rfl) rfl ?_
  refine wp_sts 2 (pc' := 35) (ls' := [some (.inr (.inr 69)), some (.inr (.inr u)), some (.inl x2)]) (st' := [.inl x2, .inr (.inr 69)]) (M' := (ab_w (ab_w M1 69 0 ((M 69 0) + r1)) 69 1 ((ab_w M1 69 0 ((M 69 0) + r1)) (u + 17) x2.toNat))) rfl ?_
  refine g_putI rfl (str_w (k := 69) (f := 1) (v := (ab_w M1 69 0 ((M 69 0) + r1)) (u + 17) x2.toNat) (str_w (k := 69) (f := 0) (v := (M 69 0) + r1) hS1 rfl) rfl) rfl ?_
  exact wp_ret rfl rfl rfl h
/- State.finish, at 0 -/
theorem b47_0 {d t : Nat} {u : Nat} {x2 : Int} {M : ab_M} {Q : Option ab_V → ab_M → Prop} (hd : 1 ≤ d) (hS : pu_str t M) (hu : pu_T u) (h : (0 ≤ x2 ∧ x2 < 6) ∧ ab_rg ((M 69 0) + (M (u + 20) x2.toNat)) ∧ Q none (ab_w (ab_w M 69 0 ((M 69 0) + (M (u + 20) x2.toNat))) 70 x2.toNat ((M 69 0) + (M (u + 20) x2.toNat)))) : ab_wp d 47 0 [some (.inr (.inr 69)), some (.inr (.inr u)), some (.inl x2)] [] M Q := by
  refine wp_sts 2 (pc' := 2) (ls' := [some (.inr (.inr 69)), some (.inr (.inr u)), some (.inl x2)]) (st' := [.inr (.inr 69), .inr (.inr 69)]) (M' := M) rfl ?_
  refine g_getI rfl hS rfl ?_
  refine wp_sts 1 (pc' := 6) (ls' := [some (.inr (.inr 69)), some (.inr (.inr u)), some (.inl x2)]) (st' := [.inr (.inr u), .inl (M 69 0), .inr (.inr 69)]) (M' := M) rfl ?_
  refine g_getR (j := u + 20) rfl hS (fT (P := fun z => pu_bJ 2 z 10 8 = true) hu rfl rfl) (fT (P := fun z => M z 10 = ((z + 20 : Nat) : Int)) hu (str_r hS 5 10 25 rfl) (str_r hS 37 10 57 rfl)) (fT (P := fun z => z + 20 < 1000) hu (by decide) (by decide)) ?_
  refine wp_sts 1 (pc' := 10) (ls' := [some (.inr (.inr 69)), some (.inr (.inr u)), some (.inl x2)]) (st' := [.inl x2, .inr (.inr (u + 20)), .inl (M 69 0), .inr (.inr 69)]) (M' := M) rfl ?_
  obtain ⟨hf1, h⟩ := h
  refine g_iald (n := 6) rfl hS (fT (P := fun z => ab_arB 20 (z + 20) 6 = true) hu rfl rfl) hf1 ?_
  obtain ⟨hf2, h⟩ := h
  refine w_iadd rfl hf2 ?_
  refine g_putI rfl hS rfl ?_
  refine wp_sts 1 (pc' := 16) (ls' := [some (.inr (.inr 69)), some (.inr (.inr u)), some (.inl x2)]) (st' := [.inr (.inr 69)]) (M' := (ab_w M 69 0 ((M 69 0) + (M (u + 20) x2.toNat)))) rfl ?_
  refine g_getR (j := 70) rfl (str_w (k := 69) (f := 0) (v := (M 69 0) + (M (u + 20) x2.toNat)) hS rfl) rfl (str_r (str_w (k := 69) (f := 0) (v := (M 69 0) + (M (u + 20) x2.toNat)) hS rfl) 69 5 70 rfl) (by decide) ?_
  refine wp_sts 2 (pc' := 21) (ls' := [some (.inr (.inr 69)), some (.inr (.inr u)), some (.inl x2)]) (st' := [.inr (.inr 69), .inl x2, .inr (.inr 70)]) (M' := (ab_w M 69 0 ((M 69 0) + (M (u + 20) x2.toNat)))) rfl ?_
  refine g_getI rfl (str_w (k := 69) (f := 0) (v := (M 69 0) + (M (u + 20) x2.toNat)) hS rfl) rfl ?_
  refine g_iast (n := 6) rfl (str_w (k := 69) (f := 0) (v := (M 69 0) + (M (u + 20) x2.toNat)) hS rfl) rfl hf1 ?_
  exact wp_ret rfl rfl rfl h
/- State.draw, at 0 -/
theorem b48_0 {d t : Nat}  {x1 : Int} {M : ab_M} {Q : Option ab_V → ab_M → Prop} (hd : 1 ≤ d) (hS : pu_str t M)  (h : ab_rl ((M 69 3) * 1103515245) ∧ ab_rl (((M 69 3) * 1103515245) + 12345) ∧ ab_rg (ab_land (((M 69 3) * 1103515245) + 12345) 2147483647) ∧ (x1 ≤ 0 → Q (some (.inl 0)) (ab_w M 69 3 (ab_land (((M 69 3) * 1103515245) + 12345) 2147483647))) ∧ (0 < x1 → ab_rg ((ab_land (((M 69 3) * 1103515245) + 12345) 2147483647).tdiv 65536) ∧ x1 ≠ 0 ∧ ab_rg (((ab_land (((M 69 3) * 1103515245) + 12345) 2147483647).tdiv 65536).tdiv x1) ∧ Q (some (.inl (((ab_land (((M 69 3) * 1103515245) + 12345) 2147483647).tdiv 65536).tmod x1))) (ab_w M 69 3 (ab_land (((M 69 3) * 1103515245) + 12345) 2147483647)))) : ab_wp d 48 0 [some (.inr (.inr 69)), some (.inl x1)] [] M Q := by
  refine wp_sts 2 (pc' := 2) (ls' := [some (.inr (.inr 69)), some (.inl x1)]) (st' := [.inr (.inr 69), .inr (.inr 69)]) (M' := M) rfl ?_
  refine g_getI rfl hS rfl ?_
  refine wp_sts 2 (pc' := 9) (ls' := [some (.inr (.inr 69)), some (.inl x1)]) (st' := [.inr (.inl 1103515245), .inr (.inl (M 69 3)), .inr (.inr 69)]) (M' := M) rfl ?_
  obtain ⟨hf1, h⟩ := h
  refine w_lmul rfl hf1 ?_
  refine wp_sts 1 (pc' := 13) (ls' := [some (.inr (.inr 69)), some (.inl x1)]) (st' := [.inr (.inl 12345), .inr (.inl ((M 69 3) * 1103515245)), .inr (.inr 69)]) (M' := M) rfl ?_
  obtain ⟨hf2, h⟩ := h
  refine w_ladd rfl hf2 ?_
  refine wp_sts 2 (pc' := 18) (ls' := [some (.inr (.inr 69)), some (.inl x1)]) (st' := [.inr (.inl (ab_land (((M 69 3) * 1103515245) + 12345) 2147483647)), .inr (.inr 69)]) (M' := M) rfl ?_
  obtain ⟨hf3, h⟩ := h
  refine w_l2i rfl hf3 ?_
  refine g_putI rfl hS rfl ?_
  refine wp_sts 1 (pc' := 23) (ls' := [some (.inr (.inr 69)), some (.inl x1)]) (st' := [.inl x1]) (M' := (ab_w M 69 3 (ab_land (((M 69 3) * 1103515245) + 12345) 2147483647))) rfl ?_
  refine c1_le rfl (fun c => ?_) (fun c => ?_)
  · replace h := h.1 c
    refine wp_sts 1 (pc' := 39) (ls' := [some (.inr (.inr 69)), some (.inl x1)]) (st' := [.inl 0]) (M' := (ab_w M 69 3 (ab_land (((M 69 3) * 1103515245) + 12345) 2147483647))) rfl ?_
    exact wp_ret rfl rfl (z := (some (.inl 0), (ab_w M 69 3 (ab_land (((M 69 3) * 1103515245) + 12345) 2147483647)))) rfl h
  · replace h := h.2 c
    refine wp_sts 1 (pc' := 27) (ls' := [some (.inr (.inr 69)), some (.inl x1)]) (st' := [.inr (.inr 69)]) (M' := (ab_w M 69 3 (ab_land (((M 69 3) * 1103515245) + 12345) 2147483647))) rfl ?_
    refine g_getI rfl (str_w (k := 69) (f := 3) (v := ab_land (((M 69 3) * 1103515245) + 12345) 2147483647) hS rfl) rfl ?_
    refine wp_sts 1 (pc' := 32) (ls' := [some (.inr (.inr 69)), some (.inl x1)]) (st' := [.inl 65536, .inl (ab_land (((M 69 3) * 1103515245) + 12345) 2147483647)]) (M' := (ab_w M 69 3 (ab_land (((M 69 3) * 1103515245) + 12345) 2147483647))) rfl ?_
    obtain ⟨hf4, h⟩ := h
    refine w_idiv rfl (by decide) hf4 ?_
    refine wp_sts 1 (pc' := 34) (ls' := [some (.inr (.inr 69)), some (.inl x1)]) (st' := [.inl x1, .inl ((ab_land (((M 69 3) * 1103515245) + 12345) 2147483647).tdiv 65536)]) (M' := (ab_w M 69 3 (ab_land (((M 69 3) * 1103515245) + 12345) 2147483647))) rfl ?_
    obtain ⟨hf5, h⟩ := h
    obtain ⟨hf6, h⟩ := h
    refine w_irem rfl hf5 hf6 ?_
    refine wp_sts 1 (pc' := 39) (ls' := [some (.inr (.inr 69)), some (.inl x1)]) (st' := [.inl (((ab_land (((M 69 3) * 1103515245) + 12345) 2147483647).tdiv 65536).tmod x1)]) (M' := (ab_w M 69 3 (ab_land (((M 69 3) * 1103515245) + 12345) 2147483647))) rfl ?_
    exact wp_ret rfl rfl (z := (some (.inl (((ab_land (((M 69 3) * 1103515245) + 12345) 2147483647).tdiv 65536).tmod x1)), (ab_w M 69 3 (ab_land (((M 69 3) * 1103515245) + 12345) 2147483647)))) rfl h
