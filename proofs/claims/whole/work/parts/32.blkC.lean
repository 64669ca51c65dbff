/-! blocks -/
/- LoneAdjective.feed, at 0 -/
theorem b65_0 {d t : Nat}  {x1 : Int} {M : ab_M} {Q : Option ab_V → ab_M → Prop} (hd : 1 ≤ d) (hS : pu_str t M)  (h : (x1 < 0 → Q (some (.inl ((-1000000002)))) M) ∧ (0 ≤ x1 → (x1 ≤ 255 → (0 ≤ x1 ∧ x1 < 65536) ∧ ∃ r1 M1, ab_ev (d - 1) 25 [.inr (.inr 1), .inl x1] M (some (.inl r1)) M1 ∧ pu_str t M1 ∧ (r1 = 0 → Q (some (.inl ((-1000000004)))) M1) ∧ (r1 ≠ 0 → Q (some (.inl (M1 1 0))) M1)) ∧ (255 < x1 → Q (some (.inl ((-1000000002)))) M))) : ab_wp d 65 0 [some (.inr (.inr 0)), some (.inl x1)] [] M Q := by
  refine wp_sts 1 (pc' := 1) (ls' := [some (.inr (.inr 0)), some (.inl x1)]) (st' := [.inl x1]) (M' := M) rfl ?_
  refine c1_lt rfl (fun c => ?_) (fun c => ?_)
  · replace h := h.1 c
    refine wp_sts 1 (pc' := 13) (ls' := [some (.inr (.inr 0)), some (.inl x1)]) (st' := [.inl ((-1000000002))]) (M' := M) rfl ?_
    exact wp_ret rfl rfl (z := (some (.inl ((-1000000002))), M)) rfl h
  · replace h := h.2 c
    refine wp_sts 2 (pc' := 8) (ls' := [some (.inr (.inr 0)), some (.inl x1)]) (st' := [.inl 255, .inl x1]) (M' := M) rfl ?_
    refine c2_le rfl (fun c => ?_) (fun c => ?_)
    · replace h := h.1 c
      refine wp_sts 1 (pc' := 15) (ls' := [some (.inr (.inr 0)), some (.inl x1)]) (st' := [.inr (.inr 0)]) (M' := M) rfl ?_
      refine g_getR (j := 1) rfl hS rfl (str_r hS 0 0 1 rfl) (by decide) ?_
      refine wp_sts 1 (pc' := 19) (ls' := [some (.inr (.inr 0)), some (.inl x1)]) (st' := [.inl x1, .inr (.inr 1)]) (M' := M) rfl ?_
      obtain ⟨hf1, h⟩ := h
      refine w_i2c rfl hf1 ?_
      obtain ⟨r1, M1, he, hS1, h⟩ := h
      refine g_callI (c := 25) (as := [.inr (.inr 1), .inl x1]) (rs := []) rfl rfl hS hd rfl he ?_
      refine c1_eq rfl (fun c => ?_) (fun c => ?_)
      · replace h := h.1 c
        refine wp_sts 1 (pc' := 38) (ls' := [some (.inr (.inr 0)), some (.inl x1)]) (st' := [.inl ((-1000000004))]) (M' := M1) rfl ?_
        exact wp_ret rfl rfl (z := (some (.inl ((-1000000004))), M1)) rfl h
      · replace h := h.2 c
        refine wp_sts 1 (pc' := 27) (ls' := [some (.inr (.inr 0)), some (.inl x1)]) (st' := [.inr (.inr 0)]) (M' := M1) rfl ?_
        refine g_getR (j := 1) rfl hS1 rfl (str_r hS1 0 0 1 rfl) (by decide) ?_
        refine g_getI rfl hS1 rfl ?_
        refine wp_sts 1 (pc' := 38) (ls' := [some (.inr (.inr 0)), some (.inl x1)]) (st' := [.inl (M1 1 0)]) (M' := M1) rfl ?_
        exact wp_ret rfl rfl (z := (some (.inl (M1 1 0)), M1)) rfl h
    · replace h := h.2 c
      refine wp_sts 1 (pc' := 13) (ls' := [some (.inr (.inr 0)), some (.inl x1)]) (st' := [.inl ((-1000000002))]) (M' := M) rfl ?_
      exact wp_ret rfl rfl (z := (some (.inl ((-1000000002))), M)) rfl h
/- LoneAdjective.town, at 0 -/
theorem b66_0 {d t : Nat}   {M : ab_M} {Q : Option ab_V → ab_M → Prop} (hd : 1 ≤ d) (hS : pu_str t M)  (h : ∃ r1 M1, ab_ev (d - 1) 26 [.inr (.inr 1), .inr (.inr ((42 - t)))] M (some (.inl r1)) M1 ∧ pu_str t M1 ∧ (r1 = 0 → ∃ M2, ab_ev (d - 1) 56 [.inr (.inr ((42 - t)))] (ab_w (ab_w (ab_w (ab_w M1 1 0 0) 0 1 ((-1))) 0 2 ((((42 - t) : Nat) : Int))) 0 3 (((t : Nat) : Int))) none M2 ∧ pu_str (42 - t) M2 ∧ ∃ M3, ab_ev (d - 1) 42 [.inr (.inr 69), .inr (.inr ((42 - t)))] M2 none M3 ∧ pu_str (42 - t) M3 ∧ Q (some (.inl ((ab_w (ab_w (ab_w (ab_w M3 71 4 0) 73 4 0) 90 2 0) 75 0 0) ((42 - t)) 3))) (ab_w (ab_w (ab_w (ab_w M3 71 4 0) 73 4 0) 90 2 0) 75 0 0)) ∧ (r1 ≠ 0 → ab_rg (((-10)) - r1) ∧ Q (some (.inl (((-10)) - r1))) (ab_w (ab_w M1 1 0 0) 0 1 (M1 1 1)))) : ab_wp d 66 0 [some (.inr (.inr 0)), none, none] [] M Q := by
  refine wp_sts 1 (pc' := 1) (ls' := [some (.inr (.inr 0)), none, none]) (st' := [.inr (.inr 0)]) (M' := M) rfl ?_
  refine g_getR (j := 1) rfl hS rfl (str_r hS 0 0 1 rfl) (by decide) ?_
  refine wp_sts 1 (pc' := 5) (ls' := [some (.inr (.inr 0)), none, none]) (st' := [.inr (.inr 0), .inr (.inr 1)]) (M' := M) rfl ?_
  refine g_getR (j := (42 - t)) rfl hS rfl hS.2.2.2.2.1 (fT (P := fun z => z < 1000) (T_other hS.2.2.1) (by decide) (by decide)) ?_
  obtain ⟨r1, M1, he, hS1, h⟩ := h
  refine g_callI (c := 26) (as := [.inr (.inr 1), .inr (.inr ((42 - t)))]) (rs := []) rfl rfl hS hd rfl he ?_
  refine wp_sts 2 (pc' := 13) (ls' := [some (.inr (.inr 0)), some (.inl r1), none]) (st' := [.inr (.inr 0)]) (M' := M1) rfl ?_
  refine g_getR (j := 1) rfl hS1 rfl (str_r hS1 0 0 1 rfl) (by decide) ?_
  refine wp_sts 1 (pc' := 17) (ls' := [some (.inr (.inr 0)), some (.inl r1), none]) (st' := [.inl 0, .inr (.inr 1)]) (M' := M1) rfl ?_
  refine g_putI rfl hS1 rfl ?_
  refine wp_sts 1 (pc' := 21) (ls' := [some (.inr (.inr 0)), some (.inl r1), none]) (st' := [.inl r1]) (M' := (ab_w M1 1 0 0)) rfl ?_
  refine c1_eq rfl (fun c => ?_) (fun c => ?_)
  · replace h := h.1 c
    refine wp_sts 2 (pc' := 42) (ls' := [some (.inr (.inr 0)), some (.inl r1), none]) (st' := [.inl ((-1)), .inr (.inr 0)]) (M' := (ab_w M1 1 0 0)) rfl ?_
    refine g_putI rfl (str_w (k := 1) (f := 0) (v := 0) hS1 rfl) rfl ?_
    refine wp_sts 1 (pc' := 46) (ls' := [some (.inr (.inr 0)), some (.inl r1), none]) (st' := [.inr (.inr 0)]) (M' := (ab_w (ab_w M1 1 0 0) 0 1 ((-1)))) rfl ?_
    refine g_getR (j := t) rfl (str_w (k := 0) (f := 1) (v := (-1)) (str_w (k := 1) (f := 0) (v := 0) hS1 rfl) rfl) rfl (str_w (k := 0) (f := 1) (v := (-1)) (str_w (k := 1) (f := 0) (v := 0) hS1 rfl) rfl).2.2.2.1 (fT (P := fun z => z < 1000) hS.2.2.1 (by decide) (by decide)) ?_
    refine wp_sts 3 (pc' := 52) (ls' := [some (.inr (.inr 0)), some (.inl r1), some (.inr (.inr t))]) (st' := [.inr (.inr 0), .inr (.inr 0)]) (M' := (ab_w (ab_w M1 1 0 0) 0 1 ((-1)))) rfl ?_
    refine g_getR (j := (42 - t)) rfl (str_w (k := 0) (f := 1) (v := (-1)) (str_w (k := 1) (f := 0) (v := 0) hS1 rfl) rfl) rfl (str_w (k := 0) (f := 1) (v := (-1)) (str_w (k := 1) (f := 0) (v := 0) hS1 rfl) rfl).2.2.2.2.1 (fT (P := fun z => z < 1000) (T_other hS.2.2.1) (by decide) (by decide)) ?_
    refine w_putR rfl (str_w (k := 0) (f := 1) (v := (-1)) (str_w (k := 1) (f := 0) (v := 0) hS1 rfl) rfl).1 rfl rfl (fT (P := fun z => z < 132) (T_other hS.2.2.1) (by decide) (by decide)) ?_
    refine wp_sts 2 (pc' := 60) (ls' := [some (.inr (.inr 0)), some (.inl r1), some (.inr (.inr t))]) (st' := [.inr (.inr t), .inr (.inr 0)]) (M' := (ab_w (ab_w (ab_w M1 1 0 0) 0 1 ((-1))) 0 2 ((((42 - t) : Nat) : Int)))) rfl ?_
    refine w_putR rfl (hN_w (str_w (k := 0) (f := 1) (v := (-1)) (str_w (k := 1) (f := 0) (v := 0) hS1 rfl) rfl)) rfl rfl (fT (P := fun z => z < 132) hS.2.2.1 (by decide) (by decide)) ?_
    refine wp_sts 1 (pc' := 64) (ls' := [some (.inr (.inr 0)), some (.inl r1), some (.inr (.inr t))]) (st' := [.inr (.inr 0)]) (M' := (ab_w (ab_w (ab_w (ab_w M1 1 0 0) 0 1 ((-1))) 0 2 ((((42 - t) : Nat) : Int))) 0 3 (((t : Nat) : Int)))) rfl ?_
    refine g_getR (j := (42 - t)) rfl (str_swap (str_w (k := 0) (f := 1) (v := (-1)) (str_w (k := 1) (f := 0) (v := 0) hS1 rfl) rfl)) rfl (str_swap (str_w (k := 0) (f := 1) (v := (-1)) (str_w (k := 1) (f := 0) (v := 0) hS1 rfl) rfl)).2.2.2.1 (fT (P := fun z => z < 1000) (T_other hS.2.2.1) (by decide) (by decide)) ?_
    obtain ⟨M2, he, hS2, h⟩ := h
    refine g_callV (c := 56) (as := [.inr (.inr ((42 - t)))]) (rs := []) rfl rfl (str_swap (str_w (k := 0) (f := 1) (v := (-1)) (str_w (k := 1) (f := 0) (v := 0) hS1 rfl) rfl)) hd (fT (P := fun z => ab_argsN (.invokevirtual 111, 1, 56, 1) [.inr (.inr z)] = some (56, [.inr (.inr z)], [])) (T_other hS.2.2.1) rfl rfl) he ?_
    refine wp_sts 1 (pc' := 71) (ls' := [some (.inr (.inr 0)), some (.inl r1), some (.inr (.inr t))]) (st' := [.inr (.inr 0)]) (M' := M2) rfl ?_
    refine g_getR (j := 69) rfl hS2 rfl (str_r hS2 0 4 69 rfl) (by decide) ?_
    refine wp_sts 1 (pc' := 75) (ls' := [some (.inr (.inr 0)), some (.inl r1), some (.inr (.inr t))]) (st' := [.inr (.inr 0), .inr (.inr 69)]) (M' := M2) rfl ?_
    refine g_getR (j := (42 - t)) rfl hS2 rfl hS2.2.2.2.1 (fT (P := fun z => z < 1000) (T_other hS.2.2.1) (by decide) (by decide)) ?_
    obtain ⟨M3, he, hS3, h⟩ := h
    refine g_callV (c := 42) (as := [.inr (.inr 69), .inr (.inr ((42 - t)))]) (rs := []) rfl rfl hS2 hd rfl he ?_
    refine wp_sts 1 (pc' := 82) (ls' := [some (.inr (.inr 0)), some (.inl r1), some (.inr (.inr t))]) (st' := [.inr (.inr 0)]) (M' := M3) rfl ?_
    refine g_getR (j := 71) rfl hS3 rfl (str_r hS3 0 5 71 rfl) (by decide) ?_
    refine wp_sts 1 (pc' := 86) (ls' := [some (.inr (.inr 0)), some (.inl r1), some (.inr (.inr t))]) (st' := [.inl 0, .inr (.inr 71)]) (M' := M3) rfl ?_
    refine g_putB rfl hS3 rfl (by decide) ?_
    refine wp_sts 1 (pc' := 90) (ls' := [some (.inr (.inr 0)), some (.inl r1), some (.inr (.inr t))]) (st' := [.inr (.inr 0)]) (M' := (ab_w M3 71 4 0)) rfl ?_
    refine g_getR (j := 73) rfl (str_w (k := 71) (f := 4) (v := 0) hS3 rfl) rfl (str_r (str_w (k := 71) (f := 4) (v := 0) hS3 rfl) 0 6 73 rfl) (by decide) ?_
    refine wp_sts 1 (pc' := 94) (ls' := [some (.inr (.inr 0)), some (.inl r1), some (.inr (.inr t))]) (st' := [.inl 0, .inr (.inr 73)]) (M' := (ab_w M3 71 4 0)) rfl ?_
    refine g_putB rfl (str_w (k := 71) (f := 4) (v := 0) hS3 rfl) rfl (by decide) ?_
    refine wp_sts 1 (pc' := 98) (ls' := [some (.inr (.inr 0)), some (.inl r1), some (.inr (.inr t))]) (st' := [.inr (.inr 0)]) (M' := (ab_w (ab_w M3 71 4 0) 73 4 0)) rfl ?_
    refine g_getR (j := 90) rfl (str_w (k := 73) (f := 4) (v := 0) (str_w (k := 71) (f := 4) (v := 0) hS3 rfl) rfl) rfl (str_r (str_w (k := 73) (f := 4) (v := 0) (str_w (k := 71) (f := 4) (v := 0) hS3 rfl) rfl) 0 11 90 rfl) (by decide) ?_
    refine wp_sts 1 (pc' := 102) (ls' := [some (.inr (.inr 0)), some (.inl r1), some (.inr (.inr t))]) (st' := [.inl 0, .inr (.inr 90)]) (M' := (ab_w (ab_w M3 71 4 0) 73 4 0)) rfl ?_
    refine g_putI rfl (str_w (k := 73) (f := 4) (v := 0) (str_w (k := 71) (f := 4) (v := 0) hS3 rfl) rfl) rfl ?_
    refine wp_sts 1 (pc' := 106) (ls' := [some (.inr (.inr 0)), some (.inl r1), some (.inr (.inr t))]) (st' := [.inr (.inr 0)]) (M' := (ab_w (ab_w (ab_w M3 71 4 0) 73 4 0) 90 2 0)) rfl ?_
    refine g_getR (j := 75) rfl (str_w (k := 90) (f := 2) (v := 0) (str_w (k := 73) (f := 4) (v := 0) (str_w (k := 71) (f := 4) (v := 0) hS3 rfl) rfl) rfl) rfl (str_r (str_w (k := 90) (f := 2) (v := 0) (str_w (k := 73) (f := 4) (v := 0) (str_w (k := 71) (f := 4) (v := 0) hS3 rfl) rfl) rfl) 0 7 75 rfl) (by decide) ?_
    refine wp_sts 1 (pc' := 110) (ls' := [some (.inr (.inr 0)), some (.inl r1), some (.inr (.inr t))]) (st' := [.inl 0, .inr (.inr 75)]) (M' := (ab_w (ab_w (ab_w M3 71 4 0) 73 4 0) 90 2 0)) rfl ?_
    refine g_putI rfl (str_w (k := 90) (f := 2) (v := 0) (str_w (k := 73) (f := 4) (v := 0) (str_w (k := 71) (f := 4) (v := 0) hS3 rfl) rfl) rfl) rfl ?_
    refine wp_sts 1 (pc' := 114) (ls' := [some (.inr (.inr 0)), some (.inl r1), some (.inr (.inr t))]) (st' := [.inr (.inr 0)]) (M' := (ab_w (ab_w (ab_w (ab_w M3 71 4 0) 73 4 0) 90 2 0) 75 0 0)) rfl ?_
    refine g_getR (j := (42 - t)) rfl (str_w (k := 75) (f := 0) (v := 0) (str_w (k := 90) (f := 2) (v := 0) (str_w (k := 73) (f := 4) (v := 0) (str_w (k := 71) (f := 4) (v := 0) hS3 rfl) rfl) rfl) rfl) rfl (str_w (k := 75) (f := 0) (v := 0) (str_w (k := 90) (f := 2) (v := 0) (str_w (k := 73) (f := 4) (v := 0) (str_w (k := 71) (f := 4) (v := 0) hS3 rfl) rfl) rfl) rfl).2.2.2.1 (fT (P := fun z => z < 1000) (T_other hS.2.2.1) (by decide) (by decide)) ?_
    refine g_getI rfl (str_w (k := 75) (f := 0) (v := 0) (str_w (k := 90) (f := 2) (v := 0) (str_w (k := 73) (f := 4) (v := 0) (str_w (k := 71) (f := 4) (v := 0) hS3 rfl) rfl) rfl) rfl) (fT (P := fun z => pu_bI z 3 8 = true) (T_other hS.2.2.1) rfl rfl) ?_
    exact wp_ret rfl rfl (z := (some (.inl ((ab_w (ab_w (ab_w (ab_w M3 71 4 0) 73 4 0) 90 2 0) 75 0 0) ((42 - t)) 3)), (ab_w (ab_w (ab_w (ab_w M3 71 4 0) 73 4 0) 90 2 0) 75 0 0))) rfl h
  · replace h := h.2 c
    refine wp_sts 2 (pc' := 26) (ls' := [some (.inr (.inr 0)), some (.inl r1), none]) (st' := [.inr (.inr 0), .inr (.inr 0)]) (M' := (ab_w M1 1 0 0)) rfl ?_
    refine g_getR (j := 1) rfl (str_w (k := 1) (f := 0) (v := 0) hS1 rfl) rfl (str_r (str_w (k := 1) (f := 0) (v := 0) hS1 rfl) 0 0 1 rfl) (by decide) ?_
    refine g_getI rfl (str_w (k := 1) (f := 0) (v := 0) hS1 rfl) rfl ?_
    refine g_putI rfl (str_w (k := 1) (f := 0) (v := 0) hS1 rfl) rfl ?_
    refine wp_sts 2 (pc' := 38) (ls' := [some (.inr (.inr 0)), some (.inl r1), none]) (st' := [.inl r1, .inl ((-10))]) (M' := (ab_w (ab_w M1 1 0 0) 0 1 (M1 1 1))) rfl ?_
    obtain ⟨hf1, h⟩ := h
    refine w_isub rfl hf1 ?_
    exact wp_ret rfl rfl (z := (some (.inl (((-10)) - r1)), (ab_w (ab_w M1 1 0 0) 0 1 (M1 1 1)))) rfl h
/- LoneAdjective.fault, at 0 -/
theorem b67_0 {d t : Nat}   {M : ab_M} {Q : Option ab_V → ab_M → Prop} (hd : 1 ≤ d) (hS : pu_str t M)  (h : Q (some (.inl (M 0 1))) M) : ab_wp d 67 0 [some (.inr (.inr 0))] [] M Q := by
  refine wp_sts 1 (pc' := 1) (ls' := [some (.inr (.inr 0))]) (st' := [.inr (.inr 0)]) (M' := M) rfl ?_
  refine g_getI rfl hS rfl ?_
  exact wp_ret rfl rfl (z := (some (.inl (M 0 1)), M)) rfl h
/- LoneAdjective.told, at 0 -/
theorem b68_0 {d t : Nat}  {x1 : Int} {M : ab_M} {Q : Option ab_V → ab_M → Prop} (hd : 1 ≤ d) (hS : pu_str t M)  (h : (x1 < 0 ∨ 12 < x1 → Q (some (.inl ((-1000000002)))) M) ∧ (x1 = 0 → Q (some (.inl (M t 0))) M) ∧ (x1 = 1 → Q (some (.inl (M t 2))) M) ∧ (x1 = 2 → Q (some (.inl (M t 3))) M) ∧ (x1 = 3 → Q (some (.inl (M t 4))) M) ∧ (x1 = 4 → Q (some (.inl (M 1 0))) M) ∧ (x1 = 5 → Q (some (.inl (M 69 0))) M) ∧ (x1 = 6 → Q (some (.inl (M 69 1))) M) ∧ (x1 = 7 → Q (some (.inl (M 69 2))) M) ∧ (x1 = 8 → ∃ r1 M1, ab_ev (d - 1) 97 [.inr (.inr 0), .inl 1] M (some (.inl r1)) M1 ∧ pu_str t M1 ∧ Q (some (.inl r1)) M1) ∧ (x1 = 9 → ∃ r1 M1, ab_ev (d - 1) 97 [.inr (.inr 0), .inl 2] M (some (.inl r1)) M1 ∧ pu_str t M1 ∧ Q (some (.inl r1)) M1) ∧ (x1 = 10 → ∃ r1 M1, ab_ev (d - 1) 97 [.inr (.inr 0), .inl 1] M (some (.inl r1)) M1 ∧ pu_str t M1 ∧ ∃ r2 M2, ab_ev (d - 1) 60 [.inr (.inr t), .inl r1] M1 (some (.inl r2)) M2 ∧ pu_str t M2 ∧ Q (some (.inl r2)) M2) ∧ (x1 = 11 → Q (some (.inl (M 90 2))) M) ∧ (x1 = 12 → Q (some (.inl (M 75 0))) M)) : ab_wp d 68 0 [some (.inr (.inr 0)), some (.inl x1)] [] M Q := by
  refine wp_sts 1 (pc' := 1) (ls' := [some (.inr (.inr 0)), some (.inl x1)]) (st' := [.inl x1]) (M' := M) rfl ?_
  refine w_sw (tg := [(0, 68), (1, 76), (2, 84), (3, 92), (4, 100), (5, 108), (6, 116), (7, 124), (8, 132), (9, 138), (10, 144), (11, 157), (12, 165)]) rfl rfl (fun c => ?_) ⟨fun c => ?_, fun c => ?_, fun c => ?_, fun c => ?_, fun c => ?_, fun c => ?_, fun c => ?_, fun c => ?_, fun c => ?_, fun c => ?_, fun c => ?_, fun c => ?_, fun c => ?_, trivial⟩
  · replace h := h.1 c
    refine wp_sts 1 (pc' := 175) (ls' := [some (.inr (.inr 0)), some (.inl x1)]) (st' := [.inl ((-1000000002))]) (M' := M) rfl ?_
    exact wp_ret rfl rfl (z := (some (.inl ((-1000000002))), M)) rfl h
  · replace h := h.2.1 c
    refine wp_sts 1 (pc' := 69) (ls' := [some (.inr (.inr 0)), some (.inl x1)]) (st' := [.inr (.inr 0)]) (M' := M) rfl ?_
    refine g_getR (j := t) rfl hS rfl hS.2.2.2.1 (fT (P := fun z => z < 1000) hS.2.2.1 (by decide) (by decide)) ?_
    refine g_getI rfl hS (fT (P := fun z => pu_bI z 0 8 = true) hS.2.2.1 rfl rfl) ?_
    exact wp_ret rfl rfl (z := (some (.inl (M t 0)), M)) rfl h
  · replace h := h.2.2.1 c
    refine wp_sts 1 (pc' := 77) (ls' := [some (.inr (.inr 0)), some (.inl x1)]) (st' := [.inr (.inr 0)]) (M' := M) rfl ?_
    refine g_getR (j := t) rfl hS rfl hS.2.2.2.1 (fT (P := fun z => z < 1000) hS.2.2.1 (by decide) (by decide)) ?_
    refine g_getI rfl hS (fT (P := fun z => pu_bI z 2 8 = true) hS.2.2.1 rfl rfl) ?_
    exact wp_ret rfl rfl (z := (some (.inl (M t 2)), M)) rfl h
  · replace h := h.2.2.2.1 c
    refine wp_sts 1 (pc' := 85) (ls' := [some (.inr (.inr 0)), some (.inl x1)]) (st' := [.inr (.inr 0)]) (M' := M) rfl ?_
    refine g_getR (j := t) rfl hS rfl hS.2.2.2.1 (fT (P := fun z => z < 1000) hS.2.2.1 (by decide) (by decide)) ?_
    refine g_getI rfl hS (fT (P := fun z => pu_bI z 3 8 = true) hS.2.2.1 rfl rfl) ?_
    exact wp_ret rfl rfl (z := (some (.inl (M t 3)), M)) rfl h
  · replace h := h.2.2.2.2.1 c
    refine wp_sts 1 (pc' := 93) (ls' := [some (.inr (.inr 0)), some (.inl x1)]) (st' := [.inr (.inr 0)]) (M' := M) rfl ?_
    refine g_getR (j := t) rfl hS rfl hS.2.2.2.1 (fT (P := fun z => z < 1000) hS.2.2.1 (by decide) (by decide)) ?_
    refine g_getI rfl hS (fT (P := fun z => pu_bI z 4 8 = true) hS.2.2.1 rfl rfl) ?_
    exact wp_ret rfl rfl (z := (some (.inl (M t 4)), M)) rfl h
  · replace h := h.2.2.2.2.2.1 c
    refine wp_sts 1 (pc' := 101) (ls' := [some (.inr (.inr 0)), some (.inl x1)]) (st' := [.inr (.inr 0)]) (M' := M) rfl ?_
    refine g_getR (j := 1) rfl hS rfl (str_r hS 0 0 1 rfl) (by decide) ?_
    refine g_getI rfl hS rfl ?_
    exact wp_ret rfl rfl (z := (some (.inl (M 1 0)), M)) rfl h
  · replace h := h.2.2.2.2.2.2.1 c
    refine wp_sts 1 (pc' := 109) (ls' := [some (.inr (.inr 0)), some (.inl x1)]) (st' := [.inr (.inr 0)]) (M' := M) rfl ?_
    refine g_getR (j := 69) rfl hS rfl (str_r hS 0 4 69 rfl) (by decide) ?_
    refine g_getI rfl hS rfl ?_
    exact wp_ret rfl rfl (z := (some (.inl (M 69 0)), M)) rfl h
  · replace h := h.2.2.2.2.2.2.2.1 c
    refine wp_sts 1 (pc' := 117) (ls' := [some (.inr (.inr 0)), some (.inl x1)]) (st' := [.inr (.inr 0)]) (M' := M) rfl ?_
    refine g_getR (j := 69) rfl hS rfl (str_r hS 0 4 69 rfl) (by decide) ?_
    refine g_getI rfl hS rfl ?_
    exact wp_ret rfl rfl (z := (some (.inl (M 69 1)), M)) rfl h
  · replace h := h.2.2.2.2.2.2.2.2.1 c
    refine wp_sts 1 (pc' := 125) (ls' := [some (.inr (.inr 0)), some (.inl x1)]) (st' := [.inr (.inr 0)]) (M' := M) rfl ?_
    refine g_getR (j := 69) rfl hS rfl (str_r hS 0 4 69 rfl) (by decide) ?_
    refine g_getI rfl hS rfl ?_
    exact wp_ret rfl rfl (z := (some (.inl (M 69 2)), M)) rfl h
  · replace h := h.2.2.2.2.2.2.2.2.2.1 c
    refine wp_sts 2 (pc' := 134) (ls' := [some (.inr (.inr 0)), some (.inl x1)]) (st' := [.inl 1, .inr (.inr 0)]) (M' := M) rfl ?_
    obtain ⟨r1, M1, he, hS1, h⟩ := h
    refine g_callI (c := 97) (as := [.inr (.inr 0), .inl 1]) (rs := []) rfl rfl hS hd rfl he ?_
    exact wp_ret rfl rfl (z := (some (.inl r1), M1)) rfl h
  · replace h := h.2.2.2.2.2.2.2.2.2.2.1 c
    refine wp_sts 2 (pc' := 140) (ls' := [some (.inr (.inr 0)), some (.inl x1)]) (st' := [.inl 2, .inr (.inr 0)]) (M' := M) rfl ?_
    obtain ⟨r1, M1, he, hS1, h⟩ := h
    refine g_callI (c := 97) (as := [.inr (.inr 0), .inl 2]) (rs := []) rfl rfl hS hd rfl he ?_
    exact wp_ret rfl rfl (z := (some (.inl r1), M1)) rfl h
  · replace h := h.2.2.2.2.2.2.2.2.2.2.2.1 c
    refine wp_sts 1 (pc' := 145) (ls' := [some (.inr (.inr 0)), some (.inl x1)]) (st' := [.inr (.inr 0)]) (M' := M) rfl ?_
    refine g_getR (j := t) rfl hS rfl hS.2.2.2.1 (fT (P := fun z => z < 1000) hS.2.2.1 (by decide) (by decide)) ?_
    refine wp_sts 2 (pc' := 150) (ls' := [some (.inr (.inr 0)), some (.inl x1)]) (st' := [.inl 1, .inr (.inr 0), .inr (.inr t)]) (M' := M) rfl ?_
    obtain ⟨r1, M1, he, hS1, h⟩ := h
    refine g_callI (c := 97) (as := [.inr (.inr 0), .inl 1]) (rs := [.inr (.inr t)]) rfl rfl hS hd rfl he ?_
    obtain ⟨r2, M2, he, hS2, h⟩ := h
    refine g_callI (c := 60) (as := [.inr (.inr t), .inl r1]) (rs := []) rfl rfl hS1 hd (fT (P := fun z => ab_argsN (.invokevirtual 153, 1, 60, 2) [.inl r1, .inr (.inr z)] = some (60, [.inr (.inr z), .inl r1], [])) hS.2.2.1 rfl rfl) he ?_
    exact wp_ret rfl rfl (z := (some (.inl r2), M2)) rfl h
  · replace h := h.2.2.2.2.2.2.2.2.2.2.2.2.1 c
    refine wp_sts 1 (pc' := 158) (ls' := [some (.inr (.inr 0)), some (.inl x1)]) (st' := [.inr (.inr 0)]) (M' := M) rfl ?_
    refine g_getR (j := 90) rfl hS rfl (str_r hS 0 11 90 rfl) (by decide) ?_
    refine g_getI rfl hS rfl ?_
    exact wp_ret rfl rfl (z := (some (.inl (M 90 2)), M)) rfl h
  · replace h := h.2.2.2.2.2.2.2.2.2.2.2.2.2 c
    refine wp_sts 1 (pc' := 166) (ls' := [some (.inr (.inr 0)), some (.inl x1)]) (st' := [.inr (.inr 0)]) (M' := M) rfl ?_
    refine g_getR (j := 75) rfl hS rfl (str_r hS 0 7 75 rfl) (by decide) ?_
    refine g_getI rfl hS rfl ?_
    exact wp_ret rfl rfl (z := (some (.inl (M 75 0)), M)) rfl h
/- LoneAdjective.far, at 0 -/
theorem b69_0 {d t : Nat}  {x1 : Int} {x2 : Int} {M : ab_M} {Q : Option ab_V → ab_M → Prop} (hd : 1 ≤ d) (hS : pu_str t M)  (h : ∃ r1 M1, ab_ev (d - 1) 51 [.inr (.inr t), .inl x1] M (some (.inl r1)) M1 ∧ pu_str t M1 ∧ (r1 = 0 → Q (some (.inl ((-1000000001)))) M1) ∧ (r1 ≠ 0 → ∃ r2 M2, ab_ev (d - 1) 51 [.inr (.inr t), .inl x2] M1 (some (.inl r2)) M2 ∧ pu_str t M2 ∧ (r2 ≠ 0 → ∃ r3 M3, ab_ev (d - 1) 58 [.inr (.inr t), .inl x1, .inl x2] M2 (some (.inl r3)) M3 ∧ pu_str t M3 ∧ Q (some (.inl r3)) M3) ∧ (r2 = 0 → Q (some (.inl ((-1000000001)))) M2))) : ab_wp d 69 0 [some (.inr (.inr 0)), some (.inl x1), some (.inl x2)] [] M Q := by
  refine wp_sts 1 (pc' := 1) (ls' := [some (.inr (.inr 0)), some (.inl x1), some (.inl x2)]) (st' := [.inr (.inr 0)]) (M' := M) rfl ?_
  refine g_getR (j := t) rfl hS rfl hS.2.2.2.1 (fT (P := fun z => z < 1000) hS.2.2.1 (by decide) (by decide)) ?_
  refine wp_sts 1 (pc' := 5) (ls' := [some (.inr (.inr 0)), some (.inl x1), some (.inl x2)]) (st' := [.inl x1, .inr (.inr t)]) (M' := M) rfl ?_
  obtain ⟨r1, M1, he, hS1, h⟩ := h
  refine g_callI (c := 51) (as := [.inr (.inr t), .inl x1]) (rs := []) rfl rfl hS hd (fT (P := fun z => ab_argsN (.invokevirtual 156, 1, 51, 2) [.inl x1, .inr (.inr z)] = some (51, [.inr (.inr z), .inl x1], [])) hS.2.2.1 rfl rfl) he ?_
  refine c1_eq rfl (fun c => ?_) (fun c => ?_)
  · replace h := h.1 c
    refine wp_sts 1 (pc' := 24) (ls' := [some (.inr (.inr 0)), some (.inl x1), some (.inl x2)]) (st' := [.inl ((-1000000001))]) (M' := M1) rfl ?_
    exact wp_ret rfl rfl (z := (some (.inl ((-1000000001))), M1)) rfl h
  · replace h := h.2 c
    refine wp_sts 1 (pc' := 12) (ls' := [some (.inr (.inr 0)), some (.inl x1), some (.inl x2)]) (st' := [.inr (.inr 0)]) (M' := M1) rfl ?_
    refine g_getR (j := t) rfl hS1 rfl hS1.2.2.2.1 (fT (P := fun z => z < 1000) hS.2.2.1 (by decide) (by decide)) ?_
    refine wp_sts 1 (pc' := 16) (ls' := [some (.inr (.inr 0)), some (.inl x1), some (.inl x2)]) (st' := [.inl x2, .inr (.inr t)]) (M' := M1) rfl ?_
    obtain ⟨r2, M2, he, hS2, h⟩ := h
    refine g_callI (c := 51) (as := [.inr (.inr t), .inl x2]) (rs := []) rfl rfl hS1 hd (fT (P := fun z => ab_argsN (.invokevirtual 156, 1, 51, 2) [.inl x2, .inr (.inr z)] = some (51, [.inr (.inr z), .inl x2], [])) hS.2.2.1 rfl rfl) he ?_
    refine c1_ne rfl (fun c => ?_) (fun c => ?_)
    · replace h := h.1 c
      refine wp_sts 1 (pc' := 26) (ls' := [some (.inr (.inr 0)), some (.inl x1), some (.inl x2)]) (st' := [.inr (.inr 0)]) (M' := M2) rfl ?_
      refine g_getR (j := t) rfl hS2 rfl hS2.2.2.2.1 (fT (P := fun z => z < 1000) hS.2.2.1 (by decide) (by decide)) ?_
      refine wp_sts 2 (pc' := 31) (ls' := [some (.inr (.inr 0)), some (.inl x1), some (.inl x2)]) (st' := [.inl x2, .inl x1, .inr (.inr t)]) (M' := M2) rfl ?_
      obtain ⟨r3, M3, he, hS3, h⟩ := h
      refine g_callI (c := 58) (as := [.inr (.inr t), .inl x1, .inl x2]) (rs := []) rfl rfl hS2 hd (fT (P := fun z => ab_argsN (.invokevirtual 161, 1, 58, 3) [.inl x2, .inl x1, .inr (.inr z)] = some (58, [.inr (.inr z), .inl x1, .inl x2], [])) hS.2.2.1 rfl rfl) he ?_
      exact wp_ret rfl rfl (z := (some (.inl r3), M3)) rfl h
    · replace h := h.2 c
      refine wp_sts 1 (pc' := 24) (ls' := [some (.inr (.inr 0)), some (.inl x1), some (.inl x2)]) (st' := [.inl ((-1000000001))]) (M' := M2) rfl ?_
      exact wp_ret rfl rfl (z := (some (.inl ((-1000000001))), M2)) rfl h
/- LoneAdjective.person, at 0 -/
theorem b70_0 {d t : Nat}  {x1 : Int} {x2 : Int} {M : ab_M} {Q : Option ab_V → ab_M → Prop} (hd : 1 ≤ d) (hS : pu_str t M)  (h : ∃ r1 M1, ab_ev (d - 1) 52 [.inr (.inr t), .inl x1] M (some (.inl r1)) M1 ∧ pu_str t M1 ∧ (r1 ≠ 0 → (x2 ≠ 0 ∧ x2 ≠ 1 → Q (some (.inl ((-1000000002)))) M1) ∧ (x2 = 0 → (0 ≤ x1 ∧ x1 < 6) ∧ Q (some (.inl (M1 (t + 17) x1.toNat))) M1) ∧ (x2 = 1 → (0 ≤ x1 ∧ x1 < 6) ∧ Q (some (.inl (M1 (t + 18) x1.toNat))) M1)) ∧ (r1 = 0 → Q (some (.inl ((-1000000001)))) M1)) : ab_wp d 70 0 [some (.inr (.inr 0)), some (.inl x1), some (.inl x2)] [] M Q := by
  refine wp_sts 1 (pc' := 1) (ls' := [some (.inr (.inr 0)), some (.inl x1), some (.inl x2)]) (st' := [.inr (.inr 0)]) (M' := M) rfl ?_
  refine g_getR (j := t) rfl hS rfl hS.2.2.2.1 (fT (P := fun z => z < 1000) hS.2.2.1 (by decide) (by decide)) ?_
  refine wp_sts 1 (pc' := 5) (ls' := [some (.inr (.inr 0)), some (.inl x1), some (.inl x2)]) (st' := [.inl x1, .inr (.inr t)]) (M' := M) rfl ?_
  obtain ⟨r1, M1, he, hS1, h⟩ := h
  refine g_callI (c := 52) (as := [.inr (.inr t), .inl x1]) (rs := []) rfl rfl hS hd (fT (P := fun z => ab_argsN (.invokevirtual 165, 1, 52, 2) [.inl x1, .inr (.inr z)] = some (52, [.inr (.inr z), .inl x1], [])) hS.2.2.1 rfl rfl) he ?_
  refine c1_ne rfl (fun c => ?_) (fun c => ?_)
  · replace h := h.1 c
    refine wp_sts 1 (pc' := 15) (ls' := [some (.inr (.inr 0)), some (.inl x1), some (.inl x2)]) (st' := [.inl x2]) (M' := M1) rfl ?_
    refine w_lsw2 (p1 := 40) (p2 := 50) (p0 := 60) rfl rfl rfl rfl (fun c => ?_) (fun c => ?_) (fun c => ?_)
    · replace h := h.1 c
      refine wp_sts 1 (pc' := 62) (ls' := [some (.inr (.inr 0)), some (.inl x1), some (.inl x2)]) (st' := [.inl ((-1000000002))]) (M' := M1) rfl ?_
      exact wp_ret rfl rfl (z := (some (.inl ((-1000000002))), M1)) rfl h
    · replace h := h.2.1 c
      refine wp_sts 1 (pc' := 41) (ls' := [some (.inr (.inr 0)), some (.inl x1), some (.inl x2)]) (st' := [.inr (.inr 0)]) (M' := M1) rfl ?_
      refine g_getR (j := t) rfl hS1 rfl hS1.2.2.2.1 (fT (P := fun z => z < 1000) hS.2.2.1 (by decide) (by decide)) ?_
      refine g_getR (j := t + 17) rfl hS1 (fT (P := fun z => pu_bJ 2 z 7 8 = true) hS.2.2.1 rfl rfl) (fT (P := fun z => M1 z 7 = ((z + 17 : Nat) : Int)) hS.2.2.1 (str_r hS1 5 7 22 rfl) (str_r hS1 37 7 54 rfl)) (fT (P := fun z => z + 17 < 1000) hS.2.2.1 (by decide) (by decide)) ?_
      refine wp_sts 1 (pc' := 48) (ls' := [some (.inr (.inr 0)), some (.inl x1), some (.inl x2)]) (st' := [.inl x1, .inr (.inr (t + 17))]) (M' := M1) rfl ?_
      obtain ⟨hf1, h⟩ := h
      refine g_iald (n := 6) rfl hS1 (fT (P := fun z => ab_arB 20 (z + 17) 6 = true) hS.2.2.1 rfl rfl) hf1 ?_
      exact wp_ret rfl rfl (z := (some (.inl (M1 (t + 17) x1.toNat)), M1)) rfl h
    · replace h := h.2.2 c
      refine wp_sts 1 (pc' := 51) (ls' := [some (.inr (.inr 0)), some (.inl x1), some (.inl x2)]) (st' := [.inr (.inr 0)]) (M' := M1) rfl ?_
      refine g_getR (j := t) rfl hS1 rfl hS1.2.2.2.1 (fT (P := fun z => z < 1000) hS.2.2.1 (by decide) (by decide)) ?_
      refine g_getR (j := t + 18) rfl hS1 (fT (P := fun z => pu_bJ 2 z 8 8 = true) hS.2.2.1 rfl rfl) (fT (P := fun z => M1 z 8 = ((z + 18 : Nat) : Int)) hS.2.2.1 (str_r hS1 5 8 23 rfl) (str_r hS1 37 8 55 rfl)) (fT (P := fun z => z + 18 < 1000) hS.2.2.1 (by decide) (by decide)) ?_
      refine wp_sts 1 (pc' := 58) (ls' := [some (.inr (.inr 0)), some (.inl x1), some (.inl x2)]) (st' := [.inl x1, .inr (.inr (t + 18))]) (M' := M1) rfl ?_
      obtain ⟨hf1, h⟩ := h
      refine g_iald (n := 6) rfl hS1 (fT (P := fun z => ab_arB 20 (z + 18) 6 = true) hS.2.2.1 rfl rfl) hf1 ?_
      exact wp_ret rfl rfl (z := (some (.inl (M1 (t + 18) x1.toNat)), M1)) rfl h
  · replace h := h.2 c
    refine wp_sts 1 (pc' := 13) (ls' := [some (.inr (.inr 0)), some (.inl x1), some (.inl x2)]) (st' := [.inl ((-1000000001))]) (M' := M1) rfl ?_
    exact wp_ret rfl rfl (z := (some (.inl ((-1000000001))), M1)) rfl h
/- LoneAdjective.deed, at 0 -/
theorem b71_0 {d t : Nat}  {x1 : Int} {x2 : Int} {M : ab_M} {Q : Option ab_V → ab_M → Prop} (hd : 1 ≤ d) (hS : pu_str t M)  (h : ∃ r1 M1, ab_ev (d - 1) 54 [.inr (.inr t), .inl x1] M (some (.inl r1)) M1 ∧ pu_str t M1 ∧ (r1 ≠ 0 → (x2 < 0 ∨ 6 < x2 → Q (some (.inl ((-1000000002)))) M1) ∧ (x2 = 0 → (0 ≤ x1 ∧ x1 < 6) ∧ Q (some (.inl (M1 (t + 19) x1.toNat))) M1) ∧ (x2 = 1 → (0 ≤ x1 ∧ x1 < 6) ∧ Q (some (.inl (M1 (t + 20) x1.toNat))) M1) ∧ (x2 = 2 → (0 ≤ x1 ∧ x1 < 6) ∧ Q (some (.inl (M1 (t + 21) x1.toNat))) M1) ∧ (x2 = 3 → (0 ≤ x1 ∧ x1 < 6) ∧ Q (some (.inl (M1 (t + 22) x1.toNat))) M1) ∧ (x2 = 4 → (0 ≤ x1 ∧ x1 < 6) ∧ Q (some (.inl (M1 (t + 23) x1.toNat))) M1) ∧ (x2 = 5 → ∃ r2 M2, ab_ev (d - 1) 44 [.inr (.inr 69), .inr (.inr t), .inl x1] M1 (some (.inl r2)) M2 ∧ pu_str t M2 ∧ Q (some (.inl r2)) M2) ∧ (x2 = 6 → (0 ≤ x1 ∧ x1 < 6) ∧ Q (some (.inl (M1 70 x1.toNat))) M1)) ∧ (r1 = 0 → Q (some (.inl ((-1000000001)))) M1)) : ab_wp d 71 0 [some (.inr (.inr 0)), some (.inl x1), some (.inl x2)] [] M Q := by
  refine wp_sts 1 (pc' := 1) (ls' := [some (.inr (.inr 0)), some (.inl x1), some (.inl x2)]) (st' := [.inr (.inr 0)]) (M' := M) rfl ?_
  refine g_getR (j := t) rfl hS rfl hS.2.2.2.1 (fT (P := fun z => z < 1000) hS.2.2.1 (by decide) (by decide)) ?_
  refine wp_sts 1 (pc' := 5) (ls' := [some (.inr (.inr 0)), some (.inl x1), some (.inl x2)]) (st' := [.inl x1, .inr (.inr t)]) (M' := M) rfl ?_
  obtain ⟨r1, M1, he, hS1, h⟩ := h
  refine g_callI (c := 54) (as := [.inr (.inr t), .inl x1]) (rs := []) rfl rfl hS hd (fT (P := fun z => ab_argsN (.invokevirtual 174, 1, 54, 2) [.inl x1, .inr (.inr z)] = some (54, [.inr (.inr z), .inl x1], [])) hS.2.2.1 rfl rfl) he ?_
  refine c1_ne rfl (fun c => ?_) (fun c => ?_)
  · replace h := h.1 c
    refine wp_sts 1 (pc' := 15) (ls' := [some (.inr (.inr 0)), some (.inl x1), some (.inl x2)]) (st' := [.inl x2]) (M' := M1) rfl ?_
    refine w_sw (tg := [(0, 56), (1, 66), (2, 76), (3, 86), (4, 96), (5, 106), (6, 119)]) rfl rfl (fun c => ?_) ⟨fun c => ?_, fun c => ?_, fun c => ?_, fun c => ?_, fun c => ?_, fun c => ?_, fun c => ?_, trivial⟩
    · replace h := h.1 c
      refine wp_sts 1 (pc' := 131) (ls' := [some (.inr (.inr 0)), some (.inl x1), some (.inl x2)]) (st' := [.inl ((-1000000002))]) (M' := M1) rfl ?_
      exact wp_ret rfl rfl (z := (some (.inl ((-1000000002))), M1)) rfl h
    · replace h := h.2.1 c
      refine wp_sts 1 (pc' := 57) (ls' := [some (.inr (.inr 0)), some (.inl x1), some (.inl x2)]) (st' := [.inr (.inr 0)]) (M' := M1) rfl ?_
      refine g_getR (j := t) rfl hS1 rfl hS1.2.2.2.1 (fT (P := fun z => z < 1000) hS.2.2.1 (by decide) (by decide)) ?_
      refine g_getR (j := t + 19) rfl hS1 (fT (P := fun z => pu_bJ 2 z 9 8 = true) hS.2.2.1 rfl rfl) (fT (P := fun z => M1 z 9 = ((z + 19 : Nat) : Int)) hS.2.2.1 (str_r hS1 5 9 24 rfl) (str_r hS1 37 9 56 rfl)) (fT (P := fun z => z + 19 < 1000) hS.2.2.1 (by decide) (by decide)) ?_
      refine wp_sts 1 (pc' := 64) (ls' := [some (.inr (.inr 0)), some (.inl x1), some (.inl x2)]) (st' := [.inl x1, .inr (.inr (t + 19))]) (M' := M1) rfl ?_
      obtain ⟨hf1, h⟩ := h
      refine g_iald (n := 6) rfl hS1 (fT (P := fun z => ab_arB 20 (z + 19) 6 = true) hS.2.2.1 rfl rfl) hf1 ?_
      exact wp_ret rfl rfl (z := (some (.inl (M1 (t + 19) x1.toNat)), M1)) rfl h
    · replace h := h.2.2.1 c
      refine wp_sts 1 (pc' := 67) (ls' := [some (.inr (.inr 0)), some (.inl x1), some (.inl x2)]) (st' := [.inr (.inr 0)]) (M' := M1) rfl ?_
      refine g_getR (j := t) rfl hS1 rfl hS1.2.2.2.1 (fT (P := fun z => z < 1000) hS.2.2.1 (by decide) (by decide)) ?_
      refine g_getR (j := t + 20) rfl hS1 (fT (P := fun z => pu_bJ 2 z 10 8 = true) hS.2.2.1 rfl rfl) (fT (P := fun z => M1 z 10 = ((z + 20 : Nat) : Int)) hS.2.2.1 (str_r hS1 5 10 25 rfl) (str_r hS1 37 10 57 rfl)) (fT (P := fun z => z + 20 < 1000) hS.2.2.1 (by decide) (by decide)) ?_
      refine wp_sts 1 (pc' := 74) (ls' := [some (.inr (.inr 0)), some (.inl x1), some (.inl x2)]) (st' := [.inl x1, .inr (.inr (t + 20))]) (M' := M1) rfl ?_
      obtain ⟨hf1, h⟩ := h
      refine g_iald (n := 6) rfl hS1 (fT (P := fun z => ab_arB 20 (z + 20) 6 = true) hS.2.2.1 rfl rfl) hf1 ?_
      exact wp_ret rfl rfl (z := (some (.inl (M1 (t + 20) x1.toNat)), M1)) rfl h
    · replace h := h.2.2.2.1 c
      refine wp_sts 1 (pc' := 77) (ls' := [some (.inr (.inr 0)), some (.inl x1), some (.inl x2)]) (st' := [.inr (.inr 0)]) (M' := M1) rfl ?_
      refine g_getR (j := t) rfl hS1 rfl hS1.2.2.2.1 (fT (P := fun z => z < 1000) hS.2.2.1 (by decide) (by decide)) ?_
      refine g_getR (j := t + 21) rfl hS1 (fT (P := fun z => pu_bJ 2 z 11 8 = true) hS.2.2.1 rfl rfl) (fT (P := fun z => M1 z 11 = ((z + 21 : Nat) : Int)) hS.2.2.1 (str_r hS1 5 11 26 rfl) (str_r hS1 37 11 58 rfl)) (fT (P := fun z => z + 21 < 1000) hS.2.2.1 (by decide) (by decide)) ?_
      refine wp_sts 1 (pc' := 84) (ls' := [some (.inr (.inr 0)), some (.inl x1), some (.inl x2)]) (st' := [.inl x1, .inr (.inr (t + 21))]) (M' := M1) rfl ?_
      obtain ⟨hf1, h⟩ := h
      refine g_iald (n := 6) rfl hS1 (fT (P := fun z => ab_arB 20 (z + 21) 6 = true) hS.2.2.1 rfl rfl) hf1 ?_
      exact wp_ret rfl rfl (z := (some (.inl (M1 (t + 21) x1.toNat)), M1)) rfl h
    · replace h := h.2.2.2.2.1 c
      refine wp_sts 1 (pc' := 87) (ls' := [some (.inr (.inr 0)), some (.inl x1), some (.inl x2)]) (st' := [.inr (.inr 0)]) (M' := M1) rfl ?_
      refine g_getR (j := t) rfl hS1 rfl hS1.2.2.2.1 (fT (P := fun z => z < 1000) hS.2.2.1 (by decide) (by decide)) ?_
      refine g_getR (j := t + 22) rfl hS1 (fT (P := fun z => pu_bJ 2 z 12 8 = true) hS.2.2.1 rfl rfl) (fT (P := fun z => M1 z 12 = ((z + 22 : Nat) : Int)) hS.2.2.1 (str_r hS1 5 12 27 rfl) (str_r hS1 37 12 59 rfl)) (fT (P := fun z => z + 22 < 1000) hS.2.2.1 (by decide) (by decide)) ?_
      refine wp_sts 1 (pc' := 94) (ls' := [some (.inr (.inr 0)), some (.inl x1), some (.inl x2)]) (st' := [.inl x1, .inr (.inr (t + 22))]) (M' := M1) rfl ?_
      obtain ⟨hf1, h⟩ := h
      refine g_iald (n := 6) rfl hS1 (fT (P := fun z => ab_arB 20 (z + 22) 6 = true) hS.2.2.1 rfl rfl) hf1 ?_
      exact wp_ret rfl rfl (z := (some (.inl (M1 (t + 22) x1.toNat)), M1)) rfl h
    · replace h := h.2.2.2.2.2.1 c
      refine wp_sts 1 (pc' := 97) (ls' := [some (.inr (.inr 0)), some (.inl x1), some (.inl x2)]) (st' := [.inr (.inr 0)]) (M' := M1) rfl ?_
      refine g_getR (j := t) rfl hS1 rfl hS1.2.2.2.1 (fT (P := fun z => z < 1000) hS.2.2.1 (by decide) (by decide)) ?_
      refine g_getR (j := t + 23) rfl hS1 (fT (P := fun z => pu_bJ 2 z 13 8 = true) hS.2.2.1 rfl rfl) (fT (P := fun z => M1 z 13 = ((z + 23 : Nat) : Int)) hS.2.2.1 (str_r hS1 5 13 28 rfl) (str_r hS1 37 13 60 rfl)) (fT (P := fun z => z + 23 < 1000) hS.2.2.1 (by decide) (by decide)) ?_
      refine wp_sts 1 (pc' := 104) (ls' := [some (.inr (.inr 0)), some (.inl x1), some (.inl x2)]) (st' := [.inl x1, .inr (.inr (t + 23))]) (M' := M1) rfl ?_
      obtain ⟨hf1, h⟩ := h
      refine g_iald (n := 6) rfl hS1 (fT (P := fun z => ab_arB 20 (z + 23) 6 = true) hS.2.2.1 rfl rfl) hf1 ?_
      exact wp_ret rfl rfl (z := (some (.inl (M1 (t + 23) x1.toNat)), M1)) rfl h
    · replace h := h.2.2.2.2.2.2.1 c
      refine wp_sts 1 (pc' := 107) (ls' := [some (.inr (.inr 0)), some (.inl x1), some (.inl x2)]) (st' := [.inr (.inr 0)]) (M' := M1) rfl ?_
      refine g_getR (j := 69) rfl hS1 rfl (str_r hS1 0 4 69 rfl) (by decide) ?_
      refine wp_sts 1 (pc' := 111) (ls' := [some (.inr (.inr 0)), some (.inl x1), some (.inl x2)]) (st' := [.inr (.inr 0), .inr (.inr 69)]) (M' := M1) rfl ?_
      refine g_getR (j := t) rfl hS1 rfl hS1.2.2.2.1 (fT (P := fun z => z < 1000) hS.2.2.1 (by decide) (by decide)) ?_
      refine wp_sts 1 (pc' := 115) (ls' := [some (.inr (.inr 0)), some (.inl x1), some (.inl x2)]) (st' := [.inl x1, .inr (.inr t), .inr (.inr 69)]) (M' := M1) rfl ?_
      obtain ⟨r2, M2, he, hS2, h⟩ := h
      refine g_callI (c := 44) (as := [.inr (.inr 69), .inr (.inr t), .inl x1]) (rs := []) rfl rfl hS1 hd rfl he ?_
      exact wp_ret rfl rfl (z := (some (.inl r2), M2)) rfl h
    · replace h := h.2.2.2.2.2.2.2 c
      refine wp_sts 1 (pc' := 120) (ls' := [some (.inr (.inr 0)), some (.inl x1), some (.inl x2)]) (st' := [.inr (.inr 0)]) (M' := M1) rfl ?_
      refine g_getR (j := 69) rfl hS1 rfl (str_r hS1 0 4 69 rfl) (by decide) ?_
      refine g_getR (j := 70) rfl hS1 rfl (str_r hS1 69 5 70 rfl) (by decide) ?_
      refine wp_sts 1 (pc' := 127) (ls' := [some (.inr (.inr 0)), some (.inl x1), some (.inl x2)]) (st' := [.inl x1, .inr (.inr 70)]) (M' := M1) rfl ?_
      obtain ⟨hf1, h⟩ := h
      refine g_iald (n := 6) rfl hS1 rfl hf1 ?_
      exact wp_ret rfl rfl (z := (some (.inl (M1 70 x1.toNat)), M1)) rfl h
  · replace h := h.2 c
    refine wp_sts 1 (pc' := 13) (ls' := [some (.inr (.inr 0)), some (.inl x1), some (.inl x2)]) (st' := [.inl ((-1000000001))]) (M' := M1) rfl ?_
    exact wp_ret rfl rfl (z := (some (.inl ((-1000000001))), M1)) rfl h
/- LoneAdjective.trust, at 0 -/
theorem b72_0 {d t : Nat}  {x1 : Int} {x2 : Int} {M : ab_M} {Q : Option ab_V → ab_M → Prop} (hd : 1 ≤ d) (hS : pu_str t M)  (h : ∃ r1 M1, ab_ev (d - 1) 53 [.inr (.inr t), .inl x1, .inl x2] M (some (.inl r1)) M1 ∧ pu_str t M1 ∧ (r1 ≠ 0 → (0 ≤ x1 ∧ x1 < 6) ∧ (0 ≤ x2 ∧ x2 < 6) ∧ Q (some (.inl (M1 (t + 25 + x1.toNat) x2.toNat))) M1) ∧ (r1 = 0 → Q (some (.inl ((-1000000001)))) M1)) : ab_wp d 72 0 [some (.inr (.inr 0)), some (.inl x1), some (.inl x2)] [] M Q := by
  refine wp_sts 1 (pc' := 1) (ls' := [some (.inr (.inr 0)), some (.inl x1), some (.inl x2)]) (st' := [.inr (.inr 0)]) (M' := M) rfl ?_
  refine g_getR (j := t) rfl hS rfl hS.2.2.2.1 (fT (P := fun z => z < 1000) hS.2.2.1 (by decide) (by decide)) ?_
  refine wp_sts 2 (pc' := 6) (ls' := [some (.inr (.inr 0)), some (.inl x1), some (.inl x2)]) (st' := [.inl x2, .inl x1, .inr (.inr t)]) (M' := M) rfl ?_
  obtain ⟨r1, M1, he, hS1, h⟩ := h
  refine g_callI (c := 53) (as := [.inr (.inr t), .inl x1, .inl x2]) (rs := []) rfl rfl hS hd (fT (P := fun z => ab_argsN (.invokevirtual 199, 1, 53, 3) [.inl x2, .inl x1, .inr (.inr z)] = some (53, [.inr (.inr z), .inl x1, .inl x2], [])) hS.2.2.1 rfl rfl) he ?_
  refine c1_ne rfl (fun c => ?_) (fun c => ?_)
  · replace h := h.1 c
    refine wp_sts 1 (pc' := 16) (ls' := [some (.inr (.inr 0)), some (.inl x1), some (.inl x2)]) (st' := [.inr (.inr 0)]) (M' := M1) rfl ?_
    refine g_getR (j := t) rfl hS1 rfl hS1.2.2.2.1 (fT (P := fun z => z < 1000) hS.2.2.1 (by decide) (by decide)) ?_
    refine g_getR (j := t + 24) rfl hS1 (fT (P := fun z => pu_bJ 2 z 14 8 = true) hS.2.2.1 rfl rfl) (fT (P := fun z => M1 z 14 = ((z + 24 : Nat) : Int)) hS.2.2.1 (str_r hS1 5 14 29 rfl) (str_r hS1 37 14 61 rfl)) (fT (P := fun z => z + 24 < 1000) hS.2.2.1 (by decide) (by decide)) ?_
    refine wp_sts 1 (pc' := 23) (ls' := [some (.inr (.inr 0)), some (.inl x1), some (.inl x2)]) (st' := [.inl x1, .inr (.inr (t + 24))]) (M' := M1) rfl ?_
    obtain ⟨hf1, h⟩ := h
    refine g_aald (n := 6) (j := t + 25 + x1.toNat) rfl hS1 (fT (P := fun z => ab_arB 24 (z + 24) 6 = true) hS.2.2.1 rfl rfl) hf1 (fT (P := fun z => M1 (z + 24) x1.toNat = ((z + 25 + x1.toNat : Nat) : Int)) hS.2.2.1 (row_rf (n := 6) hS1 (by decide) hf1) (row_rf (n := 6) hS1 (by decide) hf1)) (fT (P := fun z => z + 25 + x1.toNat < 1000) hS.2.2.1 (row_lt (n := 6) (by decide) hf1) (row_lt (n := 6) (by decide) hf1)) ?_
    refine wp_sts 1 (pc' := 25) (ls' := [some (.inr (.inr 0)), some (.inl x1), some (.inl x2)]) (st' := [.inl x2, .inr (.inr (t + 25 + x1.toNat))]) (M' := M1) rfl ?_
    obtain ⟨hf2, h⟩ := h
    refine g_iald (n := 6) rfl hS1 (fT (P := fun z => ab_arB 20 (z + 25 + x1.toNat) 6 = true) hS.2.2.1 (row_ar (n := 6) (by decide) hf1) (row_ar (n := 6) (by decide) hf1)) hf2 ?_
    exact wp_ret rfl rfl (z := (some (.inl (M1 (t + 25 + x1.toNat) x2.toNat)), M1)) rfl h
  · replace h := h.2 c
    refine wp_sts 1 (pc' := 14) (ls' := [some (.inr (.inr 0)), some (.inl x1), some (.inl x2)]) (st' := [.inl ((-1000000001))]) (M' := M1) rfl ?_
    exact wp_ret rfl rfl (z := (some (.inl ((-1000000001))), M1)) rfl h
/- LoneAdjective.lets, at 0 -/
theorem b73_0 {d t : Nat}  {x1 : Int} {M : ab_M} {Q : Option ab_V → ab_M → Prop} (hd : 1 ≤ d) (hS : pu_str t M)  (h : ∃ r1 M1, ab_ev (d - 1) 55 [.inr (.inr t), .inl x1] M (some (.inl r1)) M1 ∧ pu_str t M1 ∧ (r1 ≠ 0 → (0 ≤ x1 ∧ x1 < 4) ∧ Q (some (.inl (M1 (t + 31) x1.toNat))) M1) ∧ (r1 = 0 → Q (some (.inl ((-1000000001)))) M1)) : ab_wp d 73 0 [some (.inr (.inr 0)), some (.inl x1)] [] M Q := by
  refine wp_sts 1 (pc' := 1) (ls' := [some (.inr (.inr 0)), some (.inl x1)]) (st' := [.inr (.inr 0)]) (M' := M) rfl ?_
  refine g_getR (j := t) rfl hS rfl hS.2.2.2.1 (fT (P := fun z => z < 1000) hS.2.2.1 (by decide) (by decide)) ?_
  refine wp_sts 1 (pc' := 5) (ls' := [some (.inr (.inr 0)), some (.inl x1)]) (st' := [.inl x1, .inr (.inr t)]) (M' := M) rfl ?_
  obtain ⟨r1, M1, he, hS1, h⟩ := h
  refine g_callI (c := 55) (as := [.inr (.inr t), .inl x1]) (rs := []) rfl rfl hS hd (fT (P := fun z => ab_argsN (.invokevirtual 207, 1, 55, 2) [.inl x1, .inr (.inr z)] = some (55, [.inr (.inr z), .inl x1], [])) hS.2.2.1 rfl rfl) he ?_
  refine c1_ne rfl (fun c => ?_) (fun c => ?_)
  · replace h := h.1 c
    refine wp_sts 1 (pc' := 15) (ls' := [some (.inr (.inr 0)), some (.inl x1)]) (st' := [.inr (.inr 0)]) (M' := M1) rfl ?_
    refine g_getR (j := t) rfl hS1 rfl hS1.2.2.2.1 (fT (P := fun z => z < 1000) hS.2.2.1 (by decide) (by decide)) ?_
    refine g_getR (j := t + 31) rfl hS1 (fT (P := fun z => pu_bJ 2 z 15 8 = true) hS.2.2.1 rfl rfl) (fT (P := fun z => M1 z 15 = ((z + 31 : Nat) : Int)) hS.2.2.1 (str_r hS1 5 15 36 rfl) (str_r hS1 37 15 68 rfl)) (fT (P := fun z => z + 31 < 1000) hS.2.2.1 (by decide) (by decide)) ?_
    refine wp_sts 1 (pc' := 22) (ls' := [some (.inr (.inr 0)), some (.inl x1)]) (st' := [.inl x1, .inr (.inr (t + 31))]) (M' := M1) rfl ?_
    obtain ⟨hf1, h⟩ := h
    refine g_iald (n := 4) rfl hS1 (fT (P := fun z => ab_arB 20 (z + 31) 4 = true) hS.2.2.1 rfl rfl) hf1 ?_
    exact wp_ret rfl rfl (z := (some (.inl (M1 (t + 31) x1.toNat)), M1)) rfl h
  · replace h := h.2 c
    refine wp_sts 1 (pc' := 13) (ls' := [some (.inr (.inr 0)), some (.inl x1)]) (st' := [.inl ((-1000000001))]) (M' := M1) rfl ?_
    exact wp_ret rfl rfl (z := (some (.inl ((-1000000001))), M1)) rfl h
/- LoneAdjective.lend, at 0 -/
theorem b74_0 {d t : Nat}  {x1 : Int} {M : ab_M} {Q : Option ab_V → ab_M → Prop} (hd : 1 ≤ d) (hS : pu_str t M)  (h : ∃ r1 M1, ab_ev (d - 1) 52 [.inr (.inr t), .inl x1] M (some (.inl r1)) M1 ∧ pu_str t M1 ∧ (r1 ≠ 0 → ∃ r2 M2, ab_ev (d - 1) 45 [.inr (.inr 69), .inr (.inr t), .inl x1] M1 (some (.inl r2)) M2 ∧ pu_str t M2 ∧ (r2 ≠ 0 → (M2 69 0 ≤ 90000 → ∃ M3, ab_ev (d - 1) 46 [.inr (.inr 69), .inr (.inr t), .inl x1] M2 none M3 ∧ pu_str t M3 ∧ Q (some (.inl (M3 69 0))) M3) ∧ (90000 < M2 69 0 → Q (some (.inl ((-1000000004)))) M2)) ∧ (r2 = 0 → Q (some (.inl ((-1000000003)))) M2)) ∧ (r1 = 0 → Q (some (.inl ((-1000000001)))) M1)) : ab_wp d 74 0 [some (.inr (.inr 0)), some (.inl x1)] [] M Q := by
  refine wp_sts 1 (pc' := 1) (ls' := [some (.inr (.inr 0)), some (.inl x1)]) (st' := [.inr (.inr 0)]) (M' := M) rfl ?_
  refine g_getR (j := t) rfl hS rfl hS.2.2.2.1 (fT (P := fun z => z < 1000) hS.2.2.1 (by decide) (by decide)) ?_
  refine wp_sts 1 (pc' := 5) (ls' := [some (.inr (.inr 0)), some (.inl x1)]) (st' := [.inl x1, .inr (.inr t)]) (M' := M) rfl ?_
  obtain ⟨r1, M1, he, hS1, h⟩ := h
  refine g_callI (c := 52) (as := [.inr (.inr t), .inl x1]) (rs := []) rfl rfl hS hd (fT (P := fun z => ab_argsN (.invokevirtual 165, 1, 52, 2) [.inl x1, .inr (.inr z)] = some (52, [.inr (.inr z), .inl x1], [])) hS.2.2.1 rfl rfl) he ?_
  refine c1_ne rfl (fun c => ?_) (fun c => ?_)
  · replace h := h.1 c
    refine wp_sts 1 (pc' := 15) (ls' := [some (.inr (.inr 0)), some (.inl x1)]) (st' := [.inr (.inr 0)]) (M' := M1) rfl ?_
    refine g_getR (j := 69) rfl hS1 rfl (str_r hS1 0 4 69 rfl) (by decide) ?_
    refine wp_sts 1 (pc' := 19) (ls' := [some (.inr (.inr 0)), some (.inl x1)]) (st' := [.inr (.inr 0), .inr (.inr 69)]) (M' := M1) rfl ?_
    refine g_getR (j := t) rfl hS1 rfl hS1.2.2.2.1 (fT (P := fun z => z < 1000) hS.2.2.1 (by decide) (by decide)) ?_
    refine wp_sts 1 (pc' := 23) (ls' := [some (.inr (.inr 0)), some (.inl x1)]) (st' := [.inl x1, .inr (.inr t), .inr (.inr 69)]) (M' := M1) rfl ?_
    obtain ⟨r2, M2, he, hS2, h⟩ := h
    refine g_callI (c := 45) (as := [.inr (.inr 69), .inr (.inr t), .inl x1]) (rs := []) rfl rfl hS1 hd rfl he ?_
    refine c1_ne rfl (fun c => ?_) (fun c => ?_)
    · replace h := h.1 c
      refine wp_sts 1 (pc' := 33) (ls' := [some (.inr (.inr 0)), some (.inl x1)]) (st' := [.inr (.inr 0)]) (M' := M2) rfl ?_
      refine g_getR (j := 69) rfl hS2 rfl (str_r hS2 0 4 69 rfl) (by decide) ?_
      refine g_getI rfl hS2 rfl ?_
      refine wp_sts 1 (pc' := 41) (ls' := [some (.inr (.inr 0)), some (.inl x1)]) (st' := [.inl 90000, .inl (M2 69 0)]) (M' := M2) rfl ?_
      refine c2_le rfl (fun c => ?_) (fun c => ?_)
      · replace h := h.1 c
        refine wp_sts 1 (pc' := 48) (ls' := [some (.inr (.inr 0)), some (.inl x1)]) (st' := [.inr (.inr 0)]) (M' := M2) rfl ?_
        refine g_getR (j := 69) rfl hS2 rfl (str_r hS2 0 4 69 rfl) (by decide) ?_
        refine wp_sts 1 (pc' := 52) (ls' := [some (.inr (.inr 0)), some (.inl x1)]) (st' := [.inr (.inr 0), .inr (.inr 69)]) (M' := M2) rfl ?_
        refine g_getR (j := t) rfl hS2 rfl hS2.2.2.2.1 (fT (P := fun z => z < 1000) hS.2.2.1 (by decide) (by decide)) ?_
        refine wp_sts 1 (pc' := 56) (ls' := [some (.inr (.inr 0)), some (.inl x1)]) (st' := [.inl x1, .inr (.inr t), .inr (.inr 69)]) (M' := M2) rfl ?_
        obtain ⟨M3, he, hS3, h⟩ := h
        refine g_callV (c := 46) (as := [.inr (.inr 69), .inr (.inr t), .inl x1]) (rs := []) rfl rfl hS2 hd rfl he ?_
        refine wp_sts 1 (pc' := 60) (ls' := [some (.inr (.inr 0)), some (.inl x1)]) (st' := [.inr (.inr 0)]) (M' := M3) rfl ?_
        refine g_getR (j := 69) rfl hS3 rfl (str_r hS3 0 4 69 rfl) (by decide) ?_
        refine g_getI rfl hS3 rfl ?_
        exact wp_ret rfl rfl (z := (some (.inl (M3 69 0)), M3)) rfl h
      · replace h := h.2 c
        refine wp_sts 1 (pc' := 46) (ls' := [some (.inr (.inr 0)), some (.inl x1)]) (st' := [.inl ((-1000000004))]) (M' := M2) rfl ?_
        exact wp_ret rfl rfl (z := (some (.inl ((-1000000004))), M2)) rfl h
    · replace h := h.2 c
      refine wp_sts 1 (pc' := 31) (ls' := [some (.inr (.inr 0)), some (.inl x1)]) (st' := [.inl ((-1000000003))]) (M' := M2) rfl ?_
      exact wp_ret rfl rfl (z := (some (.inl ((-1000000003))), M2)) rfl h
  · replace h := h.2 c
    refine wp_sts 1 (pc' := 13) (ls' := [some (.inr (.inr 0)), some (.inl x1)]) (st' := [.inl ((-1000000001))]) (M' := M1) rfl ?_
    exact wp_ret rfl rfl (z := (some (.inl ((-1000000001))), M1)) rfl h
/- LoneAdjective.act, at 0 -/
theorem b75_0 {d t : Nat}  {x1 : Int} {M : ab_M} {Q : Option ab_V → ab_M → Prop} (hd : 1 ≤ d) (hS : pu_str t M)  (h : ∃ r1 M1, ab_ev (d - 1) 54 [.inr (.inr t), .inl x1] M (some (.inl r1)) M1 ∧ pu_str t M1 ∧ (r1 ≠ 0 → ∃ r2 M2, ab_ev (d - 1) 44 [.inr (.inr 69), .inr (.inr t), .inl x1] M1 (some (.inl r2)) M2 ∧ pu_str t M2 ∧ (r2 ≠ 0 → Q (some (.inl ((-1000000003)))) M2) ∧ (r2 = 0 → (0 ≤ x1 ∧ x1 < 6) ∧ (M2 69 2 = M2 (t + 19) x1.toNat → ∃ M3, ab_ev (d - 1) 47 [.inr (.inr 69), .inr (.inr t), .inl x1] M2 none M3 ∧ pu_str t M3 ∧ Q (some (.inl (M3 69 0))) M3) ∧ (M2 69 2 ≠ M2 (t + 19) x1.toNat → Q (some (.inl ((-1000000003)))) M2))) ∧ (r1 = 0 → Q (some (.inl ((-1000000001)))) M1)) : ab_wp d 75 0 [some (.inr (.inr 0)), some (.inl x1)] [] M Q := by
  refine wp_sts 1 (pc' := 1) (ls' := [some (.inr (.inr 0)), some (.inl x1)]) (st' := [.inr (.inr 0)]) (M' := M) rfl ?_
  refine g_getR (j := t) rfl hS rfl hS.2.2.2.1 (fT (P := fun z => z < 1000) hS.2.2.1 (by decide) (by decide)) ?_
  refine wp_sts 1 (pc' := 5) (ls' := [some (.inr (.inr 0)), some (.inl x1)]) (st' := [.inl x1, .inr (.inr t)]) (M' := M) rfl ?_
  obtain ⟨r1, M1, he, hS1, h⟩ := h
  refine g_callI (c := 54) (as := [.inr (.inr t), .inl x1]) (rs := []) rfl rfl hS hd (fT (P := fun z => ab_argsN (.invokevirtual 174, 1, 54, 2) [.inl x1, .inr (.inr z)] = some (54, [.inr (.inr z), .inl x1], [])) hS.2.2.1 rfl rfl) he ?_
  refine c1_ne rfl (fun c => ?_) (fun c => ?_)
  · replace h := h.1 c
    refine wp_sts 1 (pc' := 15) (ls' := [some (.inr (.inr 0)), some (.inl x1)]) (st' := [.inr (.inr 0)]) (M' := M1) rfl ?_
    refine g_getR (j := 69) rfl hS1 rfl (str_r hS1 0 4 69 rfl) (by decide) ?_
    refine wp_sts 1 (pc' := 19) (ls' := [some (.inr (.inr 0)), some (.inl x1)]) (st' := [.inr (.inr 0), .inr (.inr 69)]) (M' := M1) rfl ?_
    refine g_getR (j := t) rfl hS1 rfl hS1.2.2.2.1 (fT (P := fun z => z < 1000) hS.2.2.1 (by decide) (by decide)) ?_
    refine wp_sts 1 (pc' := 23) (ls' := [some (.inr (.inr 0)), some (.inl x1)]) (st' := [.inl x1, .inr (.inr t), .inr (.inr 69)]) (M' := M1) rfl ?_
    obtain ⟨r2, M2, he, hS2, h⟩ := h
    refine g_callI (c := 44) (as := [.inr (.inr 69), .inr (.inr t), .inl x1]) (rs := []) rfl rfl hS1 hd rfl he ?_
    refine c1_ne rfl (fun c => ?_) (fun c => ?_)
    · replace h := h.1 c
      refine wp_sts 1 (pc' := 50) (ls' := [some (.inr (.inr 0)), some (.inl x1)]) (st' := [.inl ((-1000000003))]) (M' := M2) rfl ?_
      exact wp_ret rfl rfl (z := (some (.inl ((-1000000003))), M2)) rfl h
    · replace h := h.2 c
      refine wp_sts 1 (pc' := 30) (ls' := [some (.inr (.inr 0)), some (.inl x1)]) (st' := [.inr (.inr 0)]) (M' := M2) rfl ?_
      refine g_getR (j := 69) rfl hS2 rfl (str_r hS2 0 4 69 rfl) (by decide) ?_
      refine g_getI rfl hS2 rfl ?_
      refine wp_sts 1 (pc' := 37) (ls' := [some (.inr (.inr 0)), some (.inl x1)]) (st' := [.inr (.inr 0), .inl (M2 69 2)]) (M' := M2) rfl ?_
      refine g_getR (j := t) rfl hS2 rfl hS2.2.2.2.1 (fT (P := fun z => z < 1000) hS.2.2.1 (by decide) (by decide)) ?_
      refine g_getR (j := t + 19) rfl hS2 (fT (P := fun z => pu_bJ 2 z 9 8 = true) hS.2.2.1 rfl rfl) (fT (P := fun z => M2 z 9 = ((z + 19 : Nat) : Int)) hS.2.2.1 (str_r hS2 5 9 24 rfl) (str_r hS2 37 9 56 rfl)) (fT (P := fun z => z + 19 < 1000) hS.2.2.1 (by decide) (by decide)) ?_
      refine wp_sts 1 (pc' := 44) (ls' := [some (.inr (.inr 0)), some (.inl x1)]) (st' := [.inl x1, .inr (.inr (t + 19)), .inl (M2 69 2)]) (M' := M2) rfl ?_
      obtain ⟨hf1, h⟩ := h
      refine g_iald (n := 6) rfl hS2 (fT (P := fun z => ab_arB 20 (z + 19) 6 = true) hS.2.2.1 rfl rfl) hf1 ?_
      refine c2_eq rfl (fun c => ?_) (fun c => ?_)
      · replace h := h.1 c
        refine wp_sts 1 (pc' := 52) (ls' := [some (.inr (.inr 0)), some (.inl x1)]) (st' := [.inr (.inr 0)]) (M' := M2) rfl ?_
        refine g_getR (j := 69) rfl hS2 rfl (str_r hS2 0 4 69 rfl) (by decide) ?_
        refine wp_sts 1 (pc' := 56) (ls' := [some (.inr (.inr 0)), some (.inl x1)]) (st' := [.inr (.inr 0), .inr (.inr 69)]) (M' := M2) rfl ?_
        refine g_getR (j := t) rfl hS2 rfl hS2.2.2.2.1 (fT (P := fun z => z < 1000) hS.2.2.1 (by decide) (by decide)) ?_
        refine wp_sts 1 (pc' := 60) (ls' := [some (.inr (.inr 0)), some (.inl x1)]) (st' := [.inl x1, .inr (.inr t), .inr (.inr 69)]) (M' := M2) rfl ?_
        obtain ⟨M3, he, hS3, h⟩ := h
        refine g_callV (c := 47) (as := [.inr (.inr 69), .inr (.inr t), .inl x1]) (rs := []) rfl rfl hS2 hd rfl he ?_
        refine wp_sts 1 (pc' := 64) (ls' := [some (.inr (.inr 0)), some (.inl x1)]) (st' := [.inr (.inr 0)]) (M' := M3) rfl ?_
        refine g_getR (j := 69) rfl hS3 rfl (str_r hS3 0 4 69 rfl) (by decide) ?_
        refine g_getI rfl hS3 rfl ?_
        exact wp_ret rfl rfl (z := (some (.inl (M3 69 0)), M3)) rfl h
      · replace h := h.2 c
        refine wp_sts 1 (pc' := 50) (ls' := [some (.inr (.inr 0)), some (.inl x1)]) (st' := [.inl ((-1000000003))]) (M' := M2) rfl ?_
        exact wp_ret rfl rfl (z := (some (.inl ((-1000000003))), M2)) rfl h
  · replace h := h.2 c
    refine wp_sts 1 (pc' := 13) (ls' := [some (.inr (.inr 0)), some (.inl x1)]) (st' := [.inl ((-1000000001))]) (M' := M1) rfl ?_
    exact wp_ret rfl rfl (z := (some (.inl ((-1000000001))), M1)) rfl h
/- LoneAdjective.drop, at 0 -/
theorem b76_0 {d t : Nat}   {M : ab_M} {Q : Option ab_V → ab_M → Prop} (hd : 1 ≤ d) (hS : pu_str t M)  (h : Q (some (.inl (M 69 2))) (ab_w M 69 2 ((-1)))) : ab_wp d 76 0 [some (.inr (.inr 0)), none] [] M Q := by
  refine wp_sts 1 (pc' := 1) (ls' := [some (.inr (.inr 0)), none]) (st' := [.inr (.inr 0)]) (M' := M) rfl ?_
  refine g_getR (j := 69) rfl hS rfl (str_r hS 0 4 69 rfl) (by decide) ?_
  refine g_getI rfl hS rfl ?_
  refine wp_sts 2 (pc' := 9) (ls' := [some (.inr (.inr 0)), some (.inl (M 69 2))]) (st' := [.inr (.inr 0)]) (M' := M) rfl ?_
  refine g_getR (j := 69) rfl hS rfl (str_r hS 0 4 69 rfl) (by decide) ?_
  refine wp_sts 1 (pc' := 13) (ls' := [some (.inr (.inr 0)), some (.inl (M 69 2))]) (st' := [.inl ((-1)), .inr (.inr 69)]) (M' := M) rfl ?_
  refine g_putI rfl hS rfl ?_
  refine wp_sts 1 (pc' := 17) (ls' := [some (.inr (.inr 0)), some (.inl (M 69 2))]) (st' := [.inl (M 69 2)]) (M' := (ab_w M 69 2 ((-1)))) rfl ?_
  exact wp_ret rfl rfl (z := (some (.inl (M 69 2)), (ab_w M 69 2 ((-1))))) rfl h
/- LoneAdjective.pass, at 0 -/
theorem b77_0 {d t : Nat}  {x1 : Int} {M : ab_M} {Q : Option ab_V → ab_M → Prop} (hd : 1 ≤ d) (hS : pu_str t M)  (h : (x1 < 1 → Q (some (.inl ((-1000000002)))) M) ∧ (1 ≤ x1 → (x1 ≤ 999 → (M 69 0 ≤ 90000 → ab_rg ((M 69 0) + x1) ∧ Q (some (.inl ((M 69 0) + x1))) (ab_w M 69 0 ((M 69 0) + x1))) ∧ (90000 < M 69 0 → Q (some (.inl ((-1000000004)))) M)) ∧ (999 < x1 → Q (some (.inl ((-1000000002)))) M))) : ab_wp d 77 0 [some (.inr (.inr 0)), some (.inl x1)] [] M Q := by
  refine wp_sts 2 (pc' := 2) (ls' := [some (.inr (.inr 0)), some (.inl x1)]) (st' := [.inl 1, .inl x1]) (M' := M) rfl ?_
  refine c2_lt rfl (fun c => ?_) (fun c => ?_)
  · replace h := h.1 c
    refine wp_sts 1 (pc' := 14) (ls' := [some (.inr (.inr 0)), some (.inl x1)]) (st' := [.inl ((-1000000002))]) (M' := M) rfl ?_
    exact wp_ret rfl rfl (z := (some (.inl ((-1000000002))), M)) rfl h
  · replace h := h.2 c
    refine wp_sts 2 (pc' := 9) (ls' := [some (.inr (.inr 0)), some (.inl x1)]) (st' := [.inl 999, .inl x1]) (M' := M) rfl ?_
    refine c2_le rfl (fun c => ?_) (fun c => ?_)
    · replace h := h.1 c
      refine wp_sts 1 (pc' := 16) (ls' := [some (.inr (.inr 0)), some (.inl x1)]) (st' := [.inr (.inr 0)]) (M' := M) rfl ?_
      refine g_getR (j := 69) rfl hS rfl (str_r hS 0 4 69 rfl) (by decide) ?_
      refine g_getI rfl hS rfl ?_
      refine wp_sts 1 (pc' := 24) (ls' := [some (.inr (.inr 0)), some (.inl x1)]) (st' := [.inl 90000, .inl (M 69 0)]) (M' := M) rfl ?_
      refine c2_le rfl (fun c => ?_) (fun c => ?_)
      · replace h := h.1 c
        refine wp_sts 1 (pc' := 31) (ls' := [some (.inr (.inr 0)), some (.inl x1)]) (st' := [.inr (.inr 0)]) (M' := M) rfl ?_
        refine g_getR (j := 69) rfl hS rfl (str_r hS 0 4 69 rfl) (by decide) ?_
        refine wp_sts 1 (pc' := 35) (ls' := [some (.inr (.inr 0)), some (.inl x1)]) (st' := [.inr (.inr 69), .inr (.inr 69)]) (M' := M) rfl ?_
        refine g_getI rfl hS rfl ?_
        refine wp_sts 1 (pc' := 39) (ls' := [some (.inr (.inr 0)), some (.inl x1)]) (st' := [.inl x1, .inl (M 69 0), .inr (.inr 69)]) (M' := M) rfl ?_
        obtain ⟨hf1, h⟩ := h
        refine w_iadd rfl hf1 ?_
        refine g_putI rfl hS rfl ?_
        refine wp_sts 1 (pc' := 44) (ls' := [some (.inr (.inr 0)), some (.inl x1)]) (st' := [.inr (.inr 0)]) (M' := (ab_w M 69 0 ((M 69 0) + x1))) rfl ?_
        refine g_getR (j := 69) rfl (str_w (k := 69) (f := 0) (v := (M 69 0) + x1) hS rfl) rfl (str_r (str_w (k := 69) (f := 0) (v := (M 69 0) + x1) hS rfl) 0 4 69 rfl) (by decide) ?_
        refine g_getI rfl (str_w (k := 69) (f := 0) (v := (M 69 0) + x1) hS rfl) rfl ?_
        exact wp_ret rfl rfl (z := (some (.inl ((M 69 0) + x1)), (ab_w M 69 0 ((M 69 0) + x1)))) rfl h
      · replace h := h.2 c
        refine wp_sts 1 (pc' := 29) (ls' := [some (.inr (.inr 0)), some (.inl x1)]) (st' := [.inl ((-1000000004))]) (M' := M) rfl ?_
        exact wp_ret rfl rfl (z := (some (.inl ((-1000000004))), M)) rfl h
    · replace h := h.2 c
      refine wp_sts 1 (pc' := 14) (ls' := [some (.inr (.inr 0)), some (.inl x1)]) (st' := [.inl ((-1000000002))]) (M' := M) rfl ?_
      exact wp_ret rfl rfl (z := (some (.inl ((-1000000002))), M)) rfl h
/- LoneAdjective.drift, at 0 -/
theorem b78_0 {d t : Nat}  {x1 : Int} {M : ab_M} {Q : Option ab_V → ab_M → Prop} (hd : 1 ≤ d) (hS : pu_str t M)  (h : (x1 < 1 → Q (some (.inl ((-1000000002)))) M) ∧ (1 ≤ x1 → (x1 ≤ 30 → (M t 2 ≠ 0 → (M 69 0 ≤ 90000 → ab_wp d 78 44 [some (.inr (.inr 0)), some (.inl x1), some (.inl 0)] [] M Q) ∧ (90000 < M 69 0 → Q (some (.inl ((-1000000004)))) M)) ∧ (M t 2 = 0 → Q (some (.inl ((-1000000003)))) M)) ∧ (30 < x1 → Q (some (.inl ((-1000000002)))) M))) : ab_wp d 78 0 [some (.inr (.inr 0)), some (.inl x1), none] [] M Q := by
  refine wp_sts 2 (pc' := 2) (ls' := [some (.inr (.inr 0)), some (.inl x1), none]) (st' := [.inl 1, .inl x1]) (M' := M) rfl ?_
  refine c2_lt rfl (fun c => ?_) (fun c => ?_)
  · replace h := h.1 c
    refine wp_sts 1 (pc' := 13) (ls' := [some (.inr (.inr 0)), some (.inl x1), none]) (st' := [.inl ((-1000000002))]) (M' := M) rfl ?_
    exact wp_ret rfl rfl (z := (some (.inl ((-1000000002))), M)) rfl h
  · replace h := h.2 c
    refine wp_sts 2 (pc' := 8) (ls' := [some (.inr (.inr 0)), some (.inl x1), none]) (st' := [.inl 30, .inl x1]) (M' := M) rfl ?_
    refine c2_le rfl (fun c => ?_) (fun c => ?_)
    · replace h := h.1 c
      refine wp_sts 1 (pc' := 15) (ls' := [some (.inr (.inr 0)), some (.inl x1), none]) (st' := [.inr (.inr 0)]) (M' := M) rfl ?_
      refine g_getR (j := t) rfl hS rfl hS.2.2.2.1 (fT (P := fun z => z < 1000) hS.2.2.1 (by decide) (by decide)) ?_
      refine g_getI rfl hS (fT (P := fun z => pu_bI z 2 8 = true) hS.2.2.1 rfl rfl) ?_
      refine c1_ne rfl (fun c => ?_) (fun c => ?_)
      · replace h := h.1 c
        refine wp_sts 1 (pc' := 28) (ls' := [some (.inr (.inr 0)), some (.inl x1), none]) (st' := [.inr (.inr 0)]) (M' := M) rfl ?_
        refine g_getR (j := 69) rfl hS rfl (str_r hS 0 4 69 rfl) (by decide) ?_
        refine g_getI rfl hS rfl ?_
        refine wp_sts 1 (pc' := 36) (ls' := [some (.inr (.inr 0)), some (.inl x1), none]) (st' := [.inl 90000, .inl (M 69 0)]) (M' := M) rfl ?_
        refine c2_le rfl (fun c => ?_) (fun c => ?_)
        · replace h := h.1 c
          refine wp_sts 2 (pc' := 44) (ls' := [some (.inr (.inr 0)), some (.inl x1), some (.inl 0)]) (st' := []) (M' := M) rfl ?_
          exact h
        · replace h := h.2 c
          refine wp_sts 1 (pc' := 41) (ls' := [some (.inr (.inr 0)), some (.inl x1), none]) (st' := [.inl ((-1000000004))]) (M' := M) rfl ?_
          exact wp_ret rfl rfl (z := (some (.inl ((-1000000004))), M)) rfl h
      · replace h := h.2 c
        refine wp_sts 1 (pc' := 26) (ls' := [some (.inr (.inr 0)), some (.inl x1), none]) (st' := [.inl ((-1000000003))]) (M' := M) rfl ?_
        exact wp_ret rfl rfl (z := (some (.inl ((-1000000003))), M)) rfl h
    · replace h := h.2 c
      refine wp_sts 1 (pc' := 13) (ls' := [some (.inr (.inr 0)), some (.inl x1), none]) (st' := [.inl ((-1000000002))]) (M' := M) rfl ?_
      exact wp_ret rfl rfl (z := (some (.inl ((-1000000002))), M)) rfl h
/- LoneAdjective.drift, at 44 -/
theorem b78_44 {d t : Nat}  {x1 : Int} {x2 : Int} {M : ab_M} {Q : Option ab_V → ab_M → Prop} (hd : 1 ≤ d) (hS : pu_str t M)  (h : (x1 ≤ x2 → Q (some (.inl (M 69 0))) M) ∧ (x2 < x1 → ∃ M1, ab_ev (d - 1) 98 [.inr (.inr 0)] M none M1 ∧ pu_str t M1 ∧ ab_rg (x2 + 1) ∧ ab_wp d 78 44 [some (.inr (.inr 0)), some (.inl x1), some (.inl (x2 + 1))] [] M1 Q)) : ab_wp d 78 44 [some (.inr (.inr 0)), some (.inl x1), some (.inl x2)] [] M Q := by
  refine wp_sts 2 (pc' := 46) (ls' := [some (.inr (.inr 0)), some (.inl x1), some (.inl x2)]) (st' := [.inl x1, .inl x2]) (M' := M) rfl ?_
  refine c2_ge rfl (fun c => ?_) (fun c => ?_)
  · replace h := h.1 c
    refine wp_sts 1 (pc' := 60) (ls' := [some (.inr (.inr 0)), some (.inl x1), some (.inl x2)]) (st' := [.inr (.inr 0)]) (M' := M) rfl ?_
    refine g_getR (j := 69) rfl hS rfl (str_r hS 0 4 69 rfl) (by decide) ?_
    refine g_getI rfl hS rfl ?_
    exact wp_ret rfl rfl (z := (some (.inl (M 69 0)), M)) rfl h
  · replace h := h.2 c
    refine wp_sts 1 (pc' := 50) (ls' := [some (.inr (.inr 0)), some (.inl x1), some (.inl x2)]) (st' := [.inr (.inr 0)]) (M' := M) rfl ?_
    obtain ⟨M1, he, hS1, h⟩ := h
    refine g_callV (c := 98) (as := [.inr (.inr 0)]) (rs := []) rfl rfl hS hd rfl he ?_
    obtain ⟨hf1, h⟩ := h
    refine w_iinc rfl rfl hf1 ?_
    refine wp_sts 1 (pc' := 44) (ls' := [some (.inr (.inr 0)), some (.inl x1), some (.inl (x2 + 1))]) (st' := []) (M' := M1) rfl ?_
    exact h
/- LoneAdjective.round, at 0 -/
theorem b79_0 {d t : Nat}  {x1 : Int} {M : ab_M} {Q : Option ab_V → ab_M → Prop} (hd : 1 ≤ d) (hS : pu_str t M)  (h : ∃ r1 M1, ab_ev (d - 1) 97 [.inr (.inr 0), .inl 0] M (some (.inl r1)) M1 ∧ pu_str t M1 ∧ ∃ M2, ab_ev (d - 1) 1 [.inr (.inr 78), .inr (.inr t), .inl r1, .inl (M1 69 1), .inl (M1 69 0)] M1 none M2 ∧ pu_str t M2 ∧ (x1 ≠ (-1) → (x1 ≠ (-2) → (x1 < 0 → Q (some (.inl ((-1)))) M2) ∧ (0 ≤ x1 → (M2 78 4 ≤ x1 → Q (some (.inl ((-1)))) M2) ∧ (x1 < M2 78 4 → (0 ≤ x1 ∧ x1 < 6) ∧ Q (some (.inl (M2 81 x1.toNat))) M2))) ∧ (x1 = (-2) → Q (some (.inl (M2 78 3))) M2)) ∧ (x1 = (-1) → Q (some (.inl (M2 78 2))) M2)) : ab_wp d 79 0 [some (.inr (.inr 0)), some (.inl x1)] [] M Q := by
  refine wp_sts 1 (pc' := 1) (ls' := [some (.inr (.inr 0)), some (.inl x1)]) (st' := [.inr (.inr 0)]) (M' := M) rfl ?_
  refine g_getR (j := 78) rfl hS rfl (str_r hS 0 8 78 rfl) (by decide) ?_
  refine wp_sts 1 (pc' := 5) (ls' := [some (.inr (.inr 0)), some (.inl x1)]) (st' := [.inr (.inr 0), .inr (.inr 78)]) (M' := M) rfl ?_
  refine g_getR (j := t) rfl hS rfl hS.2.2.2.1 (fT (P := fun z => z < 1000) hS.2.2.1 (by decide) (by decide)) ?_
  refine wp_sts 2 (pc' := 10) (ls' := [some (.inr (.inr 0)), some (.inl x1)]) (st' := [.inl 0, .inr (.inr 0), .inr (.inr t), .inr (.inr 78)]) (M' := M) rfl ?_
  obtain ⟨r1, M1, he, hS1, h⟩ := h
  refine g_callI (c := 97) (as := [.inr (.inr 0), .inl 0]) (rs := [.inr (.inr t), .inr (.inr 78)]) rfl rfl hS hd rfl he ?_
  refine wp_sts 1 (pc' := 14) (ls' := [some (.inr (.inr 0)), some (.inl x1)]) (st' := [.inr (.inr 0), .inl r1, .inr (.inr t), .inr (.inr 78)]) (M' := M1) rfl ?_
  refine g_getR (j := 69) rfl hS1 rfl (str_r hS1 0 4 69 rfl) (by decide) ?_
  refine g_getI rfl hS1 rfl ?_
  refine wp_sts 1 (pc' := 21) (ls' := [some (.inr (.inr 0)), some (.inl x1)]) (st' := [.inr (.inr 0), .inl (M1 69 1), .inl r1, .inr (.inr t), .inr (.inr 78)]) (M' := M1) rfl ?_
  refine g_getR (j := 69) rfl hS1 rfl (str_r hS1 0 4 69 rfl) (by decide) ?_
  refine g_getI rfl hS1 rfl ?_
  obtain ⟨M2, he, hS2, h⟩ := h
  refine g_callV (c := 1) (as := [.inr (.inr 78), .inr (.inr t), .inl r1, .inl (M1 69 1), .inl (M1 69 0)]) (rs := []) rfl rfl hS1 hd rfl he ?_
  refine wp_sts 2 (pc' := 32) (ls' := [some (.inr (.inr 0)), some (.inl x1)]) (st' := [.inl ((-1)), .inl x1]) (M' := M2) rfl ?_
  refine c2_ne rfl (fun c => ?_) (fun c => ?_)
  · replace h := h.1 c
    refine wp_sts 2 (pc' := 46) (ls' := [some (.inr (.inr 0)), some (.inl x1)]) (st' := [.inl ((-2)), .inl x1]) (M' := M2) rfl ?_
    refine c2_ne rfl (fun c => ?_) (fun c => ?_)
    · replace h := h.1 c
      refine wp_sts 1 (pc' := 58) (ls' := [some (.inr (.inr 0)), some (.inl x1)]) (st' := [.inl x1]) (M' := M2) rfl ?_
      refine c1_lt rfl (fun c => ?_) (fun c => ?_)
      · replace h := h.1 c
        refine wp_sts 1 (pc' := 85) (ls' := [some (.inr (.inr 0)), some (.inl x1)]) (st' := [.inl ((-1))]) (M' := M2) rfl ?_
        exact wp_ret rfl rfl (z := (some (.inl ((-1))), M2)) rfl h
      · replace h := h.2 c
        refine wp_sts 2 (pc' := 63) (ls' := [some (.inr (.inr 0)), some (.inl x1)]) (st' := [.inr (.inr 0), .inl x1]) (M' := M2) rfl ?_
        refine g_getR (j := 78) rfl hS2 rfl (str_r hS2 0 8 78 rfl) (by decide) ?_
        refine g_getI rfl hS2 rfl ?_
        refine c2_ge rfl (fun c => ?_) (fun c => ?_)
        · replace h := h.1 c
          refine wp_sts 1 (pc' := 85) (ls' := [some (.inr (.inr 0)), some (.inl x1)]) (st' := [.inl ((-1))]) (M' := M2) rfl ?_
          exact wp_ret rfl rfl (z := (some (.inl ((-1))), M2)) rfl h
        · replace h := h.2 c
          refine wp_sts 1 (pc' := 73) (ls' := [some (.inr (.inr 0)), some (.inl x1)]) (st' := [.inr (.inr 0)]) (M' := M2) rfl ?_
          refine g_getR (j := 78) rfl hS2 rfl (str_r hS2 0 8 78 rfl) (by decide) ?_
          refine g_getR (j := 81) rfl hS2 rfl (str_r hS2 78 5 81 rfl) (by decide) ?_
          refine wp_sts 1 (pc' := 80) (ls' := [some (.inr (.inr 0)), some (.inl x1)]) (st' := [.inl x1, .inr (.inr 81)]) (M' := M2) rfl ?_
          obtain ⟨hf1, h⟩ := h
          refine g_iald (n := 6) rfl hS2 rfl hf1 ?_
          refine wp_sts 1 (pc' := 85) (ls' := [some (.inr (.inr 0)), some (.inl x1)]) (st' := [.inl (M2 81 x1.toNat)]) (M' := M2) rfl ?_
          exact wp_ret rfl rfl (z := (some (.inl (M2 81 x1.toNat)), M2)) rfl h
    · replace h := h.2 c
      refine wp_sts 1 (pc' := 50) (ls' := [some (.inr (.inr 0)), some (.inl x1)]) (st' := [.inr (.inr 0)]) (M' := M2) rfl ?_
      refine g_getR (j := 78) rfl hS2 rfl (str_r hS2 0 8 78 rfl) (by decide) ?_
      refine g_getI rfl hS2 rfl ?_
      exact wp_ret rfl rfl (z := (some (.inl (M2 78 3)), M2)) rfl h
  · replace h := h.2 c
    refine wp_sts 1 (pc' := 36) (ls' := [some (.inr (.inr 0)), some (.inl x1)]) (st' := [.inr (.inr 0)]) (M' := M2) rfl ?_
    refine g_getR (j := 78) rfl hS2 rfl (str_r hS2 0 8 78 rfl) (by decide) ?_
    refine g_getI rfl hS2 rfl ?_
    exact wp_ret rfl rfl (z := (some (.inl (M2 78 2)), M2)) rfl h
/- LoneAdjective.two, at 0 -/
theorem b80_0 {d t : Nat}  {x1 : Int} {M : ab_M} {Q : Option ab_V → ab_M → Prop} (hd : 1 ≤ d) (hS : pu_str t M)  (h : ∃ r1 M1, ab_ev (d - 1) 51 [.inr (.inr t), .inl x1] M (some (.inl r1)) M1 ∧ pu_str t M1 ∧ (r1 ≠ 0 → ∃ r2 M2, ab_ev (d - 1) 97 [.inr (.inr 0), .inl 0] M1 (some (.inl r2)) M2 ∧ pu_str t M2 ∧ ∃ M3, ab_ev (d - 1) 22 [.inr (.inr 82), .inr (.inr t), .inl r2, .inl (M2 69 1), .inl (M2 69 0)] M2 none M3 ∧ pu_str t M3 ∧ ∃ M4, ab_ev (d - 1) 22 [.inr (.inr 86), .inr (.inr t), .inl r2, .inl x1, .inl (M3 69 0)] M3 none M4 ∧ pu_str t M4 ∧ ab_wp d 80 71 [some (.inr (.inr 0)), some (.inl x1), some (.inl r2), some (.inl 0), some (.inl 0)] [] M4 Q) ∧ (r1 = 0 → Q (some (.inl ((-1000000001)))) M1)) : ab_wp d 80 0 [some (.inr (.inr 0)), some (.inl x1), none, none, none] [] M Q := by
  refine wp_sts 1 (pc' := 1) (ls' := [some (.inr (.inr 0)), some (.inl x1), none, none, none]) (st' := [.inr (.inr 0)]) (M' := M) rfl ?_
  refine g_getR (j := t) rfl hS rfl hS.2.2.2.1 (fT (P := fun z => z < 1000) hS.2.2.1 (by decide) (by decide)) ?_
  refine wp_sts 1 (pc' := 5) (ls' := [some (.inr (.inr 0)), some (.inl x1), none, none, none]) (st' := [.inl x1, .inr (.inr t)]) (M' := M) rfl ?_
  obtain ⟨r1, M1, he, hS1, h⟩ := h
  refine g_callI (c := 51) (as := [.inr (.inr t), .inl x1]) (rs := []) rfl rfl hS hd (fT (P := fun z => ab_argsN (.invokevirtual 156, 1, 51, 2) [.inl x1, .inr (.inr z)] = some (51, [.inr (.inr z), .inl x1], [])) hS.2.2.1 rfl rfl) he ?_
  refine c1_ne rfl (fun c => ?_) (fun c => ?_)
  · replace h := h.1 c
    refine wp_sts 2 (pc' := 16) (ls' := [some (.inr (.inr 0)), some (.inl x1), none, none, none]) (st' := [.inl 0, .inr (.inr 0)]) (M' := M1) rfl ?_
    obtain ⟨r2, M2, he, hS2, h⟩ := h
    refine g_callI (c := 97) (as := [.inr (.inr 0), .inl 0]) (rs := []) rfl rfl hS1 hd rfl he ?_
    refine wp_sts 2 (pc' := 21) (ls' := [some (.inr (.inr 0)), some (.inl x1), some (.inl r2), none, none]) (st' := [.inr (.inr 0)]) (M' := M2) rfl ?_
    refine g_getR (j := 82) rfl hS2 rfl (str_r hS2 0 9 82 rfl) (by decide) ?_
    refine wp_sts 1 (pc' := 25) (ls' := [some (.inr (.inr 0)), some (.inl x1), some (.inl r2), none, none]) (st' := [.inr (.inr 0), .inr (.inr 82)]) (M' := M2) rfl ?_
    refine g_getR (j := t) rfl hS2 rfl hS2.2.2.2.1 (fT (P := fun z => z < 1000) hS.2.2.1 (by decide) (by decide)) ?_
    refine wp_sts 2 (pc' := 30) (ls' := [some (.inr (.inr 0)), some (.inl x1), some (.inl r2), none, none]) (st' := [.inr (.inr 0), .inl r2, .inr (.inr t), .inr (.inr 82)]) (M' := M2) rfl ?_
    refine g_getR (j := 69) rfl hS2 rfl (str_r hS2 0 4 69 rfl) (by decide) ?_
    refine g_getI rfl hS2 rfl ?_
    refine wp_sts 1 (pc' := 37) (ls' := [some (.inr (.inr 0)), some (.inl x1), some (.inl r2), none, none]) (st' := [.inr (.inr 0), .inl (M2 69 1), .inl r2, .inr (.inr t), .inr (.inr 82)]) (M' := M2) rfl ?_
    refine g_getR (j := 69) rfl hS2 rfl (str_r hS2 0 4 69 rfl) (by decide) ?_
    refine g_getI rfl hS2 rfl ?_
    obtain ⟨M3, he, hS3, h⟩ := h
    refine g_callV (c := 22) (as := [.inr (.inr 82), .inr (.inr t), .inl r2, .inl (M2 69 1), .inl (M2 69 0)]) (rs := []) rfl rfl hS2 hd rfl he ?_
    refine wp_sts 1 (pc' := 47) (ls' := [some (.inr (.inr 0)), some (.inl x1), some (.inl r2), none, none]) (st' := [.inr (.inr 0)]) (M' := M3) rfl ?_
    refine g_getR (j := 86) rfl hS3 rfl (str_r hS3 0 10 86 rfl) (by decide) ?_
    refine wp_sts 1 (pc' := 51) (ls' := [some (.inr (.inr 0)), some (.inl x1), some (.inl r2), none, none]) (st' := [.inr (.inr 0), .inr (.inr 86)]) (M' := M3) rfl ?_
    refine g_getR (j := t) rfl hS3 rfl hS3.2.2.2.1 (fT (P := fun z => z < 1000) hS.2.2.1 (by decide) (by decide)) ?_
    refine wp_sts 3 (pc' := 57) (ls' := [some (.inr (.inr 0)), some (.inl x1), some (.inl r2), none, none]) (st' := [.inr (.inr 0), .inl x1, .inl r2, .inr (.inr t), .inr (.inr 86)]) (M' := M3) rfl ?_
    refine g_getR (j := 69) rfl hS3 rfl (str_r hS3 0 4 69 rfl) (by decide) ?_
    refine g_getI rfl hS3 rfl ?_
    obtain ⟨M4, he, hS4, h⟩ := h
    refine g_callV (c := 22) (as := [.inr (.inr 86), .inr (.inr t), .inl r2, .inl x1, .inl (M3 69 0)]) (rs := []) rfl rfl hS3 hd rfl he ?_
    refine wp_sts 4 (pc' := 71) (ls' := [some (.inr (.inr 0)), some (.inl x1), some (.inl r2), some (.inl 0), some (.inl 0)]) (st' := []) (M' := M4) rfl ?_
    exact h
  · replace h := h.2 c
    refine wp_sts 1 (pc' := 13) (ls' := [some (.inr (.inr 0)), some (.inl x1), none, none, none]) (st' := [.inl ((-1000000001))]) (M' := M1) rfl ?_
    exact wp_ret rfl rfl (z := (some (.inl ((-1000000001))), M1)) rfl h
/- LoneAdjective.two, at 71 -/
theorem b80_71 {d t : Nat}  {x1 : Int} {x2 : Int} {x3 : Int} {x4 : Int} {M : ab_M} {Q : Option ab_V → ab_M → Prop} (hd : 1 ≤ d) (hS : pu_str t M)  (h : (x2 < x4 → Q (some (.inl x3)) M) ∧ (x4 ≤ x2 → (0 ≤ x4 ∧ x4 < 64) ∧ (M 85 x4.toNat = 0 → ab_rg (x4 + 1) ∧ ab_wp d 80 71 [some (.inr (.inr 0)), some (.inl x1), some (.inl x2), some (.inl x3), some (.inl (x4 + 1))] [] M Q) ∧ (M 85 x4.toNat ≠ 0 → ∃ r1 M1, ab_ev (d - 1) 60 [.inr (.inr t), .inl x4] M (some (.inl r1)) M1 ∧ pu_str t M1 ∧ ∃ r2 M2, ab_ev (d - 1) 100 [.inr (.inr 0), .inl x4, .inl x2] M1 (some (.inl r2)) M2 ∧ pu_str t M2 ∧ ab_rg (r1 + r2) ∧ ab_rg (x4 + 1) ∧ ab_wp d 80 71 [some (.inr (.inr 0)), some (.inl x1), some (.inl x2), some (.inl (if x3 < r1 + r2 then r1 + r2 else x3)), some (.inl (x4 + 1))] [] M2 Q))) : ab_wp d 80 71 [some (.inr (.inr 0)), some (.inl x1), some (.inl x2), some (.inl x3), some (.inl x4)] [] M Q := by
  refine wp_sts 2 (pc' := 74) (ls' := [some (.inr (.inr 0)), some (.inl x1), some (.inl x2), some (.inl x3), some (.inl x4)]) (st' := [.inl x2, .inl x4]) (M' := M) rfl ?_
  refine c2_gt rfl (fun c => ?_) (fun c => ?_)
  · replace h := h.1 c
    refine wp_sts 1 (pc' := 119) (ls' := [some (.inr (.inr 0)), some (.inl x1), some (.inl x2), some (.inl x3), some (.inl x4)]) (st' := [.inl x3]) (M' := M) rfl ?_
    exact wp_ret rfl rfl (z := (some (.inl x3), M)) rfl h
  · replace h := h.2 c
    refine wp_sts 1 (pc' := 78) (ls' := [some (.inr (.inr 0)), some (.inl x1), some (.inl x2), some (.inl x3), some (.inl x4)]) (st' := [.inr (.inr 0)]) (M' := M) rfl ?_
    refine g_getR (j := 82) rfl hS rfl (str_r hS 0 9 82 rfl) (by decide) ?_
    refine g_getR (j := 85) rfl hS rfl (str_r hS 82 2 85 rfl) (by decide) ?_
    refine wp_sts 1 (pc' := 86) (ls' := [some (.inr (.inr 0)), some (.inl x1), some (.inl x2), some (.inl x3), some (.inl x4)]) (st' := [.inl x4, .inr (.inr 85)]) (M' := M) rfl ?_
    obtain ⟨hf1, h⟩ := h
    refine g_bald (n := 64) rfl hS rfl hf1 ?_
    refine c1_eq rfl (fun c => ?_) (fun c => ?_)
    · replace h := h.1 c
      obtain ⟨hf2, h⟩ := h
      refine w_iinc rfl rfl hf2 ?_
      refine wp_sts 1 (pc' := 71) (ls' := [some (.inr (.inr 0)), some (.inl x1), some (.inl x2), some (.inl x3), some (.inl (x4 + 1))]) (st' := []) (M' := M) rfl ?_
      exact h
    · replace h := h.2 c
      refine wp_sts 2 (pc' := 92) (ls' := [some (.inr (.inr 0)), some (.inl x1), some (.inl x2), some (.inl x3), some (.inl x4)]) (st' := [.inr (.inr 0), .inl x3]) (M' := M) rfl ?_
      refine g_getR (j := t) rfl hS rfl hS.2.2.2.1 (fT (P := fun z => z < 1000) hS.2.2.1 (by decide) (by decide)) ?_
      refine wp_sts 1 (pc' := 97) (ls' := [some (.inr (.inr 0)), some (.inl x1), some (.inl x2), some (.inl x3), some (.inl x4)]) (st' := [.inl x4, .inr (.inr t), .inl x3]) (M' := M) rfl ?_
      obtain ⟨r1, M1, he, hS1, h⟩ := h
      refine g_callI (c := 60) (as := [.inr (.inr t), .inl x4]) (rs := [.inl x3]) rfl rfl hS hd (fT (P := fun z => ab_argsN (.invokevirtual 153, 1, 60, 2) [.inl x4, .inr (.inr z), .inl x3] = some (60, [.inr (.inr z), .inl x4], [.inl x3])) hS.2.2.1 rfl rfl) he ?_
      refine wp_sts 3 (pc' := 104) (ls' := [some (.inr (.inr 0)), some (.inl x1), some (.inl x2), some (.inl x3), some (.inl x4)]) (st' := [.inl x2, .inl x4, .inr (.inr 0), .inl r1, .inl x3]) (M' := M1) rfl ?_
      obtain ⟨r2, M2, he, hS2, h⟩ := h
      refine g_callI (c := 100) (as := [.inr (.inr 0), .inl x4, .inl x2]) (rs := [.inl r1, .inl x3]) rfl rfl hS1 hd rfl he ?_
      obtain ⟨hf2, h⟩ := h
      refine w_iadd rfl hf2 ?_
      refine wp_sts 1 rfl ?_
      refine wp_sts 1 (pc' := 112) (ls' := [some (.inr (.inr 0)), some (.inl x1), some (.inl x2), some (.inl (if x3 < r1 + r2 then r1 + r2 else x3)), some (.inl x4)]) (st' := []) (M' := M2) rfl ?_
      obtain ⟨hf3, h⟩ := h
      refine w_iinc rfl rfl hf3 ?_
      refine wp_sts 1 (pc' := 71) (ls' := [some (.inr (.inr 0)), some (.inl x1), some (.inl x2), some (.inl (if x3 < r1 + r2 then r1 + r2 else x3)), some (.inl (x4 + 1))]) (st' := []) (M' := M2) rfl ?_
      exact h
/- LoneAdjective.reword, at 0 -/
theorem b81_0 {d t : Nat}  {x1 : Int} {M : ab_M} {Q : Option ab_V → ab_M → Prop} (hd : 1 ≤ d) (hS : pu_str t M)  (h : (x1 < 0 → Q (some (.inl ((-1000000002)))) M) ∧ (0 ≤ x1 → (x1 ≤ 1 → ∃ r1 M1, ab_ev (d - 1) 97 [.inr (.inr 0), .inl 0] M (some (.inl r1)) M1 ∧ pu_str t M1 ∧ ∃ M2, ab_ev (d - 1) 22 [.inr (.inr 82), .inr (.inr t), .inl r1, .inl (M1 69 1), .inl (M1 69 0)] M1 none M2 ∧ pu_str t M2 ∧ ab_wp d 81 52 [some (.inr (.inr 0)), some (.inl x1), some (.inl r1), some (.inl ((-1))), some (.inl ((-1))), some (.inl 0), none] [] M2 Q) ∧ (1 < x1 → Q (some (.inl ((-1000000002)))) M))) : ab_wp d 81 0 [some (.inr (.inr 0)), some (.inl x1), none, none, none, none, none] [] M Q := by
  refine wp_sts 1 (pc' := 1) (ls' := [some (.inr (.inr 0)), some (.inl x1), none, none, none, none, none]) (st' := [.inl x1]) (M' := M) rfl ?_
  refine c1_lt rfl (fun c => ?_) (fun c => ?_)
  · replace h := h.1 c
    refine wp_sts 1 (pc' := 11) (ls' := [some (.inr (.inr 0)), some (.inl x1), none, none, none, none, none]) (st' := [.inl ((-1000000002))]) (M' := M) rfl ?_
    exact wp_ret rfl rfl (z := (some (.inl ((-1000000002))), M)) rfl h
  · replace h := h.2 c
    refine wp_sts 2 (pc' := 6) (ls' := [some (.inr (.inr 0)), some (.inl x1), none, none, none, none, none]) (st' := [.inl 1, .inl x1]) (M' := M) rfl ?_
    refine c2_le rfl (fun c => ?_) (fun c => ?_)
    · replace h := h.1 c
      refine wp_sts 2 (pc' := 14) (ls' := [some (.inr (.inr 0)), some (.inl x1), none, none, none, none, none]) (st' := [.inl 0, .inr (.inr 0)]) (M' := M) rfl ?_
      obtain ⟨r1, M1, he, hS1, h⟩ := h
      refine g_callI (c := 97) (as := [.inr (.inr 0), .inl 0]) (rs := []) rfl rfl hS hd rfl he ?_
      refine wp_sts 2 (pc' := 19) (ls' := [some (.inr (.inr 0)), some (.inl x1), some (.inl r1), none, none, none, none]) (st' := [.inr (.inr 0)]) (M' := M1) rfl ?_
      refine g_getR (j := 82) rfl hS1 rfl (str_r hS1 0 9 82 rfl) (by decide) ?_
      refine wp_sts 1 (pc' := 23) (ls' := [some (.inr (.inr 0)), some (.inl x1), some (.inl r1), none, none, none, none]) (st' := [.inr (.inr 0), .inr (.inr 82)]) (M' := M1) rfl ?_
      refine g_getR (j := t) rfl hS1 rfl hS1.2.2.2.1 (fT (P := fun z => z < 1000) hS.2.2.1 (by decide) (by decide)) ?_
      refine wp_sts 2 (pc' := 28) (ls' := [some (.inr (.inr 0)), some (.inl x1), some (.inl r1), none, none, none, none]) (st' := [.inr (.inr 0), .inl r1, .inr (.inr t), .inr (.inr 82)]) (M' := M1) rfl ?_
      refine g_getR (j := 69) rfl hS1 rfl (str_r hS1 0 4 69 rfl) (by decide) ?_
      refine g_getI rfl hS1 rfl ?_
      refine wp_sts 1 (pc' := 35) (ls' := [some (.inr (.inr 0)), some (.inl x1), some (.inl r1), none, none, none, none]) (st' := [.inr (.inr 0), .inl (M1 69 1), .inl r1, .inr (.inr t), .inr (.inr 82)]) (M' := M1) rfl ?_
      refine g_getR (j := 69) rfl hS1 rfl (str_r hS1 0 4 69 rfl) (by decide) ?_
      refine g_getI rfl hS1 rfl ?_
      obtain ⟨M2, he, hS2, h⟩ := h
      refine g_callV (c := 22) (as := [.inr (.inr 82), .inr (.inr t), .inl r1, .inl (M1 69 1), .inl (M1 69 0)]) (rs := []) rfl rfl hS1 hd rfl he ?_
      refine wp_sts 6 (pc' := 52) (ls' := [some (.inr (.inr 0)), some (.inl x1), some (.inl r1), some (.inl ((-1))), some (.inl ((-1))), some (.inl 0), none]) (st' := []) (M' := M2) rfl ?_
      exact h
    · replace h := h.2 c
      refine wp_sts 1 (pc' := 11) (ls' := [some (.inr (.inr 0)), some (.inl x1), none, none, none, none, none]) (st' := [.inl ((-1000000002))]) (M' := M) rfl ?_
      exact wp_ret rfl rfl (z := (some (.inl ((-1000000002))), M)) rfl h
/- LoneAdjective.reword, at 52 -/
theorem b81_52 {d t : Nat}  {x1 : Int} {x2 : Int} {x3 : Int} {x4 : Int} {x5 : Int} {y6 : Option ab_V} {M : ab_M} {Q : Option ab_V → ab_M → Prop} (hd : 1 ≤ d) (hS : pu_str t M)  (h : (x2 < x5 → (x1 ≠ 0 → Q (some (.inl x4)) M) ∧ (x1 = 0 → Q (some (.inl x3)) M)) ∧ (x5 ≤ x2 → (ab_and x5 (ab_xor x2 ((-1))) ≠ 0 → ab_wp d 81 97 [some (.inr (.inr 0)), some (.inl x1), some (.inl x2), some (.inl x3), some (.inl x4), some (.inl x5), y6] [.inl ((-1))] M Q) ∧ (ab_and x5 (ab_xor x2 ((-1))) = 0 → (0 ≤ ab_and x2 (ab_xor x5 ((-1))) ∧ ab_and x2 (ab_xor x5 ((-1))) < 64) ∧ (M 85 (ab_and x2 (ab_xor x5 ((-1)))).toNat = 0 → ab_wp d 81 97 [some (.inr (.inr 0)), some (.inl x1), some (.inl x2), some (.inl x3), some (.inl x4), some (.inl x5), y6] [.inl ((-1))] M Q) ∧ (M 85 (ab_and x2 (ab_xor x5 ((-1)))).toNat ≠ 0 → ∃ r1 M1, ab_ev (d - 1) 61 [.inr (.inr t), .inl x5] M (some (.inl r1)) M1 ∧ pu_str t M1 ∧ ab_wp d 81 97 [some (.inr (.inr 0)), some (.inl x1), some (.inl x2), some (.inl x3), some (.inl x4), some (.inl x5), y6] [.inl r1] M1 Q)))) : ab_wp d 81 52 [some (.inr (.inr 0)), some (.inl x1), some (.inl x2), some (.inl x3), some (.inl x4), some (.inl x5), y6] [] M Q := by
  refine wp_sts 2 (pc' := 55) (ls' := [some (.inr (.inr 0)), some (.inl x1), some (.inl x2), some (.inl x3), some (.inl x4), some (.inl x5), y6]) (st' := [.inl x2, .inl x5]) (M' := M) rfl ?_
  refine c2_gt rfl (fun c => ?_) (fun c => ?_)
  · replace h := h.1 c
    refine wp_sts 1 (pc' := 132) (ls' := [some (.inr (.inr 0)), some (.inl x1), some (.inl x2), some (.inl x3), some (.inl x4), some (.inl x5), y6]) (st' := [.inl x1]) (M' := M) rfl ?_
    refine c1_ne rfl (fun c => ?_) (fun c => ?_)
    · replace h := h.1 c
      refine wp_sts 1 (pc' := 141) (ls' := [some (.inr (.inr 0)), some (.inl x1), some (.inl x2), some (.inl x3), some (.inl x4), some (.inl x5), y6]) (st' := [.inl x4]) (M' := M) rfl ?_
      exact wp_ret rfl rfl (z := (some (.inl x4), M)) rfl h
    · replace h := h.2 c
      refine wp_sts 2 (pc' := 141) (ls' := [some (.inr (.inr 0)), some (.inl x1), some (.inl x2), some (.inl x3), some (.inl x4), some (.inl x5), y6]) (st' := [.inl x3]) (M' := M) rfl ?_
      exact wp_ret rfl rfl (z := (some (.inl x3), M)) rfl h
  · replace h := h.2 c
    refine wp_sts 5 (pc' := 64) (ls' := [some (.inr (.inr 0)), some (.inl x1), some (.inl x2), some (.inl x3), some (.inl x4), some (.inl x5), y6]) (st' := [.inl (ab_and x5 (ab_xor x2 ((-1))))]) (M' := M) rfl ?_
    refine c1_ne rfl (fun c => ?_) (fun c => ?_)
    · replace h := h.1 c
      refine wp_sts 1 (pc' := 97) (ls' := [some (.inr (.inr 0)), some (.inl x1), some (.inl x2), some (.inl x3), some (.inl x4), some (.inl x5), y6]) (st' := [.inl ((-1))]) (M' := M) rfl ?_
      exact h
    · replace h := h.2 c
      refine wp_sts 1 (pc' := 68) (ls' := [some (.inr (.inr 0)), some (.inl x1), some (.inl x2), some (.inl x3), some (.inl x4), some (.inl x5), y6]) (st' := [.inr (.inr 0)]) (M' := M) rfl ?_
      refine g_getR (j := 82) rfl hS rfl (str_r hS 0 9 82 rfl) (by decide) ?_
      refine g_getR (j := 85) rfl hS rfl (str_r hS 82 2 85 rfl) (by decide) ?_
      refine wp_sts 5 (pc' := 80) (ls' := [some (.inr (.inr 0)), some (.inl x1), some (.inl x2), some (.inl x3), some (.inl x4), some (.inl x5), y6]) (st' := [.inl (ab_and x2 (ab_xor x5 ((-1)))), .inr (.inr 85)]) (M' := M) rfl ?_
      obtain ⟨hf1, h⟩ := h
      refine g_bald (n := 64) rfl hS rfl hf1 ?_
      refine c1_eq rfl (fun c => ?_) (fun c => ?_)
      · replace h := h.1 c
        refine wp_sts 1 (pc' := 97) (ls' := [some (.inr (.inr 0)), some (.inl x1), some (.inl x2), some (.inl x3), some (.inl x4), some (.inl x5), y6]) (st' := [.inl ((-1))]) (M' := M) rfl ?_
        exact h
      · replace h := h.2 c
        refine wp_sts 1 (pc' := 85) (ls' := [some (.inr (.inr 0)), some (.inl x1), some (.inl x2), some (.inl x3), some (.inl x4), some (.inl x5), y6]) (st' := [.inr (.inr 0)]) (M' := M) rfl ?_
        refine g_getR (j := t) rfl hS rfl hS.2.2.2.1 (fT (P := fun z => z < 1000) hS.2.2.1 (by decide) (by decide)) ?_
        refine wp_sts 1 (pc' := 90) (ls' := [some (.inr (.inr 0)), some (.inl x1), some (.inl x2), some (.inl x3), some (.inl x4), some (.inl x5), y6]) (st' := [.inl x5, .inr (.inr t)]) (M' := M) rfl ?_
        obtain ⟨r1, M1, he, hS1, h⟩ := h
        refine g_callI (c := 61) (as := [.inr (.inr t), .inl x5]) (rs := []) rfl rfl hS hd (fT (P := fun z => ab_argsN (.invokevirtual 257, 1, 61, 2) [.inl x5, .inr (.inr z)] = some (61, [.inr (.inr z), .inl x5], [])) hS.2.2.1 rfl rfl) he ?_
        refine wp_sts 1 (pc' := 97) (ls' := [some (.inr (.inr 0)), some (.inl x1), some (.inl x2), some (.inl x3), some (.inl x4), some (.inl x5), y6]) (st' := [.inl r1]) (M' := M1) rfl ?_
        exact h
/- LoneAdjective.reword, at 97 -/
theorem b81_97 {d t : Nat}  {x1 : Int} {x2 : Int} {x3 : Int} {x4 : Int} {x5 : Int} {y6 : Option ab_V} {x100 : Int} {M : ab_M} {Q : Option ab_V → ab_M → Prop} (hd : 1 ≤ d) (hS : pu_str t M)  (h : (x100 = (-1) → ab_rg (x5 + 1) ∧ ab_wp d 81 52 [some (.inr (.inr 0)), some (.inl x1), some (.inl x2), some (.inl x3), some (.inl x4), some (.inl (x5 + 1)), some (.inl x100)] [] M Q) ∧ (x100 ≠ (-1) → (x4 = (-1) → ab_rg (x5 + 1) ∧ ab_wp d 81 52 [some (.inr (.inr 0)), some (.inl x1), some (.inl x2), some (.inl x5), some (.inl x100), some (.inl (x5 + 1)), some (.inl x100)] [] M Q) ∧ (x4 ≠ (-1) → (x4 ≤ x100 → ab_rg (x5 + 1) ∧ ab_wp d 81 52 [some (.inr (.inr 0)), some (.inl x1), some (.inl x2), some (.inl x3), some (.inl x4), some (.inl (x5 + 1)), some (.inl x100)] [] M Q) ∧ (x100 < x4 → ab_rg (x5 + 1) ∧ ab_wp d 81 52 [some (.inr (.inr 0)), some (.inl x1), some (.inl x2), some (.inl x5), some (.inl x100), some (.inl (x5 + 1)), some (.inl x100)] [] M Q)))) : ab_wp d 81 97 [some (.inr (.inr 0)), some (.inl x1), some (.inl x2), some (.inl x3), some (.inl x4), some (.inl x5), y6] [.inl x100] M Q := by
  refine wp_sts 3 (pc' := 102) (ls' := [some (.inr (.inr 0)), some (.inl x1), some (.inl x2), some (.inl x3), some (.inl x4), some (.inl x5), some (.inl x100)]) (st' := [.inl ((-1)), .inl x100]) (M' := M) rfl ?_
  refine c2_eq rfl (fun c => ?_) (fun c => ?_)
  · replace h := h.1 c
    obtain ⟨hf1, h⟩ := h
    refine w_iinc rfl rfl hf1 ?_
    refine wp_sts 1 (pc' := 52) (ls' := [some (.inr (.inr 0)), some (.inl x1), some (.inl x2), some (.inl x3), some (.inl x4), some (.inl (x5 + 1)), some (.inl x100)]) (st' := []) (M' := M) rfl ?_
    exact h
  · replace h := h.2 c
    refine wp_sts 2 (pc' := 108) (ls' := [some (.inr (.inr 0)), some (.inl x1), some (.inl x2), some (.inl x3), some (.inl x4), some (.inl x5), some (.inl x100)]) (st' := [.inl ((-1)), .inl x4]) (M' := M) rfl ?_
    refine c2_eq rfl (fun c => ?_) (fun c => ?_)
    · replace h := h.1 c
      refine wp_sts 4 (pc' := 125) (ls' := [some (.inr (.inr 0)), some (.inl x1), some (.inl x2), some (.inl x5), some (.inl x100), some (.inl x5), some (.inl x100)]) (st' := []) (M' := M) rfl ?_
      obtain ⟨hf1, h⟩ := h
      refine w_iinc rfl rfl hf1 ?_
      refine wp_sts 1 (pc' := 52) (ls' := [some (.inr (.inr 0)), some (.inl x1), some (.inl x2), some (.inl x5), some (.inl x100), some (.inl (x5 + 1)), some (.inl x100)]) (st' := []) (M' := M) rfl ?_
      exact h
    · replace h := h.2 c
      refine wp_sts 2 (pc' := 115) (ls' := [some (.inr (.inr 0)), some (.inl x1), some (.inl x2), some (.inl x3), some (.inl x4), some (.inl x5), some (.inl x100)]) (st' := [.inl x4, .inl x100]) (M' := M) rfl ?_
      refine c2_ge rfl (fun c => ?_) (fun c => ?_)
      · replace h := h.1 c
        obtain ⟨hf1, h⟩ := h
        refine w_iinc rfl rfl hf1 ?_
        refine wp_sts 1 (pc' := 52) (ls' := [some (.inr (.inr 0)), some (.inl x1), some (.inl x2), some (.inl x3), some (.inl x4), some (.inl (x5 + 1)), some (.inl x100)]) (st' := []) (M' := M) rfl ?_
        exact h
      · replace h := h.2 c
        refine wp_sts 4 (pc' := 125) (ls' := [some (.inr (.inr 0)), some (.inl x1), some (.inl x2), some (.inl x5), some (.inl x100), some (.inl x5), some (.inl x100)]) (st' := []) (M' := M) rfl ?_
        obtain ⟨hf1, h⟩ := h
        refine w_iinc rfl rfl hf1 ?_
        refine wp_sts 1 (pc' := 52) (ls' := [some (.inr (.inr 0)), some (.inl x1), some (.inl x2), some (.inl x5), some (.inl x100), some (.inl (x5 + 1)), some (.inl x100)]) (st' := []) (M' := M) rfl ?_
        exact h
/- LoneAdjective.chain, at 0 -/
theorem b82_0 {d t : Nat}  {x1 : Int} {x2 : Int} {x3 : Int} {M : ab_M} {Q : Option ab_V → ab_M → Prop} (hd : 1 ≤ d) (hS : pu_str t M)  (h : ∃ r1 M1, ab_ev (d - 1) 53 [.inr (.inr t), .inl x1, .inl x2] M (some (.inl r1)) M1 ∧ pu_str t M1 ∧ (r1 ≠ 0 → (x3 < 0 → Q (some (.inl ((-1000000002)))) M1) ∧ (0 ≤ x3 → (x3 ≤ 1 → ∃ M2, ab_ev (d - 1) 4 [.inr (.inr 95), .inr (.inr t), .inl x1] M1 none M2 ∧ pu_str t M2 ∧ (x3 ≠ 0 → (0 ≤ x2 ∧ x2 < 6) ∧ Q (some (.inl (M2 97 x2.toNat))) M2) ∧ (x3 = 0 → (0 ≤ x2 ∧ x2 < 6) ∧ Q (some (.inl (M2 96 x2.toNat))) M2)) ∧ (1 < x3 → Q (some (.inl ((-1000000002)))) M1))) ∧ (r1 = 0 → Q (some (.inl ((-1000000001)))) M1)) : ab_wp d 82 0 [some (.inr (.inr 0)), some (.inl x1), some (.inl x2), some (.inl x3)] [] M Q := by
  refine wp_sts 1 (pc' := 1) (ls' := [some (.inr (.inr 0)), some (.inl x1), some (.inl x2), some (.inl x3)]) (st' := [.inr (.inr 0)]) (M' := M) rfl ?_
  refine g_getR (j := t) rfl hS rfl hS.2.2.2.1 (fT (P := fun z => z < 1000) hS.2.2.1 (by decide) (by decide)) ?_
  refine wp_sts 2 (pc' := 6) (ls' := [some (.inr (.inr 0)), some (.inl x1), some (.inl x2), some (.inl x3)]) (st' := [.inl x2, .inl x1, .inr (.inr t)]) (M' := M) rfl ?_
  obtain ⟨r1, M1, he, hS1, h⟩ := h
  refine g_callI (c := 53) (as := [.inr (.inr t), .inl x1, .inl x2]) (rs := []) rfl rfl hS hd (fT (P := fun z => ab_argsN (.invokevirtual 199, 1, 53, 3) [.inl x2, .inl x1, .inr (.inr z)] = some (53, [.inr (.inr z), .inl x1, .inl x2], [])) hS.2.2.1 rfl rfl) he ?_
  refine c1_ne rfl (fun c => ?_) (fun c => ?_)
  · replace h := h.1 c
    refine wp_sts 1 (pc' := 16) (ls' := [some (.inr (.inr 0)), some (.inl x1), some (.inl x2), some (.inl x3)]) (st' := [.inl x3]) (M' := M1) rfl ?_
    refine c1_lt rfl (fun c => ?_) (fun c => ?_)
    · replace h := h.1 c
      refine wp_sts 1 (pc' := 26) (ls' := [some (.inr (.inr 0)), some (.inl x1), some (.inl x2), some (.inl x3)]) (st' := [.inl ((-1000000002))]) (M' := M1) rfl ?_
      exact wp_ret rfl rfl (z := (some (.inl ((-1000000002))), M1)) rfl h
    · replace h := h.2 c
      refine wp_sts 2 (pc' := 21) (ls' := [some (.inr (.inr 0)), some (.inl x1), some (.inl x2), some (.inl x3)]) (st' := [.inl 1, .inl x3]) (M' := M1) rfl ?_
      refine c2_le rfl (fun c => ?_) (fun c => ?_)
      · replace h := h.1 c
        refine wp_sts 1 (pc' := 28) (ls' := [some (.inr (.inr 0)), some (.inl x1), some (.inl x2), some (.inl x3)]) (st' := [.inr (.inr 0)]) (M' := M1) rfl ?_
        refine g_getR (j := 95) rfl hS1 rfl (str_r hS1 0 12 95 rfl) (by decide) ?_
        refine wp_sts 1 (pc' := 32) (ls' := [some (.inr (.inr 0)), some (.inl x1), some (.inl x2), some (.inl x3)]) (st' := [.inr (.inr 0), .inr (.inr 95)]) (M' := M1) rfl ?_
        refine g_getR (j := t) rfl hS1 rfl hS1.2.2.2.1 (fT (P := fun z => z < 1000) hS.2.2.1 (by decide) (by decide)) ?_
        refine wp_sts 1 (pc' := 36) (ls' := [some (.inr (.inr 0)), some (.inl x1), some (.inl x2), some (.inl x3)]) (st' := [.inl x1, .inr (.inr t), .inr (.inr 95)]) (M' := M1) rfl ?_
        obtain ⟨M2, he, hS2, h⟩ := h
        refine g_callV (c := 4) (as := [.inr (.inr 95), .inr (.inr t), .inl x1]) (rs := []) rfl rfl hS1 hd rfl he ?_
        refine wp_sts 1 (pc' := 40) (ls' := [some (.inr (.inr 0)), some (.inl x1), some (.inl x2), some (.inl x3)]) (st' := [.inl x3]) (M' := M2) rfl ?_
        refine c1_ne rfl (fun c => ?_) (fun c => ?_)
        · replace h := h.1 c
          refine wp_sts 1 (pc' := 56) (ls' := [some (.inr (.inr 0)), some (.inl x1), some (.inl x2), some (.inl x3)]) (st' := [.inr (.inr 0)]) (M' := M2) rfl ?_
          refine g_getR (j := 95) rfl hS2 rfl (str_r hS2 0 12 95 rfl) (by decide) ?_
          refine g_getR (j := 97) rfl hS2 rfl (str_r hS2 95 1 97 rfl) (by decide) ?_
          refine wp_sts 1 (pc' := 63) (ls' := [some (.inr (.inr 0)), some (.inl x1), some (.inl x2), some (.inl x3)]) (st' := [.inl x2, .inr (.inr 97)]) (M' := M2) rfl ?_
          obtain ⟨hf1, h⟩ := h
          refine g_iald (n := 6) rfl hS2 rfl hf1 ?_
          exact wp_ret rfl rfl (z := (some (.inl (M2 97 x2.toNat)), M2)) rfl h
        · replace h := h.2 c
          refine wp_sts 1 (pc' := 44) (ls' := [some (.inr (.inr 0)), some (.inl x1), some (.inl x2), some (.inl x3)]) (st' := [.inr (.inr 0)]) (M' := M2) rfl ?_
          refine g_getR (j := 95) rfl hS2 rfl (str_r hS2 0 12 95 rfl) (by decide) ?_
          refine g_getR (j := 96) rfl hS2 rfl (str_r hS2 95 0 96 rfl) (by decide) ?_
          refine wp_sts 1 (pc' := 51) (ls' := [some (.inr (.inr 0)), some (.inl x1), some (.inl x2), some (.inl x3)]) (st' := [.inl x2, .inr (.inr 96)]) (M' := M2) rfl ?_
          obtain ⟨hf1, h⟩ := h
          refine g_iald (n := 6) rfl hS2 rfl hf1 ?_
          refine wp_sts 1 (pc' := 64) (ls' := [some (.inr (.inr 0)), some (.inl x1), some (.inl x2), some (.inl x3)]) (st' := [.inl (M2 96 x2.toNat)]) (M' := M2) rfl ?_
          exact wp_ret rfl rfl (z := (some (.inl (M2 96 x2.toNat)), M2)) rfl h
      · replace h := h.2 c
        refine wp_sts 1 (pc' := 26) (ls' := [some (.inr (.inr 0)), some (.inl x1), some (.inl x2), some (.inl x3)]) (st' := [.inl ((-1000000002))]) (M' := M1) rfl ?_
        exact wp_ret rfl rfl (z := (some (.inl ((-1000000002))), M1)) rfl h
  · replace h := h.2 c
    refine wp_sts 1 (pc' := 14) (ls' := [some (.inr (.inr 0)), some (.inl x1), some (.inl x2), some (.inl x3)]) (st' := [.inl ((-1000000001))]) (M' := M1) rfl ?_
    exact wp_ret rfl rfl (z := (some (.inl ((-1000000001))), M1)) rfl h
/- LoneAdjective.lost, at 0 -/
theorem b83_0 {d t : Nat}  {x1 : Int} {M : ab_M} {Q : Option ab_V → ab_M → Prop} (hd : 1 ≤ d) (hS : pu_str t M)  (h : ∃ r1 M1, ab_ev (d - 1) 52 [.inr (.inr t), .inl x1] M (some (.inl r1)) M1 ∧ pu_str t M1 ∧ (r1 ≠ 0 → ∃ M2, ab_ev (d - 1) 4 [.inr (.inr 95), .inr (.inr t), .inl x1] M1 none M2 ∧ pu_str t M2 ∧ ab_wp d 83 30 [some (.inr (.inr 0)), some (.inl x1), some (.inl 0), some (.inl 0)] [] M2 Q) ∧ (r1 = 0 → Q (some (.inl ((-1000000001)))) M1)) : ab_wp d 83 0 [some (.inr (.inr 0)), some (.inl x1), none, none] [] M Q := by
  refine wp_sts 1 (pc' := 1) (ls' := [some (.inr (.inr 0)), some (.inl x1), none, none]) (st' := [.inr (.inr 0)]) (M' := M) rfl ?_
  refine g_getR (j := t) rfl hS rfl hS.2.2.2.1 (fT (P := fun z => z < 1000) hS.2.2.1 (by decide) (by decide)) ?_
  refine wp_sts 1 (pc' := 5) (ls' := [some (.inr (.inr 0)), some (.inl x1), none, none]) (st' := [.inl x1, .inr (.inr t)]) (M' := M) rfl ?_
  obtain ⟨r1, M1, he, hS1, h⟩ := h
  refine g_callI (c := 52) (as := [.inr (.inr t), .inl x1]) (rs := []) rfl rfl hS hd (fT (P := fun z => ab_argsN (.invokevirtual 165, 1, 52, 2) [.inl x1, .inr (.inr z)] = some (52, [.inr (.inr z), .inl x1], [])) hS.2.2.1 rfl rfl) he ?_
  refine c1_ne rfl (fun c => ?_) (fun c => ?_)
  · replace h := h.1 c
    refine wp_sts 1 (pc' := 15) (ls' := [some (.inr (.inr 0)), some (.inl x1), none, none]) (st' := [.inr (.inr 0)]) (M' := M1) rfl ?_
    refine g_getR (j := 95) rfl hS1 rfl (str_r hS1 0 12 95 rfl) (by decide) ?_
    refine wp_sts 1 (pc' := 19) (ls' := [some (.inr (.inr 0)), some (.inl x1), none, none]) (st' := [.inr (.inr 0), .inr (.inr 95)]) (M' := M1) rfl ?_
    refine g_getR (j := t) rfl hS1 rfl hS1.2.2.2.1 (fT (P := fun z => z < 1000) hS.2.2.1 (by decide) (by decide)) ?_
    refine wp_sts 1 (pc' := 23) (ls' := [some (.inr (.inr 0)), some (.inl x1), none, none]) (st' := [.inl x1, .inr (.inr t), .inr (.inr 95)]) (M' := M1) rfl ?_
    obtain ⟨M2, he, hS2, h⟩ := h
    refine g_callV (c := 4) (as := [.inr (.inr 95), .inr (.inr t), .inl x1]) (rs := []) rfl rfl hS1 hd rfl he ?_
    refine wp_sts 4 (pc' := 30) (ls' := [some (.inr (.inr 0)), some (.inl x1), some (.inl 0), some (.inl 0)]) (st' := []) (M' := M2) rfl ?_
    exact h
  · replace h := h.2 c
    refine wp_sts 1 (pc' := 13) (ls' := [some (.inr (.inr 0)), some (.inl x1), none, none]) (st' := [.inl ((-1000000001))]) (M' := M1) rfl ?_
    exact wp_ret rfl rfl (z := (some (.inl ((-1000000001))), M1)) rfl h
/- LoneAdjective.lost, at 30 -/
theorem b83_30 {d t : Nat}  {x1 : Int} {x2 : Int} {x3 : Int} {M : ab_M} {Q : Option ab_V → ab_M → Prop} (hd : 1 ≤ d) (hS : pu_str t M)  (h : (M t 2 ≤ x3 → Q (some (.inl x2)) M) ∧ (x3 < M t 2 → (0 ≤ x3 ∧ x3 < 6) ∧ (0 < M 96 x3.toNat → ab_rg (x3 + 1) ∧ ab_wp d 83 30 [some (.inr (.inr 0)), some (.inl x1), some (.inl x2), some (.inl (x3 + 1))] [] M Q) ∧ (M 96 x3.toNat ≤ 0 → ab_rg (x3 + 1) ∧ ab_wp d 83 30 [some (.inr (.inr 0)), some (.inl x1), some (.inl (ab_or x2 (ab_shl 1 x3))), some (.inl (x3 + 1))] [] M Q))) : ab_wp d 83 30 [some (.inr (.inr 0)), some (.inl x1), some (.inl x2), some (.inl x3)] [] M Q := by
  refine wp_sts 2 (pc' := 32) (ls' := [some (.inr (.inr 0)), some (.inl x1), some (.inl x2), some (.inl x3)]) (st' := [.inr (.inr 0), .inl x3]) (M' := M) rfl ?_
  refine g_getR (j := t) rfl hS rfl hS.2.2.2.1 (fT (P := fun z => z < 1000) hS.2.2.1 (by decide) (by decide)) ?_
  refine g_getI rfl hS (fT (P := fun z => pu_bI z 2 8 = true) hS.2.2.1 rfl rfl) ?_
  refine c2_ge rfl (fun c => ?_) (fun c => ?_)
  · replace h := h.1 c
    refine wp_sts 1 (pc' := 66) (ls' := [some (.inr (.inr 0)), some (.inl x1), some (.inl x2), some (.inl x3)]) (st' := [.inl x2]) (M' := M) rfl ?_
    exact wp_ret rfl rfl (z := (some (.inl x2), M)) rfl h
  · replace h := h.2 c
    refine wp_sts 1 (pc' := 42) (ls' := [some (.inr (.inr 0)), some (.inl x1), some (.inl x2), some (.inl x3)]) (st' := [.inr (.inr 0)]) (M' := M) rfl ?_
    refine g_getR (j := 95) rfl hS rfl (str_r hS 0 12 95 rfl) (by decide) ?_
    refine g_getR (j := 96) rfl hS rfl (str_r hS 95 0 96 rfl) (by decide) ?_
    refine wp_sts 1 (pc' := 49) (ls' := [some (.inr (.inr 0)), some (.inl x1), some (.inl x2), some (.inl x3)]) (st' := [.inl x3, .inr (.inr 96)]) (M' := M) rfl ?_
    obtain ⟨hf1, h⟩ := h
    refine g_iald (n := 6) rfl hS rfl hf1 ?_
    refine c1_gt rfl (fun c => ?_) (fun c => ?_)
    · replace h := h.1 c
      obtain ⟨hf2, h⟩ := h
      refine w_iinc rfl rfl hf2 ?_
      refine wp_sts 1 (pc' := 30) (ls' := [some (.inr (.inr 0)), some (.inl x1), some (.inl x2), some (.inl (x3 + 1))]) (st' := []) (M' := M) rfl ?_
      exact h
    · replace h := h.2 c
      refine wp_sts 6 (pc' := 59) (ls' := [some (.inr (.inr 0)), some (.inl x1), some (.inl (ab_or x2 (ab_shl 1 x3))), some (.inl x3)]) (st' := []) (M' := M) rfl ?_
      obtain ⟨hf2, h⟩ := h
      refine w_iinc rfl rfl hf2 ?_
      refine wp_sts 1 (pc' := 30) (ls' := [some (.inr (.inr 0)), some (.inl x1), some (.inl (ab_or x2 (ab_shl 1 x3))), some (.inl (x3 + 1))]) (st' := []) (M' := M) rfl ?_
      exact h
/- LoneAdjective.sold, at 0 -/
theorem b84_0 {d t : Nat}  {x1 : Int} {x2 : Int} {x3 : Int} {M : ab_M} {Q : Option ab_V → ab_M → Prop} (hd : 1 ≤ d) (hS : pu_str t M)  (h : ∃ r1 M1, ab_ev (d - 1) 52 [.inr (.inr t), .inl x2] M (some (.inl r1)) M1 ∧ pu_str t M1 ∧ (r1 ≠ 0 → (x1 < 1 → Q (some (.inl ((-1000000002)))) M1) ∧ (1 ≤ x1 → (9 < x1 → Q (some (.inl ((-1000000002)))) M1) ∧ (x1 ≤ 9 → (x3 < 0 → Q (some (.inl ((-1000000002)))) M1) ∧ (0 ≤ x3 → (x3 ≤ 1 → ∃ M2, ab_ev (d - 1) 193 [.inr (.inr 101), .inl 0] M1 none M2 ∧ pu_str t M2 ∧ ∃ M3, ab_ev (d - 1) 193 [.inr (.inr 102), .inl 0] M2 none M3 ∧ pu_str t M3 ∧ ab_wp d 84 56 [some (.inr (.inr 0)), some (.inl x1), some (.inl x2), some (.inl x3), some (.inl 0)] [] M3 Q) ∧ (1 < x3 → Q (some (.inl ((-1000000002)))) M1))))) ∧ (r1 = 0 → Q (some (.inl ((-1000000001)))) M1)) : ab_wp d 84 0 [some (.inr (.inr 0)), some (.inl x1), some (.inl x2), some (.inl x3), none] [] M Q := by
  refine wp_sts 1 (pc' := 1) (ls' := [some (.inr (.inr 0)), some (.inl x1), some (.inl x2), some (.inl x3), none]) (st' := [.inr (.inr 0)]) (M' := M) rfl ?_
  refine g_getR (j := t) rfl hS rfl hS.2.2.2.1 (fT (P := fun z => z < 1000) hS.2.2.1 (by decide) (by decide)) ?_
  refine wp_sts 1 (pc' := 5) (ls' := [some (.inr (.inr 0)), some (.inl x1), some (.inl x2), some (.inl x3), none]) (st' := [.inl x2, .inr (.inr t)]) (M' := M) rfl ?_
  obtain ⟨r1, M1, he, hS1, h⟩ := h
  refine g_callI (c := 52) (as := [.inr (.inr t), .inl x2]) (rs := []) rfl rfl hS hd (fT (P := fun z => ab_argsN (.invokevirtual 165, 1, 52, 2) [.inl x2, .inr (.inr z)] = some (52, [.inr (.inr z), .inl x2], [])) hS.2.2.1 rfl rfl) he ?_
  refine c1_ne rfl (fun c => ?_) (fun c => ?_)
  · replace h := h.1 c
    refine wp_sts 2 (pc' := 16) (ls' := [some (.inr (.inr 0)), some (.inl x1), some (.inl x2), some (.inl x3), none]) (st' := [.inl 1, .inl x1]) (M' := M1) rfl ?_
    refine c2_lt rfl (fun c => ?_) (fun c => ?_)
    · replace h := h.1 c
      refine wp_sts 1 (pc' := 36) (ls' := [some (.inr (.inr 0)), some (.inl x1), some (.inl x2), some (.inl x3), none]) (st' := [.inl ((-1000000002))]) (M' := M1) rfl ?_
      exact wp_ret rfl rfl (z := (some (.inl ((-1000000002))), M1)) rfl h
    · replace h := h.2 c
      refine wp_sts 2 (pc' := 22) (ls' := [some (.inr (.inr 0)), some (.inl x1), some (.inl x2), some (.inl x3), none]) (st' := [.inl 9, .inl x1]) (M' := M1) rfl ?_
      refine c2_gt rfl (fun c => ?_) (fun c => ?_)
      · replace h := h.1 c
        refine wp_sts 1 (pc' := 36) (ls' := [some (.inr (.inr 0)), some (.inl x1), some (.inl x2), some (.inl x3), none]) (st' := [.inl ((-1000000002))]) (M' := M1) rfl ?_
        exact wp_ret rfl rfl (z := (some (.inl ((-1000000002))), M1)) rfl h
      · replace h := h.2 c
        refine wp_sts 1 (pc' := 26) (ls' := [some (.inr (.inr 0)), some (.inl x1), some (.inl x2), some (.inl x3), none]) (st' := [.inl x3]) (M' := M1) rfl ?_
        refine c1_lt rfl (fun c => ?_) (fun c => ?_)
        · replace h := h.1 c
          refine wp_sts 1 (pc' := 36) (ls' := [some (.inr (.inr 0)), some (.inl x1), some (.inl x2), some (.inl x3), none]) (st' := [.inl ((-1000000002))]) (M' := M1) rfl ?_
          exact wp_ret rfl rfl (z := (some (.inl ((-1000000002))), M1)) rfl h
        · replace h := h.2 c
          refine wp_sts 2 (pc' := 31) (ls' := [some (.inr (.inr 0)), some (.inl x1), some (.inl x2), some (.inl x3), none]) (st' := [.inl 1, .inl x3]) (M' := M1) rfl ?_
          refine c2_le rfl (fun c => ?_) (fun c => ?_)
          · replace h := h.1 c
            refine wp_sts 1 (pc' := 38) (ls' := [some (.inr (.inr 0)), some (.inl x1), some (.inl x2), some (.inl x3), none]) (st' := [.inr (.inr 0)]) (M' := M1) rfl ?_
            refine g_getR (j := 101) rfl hS1 rfl (str_r hS1 0 14 101 rfl) (by decide) ?_
            refine wp_sts 1 (pc' := 42) (ls' := [some (.inr (.inr 0)), some (.inl x1), some (.inl x2), some (.inl x3), none]) (st' := [.inl 0, .inr (.inr 101)]) (M' := M1) rfl ?_
            obtain ⟨M2, he, hS2, h⟩ := h
            refine g_callV (c := 193) (as := [.inr (.inr 101), .inl 0]) (rs := []) rfl rfl hS1 hd rfl he ?_
            refine wp_sts 1 (pc' := 46) (ls' := [some (.inr (.inr 0)), some (.inl x1), some (.inl x2), some (.inl x3), none]) (st' := [.inr (.inr 0)]) (M' := M2) rfl ?_
            refine g_getR (j := 102) rfl hS2 rfl (str_r hS2 0 15 102 rfl) (by decide) ?_
            refine wp_sts 1 (pc' := 50) (ls' := [some (.inr (.inr 0)), some (.inl x1), some (.inl x2), some (.inl x3), none]) (st' := [.inl 0, .inr (.inr 102)]) (M' := M2) rfl ?_
            obtain ⟨M3, he, hS3, h⟩ := h
            refine g_callV (c := 193) (as := [.inr (.inr 102), .inl 0]) (rs := []) rfl rfl hS2 hd rfl he ?_
            refine wp_sts 2 (pc' := 56) (ls' := [some (.inr (.inr 0)), some (.inl x1), some (.inl x2), some (.inl x3), some (.inl 0)]) (st' := []) (M' := M3) rfl ?_
            exact h
          · replace h := h.2 c
            refine wp_sts 1 (pc' := 36) (ls' := [some (.inr (.inr 0)), some (.inl x1), some (.inl x2), some (.inl x3), none]) (st' := [.inl ((-1000000002))]) (M' := M1) rfl ?_
            exact wp_ret rfl rfl (z := (some (.inl ((-1000000002))), M1)) rfl h
  · replace h := h.2 c
    refine wp_sts 1 (pc' := 13) (ls' := [some (.inr (.inr 0)), some (.inl x1), some (.inl x2), some (.inl x3), none]) (st' := [.inl ((-1000000001))]) (M' := M1) rfl ?_
    exact wp_ret rfl rfl (z := (some (.inl ((-1000000001))), M1)) rfl h
/- LoneAdjective.sold, at 56 -/
theorem b84_56 {d t : Nat}  {x1 : Int} {x2 : Int} {x3 : Int} {x4 : Int} {M : ab_M} {Q : Option ab_V → ab_M → Prop} (hd : 1 ≤ d) (hS : pu_str t M)  (h : (x1 ≤ x4 → (x3 ≠ 0 → (0 ≤ x2 ∧ x2 < 6) ∧ Q (some (.inl (M 102 x2.toNat))) M) ∧ (x3 = 0 → (0 ≤ x2 ∧ x2 < 6) ∧ Q (some (.inl (M 101 x2.toNat))) M)) ∧ (x4 < x1 → ∃ M1, ab_ev (d - 1) 101 [.inr (.inr 0)] M none M1 ∧ pu_str t M1 ∧ ab_rg (x4 + 1) ∧ ab_wp d 84 56 [some (.inr (.inr 0)), some (.inl x1), some (.inl x2), some (.inl x3), some (.inl (x4 + 1))] [] M1 Q)) : ab_wp d 84 56 [some (.inr (.inr 0)), some (.inl x1), some (.inl x2), some (.inl x3), some (.inl x4)] [] M Q := by
  refine wp_sts 2 (pc' := 59) (ls' := [some (.inr (.inr 0)), some (.inl x1), some (.inl x2), some (.inl x3), some (.inl x4)]) (st' := [.inl x1, .inl x4]) (M' := M) rfl ?_
  refine c2_ge rfl (fun c => ?_) (fun c => ?_)
  · replace h := h.1 c
    refine wp_sts 1 (pc' := 73) (ls' := [some (.inr (.inr 0)), some (.inl x1), some (.inl x2), some (.inl x3), some (.inl x4)]) (st' := [.inl x3]) (M' := M) rfl ?_
    refine c1_ne rfl (fun c => ?_) (fun c => ?_)
    · replace h := h.1 c
      refine wp_sts 1 (pc' := 86) (ls' := [some (.inr (.inr 0)), some (.inl x1), some (.inl x2), some (.inl x3), some (.inl x4)]) (st' := [.inr (.inr 0)]) (M' := M) rfl ?_
      refine g_getR (j := 102) rfl hS rfl (str_r hS 0 15 102 rfl) (by decide) ?_
      refine wp_sts 1 (pc' := 90) (ls' := [some (.inr (.inr 0)), some (.inl x1), some (.inl x2), some (.inl x3), some (.inl x4)]) (st' := [.inl x2, .inr (.inr 102)]) (M' := M) rfl ?_
      obtain ⟨hf1, h⟩ := h
      refine g_iald (n := 6) rfl hS rfl hf1 ?_
      exact wp_ret rfl rfl (z := (some (.inl (M 102 x2.toNat)), M)) rfl h
    · replace h := h.2 c
      refine wp_sts 1 (pc' := 77) (ls' := [some (.inr (.inr 0)), some (.inl x1), some (.inl x2), some (.inl x3), some (.inl x4)]) (st' := [.inr (.inr 0)]) (M' := M) rfl ?_
      refine g_getR (j := 101) rfl hS rfl (str_r hS 0 14 101 rfl) (by decide) ?_
      refine wp_sts 1 (pc' := 81) (ls' := [some (.inr (.inr 0)), some (.inl x1), some (.inl x2), some (.inl x3), some (.inl x4)]) (st' := [.inl x2, .inr (.inr 101)]) (M' := M) rfl ?_
      obtain ⟨hf1, h⟩ := h
      refine g_iald (n := 6) rfl hS rfl hf1 ?_
      refine wp_sts 1 (pc' := 91) (ls' := [some (.inr (.inr 0)), some (.inl x1), some (.inl x2), some (.inl x3), some (.inl x4)]) (st' := [.inl (M 101 x2.toNat)]) (M' := M) rfl ?_
      exact wp_ret rfl rfl (z := (some (.inl (M 101 x2.toNat)), M)) rfl h
  · replace h := h.2 c
    refine wp_sts 1 (pc' := 63) (ls' := [some (.inr (.inr 0)), some (.inl x1), some (.inl x2), some (.inl x3), some (.inl x4)]) (st' := [.inr (.inr 0)]) (M' := M) rfl ?_
    obtain ⟨M1, he, hS1, h⟩ := h
    refine g_callV (c := 101) (as := [.inr (.inr 0)]) (rs := []) rfl rfl hS hd rfl he ?_
    obtain ⟨hf1, h⟩ := h
    refine w_iinc rfl rfl hf1 ?_
    refine wp_sts 1 (pc' := 56) (ls' := [some (.inr (.inr 0)), some (.inl x1), some (.inl x2), some (.inl x3), some (.inl (x4 + 1))]) (st' := []) (M' := M1) rfl ?_
    exact h
/- LoneAdjective.thief, at 0 -/
theorem b85_0 {d t : Nat}  {x1 : Int} {x2 : Int} {x3 : Int} {x4 : Int} {M : ab_M} {Q : Option ab_V → ab_M → Prop} (hd : 1 ≤ d) (hS : pu_str t M)  (h : ∃ r1 M1, ab_ev (d - 1) 51 [.inr (.inr t), .inl x1] M (some (.inl r1)) M1 ∧ pu_str t M1 ∧ (r1 = 0 → Q (some (.inl ((-1000000001)))) M1) ∧ (r1 ≠ 0 → ∃ r2 M2, ab_ev (d - 1) 51 [.inr (.inr t), .inl x2] M1 (some (.inl r2)) M2 ∧ pu_str t M2 ∧ (r2 = 0 → Q (some (.inl ((-1000000001)))) M2) ∧ (r2 ≠ 0 → ∃ r3 M3, ab_ev (d - 1) 51 [.inr (.inr t), .inl x3] M2 (some (.inl r3)) M3 ∧ pu_str t M3 ∧ (r3 ≠ 0 → (x4 < 0 → Q (some (.inl ((-1000000002)))) M3) ∧ (0 ≤ x4 → (x4 ≤ 1 → ∃ M4, ab_ev (d - 1) 9 [.inr (.inr 98), .inr (.inr t), .inl x3] M3 none M4 ∧ pu_str t M4 ∧ ∃ r5 M5, ab_ev (d - 1) 8 [.inl x1, .inl x2, .inl 0] M4 (some (.inl r5)) M5 ∧ pu_str t M5 ∧ (x4 ≠ 0 → (0 ≤ r5 ∧ r5 < 98) ∧ (M5 99 r5.toNat ≠ 0 → ab_rg ((M5 100 r5.toNat) + 1) ∧ ab_rg (((M5 100 r5.toNat) + 1).tdiv 2) ∧ Q (some (.inl (((M5 100 r5.toNat) + 1).tdiv 2))) M5) ∧ (M5 99 r5.toNat = 0 → Q (some (.inl ((-1)))) M5)) ∧ (x4 = 0 → (0 ≤ r5 ∧ r5 < 98) ∧ Q (some (.inl (M5 99 r5.toNat))) M5)) ∧ (1 < x4 → Q (some (.inl ((-1000000002)))) M3))) ∧ (r3 = 0 → Q (some (.inl ((-1000000001)))) M3)))) : ab_wp d 85 0 [some (.inr (.inr 0)), some (.inl x1), some (.inl x2), some (.inl x3), some (.inl x4), none] [] M Q := by
  refine wp_sts 1 (pc' := 1) (ls' := [some (.inr (.inr 0)), some (.inl x1), some (.inl x2), some (.inl x3), some (.inl x4), none]) (st' := [.inr (.inr 0)]) (M' := M) rfl ?_
  refine g_getR (j := t) rfl hS rfl hS.2.2.2.1 (fT (P := fun z => z < 1000) hS.2.2.1 (by decide) (by decide)) ?_
  refine wp_sts 1 (pc' := 5) (ls' := [some (.inr (.inr 0)), some (.inl x1), some (.inl x2), some (.inl x3), some (.inl x4), none]) (st' := [.inl x1, .inr (.inr t)]) (M' := M) rfl ?_
  obtain ⟨r1, M1, he, hS1, h⟩ := h
  refine g_callI (c := 51) (as := [.inr (.inr t), .inl x1]) (rs := []) rfl rfl hS hd (fT (P := fun z => ab_argsN (.invokevirtual 156, 1, 51, 2) [.inl x1, .inr (.inr z)] = some (51, [.inr (.inr z), .inl x1], [])) hS.2.2.1 rfl rfl) he ?_
  refine c1_eq rfl (fun c => ?_) (fun c => ?_)
  · replace h := h.1 c
    refine wp_sts 1 (pc' := 35) (ls' := [some (.inr (.inr 0)), some (.inl x1), some (.inl x2), some (.inl x3), some (.inl x4), none]) (st' := [.inl ((-1000000001))]) (M' := M1) rfl ?_
    exact wp_ret rfl rfl (z := (some (.inl ((-1000000001))), M1)) rfl h
  · replace h := h.2 c
    refine wp_sts 1 (pc' := 12) (ls' := [some (.inr (.inr 0)), some (.inl x1), some (.inl x2), some (.inl x3), some (.inl x4), none]) (st' := [.inr (.inr 0)]) (M' := M1) rfl ?_
    refine g_getR (j := t) rfl hS1 rfl hS1.2.2.2.1 (fT (P := fun z => z < 1000) hS.2.2.1 (by decide) (by decide)) ?_
    refine wp_sts 1 (pc' := 16) (ls' := [some (.inr (.inr 0)), some (.inl x1), some (.inl x2), some (.inl x3), some (.inl x4), none]) (st' := [.inl x2, .inr (.inr t)]) (M' := M1) rfl ?_
    obtain ⟨r2, M2, he, hS2, h⟩ := h
    refine g_callI (c := 51) (as := [.inr (.inr t), .inl x2]) (rs := []) rfl rfl hS1 hd (fT (P := fun z => ab_argsN (.invokevirtual 156, 1, 51, 2) [.inl x2, .inr (.inr z)] = some (51, [.inr (.inr z), .inl x2], [])) hS.2.2.1 rfl rfl) he ?_
    refine c1_eq rfl (fun c => ?_) (fun c => ?_)
    · replace h := h.1 c
      refine wp_sts 1 (pc' := 35) (ls' := [some (.inr (.inr 0)), some (.inl x1), some (.inl x2), some (.inl x3), some (.inl x4), none]) (st' := [.inl ((-1000000001))]) (M' := M2) rfl ?_
      exact wp_ret rfl rfl (z := (some (.inl ((-1000000001))), M2)) rfl h
    · replace h := h.2 c
      refine wp_sts 1 (pc' := 23) (ls' := [some (.inr (.inr 0)), some (.inl x1), some (.inl x2), some (.inl x3), some (.inl x4), none]) (st' := [.inr (.inr 0)]) (M' := M2) rfl ?_
      refine g_getR (j := t) rfl hS2 rfl hS2.2.2.2.1 (fT (P := fun z => z < 1000) hS.2.2.1 (by decide) (by decide)) ?_
      refine wp_sts 1 (pc' := 27) (ls' := [some (.inr (.inr 0)), some (.inl x1), some (.inl x2), some (.inl x3), some (.inl x4), none]) (st' := [.inl x3, .inr (.inr t)]) (M' := M2) rfl ?_
      obtain ⟨r3, M3, he, hS3, h⟩ := h
      refine g_callI (c := 51) (as := [.inr (.inr t), .inl x3]) (rs := []) rfl rfl hS2 hd (fT (P := fun z => ab_argsN (.invokevirtual 156, 1, 51, 2) [.inl x3, .inr (.inr z)] = some (51, [.inr (.inr z), .inl x3], [])) hS.2.2.1 rfl rfl) he ?_
      refine c1_ne rfl (fun c => ?_) (fun c => ?_)
      · replace h := h.1 c
        refine wp_sts 1 (pc' := 38) (ls' := [some (.inr (.inr 0)), some (.inl x1), some (.inl x2), some (.inl x3), some (.inl x4), none]) (st' := [.inl x4]) (M' := M3) rfl ?_
        refine c1_lt rfl (fun c => ?_) (fun c => ?_)
        · replace h := h.1 c
          refine wp_sts 1 (pc' := 49) (ls' := [some (.inr (.inr 0)), some (.inl x1), some (.inl x2), some (.inl x3), some (.inl x4), none]) (st' := [.inl ((-1000000002))]) (M' := M3) rfl ?_
          exact wp_ret rfl rfl (z := (some (.inl ((-1000000002))), M3)) rfl h
        · replace h := h.2 c
          refine wp_sts 2 (pc' := 44) (ls' := [some (.inr (.inr 0)), some (.inl x1), some (.inl x2), some (.inl x3), some (.inl x4), none]) (st' := [.inl 1, .inl x4]) (M' := M3) rfl ?_
          refine c2_le rfl (fun c => ?_) (fun c => ?_)
          · replace h := h.1 c
            refine wp_sts 1 (pc' := 51) (ls' := [some (.inr (.inr 0)), some (.inl x1), some (.inl x2), some (.inl x3), some (.inl x4), none]) (st' := [.inr (.inr 0)]) (M' := M3) rfl ?_
            refine g_getR (j := 98) rfl hS3 rfl (str_r hS3 0 13 98 rfl) (by decide) ?_
            refine wp_sts 1 (pc' := 55) (ls' := [some (.inr (.inr 0)), some (.inl x1), some (.inl x2), some (.inl x3), some (.inl x4), none]) (st' := [.inr (.inr 0), .inr (.inr 98)]) (M' := M3) rfl ?_
            refine g_getR (j := t) rfl hS3 rfl hS3.2.2.2.1 (fT (P := fun z => z < 1000) hS.2.2.1 (by decide) (by decide)) ?_
            refine wp_sts 1 (pc' := 59) (ls' := [some (.inr (.inr 0)), some (.inl x1), some (.inl x2), some (.inl x3), some (.inl x4), none]) (st' := [.inl x3, .inr (.inr t), .inr (.inr 98)]) (M' := M3) rfl ?_
            obtain ⟨M4, he, hS4, h⟩ := h
            refine g_callV (c := 9) (as := [.inr (.inr 98), .inr (.inr t), .inl x3]) (rs := []) rfl rfl hS3 hd rfl he ?_
            refine wp_sts 3 (pc' := 65) (ls' := [some (.inr (.inr 0)), some (.inl x1), some (.inl x2), some (.inl x3), some (.inl x4), none]) (st' := [.inl 0, .inl x2, .inl x1]) (M' := M4) rfl ?_
            obtain ⟨r5, M5, he, hS5, h⟩ := h
            refine g_callI (c := 8) (as := [.inl x1, .inl x2, .inl 0]) (rs := []) rfl rfl hS4 hd rfl he ?_
            refine wp_sts 2 (pc' := 72) (ls' := [some (.inr (.inr 0)), some (.inl x1), some (.inl x2), some (.inl x3), some (.inl x4), some (.inl r5)]) (st' := [.inl x4]) (M' := M5) rfl ?_
            refine c1_ne rfl (fun c => ?_) (fun c => ?_)
            · replace h := h.1 c
              refine wp_sts 1 (pc' := 87) (ls' := [some (.inr (.inr 0)), some (.inl x1), some (.inl x2), some (.inl x3), some (.inl x4), some (.inl r5)]) (st' := [.inr (.inr 0)]) (M' := M5) rfl ?_
              refine g_getR (j := 98) rfl hS5 rfl (str_r hS5 0 13 98 rfl) (by decide) ?_
              refine g_getR (j := 99) rfl hS5 rfl (str_r hS5 98 0 99 rfl) (by decide) ?_
              refine wp_sts 1 (pc' := 95) (ls' := [some (.inr (.inr 0)), some (.inl x1), some (.inl x2), some (.inl x3), some (.inl x4), some (.inl r5)]) (st' := [.inl r5, .inr (.inr 99)]) (M' := M5) rfl ?_
              obtain ⟨hf1, h⟩ := h
              refine g_iald (n := 98) rfl hS5 rfl hf1 ?_
              refine c1_ne rfl (fun c => ?_) (fun c => ?_)
              · replace h := h.1 c
                refine wp_sts 1 (pc' := 104) (ls' := [some (.inr (.inr 0)), some (.inl x1), some (.inl x2), some (.inl x3), some (.inl x4), some (.inl r5)]) (st' := [.inr (.inr 0)]) (M' := M5) rfl ?_
                refine g_getR (j := 98) rfl hS5 rfl (str_r hS5 0 13 98 rfl) (by decide) ?_
                refine g_getR (j := 100) rfl hS5 rfl (str_r hS5 98 1 100 rfl) (by decide) ?_
                refine wp_sts 1 (pc' := 112) (ls' := [some (.inr (.inr 0)), some (.inl x1), some (.inl x2), some (.inl x3), some (.inl x4), some (.inl r5)]) (st' := [.inl r5, .inr (.inr 100)]) (M' := M5) rfl ?_
                refine g_iald (n := 98) rfl hS5 rfl hf1 ?_
                refine wp_sts 1 (pc' := 114) (ls' := [some (.inr (.inr 0)), some (.inl x1), some (.inl x2), some (.inl x3), some (.inl x4), some (.inl r5)]) (st' := [.inl 1, .inl (M5 100 r5.toNat)]) (M' := M5) rfl ?_
                obtain ⟨hf2, h⟩ := h
                refine w_iadd rfl hf2 ?_
                refine wp_sts 1 (pc' := 116) (ls' := [some (.inr (.inr 0)), some (.inl x1), some (.inl x2), some (.inl x3), some (.inl x4), some (.inl r5)]) (st' := [.inl 2, .inl ((M5 100 r5.toNat) + 1)]) (M' := M5) rfl ?_
                obtain ⟨hf3, h⟩ := h
                refine w_idiv rfl (by decide) hf3 ?_
                exact wp_ret rfl rfl (z := (some (.inl (((M5 100 r5.toNat) + 1).tdiv 2)), M5)) rfl h
              · replace h := h.2 c
                refine wp_sts 2 (pc' := 117) (ls' := [some (.inr (.inr 0)), some (.inl x1), some (.inl x2), some (.inl x3), some (.inl x4), some (.inl r5)]) (st' := [.inl ((-1))]) (M' := M5) rfl ?_
                exact wp_ret rfl rfl (z := (some (.inl ((-1))), M5)) rfl h
            · replace h := h.2 c
              refine wp_sts 1 (pc' := 76) (ls' := [some (.inr (.inr 0)), some (.inl x1), some (.inl x2), some (.inl x3), some (.inl x4), some (.inl r5)]) (st' := [.inr (.inr 0)]) (M' := M5) rfl ?_
              refine g_getR (j := 98) rfl hS5 rfl (str_r hS5 0 13 98 rfl) (by decide) ?_
              refine g_getR (j := 99) rfl hS5 rfl (str_r hS5 98 0 99 rfl) (by decide) ?_
              refine wp_sts 1 (pc' := 84) (ls' := [some (.inr (.inr 0)), some (.inl x1), some (.inl x2), some (.inl x3), some (.inl x4), some (.inl r5)]) (st' := [.inl r5, .inr (.inr 99)]) (M' := M5) rfl ?_
              obtain ⟨hf1, h⟩ := h
              refine g_iald (n := 98) rfl hS5 rfl hf1 ?_
              exact wp_ret rfl rfl (z := (some (.inl (M5 99 r5.toNat)), M5)) rfl h
          · replace h := h.2 c
            refine wp_sts 1 (pc' := 49) (ls' := [some (.inr (.inr 0)), some (.inl x1), some (.inl x2), some (.inl x3), some (.inl x4), none]) (st' := [.inl ((-1000000002))]) (M' := M3) rfl ?_
            exact wp_ret rfl rfl (z := (some (.inl ((-1000000002))), M3)) rfl h
      · replace h := h.2 c
        refine wp_sts 1 (pc' := 35) (ls' := [some (.inr (.inr 0)), some (.inl x1), some (.inl x2), some (.inl x3), some (.inl x4), none]) (st' := [.inl ((-1000000001))]) (M' := M3) rfl ?_
        exact wp_ret rfl rfl (z := (some (.inl ((-1000000001))), M3)) rfl h
/- LoneAdjective.vote, at 0 -/
theorem b86_0 {d t : Nat}  {x1 : Int} {M : ab_M} {Q : Option ab_V → ab_M → Prop} (hd : 1 ≤ d) (hS : pu_str t M)  (h : (x1 = (-1) → ∃ M1, ab_ev (d - 1) 193 [.inr (.inr 101), .inl 0] M none M1 ∧ pu_str t M1 ∧ ∃ r2 M2, ab_ev (d - 1) 97 [.inr (.inr 0), .inl 0] M1 (some (.inl r2)) M2 ∧ pu_str t M2 ∧ ab_wp d 86 35 [some (.inr (.inr 0)), some (.inl x1), some (.inl r2), some (.inl 0), none, none] [] M2 Q) ∧ (x1 ≠ (-1) → ∃ r1 M1, ab_ev (d - 1) 55 [.inr (.inr t), .inl x1] M (some (.inl r1)) M1 ∧ pu_str t M1 ∧ (r1 ≠ 0 → ∃ M2, ab_ev (d - 1) 193 [.inr (.inr 101), .inl 0] M1 none M2 ∧ pu_str t M2 ∧ ∃ r3 M3, ab_ev (d - 1) 97 [.inr (.inr 0), .inl 0] M2 (some (.inl r3)) M3 ∧ pu_str t M3 ∧ ab_wp d 86 35 [some (.inr (.inr 0)), some (.inl x1), some (.inl r3), some (.inl 0), none, none] [] M3 Q) ∧ (r1 = 0 → Q (some (.inl ((-1000000001)))) M1))) : ab_wp d 86 0 [some (.inr (.inr 0)), some (.inl x1), none, none, none, none] [] M Q := by
  refine wp_sts 2 (pc' := 2) (ls' := [some (.inr (.inr 0)), some (.inl x1), none, none, none, none]) (st' := [.inl ((-1)), .inl x1]) (M' := M) rfl ?_
  refine c2_eq rfl (fun c => ?_) (fun c => ?_)
  · replace h := h.1 c
    refine wp_sts 1 (pc' := 20) (ls' := [some (.inr (.inr 0)), some (.inl x1), none, none, none, none]) (st' := [.inr (.inr 0)]) (M' := M) rfl ?_
    refine g_getR (j := 101) rfl hS rfl (str_r hS 0 14 101 rfl) (by decide) ?_
    refine wp_sts 1 (pc' := 24) (ls' := [some (.inr (.inr 0)), some (.inl x1), none, none, none, none]) (st' := [.inl 0, .inr (.inr 101)]) (M' := M) rfl ?_
    obtain ⟨M1, he, hS1, h⟩ := h
    refine g_callV (c := 193) (as := [.inr (.inr 101), .inl 0]) (rs := []) rfl rfl hS hd rfl he ?_
    refine wp_sts 2 (pc' := 29) (ls' := [some (.inr (.inr 0)), some (.inl x1), none, none, none, none]) (st' := [.inl 0, .inr (.inr 0)]) (M' := M1) rfl ?_
    obtain ⟨r2, M2, he, hS2, h⟩ := h
    refine g_callI (c := 97) (as := [.inr (.inr 0), .inl 0]) (rs := []) rfl rfl hS1 hd rfl he ?_
    refine wp_sts 3 (pc' := 35) (ls' := [some (.inr (.inr 0)), some (.inl x1), some (.inl r2), some (.inl 0), none, none]) (st' := []) (M' := M2) rfl ?_
    exact h
  · replace h := h.2 c
    refine wp_sts 1 (pc' := 6) (ls' := [some (.inr (.inr 0)), some (.inl x1), none, none, none, none]) (st' := [.inr (.inr 0)]) (M' := M) rfl ?_
    refine g_getR (j := t) rfl hS rfl hS.2.2.2.1 (fT (P := fun z => z < 1000) hS.2.2.1 (by decide) (by decide)) ?_
    refine wp_sts 1 (pc' := 10) (ls' := [some (.inr (.inr 0)), some (.inl x1), none, none, none, none]) (st' := [.inl x1, .inr (.inr t)]) (M' := M) rfl ?_
    obtain ⟨r1, M1, he, hS1, h⟩ := h
    refine g_callI (c := 55) (as := [.inr (.inr t), .inl x1]) (rs := []) rfl rfl hS hd (fT (P := fun z => ab_argsN (.invokevirtual 207, 1, 55, 2) [.inl x1, .inr (.inr z)] = some (55, [.inr (.inr z), .inl x1], [])) hS.2.2.1 rfl rfl) he ?_
    refine c1_ne rfl (fun c => ?_) (fun c => ?_)
    · replace h := h.1 c
      refine wp_sts 1 (pc' := 20) (ls' := [some (.inr (.inr 0)), some (.inl x1), none, none, none, none]) (st' := [.inr (.inr 0)]) (M' := M1) rfl ?_
      refine g_getR (j := 101) rfl hS1 rfl (str_r hS1 0 14 101 rfl) (by decide) ?_
      refine wp_sts 1 (pc' := 24) (ls' := [some (.inr (.inr 0)), some (.inl x1), none, none, none, none]) (st' := [.inl 0, .inr (.inr 101)]) (M' := M1) rfl ?_
      obtain ⟨M2, he, hS2, h⟩ := h
      refine g_callV (c := 193) (as := [.inr (.inr 101), .inl 0]) (rs := []) rfl rfl hS1 hd rfl he ?_
      refine wp_sts 2 (pc' := 29) (ls' := [some (.inr (.inr 0)), some (.inl x1), none, none, none, none]) (st' := [.inl 0, .inr (.inr 0)]) (M' := M2) rfl ?_
      obtain ⟨r3, M3, he, hS3, h⟩ := h
      refine g_callI (c := 97) (as := [.inr (.inr 0), .inl 0]) (rs := []) rfl rfl hS2 hd rfl he ?_
      refine wp_sts 3 (pc' := 35) (ls' := [some (.inr (.inr 0)), some (.inl x1), some (.inl r3), some (.inl 0), none, none]) (st' := []) (M' := M3) rfl ?_
      exact h
    · replace h := h.2 c
      refine wp_sts 1 (pc' := 18) (ls' := [some (.inr (.inr 0)), some (.inl x1), none, none, none, none]) (st' := [.inl ((-1000000001))]) (M' := M1) rfl ?_
      exact wp_ret rfl rfl (z := (some (.inl ((-1000000001))), M1)) rfl h
/- LoneAdjective.vote, at 35 -/
theorem b86_35 {d t : Nat}  {x1 : Int} {x2 : Int} {x3 : Int} {y4 : Option ab_V} {y5 : Option ab_V} {M : ab_M} {Q : Option ab_V → ab_M → Prop} (hd : 1 ≤ d) (hS : pu_str t M)  (h : (M t 2 ≤ x3 → (x1 ≠ (-1) → (0 ≤ x1 ∧ x1 < 6) ∧ Q (some (.inl (M 101 x1.toNat))) M) ∧ (x1 = (-1) → ∃ r1 M1, ab_ev (d - 1) 105 [.inr (.inr 0)] M (some (.inl r1)) M1 ∧ pu_str t M1 ∧ Q (some (.inl r1)) M1)) ∧ (x3 < M t 2 → ∃ r1 M1, ab_ev (d - 1) 62 [.inr (.inr t), .inl x3] M (some (.inl r1)) M1 ∧ pu_str t M1 ∧ ∃ r2 M2, ab_ev (d - 1) 104 [.inr (.inr 0), .inl (ab_and x2 r1)] M1 (some (.inl r2)) M2 ∧ pu_str t M2 ∧ (r2 = (-1) → ab_rg (x3 + 1) ∧ ab_wp d 86 35 [some (.inr (.inr 0)), some (.inl x1), some (.inl x2), some (.inl (x3 + 1)), some (.inl (ab_and x2 r1)), some (.inl r2)] [] M2 Q) ∧ (r2 ≠ (-1) → (0 ≤ r2 ∧ r2 < 4) ∧ ∃ r3 M3, ab_ev (d - 1) 60 [.inr (.inr t), .inl (ab_and (ab_and x2 r1) (M2 (t + 31) r2.toNat))] M2 (some (.inl r3)) M3 ∧ pu_str t M3 ∧ (r3 ≤ 0 → ab_rg (x3 + 1) ∧ ab_wp d 86 35 [some (.inr (.inr 0)), some (.inl x1), some (.inl x2), some (.inl (x3 + 1)), some (.inl (ab_and x2 r1)), some (.inl r2)] [] M3 Q) ∧ (0 < r3 → (0 ≤ r2 ∧ r2 < 6) ∧ ab_rg ((M3 101 r2.toNat) + 1) ∧ ab_rg (x3 + 1) ∧ ab_wp d 86 35 [some (.inr (.inr 0)), some (.inl x1), some (.inl x2), some (.inl (x3 + 1)), some (.inl (ab_and x2 r1)), some (.inl r2)] [] (ab_w M3 101 r2.toNat ((M3 101 r2.toNat) + 1)) Q)))) : ab_wp d 86 35 [some (.inr (.inr 0)), some (.inl x1), some (.inl x2), some (.inl x3), y4, y5] [] M Q := by
  refine wp_sts 2 (pc' := 37) (ls' := [some (.inr (.inr 0)), some (.inl x1), some (.inl x2), some (.inl x3), y4, y5]) (st' := [.inr (.inr 0), .inl x3]) (M' := M) rfl ?_
  refine g_getR (j := t) rfl hS rfl hS.2.2.2.1 (fT (P := fun z => z < 1000) hS.2.2.1 (by decide) (by decide)) ?_
  refine g_getI rfl hS (fT (P := fun z => pu_bI z 2 8 = true) hS.2.2.1 rfl rfl) ?_
  refine c2_ge rfl (fun c => ?_) (fun c => ?_)
  · replace h := h.1 c
    refine wp_sts 2 (pc' := 114) (ls' := [some (.inr (.inr 0)), some (.inl x1), some (.inl x2), some (.inl x3), y4, y5]) (st' := [.inl ((-1)), .inl x1]) (M' := M) rfl ?_
    refine c2_ne rfl (fun c => ?_) (fun c => ?_)
    · replace h := h.1 c
      refine wp_sts 1 (pc' := 125) (ls' := [some (.inr (.inr 0)), some (.inl x1), some (.inl x2), some (.inl x3), y4, y5]) (st' := [.inr (.inr 0)]) (M' := M) rfl ?_
      refine g_getR (j := 101) rfl hS rfl (str_r hS 0 14 101 rfl) (by decide) ?_
      refine wp_sts 1 (pc' := 129) (ls' := [some (.inr (.inr 0)), some (.inl x1), some (.inl x2), some (.inl x3), y4, y5]) (st' := [.inl x1, .inr (.inr 101)]) (M' := M) rfl ?_
      obtain ⟨hf1, h⟩ := h
      refine g_iald (n := 6) rfl hS rfl hf1 ?_
      exact wp_ret rfl rfl (z := (some (.inl (M 101 x1.toNat)), M)) rfl h
    · replace h := h.2 c
      refine wp_sts 1 (pc' := 118) (ls' := [some (.inr (.inr 0)), some (.inl x1), some (.inl x2), some (.inl x3), y4, y5]) (st' := [.inr (.inr 0)]) (M' := M) rfl ?_
      obtain ⟨r1, M1, he, hS1, h⟩ := h
      refine g_callI (c := 105) (as := [.inr (.inr 0)]) (rs := []) rfl rfl hS hd rfl he ?_
      refine wp_sts 1 (pc' := 130) (ls' := [some (.inr (.inr 0)), some (.inl x1), some (.inl x2), some (.inl x3), y4, y5]) (st' := [.inl r1]) (M' := M1) rfl ?_
      exact wp_ret rfl rfl (z := (some (.inl r1), M1)) rfl h
  · replace h := h.2 c
    refine wp_sts 2 (pc' := 48) (ls' := [some (.inr (.inr 0)), some (.inl x1), some (.inl x2), some (.inl x3), y4, y5]) (st' := [.inr (.inr 0), .inl x2]) (M' := M) rfl ?_
    refine g_getR (j := t) rfl hS rfl hS.2.2.2.1 (fT (P := fun z => z < 1000) hS.2.2.1 (by decide) (by decide)) ?_
    refine wp_sts 1 (pc' := 52) (ls' := [some (.inr (.inr 0)), some (.inl x1), some (.inl x2), some (.inl x3), y4, y5]) (st' := [.inl x3, .inr (.inr t), .inl x2]) (M' := M) rfl ?_
    obtain ⟨r1, M1, he, hS1, h⟩ := h
    refine g_callI (c := 62) (as := [.inr (.inr t), .inl x3]) (rs := [.inl x2]) rfl rfl hS hd (fT (P := fun z => ab_argsN (.invokevirtual 290, 1, 62, 2) [.inl x3, .inr (.inr z), .inl x2] = some (62, [.inr (.inr z), .inl x3], [.inl x2])) hS.2.2.1 rfl rfl) he ?_
    refine wp_sts 4 (pc' := 61) (ls' := [some (.inr (.inr 0)), some (.inl x1), some (.inl x2), some (.inl x3), some (.inl (ab_and x2 r1)), y5]) (st' := [.inl (ab_and x2 r1), .inr (.inr 0)]) (M' := M1) rfl ?_
    obtain ⟨r2, M2, he, hS2, h⟩ := h
    refine g_callI (c := 104) (as := [.inr (.inr 0), .inl (ab_and x2 r1)]) (rs := []) rfl rfl hS1 hd rfl he ?_
    refine wp_sts 3 (pc' := 69) (ls' := [some (.inr (.inr 0)), some (.inl x1), some (.inl x2), some (.inl x3), some (.inl (ab_and x2 r1)), some (.inl r2)]) (st' := [.inl ((-1)), .inl r2]) (M' := M2) rfl ?_
    refine c2_eq rfl (fun c => ?_) (fun c => ?_)
    · replace h := h.1 c
      obtain ⟨hf1, h⟩ := h
      refine w_iinc rfl rfl hf1 ?_
      refine wp_sts 1 (pc' := 35) (ls' := [some (.inr (.inr 0)), some (.inl x1), some (.inl x2), some (.inl (x3 + 1)), some (.inl (ab_and x2 r1)), some (.inl r2)]) (st' := []) (M' := M2) rfl ?_
      exact h
    · replace h := h.2 c
      refine wp_sts 1 (pc' := 73) (ls' := [some (.inr (.inr 0)), some (.inl x1), some (.inl x2), some (.inl x3), some (.inl (ab_and x2 r1)), some (.inl r2)]) (st' := [.inr (.inr 0)]) (M' := M2) rfl ?_
      refine g_getR (j := t) rfl hS2 rfl hS2.2.2.2.1 (fT (P := fun z => z < 1000) hS.2.2.1 (by decide) (by decide)) ?_
      refine wp_sts 2 (pc' := 79) (ls' := [some (.inr (.inr 0)), some (.inl x1), some (.inl x2), some (.inl x3), some (.inl (ab_and x2 r1)), some (.inl r2)]) (st' := [.inr (.inr 0), .inl (ab_and x2 r1), .inr (.inr t)]) (M' := M2) rfl ?_
      refine g_getR (j := t) rfl hS2 rfl hS2.2.2.2.1 (fT (P := fun z => z < 1000) hS.2.2.1 (by decide) (by decide)) ?_
      refine g_getR (j := t + 31) rfl hS2 (fT (P := fun z => pu_bJ 2 z 15 8 = true) hS.2.2.1 rfl rfl) (fT (P := fun z => M2 z 15 = ((z + 31 : Nat) : Int)) hS.2.2.1 (str_r hS2 5 15 36 rfl) (str_r hS2 37 15 68 rfl)) (fT (P := fun z => z + 31 < 1000) hS.2.2.1 (by decide) (by decide)) ?_
      refine wp_sts 1 (pc' := 87) (ls' := [some (.inr (.inr 0)), some (.inl x1), some (.inl x2), some (.inl x3), some (.inl (ab_and x2 r1)), some (.inl r2)]) (st' := [.inl r2, .inr (.inr (t + 31)), .inl (ab_and x2 r1), .inr (.inr t)]) (M' := M2) rfl ?_
      obtain ⟨hf1, h⟩ := h
      refine g_iald (n := 4) rfl hS2 (fT (P := fun z => ab_arB 20 (z + 31) 4 = true) hS.2.2.1 rfl rfl) hf1 ?_
      refine wp_sts 1 (pc' := 89) (ls' := [some (.inr (.inr 0)), some (.inl x1), some (.inl x2), some (.inl x3), some (.inl (ab_and x2 r1)), some (.inl r2)]) (st' := [.inl (ab_and (ab_and x2 r1) (M2 (t + 31) r2.toNat)), .inr (.inr t)]) (M' := M2) rfl ?_
      obtain ⟨r3, M3, he, hS3, h⟩ := h
      refine g_callI (c := 60) (as := [.inr (.inr t), .inl (ab_and (ab_and x2 r1) (M2 (t + 31) r2.toNat))]) (rs := []) rfl rfl hS2 hd (fT (P := fun z => ab_argsN (.invokevirtual 153, 1, 60, 2) [.inl (ab_and (ab_and x2 r1) (M2 (t + 31) r2.toNat)), .inr (.inr z)] = some (60, [.inr (.inr z), .inl (ab_and (ab_and x2 r1) (M2 (t + 31) r2.toNat))], [])) hS.2.2.1 rfl rfl) he ?_
      refine c1_le rfl (fun c => ?_) (fun c => ?_)
      · replace h := h.1 c
        obtain ⟨hf2, h⟩ := h
        refine w_iinc rfl rfl hf2 ?_
        refine wp_sts 1 (pc' := 35) (ls' := [some (.inr (.inr 0)), some (.inl x1), some (.inl x2), some (.inl (x3 + 1)), some (.inl (ab_and x2 r1)), some (.inl r2)]) (st' := []) (M' := M3) rfl ?_
        exact h
      · replace h := h.2 c
        refine wp_sts 1 (pc' := 96) (ls' := [some (.inr (.inr 0)), some (.inl x1), some (.inl x2), some (.inl x3), some (.inl (ab_and x2 r1)), some (.inl r2)]) (st' := [.inr (.inr 0)]) (M' := M3) rfl ?_
        refine g_getR (j := 101) rfl hS3 rfl (str_r hS3 0 14 101 rfl) (by decide) ?_
        refine wp_sts 2 (pc' := 102) (ls' := [some (.inr (.inr 0)), some (.inl x1), some (.inl x2), some (.inl x3), some (.inl (ab_and x2 r1)), some (.inl r2)]) (st' := [.inl r2, .inr (.inr 101), .inl r2, .inr (.inr 101)]) (M' := M3) rfl ?_
        obtain ⟨hf2, h⟩ := h
        refine g_iald (n := 6) rfl hS3 rfl hf2 ?_
        refine wp_sts 1 (pc' := 104) (ls' := [some (.inr (.inr 0)), some (.inl x1), some (.inl x2), some (.inl x3), some (.inl (ab_and x2 r1)), some (.inl r2)]) (st' := [.inl 1, .inl (M3 101 r2.toNat), .inl r2, .inr (.inr 101)]) (M' := M3) rfl ?_
        obtain ⟨hf3, h⟩ := h
        refine w_iadd rfl hf3 ?_
        refine g_iast (n := 6) rfl hS3 rfl hf2 ?_
        obtain ⟨hf4, h⟩ := h
        refine w_iinc rfl rfl hf4 ?_
        refine wp_sts 1 (pc' := 35) (ls' := [some (.inr (.inr 0)), some (.inl x1), some (.inl x2), some (.inl (x3 + 1)), some (.inl (ab_and x2 r1)), some (.inl r2)]) (st' := []) (M' := (ab_w M3 101 r2.toNat ((M3 101 r2.toNat) + 1))) rfl ?_
        exact h
/- LoneAdjective.bestWord, at 0 -/
theorem b87_0 {d t : Nat}   {M : ab_M} {Q : Option ab_V → ab_M → Prop} (hd : 1 ≤ d) (hS : pu_str t M)  (h : ∃ r1 M1, ab_ev (d - 1) 97 [.inr (.inr 0), .inl 0] M (some (.inl r1)) M1 ∧ pu_str t M1 ∧ ∃ r2 M2, ab_ev (d - 1) 104 [.inr (.inr 0), .inl r1] M1 (some (.inl r2)) M2 ∧ pu_str t M2 ∧ Q (some (.inl r2)) M2) : ab_wp d 87 0 [some (.inr (.inr 0))] [] M Q := by
  refine wp_sts 3 (pc' := 3) (ls' := [some (.inr (.inr 0))]) (st' := [.inl 0, .inr (.inr 0), .inr (.inr 0)]) (M' := M) rfl ?_
  obtain ⟨r1, M1, he, hS1, h⟩ := h
  refine g_callI (c := 97) (as := [.inr (.inr 0), .inl 0]) (rs := [.inr (.inr 0)]) rfl rfl hS hd rfl he ?_
  obtain ⟨r2, M2, he, hS2, h⟩ := h
  refine g_callI (c := 104) (as := [.inr (.inr 0), .inl r1]) (rs := []) rfl rfl hS1 hd rfl he ?_
  exact wp_ret rfl rfl (z := (some (.inl r2), M2)) rfl h
/- LoneAdjective.tell, at 0 -/
theorem b88_0 {d t : Nat}  {x1 : Int} {x2 : Int} {M : ab_M} {Q : Option ab_V → ab_M → Prop} (hd : 1 ≤ d) (hS : pu_str t M)  (h : ∃ r1 M1, ab_ev (d - 1) 54 [.inr (.inr t), .inl x1] M (some (.inl r1)) M1 ∧ pu_str t M1 ∧ (r1 ≠ 0 → (x2 < 1 → Q (some (.inl ((-1000000002)))) M1) ∧ (1 ≤ x2 → (x2 ≤ 999 → ∃ r2 M2, ab_ev (d - 1) 13 [.inr (.inr 90), .inl x1, .inl x2] M1 (some (.inl r2)) M2 ∧ pu_str t M2 ∧ (r2 = 0 → Q (some (.inl ((-1000000004)))) M2) ∧ (r2 ≠ 0 → Q (some (.inl (M2 90 2))) M2)) ∧ (999 < x2 → Q (some (.inl ((-1000000002)))) M1))) ∧ (r1 = 0 → Q (some (.inl ((-1000000001)))) M1)) : ab_wp d 88 0 [some (.inr (.inr 0)), some (.inl x1), some (.inl x2)] [] M Q := by
  refine wp_sts 1 (pc' := 1) (ls' := [some (.inr (.inr 0)), some (.inl x1), some (.inl x2)]) (st' := [.inr (.inr 0)]) (M' := M) rfl ?_
  refine g_getR (j := t) rfl hS rfl hS.2.2.2.1 (fT (P := fun z => z < 1000) hS.2.2.1 (by decide) (by decide)) ?_
  refine wp_sts 1 (pc' := 5) (ls' := [some (.inr (.inr 0)), some (.inl x1), some (.inl x2)]) (st' := [.inl x1, .inr (.inr t)]) (M' := M) rfl ?_
  obtain ⟨r1, M1, he, hS1, h⟩ := h
  refine g_callI (c := 54) (as := [.inr (.inr t), .inl x1]) (rs := []) rfl rfl hS hd (fT (P := fun z => ab_argsN (.invokevirtual 174, 1, 54, 2) [.inl x1, .inr (.inr z)] = some (54, [.inr (.inr z), .inl x1], [])) hS.2.2.1 rfl rfl) he ?_
  refine c1_ne rfl (fun c => ?_) (fun c => ?_)
  · replace h := h.1 c
    refine wp_sts 2 (pc' := 16) (ls' := [some (.inr (.inr 0)), some (.inl x1), some (.inl x2)]) (st' := [.inl 1, .inl x2]) (M' := M1) rfl ?_
    refine c2_lt rfl (fun c => ?_) (fun c => ?_)
    · replace h := h.1 c
      refine wp_sts 1 (pc' := 28) (ls' := [some (.inr (.inr 0)), some (.inl x1), some (.inl x2)]) (st' := [.inl ((-1000000002))]) (M' := M1) rfl ?_
      exact wp_ret rfl rfl (z := (some (.inl ((-1000000002))), M1)) rfl h
    · replace h := h.2 c
      refine wp_sts 2 (pc' := 23) (ls' := [some (.inr (.inr 0)), some (.inl x1), some (.inl x2)]) (st' := [.inl 999, .inl x2]) (M' := M1) rfl ?_
      refine c2_le rfl (fun c => ?_) (fun c => ?_)
      · replace h := h.1 c
        refine wp_sts 1 (pc' := 30) (ls' := [some (.inr (.inr 0)), some (.inl x1), some (.inl x2)]) (st' := [.inr (.inr 0)]) (M' := M1) rfl ?_
        refine g_getR (j := 90) rfl hS1 rfl (str_r hS1 0 11 90 rfl) (by decide) ?_
        refine wp_sts 2 (pc' := 35) (ls' := [some (.inr (.inr 0)), some (.inl x1), some (.inl x2)]) (st' := [.inl x2, .inl x1, .inr (.inr 90)]) (M' := M1) rfl ?_
        obtain ⟨r2, M2, he, hS2, h⟩ := h
        refine g_callI (c := 13) (as := [.inr (.inr 90), .inl x1, .inl x2]) (rs := []) rfl rfl hS1 hd rfl he ?_
        refine c1_eq rfl (fun c => ?_) (fun c => ?_)
        · replace h := h.1 c
          refine wp_sts 1 (pc' := 53) (ls' := [some (.inr (.inr 0)), some (.inl x1), some (.inl x2)]) (st' := [.inl ((-1000000004))]) (M' := M2) rfl ?_
          exact wp_ret rfl rfl (z := (some (.inl ((-1000000004))), M2)) rfl h
        · replace h := h.2 c
          refine wp_sts 1 (pc' := 42) (ls' := [some (.inr (.inr 0)), some (.inl x1), some (.inl x2)]) (st' := [.inr (.inr 0)]) (M' := M2) rfl ?_
          refine g_getR (j := 90) rfl hS2 rfl (str_r hS2 0 11 90 rfl) (by decide) ?_
          refine g_getI rfl hS2 rfl ?_
          refine wp_sts 1 (pc' := 53) (ls' := [some (.inr (.inr 0)), some (.inl x1), some (.inl x2)]) (st' := [.inl (M2 90 2)]) (M' := M2) rfl ?_
          exact wp_ret rfl rfl (z := (some (.inl (M2 90 2)), M2)) rfl h
      · replace h := h.2 c
        refine wp_sts 1 (pc' := 28) (ls' := [some (.inr (.inr 0)), some (.inl x1), some (.inl x2)]) (st' := [.inl ((-1000000002))]) (M' := M1) rfl ?_
        exact wp_ret rfl rfl (z := (some (.inl ((-1000000002))), M1)) rfl h
  · replace h := h.2 c
    refine wp_sts 1 (pc' := 13) (ls' := [some (.inr (.inr 0)), some (.inl x1), some (.inl x2)]) (st' := [.inl ((-1000000001))]) (M' := M1) rfl ?_
    exact wp_ret rfl rfl (z := (some (.inl ((-1000000001))), M1)) rfl h
/- LoneAdjective.days, at 0 -/
theorem b89_0 {d t : Nat}   {M : ab_M} {Q : Option ab_V → ab_M → Prop} (hd : 1 ≤ d) (hS : pu_str t M)  (h : ∃ M1, ab_ev (d - 1) 14 [.inr (.inr 90), .inr (.inr t), .inl 0] M none M1 ∧ pu_str t M1 ∧ Q (some (.inl (M1 90 3))) M1) : ab_wp d 89 0 [some (.inr (.inr 0))] [] M Q := by
  refine wp_sts 1 (pc' := 1) (ls' := [some (.inr (.inr 0))]) (st' := [.inr (.inr 0)]) (M' := M) rfl ?_
  refine g_getR (j := 90) rfl hS rfl (str_r hS 0 11 90 rfl) (by decide) ?_
  refine wp_sts 1 (pc' := 5) (ls' := [some (.inr (.inr 0))]) (st' := [.inr (.inr 0), .inr (.inr 90)]) (M' := M) rfl ?_
  refine g_getR (j := t) rfl hS rfl hS.2.2.2.1 (fT (P := fun z => z < 1000) hS.2.2.1 (by decide) (by decide)) ?_
  refine wp_sts 1 (pc' := 9) (ls' := [some (.inr (.inr 0))]) (st' := [.inl 0, .inr (.inr t), .inr (.inr 90)]) (M' := M) rfl ?_
  obtain ⟨M1, he, hS1, h⟩ := h
  refine g_callV (c := 14) (as := [.inr (.inr 90), .inr (.inr t), .inl 0]) (rs := []) rfl rfl hS hd rfl he ?_
  refine wp_sts 1 (pc' := 13) (ls' := [some (.inr (.inr 0))]) (st' := [.inr (.inr 0)]) (M' := M1) rfl ?_
  refine g_getR (j := 90) rfl hS1 rfl (str_r hS1 0 11 90 rfl) (by decide) ?_
  refine g_getI rfl hS1 rfl ?_
  exact wp_ret rfl rfl (z := (some (.inl (M1 90 3)), M1)) rfl h
/- LoneAdjective.where, at 0 -/
theorem b90_0 {d t : Nat}  {x1 : Int} {M : ab_M} {Q : Option ab_V → ab_M → Prop} (hd : 1 ≤ d) (hS : pu_str t M)  (h : (x1 < 0 → Q (some (.inl ((-1000000002)))) M) ∧ (0 ≤ x1 → (x1 ≤ 999 → ∃ M1, ab_ev (d - 1) 14 [.inr (.inr 90), .inr (.inr t), .inl x1] M none M1 ∧ pu_str t M1 ∧ Q (some (.inl (M1 90 4))) M1) ∧ (999 < x1 → Q (some (.inl ((-1000000002)))) M))) : ab_wp d 90 0 [some (.inr (.inr 0)), some (.inl x1)] [] M Q := by
  refine wp_sts 1 (pc' := 1) (ls' := [some (.inr (.inr 0)), some (.inl x1)]) (st' := [.inl x1]) (M' := M) rfl ?_
  refine c1_lt rfl (fun c => ?_) (fun c => ?_)
  · replace h := h.1 c
    refine wp_sts 1 (pc' := 13) (ls' := [some (.inr (.inr 0)), some (.inl x1)]) (st' := [.inl ((-1000000002))]) (M' := M) rfl ?_
    exact wp_ret rfl rfl (z := (some (.inl ((-1000000002))), M)) rfl h
  · replace h := h.2 c
    refine wp_sts 2 (pc' := 8) (ls' := [some (.inr (.inr 0)), some (.inl x1)]) (st' := [.inl 999, .inl x1]) (M' := M) rfl ?_
    refine c2_le rfl (fun c => ?_) (fun c => ?_)
    · replace h := h.1 c
      refine wp_sts 1 (pc' := 15) (ls' := [some (.inr (.inr 0)), some (.inl x1)]) (st' := [.inr (.inr 0)]) (M' := M) rfl ?_
      refine g_getR (j := 90) rfl hS rfl (str_r hS 0 11 90 rfl) (by decide) ?_
      refine wp_sts 1 (pc' := 19) (ls' := [some (.inr (.inr 0)), some (.inl x1)]) (st' := [.inr (.inr 0), .inr (.inr 90)]) (M' := M) rfl ?_
      refine g_getR (j := t) rfl hS rfl hS.2.2.2.1 (fT (P := fun z => z < 1000) hS.2.2.1 (by decide) (by decide)) ?_
      refine wp_sts 1 (pc' := 23) (ls' := [some (.inr (.inr 0)), some (.inl x1)]) (st' := [.inl x1, .inr (.inr t), .inr (.inr 90)]) (M' := M) rfl ?_
      obtain ⟨M1, he, hS1, h⟩ := h
      refine g_callV (c := 14) (as := [.inr (.inr 90), .inr (.inr t), .inl x1]) (rs := []) rfl rfl hS hd rfl he ?_
      refine wp_sts 1 (pc' := 27) (ls' := [some (.inr (.inr 0)), some (.inl x1)]) (st' := [.inr (.inr 0)]) (M' := M1) rfl ?_
      refine g_getR (j := 90) rfl hS1 rfl (str_r hS1 0 11 90 rfl) (by decide) ?_
      refine g_getI rfl hS1 rfl ?_
      exact wp_ret rfl rfl (z := (some (.inl (M1 90 4)), M1)) rfl h
    · replace h := h.2 c
      refine wp_sts 1 (pc' := 13) (ls' := [some (.inr (.inr 0)), some (.inl x1)]) (st' := [.inl ((-1000000002))]) (M' := M) rfl ?_
      exact wp_ret rfl rfl (z := (some (.inl ((-1000000002))), M)) rfl h
/- LoneAdjective.write, at 0 -/
theorem b91_0 {d t : Nat}  {x1 : Int} {x2 : Int} {M : ab_M} {Q : Option ab_V → ab_M → Prop} (hd : 1 ≤ d) (hS : pu_str t M)  (h : ∃ r1 M1, ab_ev (d - 1) 54 [.inr (.inr t), .inl x1] M (some (.inl r1)) M1 ∧ pu_str t M1 ∧ (r1 ≠ 0 → (x2 < 0 → Q (some (.inl ((-1000000002)))) M1) ∧ (0 ≤ x2 → (x2 ≤ 99999 → ∃ r2 M2, ab_ev (d - 1) 19 [.inr (.inr 75), .inl x1, .inl x2] M1 (some (.inl r2)) M2 ∧ pu_str t M2 ∧ (r2 = 0 → Q (some (.inl ((-1000000004)))) M2) ∧ (r2 ≠ 0 → Q (some (.inl (M2 75 0))) M2)) ∧ (99999 < x2 → Q (some (.inl ((-1000000002)))) M1))) ∧ (r1 = 0 → Q (some (.inl ((-1000000001)))) M1)) : ab_wp d 91 0 [some (.inr (.inr 0)), some (.inl x1), some (.inl x2)] [] M Q := by
  refine wp_sts 1 (pc' := 1) (ls' := [some (.inr (.inr 0)), some (.inl x1), some (.inl x2)]) (st' := [.inr (.inr 0)]) (M' := M) rfl ?_
  refine g_getR (j := t) rfl hS rfl hS.2.2.2.1 (fT (P := fun z => z < 1000) hS.2.2.1 (by decide) (by decide)) ?_
  refine wp_sts 1 (pc' := 5) (ls' := [some (.inr (.inr 0)), some (.inl x1), some (.inl x2)]) (st' := [.inl x1, .inr (.inr t)]) (M' := M) rfl ?_
  obtain ⟨r1, M1, he, hS1, h⟩ := h
  refine g_callI (c := 54) (as := [.inr (.inr t), .inl x1]) (rs := []) rfl rfl hS hd (fT (P := fun z => ab_argsN (.invokevirtual 174, 1, 54, 2) [.inl x1, .inr (.inr z)] = some (54, [.inr (.inr z), .inl x1], [])) hS.2.2.1 rfl rfl) he ?_
  refine c1_ne rfl (fun c => ?_) (fun c => ?_)
  · replace h := h.1 c
    refine wp_sts 1 (pc' := 15) (ls' := [some (.inr (.inr 0)), some (.inl x1), some (.inl x2)]) (st' := [.inl x2]) (M' := M1) rfl ?_
    refine c1_lt rfl (fun c => ?_) (fun c => ?_)
    · replace h := h.1 c
      refine wp_sts 1 (pc' := 27) (ls' := [some (.inr (.inr 0)), some (.inl x1), some (.inl x2)]) (st' := [.inl ((-1000000002))]) (M' := M1) rfl ?_
      exact wp_ret rfl rfl (z := (some (.inl ((-1000000002))), M1)) rfl h
    · replace h := h.2 c
      refine wp_sts 2 (pc' := 22) (ls' := [some (.inr (.inr 0)), some (.inl x1), some (.inl x2)]) (st' := [.inl 99999, .inl x2]) (M' := M1) rfl ?_
      refine c2_le rfl (fun c => ?_) (fun c => ?_)
      · replace h := h.1 c
        refine wp_sts 1 (pc' := 29) (ls' := [some (.inr (.inr 0)), some (.inl x1), some (.inl x2)]) (st' := [.inr (.inr 0)]) (M' := M1) rfl ?_
        refine g_getR (j := 75) rfl hS1 rfl (str_r hS1 0 7 75 rfl) (by decide) ?_
        refine wp_sts 2 (pc' := 34) (ls' := [some (.inr (.inr 0)), some (.inl x1), some (.inl x2)]) (st' := [.inl x2, .inl x1, .inr (.inr 75)]) (M' := M1) rfl ?_
        obtain ⟨r2, M2, he, hS2, h⟩ := h
        refine g_callI (c := 19) (as := [.inr (.inr 75), .inl x1, .inl x2]) (rs := []) rfl rfl hS1 hd rfl he ?_
        refine c1_eq rfl (fun c => ?_) (fun c => ?_)
        · replace h := h.1 c
          refine wp_sts 1 (pc' := 52) (ls' := [some (.inr (.inr 0)), some (.inl x1), some (.inl x2)]) (st' := [.inl ((-1000000004))]) (M' := M2) rfl ?_
          exact wp_ret rfl rfl (z := (some (.inl ((-1000000004))), M2)) rfl h
        · replace h := h.2 c
          refine wp_sts 1 (pc' := 41) (ls' := [some (.inr (.inr 0)), some (.inl x1), some (.inl x2)]) (st' := [.inr (.inr 0)]) (M' := M2) rfl ?_
          refine g_getR (j := 75) rfl hS2 rfl (str_r hS2 0 7 75 rfl) (by decide) ?_
          refine g_getI rfl hS2 rfl ?_
          refine wp_sts 1 (pc' := 52) (ls' := [some (.inr (.inr 0)), some (.inl x1), some (.inl x2)]) (st' := [.inl (M2 75 0)]) (M' := M2) rfl ?_
          exact wp_ret rfl rfl (z := (some (.inl (M2 75 0)), M2)) rfl h
      · replace h := h.2 c
        refine wp_sts 1 (pc' := 27) (ls' := [some (.inr (.inr 0)), some (.inl x1), some (.inl x2)]) (st' := [.inl ((-1000000002))]) (M' := M1) rfl ?_
        exact wp_ret rfl rfl (z := (some (.inl ((-1000000002))), M1)) rfl h
  · replace h := h.2 c
    refine wp_sts 1 (pc' := 13) (ls' := [some (.inr (.inr 0)), some (.inl x1), some (.inl x2)]) (st' := [.inl ((-1000000001))]) (M' := M1) rfl ?_
    exact wp_ret rfl rfl (z := (some (.inl ((-1000000001))), M1)) rfl h
/- LoneAdjective.judge, at 0 -/
theorem b92_0 {d t : Nat}   {M : ab_M} {Q : Option ab_V → ab_M → Prop} (hd : 1 ≤ d) (hS : pu_str t M)  (h : ∃ r1 M1, ab_ev (d - 1) 20 [.inr (.inr 75), .inr (.inr 69)] M (some (.inl r1)) M1 ∧ pu_str t M1 ∧ Q (some (.inl r1)) M1) : ab_wp d 92 0 [some (.inr (.inr 0))] [] M Q := by
  refine wp_sts 1 (pc' := 1) (ls' := [some (.inr (.inr 0))]) (st' := [.inr (.inr 0)]) (M' := M) rfl ?_
  refine g_getR (j := 75) rfl hS rfl (str_r hS 0 7 75 rfl) (by decide) ?_
  refine wp_sts 1 (pc' := 5) (ls' := [some (.inr (.inr 0))]) (st' := [.inr (.inr 0), .inr (.inr 75)]) (M' := M) rfl ?_
  refine g_getR (j := 69) rfl hS rfl (str_r hS 0 4 69 rfl) (by decide) ?_
  obtain ⟨r1, M1, he, hS1, h⟩ := h
  refine g_callI (c := 20) (as := [.inr (.inr 75), .inr (.inr 69)]) (rs := []) rfl rfl hS hd rfl he ?_
  exact wp_ret rfl rfl (z := (some (.inl r1), M1)) rfl h
/- LoneAdjective.tear, at 0 -/
theorem b93_0 {d t : Nat}   {M : ab_M} {Q : Option ab_V → ab_M → Prop} (hd : 1 ≤ d) (hS : pu_str t M)  (h : ab_rg ((M 90 2) + (M 75 0)) ∧ Q (some (.inl ((M 90 2) + (M 75 0)))) (ab_w (ab_w M 90 2 0) 75 0 0)) : ab_wp d 93 0 [some (.inr (.inr 0)), none] [] M Q := by
  refine wp_sts 1 (pc' := 1) (ls' := [some (.inr (.inr 0)), none]) (st' := [.inr (.inr 0)]) (M' := M) rfl ?_
  refine g_getR (j := 90) rfl hS rfl (str_r hS 0 11 90 rfl) (by decide) ?_
  refine g_getI rfl hS rfl ?_
  refine wp_sts 1 (pc' := 8) (ls' := [some (.inr (.inr 0)), none]) (st' := [.inr (.inr 0), .inl (M 90 2)]) (M' := M) rfl ?_
  refine g_getR (j := 75) rfl hS rfl (str_r hS 0 7 75 rfl) (by decide) ?_
  refine g_getI rfl hS rfl ?_
  obtain ⟨hf1, h⟩ := h
  refine w_iadd rfl hf1 ?_
  refine wp_sts 2 (pc' := 17) (ls' := [some (.inr (.inr 0)), some (.inl ((M 90 2) + (M 75 0)))]) (st' := [.inr (.inr 0)]) (M' := M) rfl ?_
  refine g_getR (j := 90) rfl hS rfl (str_r hS 0 11 90 rfl) (by decide) ?_
  refine wp_sts 1 (pc' := 21) (ls' := [some (.inr (.inr 0)), some (.inl ((M 90 2) + (M 75 0)))]) (st' := [.inl 0, .inr (.inr 90)]) (M' := M) rfl ?_
  refine g_putI rfl hS rfl ?_
  refine wp_sts 1 (pc' := 25) (ls' := [some (.inr (.inr 0)), some (.inl ((M 90 2) + (M 75 0)))]) (st' := [.inr (.inr 0)]) (M' := (ab_w M 90 2 0)) rfl ?_
  refine g_getR (j := 75) rfl (str_w (k := 90) (f := 2) (v := 0) hS rfl) rfl (str_r (str_w (k := 90) (f := 2) (v := 0) hS rfl) 0 7 75 rfl) (by decide) ?_
  refine wp_sts 1 (pc' := 29) (ls' := [some (.inr (.inr 0)), some (.inl ((M 90 2) + (M 75 0)))]) (st' := [.inl 0, .inr (.inr 75)]) (M' := (ab_w M 90 2 0)) rfl ?_
  refine g_putI rfl (str_w (k := 90) (f := 2) (v := 0) hS rfl) rfl ?_
  refine wp_sts 1 (pc' := 33) (ls' := [some (.inr (.inr 0)), some (.inl ((M 90 2) + (M 75 0)))]) (st' := [.inl ((M 90 2) + (M 75 0))]) (M' := (ab_w (ab_w M 90 2 0) 75 0 0)) rfl ?_
  exact wp_ret rfl rfl (z := (some (.inl ((M 90 2) + (M 75 0))), (ab_w (ab_w M 90 2 0) 75 0 0))) rfl h
/- LoneAdjective.seed, at 0 -/
theorem b94_0 {d t : Nat}  {x1 : Int} {M : ab_M} {Q : Option ab_V → ab_M → Prop} (hd : 1 ≤ d) (hS : pu_str t M)  (h : (0 ≤ x1 → Q (some (.inl (M 69 3))) (ab_w M 69 3 x1)) ∧ (x1 < 0 → Q (some (.inl ((-1000000002)))) M)) : ab_wp d 94 0 [some (.inr (.inr 0)), some (.inl x1), none] [] M Q := by
  refine wp_sts 1 (pc' := 1) (ls' := [some (.inr (.inr 0)), some (.inl x1), none]) (st' := [.inl x1]) (M' := M) rfl ?_
  refine c1_ge rfl (fun c => ?_) (fun c => ?_)
  · replace h := h.1 c
    refine wp_sts 1 (pc' := 8) (ls' := [some (.inr (.inr 0)), some (.inl x1), none]) (st' := [.inr (.inr 0)]) (M' := M) rfl ?_
    refine g_getR (j := 69) rfl hS rfl (str_r hS 0 4 69 rfl) (by decide) ?_
    refine g_getI rfl hS rfl ?_
    refine wp_sts 2 (pc' := 16) (ls' := [some (.inr (.inr 0)), some (.inl x1), some (.inl (M 69 3))]) (st' := [.inr (.inr 0)]) (M' := M) rfl ?_
    refine g_getR (j := 69) rfl hS rfl (str_r hS 0 4 69 rfl) (by decide) ?_
    refine wp_sts 1 (pc' := 20) (ls' := [some (.inr (.inr 0)), some (.inl x1), some (.inl (M 69 3))]) (st' := [.inl x1, .inr (.inr 69)]) (M' := M) rfl ?_
    refine g_putI rfl hS rfl ?_
    refine wp_sts 1 (pc' := 24) (ls' := [some (.inr (.inr 0)), some (.inl x1), some (.inl (M 69 3))]) (st' := [.inl (M 69 3)]) (M' := (ab_w M 69 3 x1)) rfl ?_
    exact wp_ret rfl rfl (z := (some (.inl (M 69 3)), (ab_w M 69 3 x1))) rfl h
  · replace h := h.2 c
    refine wp_sts 1 (pc' := 6) (ls' := [some (.inr (.inr 0)), some (.inl x1), none]) (st' := [.inl ((-1000000002))]) (M' := M) rfl ?_
    exact wp_ret rfl rfl (z := (some (.inl ((-1000000002))), M)) rfl h
/- LoneAdjective.keep, at 0 -/
theorem b95_0 {d t : Nat}  {x1 : Int} {M : ab_M} {Q : Option ab_V → ab_M → Prop} (hd : 1 ≤ d) (hS : pu_str t M)  (h : (x1 < 0 → Q (some (.inl ((-1000000001)))) M) ∧ (0 ≤ x1 → (x1 ≤ 1 → (x1 ≠ 0 → ∃ M1, ab_ev (d - 1) 43 [.inr (.inr 73), .inr (.inr 69)] M none M1 ∧ pu_str t M1 ∧ Q (some (.inl 1)) (ab_w M1 73 4 1)) ∧ (x1 = 0 → ∃ M1, ab_ev (d - 1) 43 [.inr (.inr 71), .inr (.inr 69)] M none M1 ∧ pu_str t M1 ∧ Q (some (.inl 1)) (ab_w M1 71 4 1))) ∧ (1 < x1 → Q (some (.inl ((-1000000001)))) M))) : ab_wp d 95 0 [some (.inr (.inr 0)), some (.inl x1), none] [] M Q := by
  refine wp_sts 1 (pc' := 1) (ls' := [some (.inr (.inr 0)), some (.inl x1), none]) (st' := [.inl x1]) (M' := M) rfl ?_
  refine c1_lt rfl (fun c => ?_) (fun c => ?_)
  · replace h := h.1 c
    refine wp_sts 1 (pc' := 11) (ls' := [some (.inr (.inr 0)), some (.inl x1), none]) (st' := [.inl ((-1000000001))]) (M' := M) rfl ?_
    exact wp_ret rfl rfl (z := (some (.inl ((-1000000001))), M)) rfl h
  · replace h := h.2 c
    refine wp_sts 2 (pc' := 6) (ls' := [some (.inr (.inr 0)), some (.inl x1), none]) (st' := [.inl 1, .inl x1]) (M' := M) rfl ?_
    refine c2_le rfl (fun c => ?_) (fun c => ?_)
    · replace h := h.1 c
      refine wp_sts 1 (pc' := 13) (ls' := [some (.inr (.inr 0)), some (.inl x1), none]) (st' := [.inl x1]) (M' := M) rfl ?_
      refine c1_ne rfl (fun c => ?_) (fun c => ?_)
      · replace h := h.1 c
        refine wp_sts 1 (pc' := 24) (ls' := [some (.inr (.inr 0)), some (.inl x1), none]) (st' := [.inr (.inr 0)]) (M' := M) rfl ?_
        refine g_getR (j := 73) rfl hS rfl (str_r hS 0 6 73 rfl) (by decide) ?_
        refine wp_sts 3 (pc' := 30) (ls' := [some (.inr (.inr 0)), some (.inl x1), some (.inr (.inr 73))]) (st' := [.inr (.inr 0), .inr (.inr 73)]) (M' := M) rfl ?_
        refine g_getR (j := 69) rfl hS rfl (str_r hS 0 4 69 rfl) (by decide) ?_
        obtain ⟨M1, he, hS1, h⟩ := h
        refine g_callV (c := 43) (as := [.inr (.inr 73), .inr (.inr 69)]) (rs := []) rfl rfl hS hd rfl he ?_
        refine wp_sts 2 (pc' := 38) (ls' := [some (.inr (.inr 0)), some (.inl x1), some (.inr (.inr 73))]) (st' := [.inl 1, .inr (.inr 73)]) (M' := M1) rfl ?_
        refine g_putB rfl hS1 rfl (by decide) ?_
        refine wp_sts 1 (pc' := 42) (ls' := [some (.inr (.inr 0)), some (.inl x1), some (.inr (.inr 73))]) (st' := [.inl 1]) (M' := (ab_w M1 73 4 1)) rfl ?_
        exact wp_ret rfl rfl (z := (some (.inl 1), (ab_w M1 73 4 1))) rfl h
      · replace h := h.2 c
        refine wp_sts 1 (pc' := 17) (ls' := [some (.inr (.inr 0)), some (.inl x1), none]) (st' := [.inr (.inr 0)]) (M' := M) rfl ?_
        refine g_getR (j := 71) rfl hS rfl (str_r hS 0 5 71 rfl) (by decide) ?_
        refine wp_sts 4 (pc' := 30) (ls' := [some (.inr (.inr 0)), some (.inl x1), some (.inr (.inr 71))]) (st' := [.inr (.inr 0), .inr (.inr 71)]) (M' := M) rfl ?_
        refine g_getR (j := 69) rfl hS rfl (str_r hS 0 4 69 rfl) (by decide) ?_
        obtain ⟨M1, he, hS1, h⟩ := h
        refine g_callV (c := 43) (as := [.inr (.inr 71), .inr (.inr 69)]) (rs := []) rfl rfl hS hd rfl he ?_
        refine wp_sts 2 (pc' := 38) (ls' := [some (.inr (.inr 0)), some (.inl x1), some (.inr (.inr 71))]) (st' := [.inl 1, .inr (.inr 71)]) (M' := M1) rfl ?_
        refine g_putB rfl hS1 rfl (by decide) ?_
        refine wp_sts 1 (pc' := 42) (ls' := [some (.inr (.inr 0)), some (.inl x1), some (.inr (.inr 71))]) (st' := [.inl 1]) (M' := (ab_w M1 71 4 1)) rfl ?_
        exact wp_ret rfl rfl (z := (some (.inl 1), (ab_w M1 71 4 1))) rfl h
    · replace h := h.2 c
      refine wp_sts 1 (pc' := 11) (ls' := [some (.inr (.inr 0)), some (.inl x1), none]) (st' := [.inl ((-1000000001))]) (M' := M) rfl ?_
      exact wp_ret rfl rfl (z := (some (.inl ((-1000000001))), M)) rfl h
/- LoneAdjective.goBack, at 0 -/
theorem b96_0 {d t : Nat}  {x1 : Int} {M : ab_M} {Q : Option ab_V → ab_M → Prop} (hd : 1 ≤ d) (hS : pu_str t M)  (h : (x1 < 0 → Q (some (.inl ((-1000000001)))) M) ∧ (0 ≤ x1 → (x1 ≤ 1 → (x1 ≠ 0 → (M 73 4 ≠ 0 → ∃ M1, ab_ev (d - 1) 43 [.inr (.inr 69), .inr (.inr 73)] M none M1 ∧ pu_str t M1 ∧ Q (some (.inl 1)) M1) ∧ (M 73 4 = 0 → Q (some (.inl ((-1000000003)))) M)) ∧ (x1 = 0 → (M 71 4 ≠ 0 → ∃ M1, ab_ev (d - 1) 43 [.inr (.inr 69), .inr (.inr 71)] M none M1 ∧ pu_str t M1 ∧ Q (some (.inl 1)) M1) ∧ (M 71 4 = 0 → Q (some (.inl ((-1000000003)))) M))) ∧ (1 < x1 → Q (some (.inl ((-1000000001)))) M))) : ab_wp d 96 0 [some (.inr (.inr 0)), some (.inl x1), none] [] M Q := by
  refine wp_sts 1 (pc' := 1) (ls' := [some (.inr (.inr 0)), some (.inl x1), none]) (st' := [.inl x1]) (M' := M) rfl ?_
  refine c1_lt rfl (fun c => ?_) (fun c => ?_)
  · replace h := h.1 c
    refine wp_sts 1 (pc' := 11) (ls' := [some (.inr (.inr 0)), some (.inl x1), none]) (st' := [.inl ((-1000000001))]) (M' := M) rfl ?_
    exact wp_ret rfl rfl (z := (some (.inl ((-1000000001))), M)) rfl h
  · replace h := h.2 c
    refine wp_sts 2 (pc' := 6) (ls' := [some (.inr (.inr 0)), some (.inl x1), none]) (st' := [.inl 1, .inl x1]) (M' := M) rfl ?_
    refine c2_le rfl (fun c => ?_) (fun c => ?_)
    · replace h := h.1 c
      refine wp_sts 1 (pc' := 13) (ls' := [some (.inr (.inr 0)), some (.inl x1), none]) (st' := [.inl x1]) (M' := M) rfl ?_
      refine c1_ne rfl (fun c => ?_) (fun c => ?_)
      · replace h := h.1 c
        refine wp_sts 1 (pc' := 24) (ls' := [some (.inr (.inr 0)), some (.inl x1), none]) (st' := [.inr (.inr 0)]) (M' := M) rfl ?_
        refine g_getR (j := 73) rfl hS rfl (str_r hS 0 6 73 rfl) (by decide) ?_
        refine wp_sts 2 (pc' := 29) (ls' := [some (.inr (.inr 0)), some (.inl x1), some (.inr (.inr 73))]) (st' := [.inr (.inr 73)]) (M' := M) rfl ?_
        refine g_getI rfl hS rfl ?_
        refine c1_ne rfl (fun c => ?_) (fun c => ?_)
        · replace h := h.1 c
          refine wp_sts 1 (pc' := 39) (ls' := [some (.inr (.inr 0)), some (.inl x1), some (.inr (.inr 73))]) (st' := [.inr (.inr 0)]) (M' := M) rfl ?_
          refine g_getR (j := 69) rfl hS rfl (str_r hS 0 4 69 rfl) (by decide) ?_
          refine wp_sts 1 (pc' := 43) (ls' := [some (.inr (.inr 0)), some (.inl x1), some (.inr (.inr 73))]) (st' := [.inr (.inr 73), .inr (.inr 69)]) (M' := M) rfl ?_
          obtain ⟨M1, he, hS1, h⟩ := h
          refine g_callV (c := 43) (as := [.inr (.inr 69), .inr (.inr 73)]) (rs := []) rfl rfl hS hd rfl he ?_
          refine wp_sts 1 (pc' := 47) (ls' := [some (.inr (.inr 0)), some (.inl x1), some (.inr (.inr 73))]) (st' := [.inl 1]) (M' := M1) rfl ?_
          exact wp_ret rfl rfl (z := (some (.inl 1), M1)) rfl h
        · replace h := h.2 c
          refine wp_sts 1 (pc' := 37) (ls' := [some (.inr (.inr 0)), some (.inl x1), some (.inr (.inr 73))]) (st' := [.inl ((-1000000003))]) (M' := M) rfl ?_
          exact wp_ret rfl rfl (z := (some (.inl ((-1000000003))), M)) rfl h
      · replace h := h.2 c
        refine wp_sts 1 (pc' := 17) (ls' := [some (.inr (.inr 0)), some (.inl x1), none]) (st' := [.inr (.inr 0)]) (M' := M) rfl ?_
        refine g_getR (j := 71) rfl hS rfl (str_r hS 0 5 71 rfl) (by decide) ?_
        refine wp_sts 3 (pc' := 29) (ls' := [some (.inr (.inr 0)), some (.inl x1), some (.inr (.inr 71))]) (st' := [.inr (.inr 71)]) (M' := M) rfl ?_
        refine g_getI rfl hS rfl ?_
        refine c1_ne rfl (fun c => ?_) (fun c => ?_)
        · replace h := h.1 c
          refine wp_sts 1 (pc' := 39) (ls' := [some (.inr (.inr 0)), some (.inl x1), some (.inr (.inr 71))]) (st' := [.inr (.inr 0)]) (M' := M) rfl ?_
          refine g_getR (j := 69) rfl hS rfl (str_r hS 0 4 69 rfl) (by decide) ?_
          refine wp_sts 1 (pc' := 43) (ls' := [some (.inr (.inr 0)), some (.inl x1), some (.inr (.inr 71))]) (st' := [.inr (.inr 71), .inr (.inr 69)]) (M' := M) rfl ?_
          obtain ⟨M1, he, hS1, h⟩ := h
          refine g_callV (c := 43) (as := [.inr (.inr 69), .inr (.inr 71)]) (rs := []) rfl rfl hS hd rfl he ?_
          refine wp_sts 1 (pc' := 47) (ls' := [some (.inr (.inr 0)), some (.inl x1), some (.inr (.inr 71))]) (st' := [.inl 1]) (M' := M1) rfl ?_
          exact wp_ret rfl rfl (z := (some (.inl 1), M1)) rfl h
        · replace h := h.2 c
          refine wp_sts 1 (pc' := 37) (ls' := [some (.inr (.inr 0)), some (.inl x1), some (.inr (.inr 71))]) (st' := [.inl ((-1000000003))]) (M' := M) rfl ?_
          exact wp_ret rfl rfl (z := (some (.inl ((-1000000003))), M)) rfl h
    · replace h := h.2 c
      refine wp_sts 1 (pc' := 11) (ls' := [some (.inr (.inr 0)), some (.inl x1), none]) (st' := [.inl ((-1000000001))]) (M' := M) rfl ?_
      exact wp_ret rfl rfl (z := (some (.inl ((-1000000001))), M)) rfl h
/- LoneAdjective.deedsThatAre, at 0 -/
theorem b97_0 {d t : Nat}  {x1 : Int} {M : ab_M} {Q : Option ab_V → ab_M → Prop} (hd : 1 ≤ d) (hS : pu_str t M)  (h : ab_wp d 97 4 [some (.inr (.inr 0)), some (.inl x1), some (.inl 0), some (.inl 0)] [] M Q) : ab_wp d 97 0 [some (.inr (.inr 0)), some (.inl x1), none, none] [] M Q := by
  refine wp_sts 4 (pc' := 4) (ls' := [some (.inr (.inr 0)), some (.inl x1), some (.inl 0), some (.inl 0)]) (st' := []) (M' := M) rfl ?_
  exact h
/- LoneAdjective.deedsThatAre, at 4 -/
theorem b97_4 {d t : Nat}  {x1 : Int} {x2 : Int} {x3 : Int} {M : ab_M} {Q : Option ab_V → ab_M → Prop} (hd : 1 ≤ d) (hS : pu_str t M)  (h : (M t 3 ≤ x3 → Q (some (.inl x2)) M) ∧ (x3 < M t 3 → ∃ r1 M1, ab_ev (d - 1) 44 [.inr (.inr 69), .inr (.inr t), .inl x3] M (some (.inl r1)) M1 ∧ pu_str t M1 ∧ (r1 ≠ x1 → ab_rg (x3 + 1) ∧ ab_wp d 97 4 [some (.inr (.inr 0)), some (.inl x1), some (.inl x2), some (.inl (x3 + 1))] [] M1 Q) ∧ (r1 = x1 → ab_rg (x3 + 1) ∧ ab_wp d 97 4 [some (.inr (.inr 0)), some (.inl x1), some (.inl (ab_or x2 (ab_shl 1 x3))), some (.inl (x3 + 1))] [] M1 Q))) : ab_wp d 97 4 [some (.inr (.inr 0)), some (.inl x1), some (.inl x2), some (.inl x3)] [] M Q := by
  refine wp_sts 2 (pc' := 6) (ls' := [some (.inr (.inr 0)), some (.inl x1), some (.inl x2), some (.inl x3)]) (st' := [.inr (.inr 0), .inl x3]) (M' := M) rfl ?_
  refine g_getR (j := t) rfl hS rfl hS.2.2.2.1 (fT (P := fun z => z < 1000) hS.2.2.1 (by decide) (by decide)) ?_
  refine g_getI rfl hS (fT (P := fun z => pu_bI z 3 8 = true) hS.2.2.1 rfl rfl) ?_
  refine c2_ge rfl (fun c => ?_) (fun c => ?_)
  · replace h := h.1 c
    refine wp_sts 1 (pc' := 44) (ls' := [some (.inr (.inr 0)), some (.inl x1), some (.inl x2), some (.inl x3)]) (st' := [.inl x2]) (M' := M) rfl ?_
    exact wp_ret rfl rfl (z := (some (.inl x2), M)) rfl h
  · replace h := h.2 c
    refine wp_sts 1 (pc' := 16) (ls' := [some (.inr (.inr 0)), some (.inl x1), some (.inl x2), some (.inl x3)]) (st' := [.inr (.inr 0)]) (M' := M) rfl ?_
    refine g_getR (j := 69) rfl hS rfl (str_r hS 0 4 69 rfl) (by decide) ?_
    refine wp_sts 1 (pc' := 20) (ls' := [some (.inr (.inr 0)), some (.inl x1), some (.inl x2), some (.inl x3)]) (st' := [.inr (.inr 0), .inr (.inr 69)]) (M' := M) rfl ?_
    refine g_getR (j := t) rfl hS rfl hS.2.2.2.1 (fT (P := fun z => z < 1000) hS.2.2.1 (by decide) (by decide)) ?_
    refine wp_sts 1 (pc' := 24) (ls' := [some (.inr (.inr 0)), some (.inl x1), some (.inl x2), some (.inl x3)]) (st' := [.inl x3, .inr (.inr t), .inr (.inr 69)]) (M' := M) rfl ?_
    obtain ⟨r1, M1, he, hS1, h⟩ := h
    refine g_callI (c := 44) (as := [.inr (.inr 69), .inr (.inr t), .inl x3]) (rs := []) rfl rfl hS hd rfl he ?_
    refine wp_sts 1 (pc' := 28) (ls' := [some (.inr (.inr 0)), some (.inl x1), some (.inl x2), some (.inl x3)]) (st' := [.inl x1, .inl r1]) (M' := M1) rfl ?_
    refine c2_ne rfl (fun c => ?_) (fun c => ?_)
    · replace h := h.1 c
      obtain ⟨hf1, h⟩ := h
      refine w_iinc rfl rfl hf1 ?_
      refine wp_sts 1 (pc' := 4) (ls' := [some (.inr (.inr 0)), some (.inl x1), some (.inl x2), some (.inl (x3 + 1))]) (st' := []) (M' := M1) rfl ?_
      exact h
    · replace h := h.2 c
      refine wp_sts 6 (pc' := 37) (ls' := [some (.inr (.inr 0)), some (.inl x1), some (.inl (ab_or x2 (ab_shl 1 x3))), some (.inl x3)]) (st' := []) (M' := M1) rfl ?_
      obtain ⟨hf1, h⟩ := h
      refine w_iinc rfl rfl hf1 ?_
      refine wp_sts 1 (pc' := 4) (ls' := [some (.inr (.inr 0)), some (.inl x1), some (.inl (ab_or x2 (ab_shl 1 x3))), some (.inl (x3 + 1))]) (st' := []) (M' := M1) rfl ?_
      exact h
/- LoneAdjective.driftOnce, at 0 -/
theorem b98_0 {d t : Nat}   {M : ab_M} {Q : Option ab_V → ab_M → Prop} (hd : 1 ≤ d) (hS : pu_str t M)  (h : ∃ r1 M1, ab_ev (d - 1) 48 [.inr (.inr 69), .inl (M t 2)] M (some (.inl r1)) M1 ∧ pu_str t M1 ∧ ∃ r2 M2, ab_ev (d - 1) 45 [.inr (.inr 69), .inr (.inr t), .inl r1] M1 (some (.inl r2)) M2 ∧ pu_str t M2 ∧ (r2 = 0 → ∃ r3 M3, ab_ev (d - 1) 99 [.inr (.inr 0), .inl r1] M2 (some (.inl r3)) M3 ∧ pu_str t M3 ∧ (r3 = (-1) → ab_wp d 98 79 [some (.inr (.inr 0)), some (.inl r1), some (.inl r3)] [] M3 Q) ∧ (r3 ≠ (-1) → (M3 69 2 ≠ r1 → ab_wp d 98 79 [some (.inr (.inr 0)), some (.inl r1), some (.inl r3)] [] M3 Q) ∧ (M3 69 2 = r1 → ∃ M4, ab_ev (d - 1) 47 [.inr (.inr 69), .inr (.inr t), .inl r3] M3 none M4 ∧ pu_str t M4 ∧ Q none M4))) ∧ (r2 ≠ 0 → ∃ M3, ab_ev (d - 1) 46 [.inr (.inr 69), .inr (.inr t), .inl r1] M2 none M3 ∧ pu_str t M3 ∧ ∃ r4 M4, ab_ev (d - 1) 99 [.inr (.inr 0), .inl r1] M3 (some (.inl r4)) M4 ∧ pu_str t M4 ∧ (r4 = (-1) → ab_wp d 98 79 [some (.inr (.inr 0)), some (.inl r1), some (.inl r4)] [] M4 Q) ∧ (r4 ≠ (-1) → (M4 69 2 ≠ r1 → ab_wp d 98 79 [some (.inr (.inr 0)), some (.inl r1), some (.inl r4)] [] M4 Q) ∧ (M4 69 2 = r1 → ∃ M5, ab_ev (d - 1) 47 [.inr (.inr 69), .inr (.inr t), .inl r4] M4 none M5 ∧ pu_str t M5 ∧ Q none M5)))) : ab_wp d 98 0 [some (.inr (.inr 0)), none, none] [] M Q := by
  refine wp_sts 1 (pc' := 1) (ls' := [some (.inr (.inr 0)), none, none]) (st' := [.inr (.inr 0)]) (M' := M) rfl ?_
  refine g_getR (j := 69) rfl hS rfl (str_r hS 0 4 69 rfl) (by decide) ?_
  refine wp_sts 1 (pc' := 5) (ls' := [some (.inr (.inr 0)), none, none]) (st' := [.inr (.inr 0), .inr (.inr 69)]) (M' := M) rfl ?_
  refine g_getR (j := t) rfl hS rfl hS.2.2.2.1 (fT (P := fun z => z < 1000) hS.2.2.1 (by decide) (by decide)) ?_
  refine g_getI rfl hS (fT (P := fun z => pu_bI z 2 8 = true) hS.2.2.1 rfl rfl) ?_
  obtain ⟨r1, M1, he, hS1, h⟩ := h
  refine g_callI (c := 48) (as := [.inr (.inr 69), .inl (M t 2)]) (rs := []) rfl rfl hS hd rfl he ?_
  refine wp_sts 2 (pc' := 16) (ls' := [some (.inr (.inr 0)), some (.inl r1), none]) (st' := [.inr (.inr 0)]) (M' := M1) rfl ?_
  refine g_getR (j := 69) rfl hS1 rfl (str_r hS1 0 4 69 rfl) (by decide) ?_
  refine wp_sts 1 (pc' := 20) (ls' := [some (.inr (.inr 0)), some (.inl r1), none]) (st' := [.inr (.inr 0), .inr (.inr 69)]) (M' := M1) rfl ?_
  refine g_getR (j := t) rfl hS1 rfl hS1.2.2.2.1 (fT (P := fun z => z < 1000) hS.2.2.1 (by decide) (by decide)) ?_
  refine wp_sts 1 (pc' := 24) (ls' := [some (.inr (.inr 0)), some (.inl r1), none]) (st' := [.inl r1, .inr (.inr t), .inr (.inr 69)]) (M' := M1) rfl ?_
  obtain ⟨r2, M2, he, hS2, h⟩ := h
  refine g_callI (c := 45) (as := [.inr (.inr 69), .inr (.inr t), .inl r1]) (rs := []) rfl rfl hS1 hd rfl he ?_
  refine c1_eq rfl (fun c => ?_) (fun c => ?_)
  · replace h := h.1 c
    refine wp_sts 2 (pc' := 44) (ls' := [some (.inr (.inr 0)), some (.inl r1), none]) (st' := [.inl r1, .inr (.inr 0)]) (M' := M2) rfl ?_
    obtain ⟨r3, M3, he, hS3, h⟩ := h
    refine g_callI (c := 99) (as := [.inr (.inr 0), .inl r1]) (rs := []) rfl rfl hS2 hd rfl he ?_
    refine wp_sts 3 (pc' := 50) (ls' := [some (.inr (.inr 0)), some (.inl r1), some (.inl r3)]) (st' := [.inl ((-1)), .inl r3]) (M' := M3) rfl ?_
    refine c2_eq rfl (fun c => ?_) (fun c => ?_)
    · replace h := h.1 c
      exact h
    · replace h := h.2 c
      refine wp_sts 1 (pc' := 54) (ls' := [some (.inr (.inr 0)), some (.inl r1), some (.inl r3)]) (st' := [.inr (.inr 0)]) (M' := M3) rfl ?_
      refine g_getR (j := 69) rfl hS3 rfl (str_r hS3 0 4 69 rfl) (by decide) ?_
      refine g_getI rfl hS3 rfl ?_
      refine wp_sts 1 (pc' := 61) (ls' := [some (.inr (.inr 0)), some (.inl r1), some (.inl r3)]) (st' := [.inl r1, .inl (M3 69 2)]) (M' := M3) rfl ?_
      refine c2_ne rfl (fun c => ?_) (fun c => ?_)
      · replace h := h.1 c
        exact h
      · replace h := h.2 c
        refine wp_sts 1 (pc' := 65) (ls' := [some (.inr (.inr 0)), some (.inl r1), some (.inl r3)]) (st' := [.inr (.inr 0)]) (M' := M3) rfl ?_
        refine g_getR (j := 69) rfl hS3 rfl (str_r hS3 0 4 69 rfl) (by decide) ?_
        refine wp_sts 1 (pc' := 69) (ls' := [some (.inr (.inr 0)), some (.inl r1), some (.inl r3)]) (st' := [.inr (.inr 0), .inr (.inr 69)]) (M' := M3) rfl ?_
        refine g_getR (j := t) rfl hS3 rfl hS3.2.2.2.1 (fT (P := fun z => z < 1000) hS.2.2.1 (by decide) (by decide)) ?_
        refine wp_sts 1 (pc' := 73) (ls' := [some (.inr (.inr 0)), some (.inl r1), some (.inl r3)]) (st' := [.inl r3, .inr (.inr t), .inr (.inr 69)]) (M' := M3) rfl ?_
        obtain ⟨M4, he, hS4, h⟩ := h
        refine g_callV (c := 47) (as := [.inr (.inr 69), .inr (.inr t), .inl r3]) (rs := []) rfl rfl hS3 hd rfl he ?_
        refine wp_sts 1 (pc' := 92) (ls' := [some (.inr (.inr 0)), some (.inl r1), some (.inl r3)]) (st' := []) (M' := M4) rfl ?_
        exact wp_ret rfl rfl rfl h
  · replace h := h.2 c
    refine wp_sts 1 (pc' := 31) (ls' := [some (.inr (.inr 0)), some (.inl r1), none]) (st' := [.inr (.inr 0)]) (M' := M2) rfl ?_
    refine g_getR (j := 69) rfl hS2 rfl (str_r hS2 0 4 69 rfl) (by decide) ?_
    refine wp_sts 1 (pc' := 35) (ls' := [some (.inr (.inr 0)), some (.inl r1), none]) (st' := [.inr (.inr 0), .inr (.inr 69)]) (M' := M2) rfl ?_
    refine g_getR (j := t) rfl hS2 rfl hS2.2.2.2.1 (fT (P := fun z => z < 1000) hS.2.2.1 (by decide) (by decide)) ?_
    refine wp_sts 1 (pc' := 39) (ls' := [some (.inr (.inr 0)), some (.inl r1), none]) (st' := [.inl r1, .inr (.inr t), .inr (.inr 69)]) (M' := M2) rfl ?_
    obtain ⟨M3, he, hS3, h⟩ := h
    refine g_callV (c := 46) (as := [.inr (.inr 69), .inr (.inr t), .inl r1]) (rs := []) rfl rfl hS2 hd rfl he ?_
    refine wp_sts 2 (pc' := 44) (ls' := [some (.inr (.inr 0)), some (.inl r1), none]) (st' := [.inl r1, .inr (.inr 0)]) (M' := M3) rfl ?_
    obtain ⟨r4, M4, he, hS4, h⟩ := h
    refine g_callI (c := 99) (as := [.inr (.inr 0), .inl r1]) (rs := []) rfl rfl hS3 hd rfl he ?_
    refine wp_sts 3 (pc' := 50) (ls' := [some (.inr (.inr 0)), some (.inl r1), some (.inl r4)]) (st' := [.inl ((-1)), .inl r4]) (M' := M4) rfl ?_
    refine c2_eq rfl (fun c => ?_) (fun c => ?_)
    · replace h := h.1 c
      exact h
    · replace h := h.2 c
      refine wp_sts 1 (pc' := 54) (ls' := [some (.inr (.inr 0)), some (.inl r1), some (.inl r4)]) (st' := [.inr (.inr 0)]) (M' := M4) rfl ?_
      refine g_getR (j := 69) rfl hS4 rfl (str_r hS4 0 4 69 rfl) (by decide) ?_
      refine g_getI rfl hS4 rfl ?_
      refine wp_sts 1 (pc' := 61) (ls' := [some (.inr (.inr 0)), some (.inl r1), some (.inl r4)]) (st' := [.inl r1, .inl (M4 69 2)]) (M' := M4) rfl ?_
      refine c2_ne rfl (fun c => ?_) (fun c => ?_)
      · replace h := h.1 c
        exact h
      · replace h := h.2 c
        refine wp_sts 1 (pc' := 65) (ls' := [some (.inr (.inr 0)), some (.inl r1), some (.inl r4)]) (st' := [.inr (.inr 0)]) (M' := M4) rfl ?_
        refine g_getR (j := 69) rfl hS4 rfl (str_r hS4 0 4 69 rfl) (by decide) ?_
        refine wp_sts 1 (pc' := 69) (ls' := [some (.inr (.inr 0)), some (.inl r1), some (.inl r4)]) (st' := [.inr (.inr 0), .inr (.inr 69)]) (M' := M4) rfl ?_
        refine g_getR (j := t) rfl hS4 rfl hS4.2.2.2.1 (fT (P := fun z => z < 1000) hS.2.2.1 (by decide) (by decide)) ?_
        refine wp_sts 1 (pc' := 73) (ls' := [some (.inr (.inr 0)), some (.inl r1), some (.inl r4)]) (st' := [.inl r4, .inr (.inr t), .inr (.inr 69)]) (M' := M4) rfl ?_
        obtain ⟨M5, he, hS5, h⟩ := h
        refine g_callV (c := 47) (as := [.inr (.inr 69), .inr (.inr t), .inl r4]) (rs := []) rfl rfl hS4 hd rfl he ?_
        refine wp_sts 1 (pc' := 92) (ls' := [some (.inr (.inr 0)), some (.inl r1), some (.inl r4)]) (st' := []) (M' := M5) rfl ?_
        exact wp_ret rfl rfl rfl h
/- LoneAdjective.driftOnce, at 79 -/
theorem b98_79 {d t : Nat}  {x1 : Int} {x2 : Int} {M : ab_M} {Q : Option ab_V → ab_M → Prop} (hd : 1 ≤ d) (hS : pu_str t M)  (h : ab_rg ((M 69 0) + 1) ∧ Q none (ab_w M 69 0 ((M 69 0) + 1))) : ab_wp d 98 79 [some (.inr (.inr 0)), some (.inl x1), some (.inl x2)] [] M Q := by
  refine wp_sts 1 (pc' := 80) (ls' := [some (.inr (.inr 0)), some (.inl x1), some (.inl x2)]) (st' := [.inr (.inr 0)]) (M' := M) rfl ?_
  refine g_getR (j := 69) rfl hS rfl (str_r hS 0 4 69 rfl) (by decide) ?_
  refine wp_sts 1 (pc' := 84) (ls' := [some (.inr (.inr 0)), some (.inl x1), some (.inl x2)]) (st' := [.inr (.inr 69), .inr (.inr 69)]) (M' := M) rfl ?_
  refine g_getI rfl hS rfl ?_
  refine wp_sts 1 (pc' := 88) (ls' := [some (.inr (.inr 0)), some (.inl x1), some (.inl x2)]) (st' := [.inl 1, .inl (M 69 0), .inr (.inr 69)]) (M' := M) rfl ?_
  obtain ⟨hf1, h⟩ := h
  refine w_iadd rfl hf1 ?_
  refine g_putI rfl hS rfl ?_
  exact wp_ret rfl rfl rfl h
/- LoneAdjective.firstOpenOf, at 0 -/
theorem b99_0 {d t : Nat}  {x1 : Int} {M : ab_M} {Q : Option ab_V → ab_M → Prop} (hd : 1 ≤ d) (hS : pu_str t M)  (h : ab_wp d 99 2 [some (.inr (.inr 0)), some (.inl x1), some (.inl 0)] [] M Q) : ab_wp d 99 0 [some (.inr (.inr 0)), some (.inl x1), none] [] M Q := by
  refine wp_sts 2 (pc' := 2) (ls' := [some (.inr (.inr 0)), some (.inl x1), some (.inl 0)]) (st' := []) (M' := M) rfl ?_
  exact h
/- LoneAdjective.firstOpenOf, at 2 -/
theorem b99_2 {d t : Nat}  {x1 : Int} {x2 : Int} {M : ab_M} {Q : Option ab_V → ab_M → Prop} (hd : 1 ≤ d) (hS : pu_str t M)  (h : (M t 3 ≤ x2 → Q (some (.inl ((-1)))) M) ∧ (x2 < M t 3 → (0 ≤ x2 ∧ x2 < 6) ∧ (M (t + 19) x2.toNat ≠ x1 → ab_rg (x2 + 1) ∧ ab_wp d 99 2 [some (.inr (.inr 0)), some (.inl x1), some (.inl (x2 + 1))] [] M Q) ∧ (M (t + 19) x2.toNat = x1 → ∃ r1 M1, ab_ev (d - 1) 44 [.inr (.inr 69), .inr (.inr t), .inl x2] M (some (.inl r1)) M1 ∧ pu_str t M1 ∧ (r1 ≠ 0 → ab_rg (x2 + 1) ∧ ab_wp d 99 2 [some (.inr (.inr 0)), some (.inl x1), some (.inl (x2 + 1))] [] M1 Q) ∧ (r1 = 0 → Q (some (.inl x2)) M1)))) : ab_wp d 99 2 [some (.inr (.inr 0)), some (.inl x1), some (.inl x2)] [] M Q := by
  refine wp_sts 2 (pc' := 4) (ls' := [some (.inr (.inr 0)), some (.inl x1), some (.inl x2)]) (st' := [.inr (.inr 0), .inl x2]) (M' := M) rfl ?_
  refine g_getR (j := t) rfl hS rfl hS.2.2.2.1 (fT (P := fun z => z < 1000) hS.2.2.1 (by decide) (by decide)) ?_
  refine g_getI rfl hS (fT (P := fun z => pu_bI z 3 8 = true) hS.2.2.1 rfl rfl) ?_
  refine c2_ge rfl (fun c => ?_) (fun c => ?_)
  · replace h := h.1 c
    refine wp_sts 1 (pc' := 50) (ls' := [some (.inr (.inr 0)), some (.inl x1), some (.inl x2)]) (st' := [.inl ((-1))]) (M' := M) rfl ?_
    exact wp_ret rfl rfl (z := (some (.inl ((-1))), M)) rfl h
  · replace h := h.2 c
    refine wp_sts 1 (pc' := 14) (ls' := [some (.inr (.inr 0)), some (.inl x1), some (.inl x2)]) (st' := [.inr (.inr 0)]) (M' := M) rfl ?_
    refine g_getR (j := t) rfl hS rfl hS.2.2.2.1 (fT (P := fun z => z < 1000) hS.2.2.1 (by decide) (by decide)) ?_
    refine g_getR (j := t + 19) rfl hS (fT (P := fun z => pu_bJ 2 z 9 8 = true) hS.2.2.1 rfl rfl) (fT (P := fun z => M z 9 = ((z + 19 : Nat) : Int)) hS.2.2.1 (str_r hS 5 9 24 rfl) (str_r hS 37 9 56 rfl)) (fT (P := fun z => z + 19 < 1000) hS.2.2.1 (by decide) (by decide)) ?_
    refine wp_sts 1 (pc' := 21) (ls' := [some (.inr (.inr 0)), some (.inl x1), some (.inl x2)]) (st' := [.inl x2, .inr (.inr (t + 19))]) (M' := M) rfl ?_
    obtain ⟨hf1, h⟩ := h
    refine g_iald (n := 6) rfl hS (fT (P := fun z => ab_arB 20 (z + 19) 6 = true) hS.2.2.1 rfl rfl) hf1 ?_
    refine wp_sts 1 (pc' := 23) (ls' := [some (.inr (.inr 0)), some (.inl x1), some (.inl x2)]) (st' := [.inl x1, .inl (M (t + 19) x2.toNat)]) (M' := M) rfl ?_
    refine c2_ne rfl (fun c => ?_) (fun c => ?_)
    · replace h := h.1 c
      obtain ⟨hf2, h⟩ := h
      refine w_iinc rfl rfl hf2 ?_
      refine wp_sts 1 (pc' := 2) (ls' := [some (.inr (.inr 0)), some (.inl x1), some (.inl (x2 + 1))]) (st' := []) (M' := M) rfl ?_
      exact h
    · replace h := h.2 c
      refine wp_sts 1 (pc' := 27) (ls' := [some (.inr (.inr 0)), some (.inl x1), some (.inl x2)]) (st' := [.inr (.inr 0)]) (M' := M) rfl ?_
      refine g_getR (j := 69) rfl hS rfl (str_r hS 0 4 69 rfl) (by decide) ?_
      refine wp_sts 1 (pc' := 31) (ls' := [some (.inr (.inr 0)), some (.inl x1), some (.inl x2)]) (st' := [.inr (.inr 0), .inr (.inr 69)]) (M' := M) rfl ?_
      refine g_getR (j := t) rfl hS rfl hS.2.2.2.1 (fT (P := fun z => z < 1000) hS.2.2.1 (by decide) (by decide)) ?_
      refine wp_sts 1 (pc' := 35) (ls' := [some (.inr (.inr 0)), some (.inl x1), some (.inl x2)]) (st' := [.inl x2, .inr (.inr t), .inr (.inr 69)]) (M' := M) rfl ?_
      obtain ⟨r1, M1, he, hS1, h⟩ := h
      refine g_callI (c := 44) (as := [.inr (.inr 69), .inr (.inr t), .inl x2]) (rs := []) rfl rfl hS hd rfl he ?_
      refine c1_ne rfl (fun c => ?_) (fun c => ?_)
      · replace h := h.1 c
        obtain ⟨hf2, h⟩ := h
        refine w_iinc rfl rfl hf2 ?_
        refine wp_sts 1 (pc' := 2) (ls' := [some (.inr (.inr 0)), some (.inl x1), some (.inl (x2 + 1))]) (st' := []) (M' := M1) rfl ?_
        exact h
      · replace h := h.2 c
        refine wp_sts 1 (pc' := 42) (ls' := [some (.inr (.inr 0)), some (.inl x1), some (.inl x2)]) (st' := [.inl x2]) (M' := M1) rfl ?_
        exact wp_ret rfl rfl (z := (some (.inl x2), M1)) rfl h
/- LoneAdjective.mostBeside, at 0 -/
theorem b100_0 {d t : Nat}  {x1 : Int} {x2 : Int} {M : ab_M} {Q : Option ab_V → ab_M → Prop} (hd : 1 ≤ d) (hS : pu_str t M)  (h : ab_wp d 100 5 [some (.inr (.inr 0)), some (.inl x1), some (.inl x2), some (.inl 0), some (.inl 0)] [] M Q) : ab_wp d 100 0 [some (.inr (.inr 0)), some (.inl x1), some (.inl x2), none, none] [] M Q := by
  refine wp_sts 4 (pc' := 5) (ls' := [some (.inr (.inr 0)), some (.inl x1), some (.inl x2), some (.inl 0), some (.inl 0)]) (st' := []) (M' := M) rfl ?_
  exact h
/- LoneAdjective.mostBeside, at 5 -/
theorem b100_5 {d t : Nat}  {x1 : Int} {x2 : Int} {x3 : Int} {x4 : Int} {M : ab_M} {Q : Option ab_V → ab_M → Prop} (hd : 1 ≤ d) (hS : pu_str t M)  (h : (x2 < x4 → Q (some (.inl x3)) M) ∧ (x4 ≤ x2 → (ab_and x4 x1 ≠ 0 → ab_rg (x4 + 1) ∧ ab_wp d 100 5 [some (.inr (.inr 0)), some (.inl x1), some (.inl x2), some (.inl x3), some (.inl (x4 + 1))] [] M Q) ∧ (ab_and x4 x1 = 0 → (0 ≤ x4 ∧ x4 < 64) ∧ (M 89 x4.toNat = 0 → ab_rg (x4 + 1) ∧ ab_wp d 100 5 [some (.inr (.inr 0)), some (.inl x1), some (.inl x2), some (.inl x3), some (.inl (x4 + 1))] [] M Q) ∧ (M 89 x4.toNat ≠ 0 → ∃ r1 M1, ab_ev (d - 1) 60 [.inr (.inr t), .inl x4] M (some (.inl r1)) M1 ∧ pu_str t M1 ∧ ab_rg (x4 + 1) ∧ ab_wp d 100 5 [some (.inr (.inr 0)), some (.inl x1), some (.inl x2), some (.inl (if x3 < r1 then r1 else x3)), some (.inl (x4 + 1))] [] M1 Q)))) : ab_wp d 100 5 [some (.inr (.inr 0)), some (.inl x1), some (.inl x2), some (.inl x3), some (.inl x4)] [] M Q := by
  refine wp_sts 2 (pc' := 8) (ls' := [some (.inr (.inr 0)), some (.inl x1), some (.inl x2), some (.inl x3), some (.inl x4)]) (st' := [.inl x2, .inl x4]) (M' := M) rfl ?_
  refine c2_gt rfl (fun c => ?_) (fun c => ?_)
  · replace h := h.1 c
    refine wp_sts 1 (pc' := 52) (ls' := [some (.inr (.inr 0)), some (.inl x1), some (.inl x2), some (.inl x3), some (.inl x4)]) (st' := [.inl x3]) (M' := M) rfl ?_
    exact wp_ret rfl rfl (z := (some (.inl x3), M)) rfl h
  · replace h := h.2 c
    refine wp_sts 3 (pc' := 15) (ls' := [some (.inr (.inr 0)), some (.inl x1), some (.inl x2), some (.inl x3), some (.inl x4)]) (st' := [.inl (ab_and x4 x1)]) (M' := M) rfl ?_
    refine c1_ne rfl (fun c => ?_) (fun c => ?_)
    · replace h := h.1 c
      obtain ⟨hf1, h⟩ := h
      refine w_iinc rfl rfl hf1 ?_
      refine wp_sts 1 (pc' := 5) (ls' := [some (.inr (.inr 0)), some (.inl x1), some (.inl x2), some (.inl x3), some (.inl (x4 + 1))]) (st' := []) (M' := M) rfl ?_
      exact h
    · replace h := h.2 c
      refine wp_sts 1 (pc' := 19) (ls' := [some (.inr (.inr 0)), some (.inl x1), some (.inl x2), some (.inl x3), some (.inl x4)]) (st' := [.inr (.inr 0)]) (M' := M) rfl ?_
      refine g_getR (j := 86) rfl hS rfl (str_r hS 0 10 86 rfl) (by decide) ?_
      refine g_getR (j := 89) rfl hS rfl (str_r hS 86 2 89 rfl) (by decide) ?_
      refine wp_sts 1 (pc' := 27) (ls' := [some (.inr (.inr 0)), some (.inl x1), some (.inl x2), some (.inl x3), some (.inl x4)]) (st' := [.inl x4, .inr (.inr 89)]) (M' := M) rfl ?_
      obtain ⟨hf1, h⟩ := h
      refine g_bald (n := 64) rfl hS rfl hf1 ?_
      refine c1_eq rfl (fun c => ?_) (fun c => ?_)
      · replace h := h.1 c
        obtain ⟨hf2, h⟩ := h
        refine w_iinc rfl rfl hf2 ?_
        refine wp_sts 1 (pc' := 5) (ls' := [some (.inr (.inr 0)), some (.inl x1), some (.inl x2), some (.inl x3), some (.inl (x4 + 1))]) (st' := []) (M' := M) rfl ?_
        exact h
      · replace h := h.2 c
        refine wp_sts 2 (pc' := 33) (ls' := [some (.inr (.inr 0)), some (.inl x1), some (.inl x2), some (.inl x3), some (.inl x4)]) (st' := [.inr (.inr 0), .inl x3]) (M' := M) rfl ?_
        refine g_getR (j := t) rfl hS rfl hS.2.2.2.1 (fT (P := fun z => z < 1000) hS.2.2.1 (by decide) (by decide)) ?_
        refine wp_sts 1 (pc' := 38) (ls' := [some (.inr (.inr 0)), some (.inl x1), some (.inl x2), some (.inl x3), some (.inl x4)]) (st' := [.inl x4, .inr (.inr t), .inl x3]) (M' := M) rfl ?_
        obtain ⟨r1, M1, he, hS1, h⟩ := h
        refine g_callI (c := 60) (as := [.inr (.inr t), .inl x4]) (rs := [.inl x3]) rfl rfl hS hd (fT (P := fun z => ab_argsN (.invokevirtual 153, 1, 60, 2) [.inl x4, .inr (.inr z), .inl x3] = some (60, [.inr (.inr z), .inl x4], [.inl x3])) hS.2.2.1 rfl rfl) he ?_
        refine wp_sts 1 rfl ?_
        refine wp_sts 1 (pc' := 45) (ls' := [some (.inr (.inr 0)), some (.inl x1), some (.inl x2), some (.inl (if x3 < r1 then r1 else x3)), some (.inl x4)]) (st' := []) (M' := M1) rfl ?_
        obtain ⟨hf2, h⟩ := h
        refine w_iinc rfl rfl hf2 ?_
        refine wp_sts 1 (pc' := 5) (ls' := [some (.inr (.inr 0)), some (.inl x1), some (.inl x2), some (.inl (if x3 < r1 then r1 else x3)), some (.inl (x4 + 1))]) (st' := []) (M' := M1) rfl ?_
        exact h
/- LoneAdjective.sellMinute, at 0 -/
theorem b101_0 {d t : Nat}   {M : ab_M} {Q : Option ab_V → ab_M → Prop} (hd : 1 ≤ d) (hS : pu_str t M)  (h : ∃ r1 M1, ab_ev (d - 1) 103 [.inr (.inr 0), .inl ((-1))] M (some (.inl r1)) M1 ∧ pu_str t M1 ∧ (r1 ≠ (-1) → ∃ r2 M2, ab_ev (d - 1) 103 [.inr (.inr 0), .inl r1] M1 (some (.inl r2)) M2 ∧ pu_str t M2 ∧ (0 ≤ r1 ∧ r1 < 6) ∧ (r2 ≠ (-1) → ∃ r3 M3, ab_ev (d - 1) 102 [.inr (.inr 0), .inl r2] M2 (some (.inl r3)) M3 ∧ pu_str t M3 ∧ ab_wp d 101 39 [some (.inr (.inr 0)), some (.inl r1), some (.inl r2)] [.inl r3, .inl (M2 102 r1.toNat), .inl r1, .inr (.inr 102)] M3 Q) ∧ (r2 = (-1) → ab_wp d 101 39 [some (.inr (.inr 0)), some (.inl r1), some (.inl r2)] [.inl 0, .inl (M2 102 r1.toNat), .inl r1, .inr (.inr 102)] M2 Q)) ∧ (r1 = (-1) → Q none M1)) : ab_wp d 101 0 [some (.inr (.inr 0)), none, none] [] M Q := by
  refine wp_sts 2 (pc' := 2) (ls' := [some (.inr (.inr 0)), none, none]) (st' := [.inl ((-1)), .inr (.inr 0)]) (M' := M) rfl ?_
  obtain ⟨r1, M1, he, hS1, h⟩ := h
  refine g_callI (c := 103) (as := [.inr (.inr 0), .inl ((-1))]) (rs := []) rfl rfl hS hd rfl he ?_
  refine wp_sts 3 (pc' := 8) (ls' := [some (.inr (.inr 0)), some (.inl r1), none]) (st' := [.inl ((-1)), .inl r1]) (M' := M1) rfl ?_
  refine c2_ne rfl (fun c => ?_) (fun c => ?_)
  · replace h := h.1 c
    refine wp_sts 2 (pc' := 14) (ls' := [some (.inr (.inr 0)), some (.inl r1), none]) (st' := [.inl r1, .inr (.inr 0)]) (M' := M1) rfl ?_
    obtain ⟨r2, M2, he, hS2, h⟩ := h
    refine g_callI (c := 103) (as := [.inr (.inr 0), .inl r1]) (rs := []) rfl rfl hS1 hd rfl he ?_
    refine wp_sts 2 (pc' := 19) (ls' := [some (.inr (.inr 0)), some (.inl r1), some (.inl r2)]) (st' := [.inr (.inr 0)]) (M' := M2) rfl ?_
    refine g_getR (j := 102) rfl hS2 rfl (str_r hS2 0 15 102 rfl) (by decide) ?_
    refine wp_sts 2 (pc' := 24) (ls' := [some (.inr (.inr 0)), some (.inl r1), some (.inl r2)]) (st' := [.inl r1, .inr (.inr 102), .inl r1, .inr (.inr 102)]) (M' := M2) rfl ?_
    obtain ⟨hf1, h⟩ := h
    refine g_iald (n := 6) rfl hS2 rfl hf1 ?_
    refine wp_sts 2 (pc' := 27) (ls' := [some (.inr (.inr 0)), some (.inl r1), some (.inl r2)]) (st' := [.inl ((-1)), .inl r2, .inl (M2 102 r1.toNat), .inl r1, .inr (.inr 102)]) (M' := M2) rfl ?_
    refine c2_ne rfl (fun c => ?_) (fun c => ?_)
    · replace h := h.1 c
      refine wp_sts 2 (pc' := 36) (ls' := [some (.inr (.inr 0)), some (.inl r1), some (.inl r2)]) (st' := [.inl r2, .inr (.inr 0), .inl (M2 102 r1.toNat), .inl r1, .inr (.inr 102)]) (M' := M2) rfl ?_
      obtain ⟨r3, M3, he, hS3, h⟩ := h
      refine g_callI (c := 102) (as := [.inr (.inr 0), .inl r2]) (rs := [.inl (M2 102 r1.toNat), .inl r1, .inr (.inr 102)]) rfl rfl hS2 hd rfl he ?_
      exact h
    · replace h := h.2 c
      refine wp_sts 2 (pc' := 39) (ls' := [some (.inr (.inr 0)), some (.inl r1), some (.inl r2)]) (st' := [.inl 0, .inl (M2 102 r1.toNat), .inl r1, .inr (.inr 102)]) (M' := M2) rfl ?_
      exact h
  · replace h := h.2 c
    exact wp_ret rfl rfl rfl h
/- LoneAdjective.sellMinute, at 39 -/
theorem b101_39 {d t : Nat}  {x1 : Int} {x2 : Int} {x101 : Int} {x102 : Int} {x103 : Int} {M : ab_M} {Q : Option ab_V → ab_M → Prop} (hd : 1 ≤ d) (hS : pu_str t M)  (h : ab_rg (x102 + x103) ∧ (0 ≤ x101 ∧ x101 < 6) ∧ (0 ≤ x1 ∧ x1 < 6) ∧ ab_rg ((M 101 x1.toNat) + 1) ∧ Q none (ab_w (ab_w M 102 x101.toNat (x102 + x103)) 101 x1.toNat ((M 101 x1.toNat) + 1))) : ab_wp d 101 39 [some (.inr (.inr 0)), some (.inl x1), some (.inl x2)] [.inl x103, .inl x102, .inl x101, .inr (.inr 102)] M Q := by
  obtain ⟨hf1, h⟩ := h
  refine w_iadd rfl hf1 ?_
  obtain ⟨hf2, h⟩ := h
  refine g_iast (n := 6) rfl hS rfl hf2 ?_
  refine wp_sts 1 (pc' := 42) (ls' := [some (.inr (.inr 0)), some (.inl x1), some (.inl x2)]) (st' := [.inr (.inr 0)]) (M' := (ab_w M 102 x101.toNat (x102 + x103))) rfl ?_
  refine g_getR (j := 101) rfl (str_a (k := 102) (f := x101.toNat) (v := x102 + x103) hS rfl) rfl (str_r (str_a (k := 102) (f := x101.toNat) (v := x102 + x103) hS rfl) 0 14 101 rfl) (by decide) ?_
  refine wp_sts 2 (pc' := 47) (ls' := [some (.inr (.inr 0)), some (.inl x1), some (.inl x2)]) (st' := [.inl x1, .inr (.inr 101), .inl x1, .inr (.inr 101)]) (M' := (ab_w M 102 x101.toNat (x102 + x103))) rfl ?_
  obtain ⟨hf3, h⟩ := h
  refine g_iald (n := 6) rfl (str_a (k := 102) (f := x101.toNat) (v := x102 + x103) hS rfl) rfl hf3 ?_
  refine wp_sts 1 (pc' := 49) (ls' := [some (.inr (.inr 0)), some (.inl x1), some (.inl x2)]) (st' := [.inl 1, .inl (M 101 x1.toNat), .inl x1, .inr (.inr 101)]) (M' := (ab_w M 102 x101.toNat (x102 + x103))) rfl ?_
  obtain ⟨hf4, h⟩ := h
  refine w_iadd rfl hf4 ?_
  refine g_iast (n := 6) rfl (str_a (k := 102) (f := x101.toNat) (v := x102 + x103) hS rfl) rfl hf3 ?_
  exact wp_ret rfl rfl rfl h
/- LoneAdjective.bidOf, at 0 -/
theorem b102_0 {d t : Nat}  {x1 : Int} {M : ab_M} {Q : Option ab_V → ab_M → Prop} (hd : 1 ≤ d) (hS : pu_str t M)  (h : (0 ≤ x1 ∧ x1 < 6) ∧ ab_rg ((M (t + 18) x1.toNat) - (M 101 x1.toNat)) ∧ Q (some (.inl (if 0 < (M (t + 18) x1.toNat) - (M 101 x1.toNat) then (M (t + 18) x1.toNat) - (M 101 x1.toNat) else 0))) M) : ab_wp d 102 0 [some (.inr (.inr 0)), some (.inl x1)] [] M Q := by
  refine wp_sts 2 (pc' := 2) (ls' := [some (.inr (.inr 0)), some (.inl x1)]) (st' := [.inr (.inr 0), .inl 0]) (M' := M) rfl ?_
  refine g_getR (j := t) rfl hS rfl hS.2.2.2.1 (fT (P := fun z => z < 1000) hS.2.2.1 (by decide) (by decide)) ?_
  refine g_getR (j := t + 18) rfl hS (fT (P := fun z => pu_bJ 2 z 8 8 = true) hS.2.2.1 rfl rfl) (fT (P := fun z => M z 8 = ((z + 18 : Nat) : Int)) hS.2.2.1 (str_r hS 5 8 23 rfl) (str_r hS 37 8 55 rfl)) (fT (P := fun z => z + 18 < 1000) hS.2.2.1 (by decide) (by decide)) ?_
  refine wp_sts 1 (pc' := 9) (ls' := [some (.inr (.inr 0)), some (.inl x1)]) (st' := [.inl x1, .inr (.inr (t + 18)), .inl 0]) (M' := M) rfl ?_
  obtain ⟨hf1, h⟩ := h
  refine g_iald (n := 6) rfl hS (fT (P := fun z => ab_arB 20 (z + 18) 6 = true) hS.2.2.1 rfl rfl) hf1 ?_
  refine wp_sts 1 (pc' := 11) (ls' := [some (.inr (.inr 0)), some (.inl x1)]) (st' := [.inr (.inr 0), .inl (M (t + 18) x1.toNat), .inl 0]) (M' := M) rfl ?_
  refine g_getR (j := 101) rfl hS rfl (str_r hS 0 14 101 rfl) (by decide) ?_
  refine wp_sts 1 (pc' := 15) (ls' := [some (.inr (.inr 0)), some (.inl x1)]) (st' := [.inl x1, .inr (.inr 101), .inl (M (t + 18) x1.toNat), .inl 0]) (M' := M) rfl ?_
  refine g_iald (n := 6) rfl hS rfl hf1 ?_
  obtain ⟨hf2, h⟩ := h
  refine w_isub rfl hf2 ?_
  refine wp_sts 1 rfl ?_
  exact wp_ret rfl rfl (z := (some (.inl (if 0 < (M (t + 18) x1.toNat) - (M 101 x1.toNat) then (M (t + 18) x1.toNat) - (M 101 x1.toNat) else 0)), M)) rfl h
/- LoneAdjective.highestBidder, at 0 -/
theorem b103_0 {d t : Nat}  {x1 : Int} {M : ab_M} {Q : Option ab_V → ab_M → Prop} (hd : 1 ≤ d) (hS : pu_str t M)  (h : ab_wp d 103 4 [some (.inr (.inr 0)), some (.inl x1), some (.inl ((-1))), some (.inl 0)] [] M Q) : ab_wp d 103 0 [some (.inr (.inr 0)), some (.inl x1), none, none] [] M Q := by
  refine wp_sts 4 (pc' := 4) (ls' := [some (.inr (.inr 0)), some (.inl x1), some (.inl ((-1))), some (.inl 0)]) (st' := []) (M' := M) rfl ?_
  exact h
/- LoneAdjective.highestBidder, at 4 -/
theorem b103_4 {d t : Nat}  {x1 : Int} {x2 : Int} {x3 : Int} {M : ab_M} {Q : Option ab_V → ab_M → Prop} (hd : 1 ≤ d) (hS : pu_str t M)  (h : (M t 2 ≤ x3 → Q (some (.inl x2)) M) ∧ (x3 < M t 2 → (x3 = x1 → ab_rg (x3 + 1) ∧ ab_wp d 103 4 [some (.inr (.inr 0)), some (.inl x1), some (.inl x2), some (.inl (x3 + 1))] [] M Q) ∧ (x3 ≠ x1 → (x2 = (-1) → ab_rg (x3 + 1) ∧ ab_wp d 103 4 [some (.inr (.inr 0)), some (.inl x1), some (.inl x3), some (.inl (x3 + 1))] [] M Q) ∧ (x2 ≠ (-1) → ∃ r1 M1, ab_ev (d - 1) 102 [.inr (.inr 0), .inl x3] M (some (.inl r1)) M1 ∧ pu_str t M1 ∧ ∃ r2 M2, ab_ev (d - 1) 102 [.inr (.inr 0), .inl x2] M1 (some (.inl r2)) M2 ∧ pu_str t M2 ∧ (r1 ≤ r2 → ab_rg (x3 + 1) ∧ ab_wp d 103 4 [some (.inr (.inr 0)), some (.inl x1), some (.inl x2), some (.inl (x3 + 1))] [] M2 Q) ∧ (r2 < r1 → ab_rg (x3 + 1) ∧ ab_wp d 103 4 [some (.inr (.inr 0)), some (.inl x1), some (.inl x3), some (.inl (x3 + 1))] [] M2 Q))))) : ab_wp d 103 4 [some (.inr (.inr 0)), some (.inl x1), some (.inl x2), some (.inl x3)] [] M Q := by
  refine wp_sts 2 (pc' := 6) (ls' := [some (.inr (.inr 0)), some (.inl x1), some (.inl x2), some (.inl x3)]) (st' := [.inr (.inr 0), .inl x3]) (M' := M) rfl ?_
  refine g_getR (j := t) rfl hS rfl hS.2.2.2.1 (fT (P := fun z => z < 1000) hS.2.2.1 (by decide) (by decide)) ?_
  refine g_getI rfl hS (fT (P := fun z => pu_bI z 2 8 = true) hS.2.2.1 rfl rfl) ?_
  refine c2_ge rfl (fun c => ?_) (fun c => ?_)
  · replace h := h.1 c
    refine wp_sts 1 (pc' := 47) (ls' := [some (.inr (.inr 0)), some (.inl x1), some (.inl x2), some (.inl x3)]) (st' := [.inl x2]) (M' := M) rfl ?_
    exact wp_ret rfl rfl (z := (some (.inl x2), M)) rfl h
  · replace h := h.2 c
    refine wp_sts 2 (pc' := 17) (ls' := [some (.inr (.inr 0)), some (.inl x1), some (.inl x2), some (.inl x3)]) (st' := [.inl x1, .inl x3]) (M' := M) rfl ?_
    refine c2_eq rfl (fun c => ?_) (fun c => ?_)
    · replace h := h.1 c
      obtain ⟨hf1, h⟩ := h
      refine w_iinc rfl rfl hf1 ?_
      refine wp_sts 1 (pc' := 4) (ls' := [some (.inr (.inr 0)), some (.inl x1), some (.inl x2), some (.inl (x3 + 1))]) (st' := []) (M' := M) rfl ?_
      exact h
    · replace h := h.2 c
      refine wp_sts 2 (pc' := 22) (ls' := [some (.inr (.inr 0)), some (.inl x1), some (.inl x2), some (.inl x3)]) (st' := [.inl ((-1)), .inl x2]) (M' := M) rfl ?_
      refine c2_eq rfl (fun c => ?_) (fun c => ?_)
      · replace h := h.1 c
        refine wp_sts 2 (pc' := 40) (ls' := [some (.inr (.inr 0)), some (.inl x1), some (.inl x3), some (.inl x3)]) (st' := []) (M' := M) rfl ?_
        obtain ⟨hf1, h⟩ := h
        refine w_iinc rfl rfl hf1 ?_
        refine wp_sts 1 (pc' := 4) (ls' := [some (.inr (.inr 0)), some (.inl x1), some (.inl x3), some (.inl (x3 + 1))]) (st' := []) (M' := M) rfl ?_
        exact h
      · replace h := h.2 c
        refine wp_sts 2 (pc' := 27) (ls' := [some (.inr (.inr 0)), some (.inl x1), some (.inl x2), some (.inl x3)]) (st' := [.inl x3, .inr (.inr 0)]) (M' := M) rfl ?_
        obtain ⟨r1, M1, he, hS1, h⟩ := h
        refine g_callI (c := 102) (as := [.inr (.inr 0), .inl x3]) (rs := []) rfl rfl hS hd rfl he ?_
        refine wp_sts 2 (pc' := 32) (ls' := [some (.inr (.inr 0)), some (.inl x1), some (.inl x2), some (.inl x3)]) (st' := [.inl x2, .inr (.inr 0), .inl r1]) (M' := M1) rfl ?_
        obtain ⟨r2, M2, he, hS2, h⟩ := h
        refine g_callI (c := 102) (as := [.inr (.inr 0), .inl x2]) (rs := [.inl r1]) rfl rfl hS1 hd rfl he ?_
        refine c2_le rfl (fun c => ?_) (fun c => ?_)
        · replace h := h.1 c
          obtain ⟨hf1, h⟩ := h
          refine w_iinc rfl rfl hf1 ?_
          refine wp_sts 1 (pc' := 4) (ls' := [some (.inr (.inr 0)), some (.inl x1), some (.inl x2), some (.inl (x3 + 1))]) (st' := []) (M' := M2) rfl ?_
          exact h
        · replace h := h.2 c
          refine wp_sts 2 (pc' := 40) (ls' := [some (.inr (.inr 0)), some (.inl x1), some (.inl x3), some (.inl x3)]) (st' := []) (M' := M2) rfl ?_
          obtain ⟨hf1, h⟩ := h
          refine w_iinc rfl rfl hf1 ?_
          refine wp_sts 1 (pc' := 4) (ls' := [some (.inr (.inr 0)), some (.inl x1), some (.inl x3), some (.inl (x3 + 1))]) (st' := []) (M' := M2) rfl ?_
          exact h
/- LoneAdjective.wordForMost, at 0 -/
theorem b104_0 {d t : Nat}  {x1 : Int} {M : ab_M} {Q : Option ab_V → ab_M → Prop} (hd : 1 ≤ d) (hS : pu_str t M)  (h : ab_wp d 104 7 [some (.inr (.inr 0)), some (.inl x1), some (.inl ((-1))), some (.inl ((-1))), some (.inl 0), none] [] M Q) : ab_wp d 104 0 [some (.inr (.inr 0)), some (.inl x1), none, none, none, none] [] M Q := by
  refine wp_sts 6 (pc' := 7) (ls' := [some (.inr (.inr 0)), some (.inl x1), some (.inl ((-1))), some (.inl ((-1))), some (.inl 0), none]) (st' := []) (M' := M) rfl ?_
  exact h
/- LoneAdjective.wordForMost, at 7 -/
theorem b104_7 {d t : Nat}  {x1 : Int} {x2 : Int} {x3 : Int} {x4 : Int} {y5 : Option ab_V} {M : ab_M} {Q : Option ab_V → ab_M → Prop} (hd : 1 ≤ d) (hS : pu_str t M)  (h : (M t 4 ≤ x4 → Q (some (.inl x2)) M) ∧ (x4 < M t 4 → (0 ≤ x4 ∧ x4 < 4) ∧ ∃ r1 M1, ab_ev (d - 1) 60 [.inr (.inr t), .inl (ab_and x1 (M (t + 31) x4.toNat))] M (some (.inl r1)) M1 ∧ pu_str t M1 ∧ (r1 ≤ x3 → ab_rg (x4 + 1) ∧ ab_wp d 104 7 [some (.inr (.inr 0)), some (.inl x1), some (.inl x2), some (.inl x3), some (.inl (x4 + 1)), some (.inl r1)] [] M1 Q) ∧ (x3 < r1 → ab_rg (x4 + 1) ∧ ab_wp d 104 7 [some (.inr (.inr 0)), some (.inl x1), some (.inl x4), some (.inl r1), some (.inl (x4 + 1)), some (.inl r1)] [] M1 Q))) : ab_wp d 104 7 [some (.inr (.inr 0)), some (.inl x1), some (.inl x2), some (.inl x3), some (.inl x4), y5] [] M Q := by
  refine wp_sts 2 (pc' := 10) (ls' := [some (.inr (.inr 0)), some (.inl x1), some (.inl x2), some (.inl x3), some (.inl x4), y5]) (st' := [.inr (.inr 0), .inl x4]) (M' := M) rfl ?_
  refine g_getR (j := t) rfl hS rfl hS.2.2.2.1 (fT (P := fun z => z < 1000) hS.2.2.1 (by decide) (by decide)) ?_
  refine g_getI rfl hS (fT (P := fun z => pu_bI z 4 8 = true) hS.2.2.1 rfl rfl) ?_
  refine c2_ge rfl (fun c => ?_) (fun c => ?_)
  · replace h := h.1 c
    refine wp_sts 1 (pc' := 59) (ls' := [some (.inr (.inr 0)), some (.inl x1), some (.inl x2), some (.inl x3), some (.inl x4), y5]) (st' := [.inl x2]) (M' := M) rfl ?_
    exact wp_ret rfl rfl (z := (some (.inl x2), M)) rfl h
  · replace h := h.2 c
    refine wp_sts 1 (pc' := 20) (ls' := [some (.inr (.inr 0)), some (.inl x1), some (.inl x2), some (.inl x3), some (.inl x4), y5]) (st' := [.inr (.inr 0)]) (M' := M) rfl ?_
    refine g_getR (j := t) rfl hS rfl hS.2.2.2.1 (fT (P := fun z => z < 1000) hS.2.2.1 (by decide) (by decide)) ?_
    refine wp_sts 2 (pc' := 25) (ls' := [some (.inr (.inr 0)), some (.inl x1), some (.inl x2), some (.inl x3), some (.inl x4), y5]) (st' := [.inr (.inr 0), .inl x1, .inr (.inr t)]) (M' := M) rfl ?_
    refine g_getR (j := t) rfl hS rfl hS.2.2.2.1 (fT (P := fun z => z < 1000) hS.2.2.1 (by decide) (by decide)) ?_
    refine g_getR (j := t + 31) rfl hS (fT (P := fun z => pu_bJ 2 z 15 8 = true) hS.2.2.1 rfl rfl) (fT (P := fun z => M z 15 = ((z + 31 : Nat) : Int)) hS.2.2.1 (str_r hS 5 15 36 rfl) (str_r hS 37 15 68 rfl)) (fT (P := fun z => z + 31 < 1000) hS.2.2.1 (by decide) (by decide)) ?_
    refine wp_sts 1 (pc' := 33) (ls' := [some (.inr (.inr 0)), some (.inl x1), some (.inl x2), some (.inl x3), some (.inl x4), y5]) (st' := [.inl x4, .inr (.inr (t + 31)), .inl x1, .inr (.inr t)]) (M' := M) rfl ?_
    obtain ⟨hf1, h⟩ := h
    refine g_iald (n := 4) rfl hS (fT (P := fun z => ab_arB 20 (z + 31) 4 = true) hS.2.2.1 rfl rfl) hf1 ?_
    refine wp_sts 1 (pc' := 35) (ls' := [some (.inr (.inr 0)), some (.inl x1), some (.inl x2), some (.inl x3), some (.inl x4), y5]) (st' := [.inl (ab_and x1 (M (t + 31) x4.toNat)), .inr (.inr t)]) (M' := M) rfl ?_
    obtain ⟨r1, M1, he, hS1, h⟩ := h
    refine g_callI (c := 60) (as := [.inr (.inr t), .inl (ab_and x1 (M (t + 31) x4.toNat))]) (rs := []) rfl rfl hS hd (fT (P := fun z => ab_argsN (.invokevirtual 153, 1, 60, 2) [.inl (ab_and x1 (M (t + 31) x4.toNat)), .inr (.inr z)] = some (60, [.inr (.inr z), .inl (ab_and x1 (M (t + 31) x4.toNat))], [])) hS.2.2.1 rfl rfl) he ?_
    refine wp_sts 3 (pc' := 43) (ls' := [some (.inr (.inr 0)), some (.inl x1), some (.inl x2), some (.inl x3), some (.inl x4), some (.inl r1)]) (st' := [.inl x3, .inl r1]) (M' := M1) rfl ?_
    refine c2_le rfl (fun c => ?_) (fun c => ?_)
    · replace h := h.1 c
      obtain ⟨hf2, h⟩ := h
      refine w_iinc rfl rfl hf2 ?_
      refine wp_sts 1 (pc' := 7) (ls' := [some (.inr (.inr 0)), some (.inl x1), some (.inl x2), some (.inl x3), some (.inl (x4 + 1)), some (.inl r1)]) (st' := []) (M' := M1) rfl ?_
      exact h
    · replace h := h.2 c
      refine wp_sts 4 (pc' := 52) (ls' := [some (.inr (.inr 0)), some (.inl x1), some (.inl x4), some (.inl r1), some (.inl x4), some (.inl r1)]) (st' := []) (M' := M1) rfl ?_
      obtain ⟨hf2, h⟩ := h
      refine w_iinc rfl rfl hf2 ?_
      refine wp_sts 1 (pc' := 7) (ls' := [some (.inr (.inr 0)), some (.inl x1), some (.inl x4), some (.inl r1), some (.inl (x4 + 1)), some (.inl r1)]) (st' := []) (M' := M1) rfl ?_
      exact h
/- LoneAdjective.mostVoted, at 0 -/
theorem b105_0 {d t : Nat}   {M : ab_M} {Q : Option ab_V → ab_M → Prop} (hd : 1 ≤ d) (hS : pu_str t M)  (h : ab_wp d 105 6 [some (.inr (.inr 0)), some (.inl ((-1))), some (.inl 0), some (.inl 0)] [] M Q) : ab_wp d 105 0 [some (.inr (.inr 0)), none, none, none] [] M Q := by
  refine wp_sts 6 (pc' := 6) (ls' := [some (.inr (.inr 0)), some (.inl ((-1))), some (.inl 0), some (.inl 0)]) (st' := []) (M' := M) rfl ?_
  exact h
/- LoneAdjective.mostVoted, at 6 -/
theorem b105_6 {d t : Nat}  {x1 : Int} {x2 : Int} {x3 : Int} {M : ab_M} {Q : Option ab_V → ab_M → Prop} (hd : 1 ≤ d) (hS : pu_str t M)  (h : (M t 4 ≤ x3 → Q (some (.inl x1)) M) ∧ (x3 < M t 4 → (0 ≤ x3 ∧ x3 < 6) ∧ (M 101 x3.toNat ≤ x2 → ab_rg (x3 + 1) ∧ ab_wp d 105 6 [some (.inr (.inr 0)), some (.inl x1), some (.inl x2), some (.inl (x3 + 1))] [] M Q) ∧ (x2 < M 101 x3.toNat → ab_rg (x3 + 1) ∧ ab_wp d 105 6 [some (.inr (.inr 0)), some (.inl x3), some (.inl (M 101 x3.toNat)), some (.inl (x3 + 1))] [] M Q))) : ab_wp d 105 6 [some (.inr (.inr 0)), some (.inl x1), some (.inl x2), some (.inl x3)] [] M Q := by
  refine wp_sts 2 (pc' := 8) (ls' := [some (.inr (.inr 0)), some (.inl x1), some (.inl x2), some (.inl x3)]) (st' := [.inr (.inr 0), .inl x3]) (M' := M) rfl ?_
  refine g_getR (j := t) rfl hS rfl hS.2.2.2.1 (fT (P := fun z => z < 1000) hS.2.2.1 (by decide) (by decide)) ?_
  refine g_getI rfl hS (fT (P := fun z => pu_bI z 4 8 = true) hS.2.2.1 rfl rfl) ?_
  refine c2_ge rfl (fun c => ?_) (fun c => ?_)
  · replace h := h.1 c
    refine wp_sts 1 (pc' := 43) (ls' := [some (.inr (.inr 0)), some (.inl x1), some (.inl x2), some (.inl x3)]) (st' := [.inl x1]) (M' := M) rfl ?_
    exact wp_ret rfl rfl (z := (some (.inl x1), M)) rfl h
  · replace h := h.2 c
    refine wp_sts 1 (pc' := 18) (ls' := [some (.inr (.inr 0)), some (.inl x1), some (.inl x2), some (.inl x3)]) (st' := [.inr (.inr 0)]) (M' := M) rfl ?_
    refine g_getR (j := 101) rfl hS rfl (str_r hS 0 14 101 rfl) (by decide) ?_
    refine wp_sts 1 (pc' := 22) (ls' := [some (.inr (.inr 0)), some (.inl x1), some (.inl x2), some (.inl x3)]) (st' := [.inl x3, .inr (.inr 101)]) (M' := M) rfl ?_
    obtain ⟨hf1, h⟩ := h
    refine g_iald (n := 6) rfl hS rfl hf1 ?_
    refine wp_sts 1 (pc' := 24) (ls' := [some (.inr (.inr 0)), some (.inl x1), some (.inl x2), some (.inl x3)]) (st' := [.inl x2, .inl (M 101 x3.toNat)]) (M' := M) rfl ?_
    refine c2_le rfl (fun c => ?_) (fun c => ?_)
    · replace h := h.1 c
      obtain ⟨hf2, h⟩ := h
      refine w_iinc rfl rfl hf2 ?_
      refine wp_sts 1 (pc' := 6) (ls' := [some (.inr (.inr 0)), some (.inl x1), some (.inl x2), some (.inl (x3 + 1))]) (st' := []) (M' := M) rfl ?_
      exact h
    · replace h := h.2 c
      refine wp_sts 3 (pc' := 30) (ls' := [some (.inr (.inr 0)), some (.inl x3), some (.inl x2), some (.inl x3)]) (st' := [.inr (.inr 0)]) (M' := M) rfl ?_
      refine g_getR (j := 101) rfl hS rfl (str_r hS 0 14 101 rfl) (by decide) ?_
      refine wp_sts 1 (pc' := 34) (ls' := [some (.inr (.inr 0)), some (.inl x3), some (.inl x2), some (.inl x3)]) (st' := [.inl x3, .inr (.inr 101)]) (M' := M) rfl ?_
      refine g_iald (n := 6) rfl hS rfl hf1 ?_
      refine wp_sts 1 (pc' := 36) (ls' := [some (.inr (.inr 0)), some (.inl x3), some (.inl (M 101 x3.toNat)), some (.inl x3)]) (st' := []) (M' := M) rfl ?_
      obtain ⟨hf2, h⟩ := h
      refine w_iinc rfl rfl hf2 ?_
      refine wp_sts 1 (pc' := 6) (ls' := [some (.inr (.inr 0)), some (.inl x3), some (.inl (M 101 x3.toNat)), some (.inl (x3 + 1))]) (st' := []) (M' := M) rfl ?_
      exact h
