/-! blocks -/
/- Town.clear, at 0 -/
theorem b50_0 {d t : Nat} {u : Nat}  {M : ab_M} {Q : Option ab_V → ab_M → Prop} (hd : 1 ≤ d) (hS : pu_str t M) (hu : pu_T u) (h : ab_wp d 50 27 [some (.inr (.inr u)), some (.inl 0)] [] (ab_w (ab_w (ab_w (ab_w (ab_w M u 0 0) u 1 ((-1))) u 2 0) u 3 0) u 4 0) Q) : ab_wp d 50 0 [some (.inr (.inr u)), none] [] M Q := by
  refine wp_sts 2 (pc' := 2) (ls' := [some (.inr (.inr u)), none]) (st' := [.inl 0, .inr (.inr u)]) (M' := M) rfl ?_
  refine g_putI rfl hS (fT (P := fun z => pu_bJ 0 z 0 8 = true) hu rfl rfl) ?_
  refine wp_sts 2 (pc' := 7) (ls' := [some (.inr (.inr u)), none]) (st' := [.inl ((-1)), .inr (.inr u)]) (M' := (ab_w M u 0 0)) rfl ?_
  refine g_putI rfl (str_w (k := u) (f := 0) (v := 0) hS (fT (P := fun z => pu_nr z 0 = true) hu rfl rfl)) (fT (P := fun z => pu_bJ 0 z 1 8 = true) hu rfl rfl) ?_
  refine wp_sts 2 (pc' := 12) (ls' := [some (.inr (.inr u)), none]) (st' := [.inl 0, .inr (.inr u)]) (M' := (ab_w (ab_w M u 0 0) u 1 ((-1)))) rfl ?_
  refine g_putI rfl (str_w (k := u) (f := 1) (v := (-1)) (str_w (k := u) (f := 0) (v := 0) hS (fT (P := fun z => pu_nr z 0 = true) hu rfl rfl)) (fT (P := fun z => pu_nr z 1 = true) hu rfl rfl)) (fT (P := fun z => pu_bJ 0 z 2 8 = true) hu rfl rfl) ?_
  refine wp_sts 2 (pc' := 17) (ls' := [some (.inr (.inr u)), none]) (st' := [.inl 0, .inr (.inr u)]) (M' := (ab_w (ab_w (ab_w M u 0 0) u 1 ((-1))) u 2 0)) rfl ?_
  refine g_putI rfl (str_w (k := u) (f := 2) (v := 0) (str_w (k := u) (f := 1) (v := (-1)) (str_w (k := u) (f := 0) (v := 0) hS (fT (P := fun z => pu_nr z 0 = true) hu rfl rfl)) (fT (P := fun z => pu_nr z 1 = true) hu rfl rfl)) (fT (P := fun z => pu_nr z 2 = true) hu rfl rfl)) (fT (P := fun z => pu_bJ 0 z 3 8 = true) hu rfl rfl) ?_
  refine wp_sts 2 (pc' := 22) (ls' := [some (.inr (.inr u)), none]) (st' := [.inl 0, .inr (.inr u)]) (M' := (ab_w (ab_w (ab_w (ab_w M u 0 0) u 1 ((-1))) u 2 0) u 3 0)) rfl ?_
  refine g_putI rfl (str_w (k := u) (f := 3) (v := 0) (str_w (k := u) (f := 2) (v := 0) (str_w (k := u) (f := 1) (v := (-1)) (str_w (k := u) (f := 0) (v := 0) hS (fT (P := fun z => pu_nr z 0 = true) hu rfl rfl)) (fT (P := fun z => pu_nr z 1 = true) hu rfl rfl)) (fT (P := fun z => pu_nr z 2 = true) hu rfl rfl)) (fT (P := fun z => pu_nr z 3 = true) hu rfl rfl)) (fT (P := fun z => pu_bJ 0 z 4 8 = true) hu rfl rfl) ?_
  refine wp_sts 2 (pc' := 27) (ls' := [some (.inr (.inr u)), some (.inl 0)]) (st' := []) (M' := (ab_w (ab_w (ab_w (ab_w (ab_w M u 0 0) u 1 ((-1))) u 2 0) u 3 0) u 4 0)) rfl ?_
  exact h
/- Town.clear, at 27 -/
theorem b50_27 {d t : Nat} {u : Nat} {x1 : Int} {M : ab_M} {Q : Option ab_V → ab_M → Prop} (hd : 1 ≤ d) (hS : pu_str t M) (hu : pu_T u) (h : (7 ≤ x1 → ab_wp d 50 51 [some (.inr (.inr u)), some (.inl 0)] [] M Q) ∧ (x1 < 7 → (0 ≤ x1 ∧ x1 < 7) ∧ ∃ M1, ab_ev (d - 1) 193 [.inr (.inr (u + 2 + x1.toNat)), .inl ((-1))] M none M1 ∧ pu_str t M1 ∧ ab_rg (x1 + 1) ∧ ab_wp d 50 27 [some (.inr (.inr u)), some (.inl (x1 + 1))] [] M1 Q)) : ab_wp d 50 27 [some (.inr (.inr u)), some (.inl x1)] [] M Q := by
  refine wp_sts 2 (pc' := 30) (ls' := [some (.inr (.inr u)), some (.inl x1)]) (st' := [.inl 7, .inl x1]) (M' := M) rfl ?_
  refine c2_ge rfl (fun c => ?_) (fun c => ?_)
  · replace h := h.1 c
    refine wp_sts 2 (pc' := 51) (ls' := [some (.inr (.inr u)), some (.inl 0)]) (st' := []) (M' := M) rfl ?_
    exact h
  · replace h := h.2 c
    refine wp_sts 1 (pc' := 34) (ls' := [some (.inr (.inr u)), some (.inl x1)]) (st' := [.inr (.inr u)]) (M' := M) rfl ?_
    refine g_getR (j := u + 1) rfl hS (fT (P := fun z => pu_bJ 2 z 5 8 = true) hu rfl rfl) (fT (P := fun z => M z 5 = ((z + 1 : Nat) : Int)) hu (str_r hS 5 5 6 rfl) (str_r hS 37 5 38 rfl)) (fT (P := fun z => z + 1 < 1000) hu (by decide) (by decide)) ?_
    refine wp_sts 1 (pc' := 38) (ls' := [some (.inr (.inr u)), some (.inl x1)]) (st' := [.inl x1, .inr (.inr (u + 1))]) (M' := M) rfl ?_
    obtain ⟨hf1, h⟩ := h
    refine g_aald (n := 7) (j := u + 2 + x1.toNat) rfl hS (fT (P := fun z => ab_arB 24 (z + 1) 7 = true) hu rfl rfl) hf1 (fT (P := fun z => M (z + 1) x1.toNat = ((z + 2 + x1.toNat : Nat) : Int)) hu (row_rf (n := 7) hS (by decide) hf1) (row_rf (n := 7) hS (by decide) hf1)) (fT (P := fun z => z + 2 + x1.toNat < 1000) hu (row_lt (n := 7) (by decide) hf1) (row_lt (n := 7) (by decide) hf1)) ?_
    refine wp_sts 1 (pc' := 40) (ls' := [some (.inr (.inr u)), some (.inl x1)]) (st' := [.inl ((-1)), .inr (.inr (u + 2 + x1.toNat))]) (M' := M) rfl ?_
    obtain ⟨M1, he, hS1, h⟩ := h
    refine g_callV (c := 193) (as := [.inr (.inr (u + 2 + x1.toNat)), .inl ((-1))]) (rs := []) rfl rfl hS hd rfl he ?_
    obtain ⟨hf2, h⟩ := h
    refine w_iinc rfl rfl hf2 ?_
    refine wp_sts 1 (pc' := 27) (ls' := [some (.inr (.inr u)), some (.inl (x1 + 1))]) (st' := []) (M' := M1) rfl ?_
    exact h
/- Town.clear, at 51 -/
theorem b50_51 {d t : Nat} {u : Nat} {x1 : Int} {M : ab_M} {Q : Option ab_V → ab_M → Prop} (hd : 1 ≤ d) (hS : pu_str t M) (hu : pu_T u) (h : (6 ≤ x1 → ∃ M1, ab_ev (d - 1) 193 [.inr (.inr (u + 23)), .inl ((-1))] M none M1 ∧ pu_str t M1 ∧ Q none M1) ∧ (x1 < 6 → (0 ≤ x1 ∧ x1 < 6) ∧ ∃ M1, ab_ev (d - 1) 193 [.inr (.inr (u + 25 + x1.toNat)), .inl ((-1))] M none M1 ∧ pu_str t M1 ∧ ab_rg (x1 + 1) ∧ ab_wp d 50 51 [some (.inr (.inr u)), some (.inl (x1 + 1))] [] M1 Q)) : ab_wp d 50 51 [some (.inr (.inr u)), some (.inl x1)] [] M Q := by
  refine wp_sts 2 (pc' := 54) (ls' := [some (.inr (.inr u)), some (.inl x1)]) (st' := [.inl 6, .inl x1]) (M' := M) rfl ?_
  refine c2_ge rfl (fun c => ?_) (fun c => ?_)
  · replace h := h.1 c
    refine wp_sts 1 (pc' := 74) (ls' := [some (.inr (.inr u)), some (.inl x1)]) (st' := [.inr (.inr u)]) (M' := M) rfl ?_
    refine g_getR (j := u + 23) rfl hS (fT (P := fun z => pu_bJ 2 z 13 8 = true) hu rfl rfl) (fT (P := fun z => M z 13 = ((z + 23 : Nat) : Int)) hu (str_r hS 5 13 28 rfl) (str_r hS 37 13 60 rfl)) (fT (P := fun z => z + 23 < 1000) hu (by decide) (by decide)) ?_
    refine wp_sts 1 (pc' := 78) (ls' := [some (.inr (.inr u)), some (.inl x1)]) (st' := [.inl ((-1)), .inr (.inr (u + 23))]) (M' := M) rfl ?_
    obtain ⟨M1, he, hS1, h⟩ := h
    refine g_callV (c := 193) (as := [.inr (.inr (u + 23)), .inl ((-1))]) (rs := []) rfl rfl hS hd rfl he ?_
    exact wp_ret rfl rfl rfl h
  · replace h := h.2 c
    refine wp_sts 1 (pc' := 58) (ls' := [some (.inr (.inr u)), some (.inl x1)]) (st' := [.inr (.inr u)]) (M' := M) rfl ?_
    refine g_getR (j := u + 24) rfl hS (fT (P := fun z => pu_bJ 2 z 14 8 = true) hu rfl rfl) (fT (P := fun z => M z 14 = ((z + 24 : Nat) : Int)) hu (str_r hS 5 14 29 rfl) (str_r hS 37 14 61 rfl)) (fT (P := fun z => z + 24 < 1000) hu (by decide) (by decide)) ?_
    refine wp_sts 1 (pc' := 62) (ls' := [some (.inr (.inr u)), some (.inl x1)]) (st' := [.inl x1, .inr (.inr (u + 24))]) (M' := M) rfl ?_
    obtain ⟨hf1, h⟩ := h
    refine g_aald (n := 6) (j := u + 25 + x1.toNat) rfl hS (fT (P := fun z => ab_arB 24 (z + 24) 6 = true) hu rfl rfl) hf1 (fT (P := fun z => M (z + 24) x1.toNat = ((z + 25 + x1.toNat : Nat) : Int)) hu (row_rf (n := 6) hS (by decide) hf1) (row_rf (n := 6) hS (by decide) hf1)) (fT (P := fun z => z + 25 + x1.toNat < 1000) hu (row_lt (n := 6) (by decide) hf1) (row_lt (n := 6) (by decide) hf1)) ?_
    refine wp_sts 1 (pc' := 64) (ls' := [some (.inr (.inr u)), some (.inl x1)]) (st' := [.inl ((-1)), .inr (.inr (u + 25 + x1.toNat))]) (M' := M) rfl ?_
    obtain ⟨M1, he, hS1, h⟩ := h
    refine g_callV (c := 193) (as := [.inr (.inr (u + 25 + x1.toNat)), .inl ((-1))]) (rs := []) rfl rfl hS hd rfl he ?_
    obtain ⟨hf2, h⟩ := h
    refine w_iinc rfl rfl hf2 ?_
    refine wp_sts 1 (pc' := 51) (ls' := [some (.inr (.inr u)), some (.inl (x1 + 1))]) (st' := []) (M' := M1) rfl ?_
    exact h
/- Town.isSquare, at 0 -/
theorem b51_0 {d t : Nat} {u : Nat} {x1 : Int} {M : ab_M} {Q : Option ab_V → ab_M → Prop} (hd : 1 ≤ d) (hS : pu_str t M) (hu : pu_T u) (h : (x1 < 0 → Q (some (.inl 0)) M) ∧ (0 ≤ x1 → (M u 0 ≤ x1 → Q (some (.inl 0)) M) ∧ (x1 < M u 0 → Q (some (.inl 1)) M))) : ab_wp d 51 0 [some (.inr (.inr u)), some (.inl x1)] [] M Q := by
  refine wp_sts 1 (pc' := 1) (ls' := [some (.inr (.inr u)), some (.inl x1)]) (st' := [.inl x1]) (M' := M) rfl ?_
  refine c1_lt rfl (fun c => ?_) (fun c => ?_)
  · replace h := h.1 c
    refine wp_sts 1 (pc' := 17) (ls' := [some (.inr (.inr u)), some (.inl x1)]) (st' := [.inl 0]) (M' := M) rfl ?_
    exact g_retB rfl (by decide) h
  · replace h := h.2 c
    refine wp_sts 2 (pc' := 6) (ls' := [some (.inr (.inr u)), some (.inl x1)]) (st' := [.inr (.inr u), .inl x1]) (M' := M) rfl ?_
    refine g_getI rfl hS (fT (P := fun z => pu_bI z 0 8 = true) hu rfl rfl) ?_
    refine c2_ge rfl (fun c => ?_) (fun c => ?_)
    · replace h := h.1 c
      refine wp_sts 1 (pc' := 17) (ls' := [some (.inr (.inr u)), some (.inl x1)]) (st' := [.inl 0]) (M' := M) rfl ?_
      exact g_retB rfl (by decide) h
    · replace h := h.2 c
      refine wp_sts 2 (pc' := 17) (ls' := [some (.inr (.inr u)), some (.inl x1)]) (st' := [.inl 1]) (M' := M) rfl ?_
      exact g_retB rfl (by decide) h
/- Town.isPerson, at 0 -/
theorem b52_0 {d t : Nat} {u : Nat} {x1 : Int} {M : ab_M} {Q : Option ab_V → ab_M → Prop} (hd : 1 ≤ d) (hS : pu_str t M) (hu : pu_T u) (h : (x1 < 0 → Q (some (.inl 0)) M) ∧ (0 ≤ x1 → (M u 2 ≤ x1 → Q (some (.inl 0)) M) ∧ (x1 < M u 2 → Q (some (.inl 1)) M))) : ab_wp d 52 0 [some (.inr (.inr u)), some (.inl x1)] [] M Q := by
  refine wp_sts 1 (pc' := 1) (ls' := [some (.inr (.inr u)), some (.inl x1)]) (st' := [.inl x1]) (M' := M) rfl ?_
  refine c1_lt rfl (fun c => ?_) (fun c => ?_)
  · replace h := h.1 c
    refine wp_sts 1 (pc' := 17) (ls' := [some (.inr (.inr u)), some (.inl x1)]) (st' := [.inl 0]) (M' := M) rfl ?_
    exact g_retB rfl (by decide) h
  · replace h := h.2 c
    refine wp_sts 2 (pc' := 6) (ls' := [some (.inr (.inr u)), some (.inl x1)]) (st' := [.inr (.inr u), .inl x1]) (M' := M) rfl ?_
    refine g_getI rfl hS (fT (P := fun z => pu_bI z 2 8 = true) hu rfl rfl) ?_
    refine c2_ge rfl (fun c => ?_) (fun c => ?_)
    · replace h := h.1 c
      refine wp_sts 1 (pc' := 17) (ls' := [some (.inr (.inr u)), some (.inl x1)]) (st' := [.inl 0]) (M' := M) rfl ?_
      exact g_retB rfl (by decide) h
    · replace h := h.2 c
      refine wp_sts 2 (pc' := 17) (ls' := [some (.inr (.inr u)), some (.inl x1)]) (st' := [.inl 1]) (M' := M) rfl ?_
      exact g_retB rfl (by decide) h
/- Town.areTwoPeople, at 0 -/
theorem b53_0 {d t : Nat} {u : Nat} {x1 : Int} {x2 : Int} {M : ab_M} {Q : Option ab_V → ab_M → Prop} (hd : 1 ≤ d) (hS : pu_str t M) (hu : pu_T u) (h : ∃ r1 M1, ab_ev (d - 1) 52 [.inr (.inr u), .inl x1] M (some (.inl r1)) M1 ∧ pu_str t M1 ∧ (r1 = 0 → Q (some (.inl 0)) M1) ∧ (r1 ≠ 0 → ∃ r2 M2, ab_ev (d - 1) 52 [.inr (.inr u), .inl x2] M1 (some (.inl r2)) M2 ∧ pu_str t M2 ∧ (r2 = 0 → Q (some (.inl 0)) M2) ∧ (r2 ≠ 0 → (x1 = x2 → Q (some (.inl 0)) M2) ∧ (x1 ≠ x2 → Q (some (.inl 1)) M2)))) : ab_wp d 53 0 [some (.inr (.inr u)), some (.inl x1), some (.inl x2)] [] M Q := by
  refine wp_sts 2 (pc' := 2) (ls' := [some (.inr (.inr u)), some (.inl x1), some (.inl x2)]) (st' := [.inl x1, .inr (.inr u)]) (M' := M) rfl ?_
  obtain ⟨r1, M1, he, hS1, h⟩ := h
  refine g_callI (c := 52) (as := [.inr (.inr u), .inl x1]) (rs := []) rfl rfl hS hd (fT (P := fun z => ab_argsN (.invokevirtual 72, 1, 52, 2) [.inl x1, .inr (.inr z)] = some (52, [.inr (.inr z), .inl x1], [])) hu rfl rfl) he ?_
  refine c1_eq rfl (fun c => ?_) (fun c => ?_)
  · replace h := h.1 c
    refine wp_sts 1 (pc' := 26) (ls' := [some (.inr (.inr u)), some (.inl x1), some (.inl x2)]) (st' := [.inl 0]) (M' := M1) rfl ?_
    exact g_retB rfl (by decide) h
  · replace h := h.2 c
    refine wp_sts 2 (pc' := 10) (ls' := [some (.inr (.inr u)), some (.inl x1), some (.inl x2)]) (st' := [.inl x2, .inr (.inr u)]) (M' := M1) rfl ?_
    obtain ⟨r2, M2, he, hS2, h⟩ := h
    refine g_callI (c := 52) (as := [.inr (.inr u), .inl x2]) (rs := []) rfl rfl hS1 hd (fT (P := fun z => ab_argsN (.invokevirtual 72, 1, 52, 2) [.inl x2, .inr (.inr z)] = some (52, [.inr (.inr z), .inl x2], [])) hu rfl rfl) he ?_
    refine c1_eq rfl (fun c => ?_) (fun c => ?_)
    · replace h := h.1 c
      refine wp_sts 1 (pc' := 26) (ls' := [some (.inr (.inr u)), some (.inl x1), some (.inl x2)]) (st' := [.inl 0]) (M' := M2) rfl ?_
      exact g_retB rfl (by decide) h
    · replace h := h.2 c
      refine wp_sts 2 (pc' := 18) (ls' := [some (.inr (.inr u)), some (.inl x1), some (.inl x2)]) (st' := [.inl x2, .inl x1]) (M' := M2) rfl ?_
      refine c2_eq rfl (fun c => ?_) (fun c => ?_)
      · replace h := h.1 c
        refine wp_sts 1 (pc' := 26) (ls' := [some (.inr (.inr u)), some (.inl x1), some (.inl x2)]) (st' := [.inl 0]) (M' := M2) rfl ?_
        exact g_retB rfl (by decide) h
      · replace h := h.2 c
        refine wp_sts 2 (pc' := 26) (ls' := [some (.inr (.inr u)), some (.inl x1), some (.inl x2)]) (st' := [.inl 1]) (M' := M2) rfl ?_
        exact g_retB rfl (by decide) h
/- Town.isDeed, at 0 -/
theorem b54_0 {d t : Nat} {u : Nat} {x1 : Int} {M : ab_M} {Q : Option ab_V → ab_M → Prop} (hd : 1 ≤ d) (hS : pu_str t M) (hu : pu_T u) (h : (x1 < 0 → Q (some (.inl 0)) M) ∧ (0 ≤ x1 → (M u 3 ≤ x1 → Q (some (.inl 0)) M) ∧ (x1 < M u 3 → Q (some (.inl 1)) M))) : ab_wp d 54 0 [some (.inr (.inr u)), some (.inl x1)] [] M Q := by
  refine wp_sts 1 (pc' := 1) (ls' := [some (.inr (.inr u)), some (.inl x1)]) (st' := [.inl x1]) (M' := M) rfl ?_
  refine c1_lt rfl (fun c => ?_) (fun c => ?_)
  · replace h := h.1 c
    refine wp_sts 1 (pc' := 17) (ls' := [some (.inr (.inr u)), some (.inl x1)]) (st' := [.inl 0]) (M' := M) rfl ?_
    exact g_retB rfl (by decide) h
  · replace h := h.2 c
    refine wp_sts 2 (pc' := 6) (ls' := [some (.inr (.inr u)), some (.inl x1)]) (st' := [.inr (.inr u), .inl x1]) (M' := M) rfl ?_
    refine g_getI rfl hS (fT (P := fun z => pu_bI z 3 8 = true) hu rfl rfl) ?_
    refine c2_ge rfl (fun c => ?_) (fun c => ?_)
    · replace h := h.1 c
      refine wp_sts 1 (pc' := 17) (ls' := [some (.inr (.inr u)), some (.inl x1)]) (st' := [.inl 0]) (M' := M) rfl ?_
      exact g_retB rfl (by decide) h
    · replace h := h.2 c
      refine wp_sts 2 (pc' := 17) (ls' := [some (.inr (.inr u)), some (.inl x1)]) (st' := [.inl 1]) (M' := M) rfl ?_
      exact g_retB rfl (by decide) h
/- Town.isWord, at 0 -/
theorem b55_0 {d t : Nat} {u : Nat} {x1 : Int} {M : ab_M} {Q : Option ab_V → ab_M → Prop} (hd : 1 ≤ d) (hS : pu_str t M) (hu : pu_T u) (h : (x1 < 0 → Q (some (.inl 0)) M) ∧ (0 ≤ x1 → (M u 4 ≤ x1 → Q (some (.inl 0)) M) ∧ (x1 < M u 4 → Q (some (.inl 1)) M))) : ab_wp d 55 0 [some (.inr (.inr u)), some (.inl x1)] [] M Q := by
  refine wp_sts 1 (pc' := 1) (ls' := [some (.inr (.inr u)), some (.inl x1)]) (st' := [.inl x1]) (M' := M) rfl ?_
  refine c1_lt rfl (fun c => ?_) (fun c => ?_)
  · replace h := h.1 c
    refine wp_sts 1 (pc' := 17) (ls' := [some (.inr (.inr u)), some (.inl x1)]) (st' := [.inl 0]) (M' := M) rfl ?_
    exact g_retB rfl (by decide) h
  · replace h := h.2 c
    refine wp_sts 2 (pc' := 6) (ls' := [some (.inr (.inr u)), some (.inl x1)]) (st' := [.inr (.inr u), .inl x1]) (M' := M) rfl ?_
    refine g_getI rfl hS (fT (P := fun z => pu_bI z 4 8 = true) hu rfl rfl) ?_
    refine c2_ge rfl (fun c => ?_) (fun c => ?_)
    · replace h := h.1 c
      refine wp_sts 1 (pc' := 17) (ls' := [some (.inr (.inr u)), some (.inl x1)]) (st' := [.inl 0]) (M' := M) rfl ?_
      exact g_retB rfl (by decide) h
    · replace h := h.2 c
      refine wp_sts 2 (pc' := 17) (ls' := [some (.inr (.inr u)), some (.inl x1)]) (st' := [.inl 1]) (M' := M) rfl ?_
      exact g_retB rfl (by decide) h
/- Town.measure, at 0 -/
theorem b56_0 {d t : Nat} {u : Nat}  {M : ab_M} {Q : Option ab_V → ab_M → Prop} (hd : 1 ≤ d) (hS : pu_str t M) (hu : pu_T u) (h : ab_wp d 56 2 [some (.inr (.inr u)), some (.inl 0), none, none] [] M Q) : ab_wp d 56 0 [some (.inr (.inr u)), none, none, none] [] M Q := by
  refine wp_sts 2 (pc' := 2) (ls' := [some (.inr (.inr u)), some (.inl 0), none, none]) (st' := []) (M' := M) rfl ?_
  exact h
/- Town.measure, at 2 -/
theorem b56_2 {d t : Nat} {u : Nat} {x1 : Int} {y2 : Option ab_V} {M : ab_M} {Q : Option ab_V → ab_M → Prop} (hd : 1 ≤ d) (hS : pu_str t M) (hu : pu_T u) (h : (M u 0 ≤ x1 → ab_wp d 56 59 [some (.inr (.inr u)), some (.inl 0), y2, none] [] M Q) ∧ (x1 < M u 0 → ab_wp d 56 12 [some (.inr (.inr u)), some (.inl x1), some (.inl 0), none] [] M Q)) : ab_wp d 56 2 [some (.inr (.inr u)), some (.inl x1), y2, none] [] M Q := by
  refine wp_sts 2 (pc' := 4) (ls' := [some (.inr (.inr u)), some (.inl x1), y2, none]) (st' := [.inr (.inr u), .inl x1]) (M' := M) rfl ?_
  refine g_getI rfl hS (fT (P := fun z => pu_bI z 0 8 = true) hu rfl rfl) ?_
  refine c2_ge rfl (fun c => ?_) (fun c => ?_)
  · replace h := h.1 c
    refine wp_sts 2 (pc' := 59) (ls' := [some (.inr (.inr u)), some (.inl 0), y2, none]) (st' := []) (M' := M) rfl ?_
    exact h
  · replace h := h.2 c
    refine wp_sts 2 (pc' := 12) (ls' := [some (.inr (.inr u)), some (.inl x1), some (.inl 0), none]) (st' := []) (M' := M) rfl ?_
    exact h
/- Town.measure, at 12 -/
theorem b56_12 {d t : Nat} {u : Nat} {x1 : Int} {x2 : Int} {M : ab_M} {Q : Option ab_V → ab_M → Prop} (hd : 1 ≤ d) (hS : pu_str t M) (hu : pu_T u) (h : (M u 0 ≤ x2 → ab_rg (x1 + 1) ∧ ab_wp d 56 2 [some (.inr (.inr u)), some (.inl (x1 + 1)), some (.inl x2), none] [] M Q) ∧ (x2 < M u 0 → (0 ≤ x1 ∧ x1 < 7) ∧ (x1 ≠ x2 → (0 ≤ x2 ∧ x2 < 7) ∧ ab_rg (x2 + 1) ∧ ab_wp d 56 12 [some (.inr (.inr u)), some (.inl x1), some (.inl (x2 + 1)), none] [] (ab_w M (u + 10 + x1.toNat) x2.toNat (M (u + 2 + x1.toNat) x2.toNat)) Q) ∧ (x1 = x2 → (0 ≤ x2 ∧ x2 < 7) ∧ ab_rg (x2 + 1) ∧ ab_wp d 56 12 [some (.inr (.inr u)), some (.inl x1), some (.inl (x2 + 1)), none] [] (ab_w M (u + 10 + x1.toNat) x2.toNat 0) Q))) : ab_wp d 56 12 [some (.inr (.inr u)), some (.inl x1), some (.inl x2), none] [] M Q := by
  refine wp_sts 2 (pc' := 14) (ls' := [some (.inr (.inr u)), some (.inl x1), some (.inl x2), none]) (st' := [.inr (.inr u), .inl x2]) (M' := M) rfl ?_
  refine g_getI rfl hS (fT (P := fun z => pu_bI z 0 8 = true) hu rfl rfl) ?_
  refine c2_ge rfl (fun c => ?_) (fun c => ?_)
  · replace h := h.1 c
    obtain ⟨hf1, h⟩ := h
    refine w_iinc rfl rfl hf1 ?_
    refine wp_sts 1 (pc' := 2) (ls' := [some (.inr (.inr u)), some (.inl (x1 + 1)), some (.inl x2), none]) (st' := []) (M' := M) rfl ?_
    exact h
  · replace h := h.2 c
    refine wp_sts 1 (pc' := 21) (ls' := [some (.inr (.inr u)), some (.inl x1), some (.inl x2), none]) (st' := [.inr (.inr u)]) (M' := M) rfl ?_
    refine g_getR (j := u + 9) rfl hS (fT (P := fun z => pu_bJ 2 z 6 8 = true) hu rfl rfl) (fT (P := fun z => M z 6 = ((z + 9 : Nat) : Int)) hu (str_r hS 5 6 14 rfl) (str_r hS 37 6 46 rfl)) (fT (P := fun z => z + 9 < 1000) hu (by decide) (by decide)) ?_
    refine wp_sts 1 (pc' := 25) (ls' := [some (.inr (.inr u)), some (.inl x1), some (.inl x2), none]) (st' := [.inl x1, .inr (.inr (u + 9))]) (M' := M) rfl ?_
    obtain ⟨hf1, h⟩ := h
    refine g_aald (n := 7) (j := u + 10 + x1.toNat) rfl hS (fT (P := fun z => ab_arB 24 (z + 9) 7 = true) hu rfl rfl) hf1 (fT (P := fun z => M (z + 9) x1.toNat = ((z + 10 + x1.toNat : Nat) : Int)) hu (row_rf (n := 7) hS (by decide) hf1) (row_rf (n := 7) hS (by decide) hf1)) (fT (P := fun z => z + 10 + x1.toNat < 1000) hu (row_lt (n := 7) (by decide) hf1) (row_lt (n := 7) (by decide) hf1)) ?_
    refine wp_sts 3 (pc' := 29) (ls' := [some (.inr (.inr u)), some (.inl x1), some (.inl x2), none]) (st' := [.inl x2, .inl x1, .inl x2, .inr (.inr (u + 10 + x1.toNat))]) (M' := M) rfl ?_
    refine c2_ne rfl (fun c => ?_) (fun c => ?_)
    · replace h := h.1 c
      refine wp_sts 1 (pc' := 37) (ls' := [some (.inr (.inr u)), some (.inl x1), some (.inl x2), none]) (st' := [.inr (.inr u), .inl x2, .inr (.inr (u + 10 + x1.toNat))]) (M' := M) rfl ?_
      refine g_getR (j := u + 1) rfl hS (fT (P := fun z => pu_bJ 2 z 5 8 = true) hu rfl rfl) (fT (P := fun z => M z 5 = ((z + 1 : Nat) : Int)) hu (str_r hS 5 5 6 rfl) (str_r hS 37 5 38 rfl)) (fT (P := fun z => z + 1 < 1000) hu (by decide) (by decide)) ?_
      refine wp_sts 1 (pc' := 41) (ls' := [some (.inr (.inr u)), some (.inl x1), some (.inl x2), none]) (st' := [.inl x1, .inr (.inr (u + 1)), .inl x2, .inr (.inr (u + 10 + x1.toNat))]) (M' := M) rfl ?_
      refine g_aald (n := 7) (j := u + 2 + x1.toNat) rfl hS (fT (P := fun z => ab_arB 24 (z + 1) 7 = true) hu rfl rfl) hf1 (fT (P := fun z => M (z + 1) x1.toNat = ((z + 2 + x1.toNat : Nat) : Int)) hu (row_rf (n := 7) hS (by decide) hf1) (row_rf (n := 7) hS (by decide) hf1)) (fT (P := fun z => z + 2 + x1.toNat < 1000) hu (row_lt (n := 7) (by decide) hf1) (row_lt (n := 7) (by decide) hf1)) ?_
      refine wp_sts 1 (pc' := 43) (ls' := [some (.inr (.inr u)), some (.inl x1), some (.inl x2), none]) (st' := [.inl x2, .inr (.inr (u + 2 + x1.toNat)), .inl x2, .inr (.inr (u + 10 + x1.toNat))]) (M' := M) rfl ?_
      obtain ⟨hf2, h⟩ := h
      refine g_iald (n := 7) rfl hS (fT (P := fun z => ab_arB 20 (z + 2 + x1.toNat) 7 = true) hu (row_ar (n := 7) (by decide) hf1) (row_ar (n := 7) (by decide) hf1)) hf2 ?_
      refine g_iast (n := 7) rfl hS (fT (P := fun z => ab_arB 20 (z + 10 + x1.toNat) 7 = true) hu (row_ar (n := 7) (by decide) hf1) (row_ar (n := 7) (by decide) hf1)) hf2 ?_
      obtain ⟨hf3, h⟩ := h
      refine w_iinc rfl rfl hf3 ?_
      refine wp_sts 1 (pc' := 12) (ls' := [some (.inr (.inr u)), some (.inl x1), some (.inl (x2 + 1)), none]) (st' := []) (M' := (ab_w M (u + 10 + x1.toNat) x2.toNat (M (u + 2 + x1.toNat) x2.toNat))) rfl ?_
      exact h
    · replace h := h.2 c
      refine wp_sts 2 (pc' := 44) (ls' := [some (.inr (.inr u)), some (.inl x1), some (.inl x2), none]) (st' := [.inl 0, .inl x2, .inr (.inr (u + 10 + x1.toNat))]) (M' := M) rfl ?_
      obtain ⟨hf2, h⟩ := h
      refine g_iast (n := 7) rfl hS (fT (P := fun z => ab_arB 20 (z + 10 + x1.toNat) 7 = true) hu (row_ar (n := 7) (by decide) hf1) (row_ar (n := 7) (by decide) hf1)) hf2 ?_
      obtain ⟨hf3, h⟩ := h
      refine w_iinc rfl rfl hf3 ?_
      refine wp_sts 1 (pc' := 12) (ls' := [some (.inr (.inr u)), some (.inl x1), some (.inl (x2 + 1)), none]) (st' := []) (M' := (ab_w M (u + 10 + x1.toNat) x2.toNat 0)) rfl ?_
      exact h
/- Town.measure, at 59 -/
theorem b56_59 {d t : Nat} {u : Nat} {x1 : Int} {y2 : Option ab_V} {y3 : Option ab_V} {M : ab_M} {Q : Option ab_V → ab_M → Prop} (hd : 1 ≤ d) (hS : pu_str t M) (hu : pu_T u) (h : (M u 0 ≤ x1 → Q none M) ∧ (x1 < M u 0 → ab_wp d 56 69 [some (.inr (.inr u)), some (.inl x1), some (.inl 0), y3] [] M Q)) : ab_wp d 56 59 [some (.inr (.inr u)), some (.inl x1), y2, y3] [] M Q := by
  refine wp_sts 2 (pc' := 61) (ls' := [some (.inr (.inr u)), some (.inl x1), y2, y3]) (st' := [.inr (.inr u), .inl x1]) (M' := M) rfl ?_
  refine g_getI rfl hS (fT (P := fun z => pu_bI z 0 8 = true) hu rfl rfl) ?_
  refine c2_ge rfl (fun c => ?_) (fun c => ?_)
  · replace h := h.1 c
    exact wp_ret rfl rfl rfl h
  · replace h := h.2 c
    refine wp_sts 2 (pc' := 69) (ls' := [some (.inr (.inr u)), some (.inl x1), some (.inl 0), y3]) (st' := []) (M' := M) rfl ?_
    exact h
/- Town.measure, at 69 -/
theorem b56_69 {d t : Nat} {u : Nat} {x1 : Int} {x2 : Int} {y3 : Option ab_V} {M : ab_M} {Q : Option ab_V → ab_M → Prop} (hd : 1 ≤ d) (hS : pu_str t M) (hu : pu_T u) (h : (M u 0 ≤ x2 → ab_rg (x1 + 1) ∧ ab_wp d 56 59 [some (.inr (.inr u)), some (.inl (x1 + 1)), some (.inl x2), y3] [] M Q) ∧ (x2 < M u 0 → ab_wp d 56 79 [some (.inr (.inr u)), some (.inl x1), some (.inl x2), some (.inl 0)] [] M Q)) : ab_wp d 56 69 [some (.inr (.inr u)), some (.inl x1), some (.inl x2), y3] [] M Q := by
  refine wp_sts 2 (pc' := 71) (ls' := [some (.inr (.inr u)), some (.inl x1), some (.inl x2), y3]) (st' := [.inr (.inr u), .inl x2]) (M' := M) rfl ?_
  refine g_getI rfl hS (fT (P := fun z => pu_bI z 0 8 = true) hu rfl rfl) ?_
  refine c2_ge rfl (fun c => ?_) (fun c => ?_)
  · replace h := h.1 c
    obtain ⟨hf1, h⟩ := h
    refine w_iinc rfl rfl hf1 ?_
    refine wp_sts 1 (pc' := 59) (ls' := [some (.inr (.inr u)), some (.inl (x1 + 1)), some (.inl x2), y3]) (st' := []) (M' := M) rfl ?_
    exact h
  · replace h := h.2 c
    refine wp_sts 2 (pc' := 79) (ls' := [some (.inr (.inr u)), some (.inl x1), some (.inl x2), some (.inl 0)]) (st' := []) (M' := M) rfl ?_
    exact h
/- Town.measure, at 79 -/
theorem b56_79 {d t : Nat} {u : Nat} {x1 : Int} {x2 : Int} {x3 : Int} {M : ab_M} {Q : Option ab_V → ab_M → Prop} (hd : 1 ≤ d) (hS : pu_str t M) (hu : pu_T u) (h : (M u 0 ≤ x3 → ab_rg (x2 + 1) ∧ ab_wp d 56 69 [some (.inr (.inr u)), some (.inl x1), some (.inl (x2 + 1)), some (.inl x3)] [] M Q) ∧ (x3 < M u 0 → ∃ M1, ab_ev (d - 1) 57 [.inr (.inr u), .inl x2, .inl x1, .inl x3] M none M1 ∧ pu_str t M1 ∧ ab_rg (x3 + 1) ∧ ab_wp d 56 79 [some (.inr (.inr u)), some (.inl x1), some (.inl x2), some (.inl (x3 + 1))] [] M1 Q)) : ab_wp d 56 79 [some (.inr (.inr u)), some (.inl x1), some (.inl x2), some (.inl x3)] [] M Q := by
  refine wp_sts 2 (pc' := 81) (ls' := [some (.inr (.inr u)), some (.inl x1), some (.inl x2), some (.inl x3)]) (st' := [.inr (.inr u), .inl x3]) (M' := M) rfl ?_
  refine g_getI rfl hS (fT (P := fun z => pu_bI z 0 8 = true) hu rfl rfl) ?_
  refine c2_ge rfl (fun c => ?_) (fun c => ?_)
  · replace h := h.1 c
    obtain ⟨hf1, h⟩ := h
    refine w_iinc rfl rfl hf1 ?_
    refine wp_sts 1 (pc' := 69) (ls' := [some (.inr (.inr u)), some (.inl x1), some (.inl (x2 + 1)), some (.inl x3)]) (st' := []) (M' := M) rfl ?_
    exact h
  · replace h := h.2 c
    refine wp_sts 4 (pc' := 91) (ls' := [some (.inr (.inr u)), some (.inl x1), some (.inl x2), some (.inl x3)]) (st' := [.inl x3, .inl x1, .inl x2, .inr (.inr u)]) (M' := M) rfl ?_
    obtain ⟨M1, he, hS1, h⟩ := h
    refine g_callV (c := 57) (as := [.inr (.inr u), .inl x2, .inl x1, .inl x3]) (rs := []) rfl rfl hS hd (fT (P := fun z => ab_argsN (.invokevirtual 76, 1, 57, 4) [.inl x3, .inl x1, .inl x2, .inr (.inr z)] = some (57, [.inr (.inr z), .inl x2, .inl x1, .inl x3], [])) hu rfl rfl) he ?_
    obtain ⟨hf1, h⟩ := h
    refine w_iinc rfl rfl hf1 ?_
    refine wp_sts 1 (pc' := 79) (ls' := [some (.inr (.inr u)), some (.inl x1), some (.inl x2), some (.inl (x3 + 1))]) (st' := []) (M' := M1) rfl ?_
    exact h
/- Town.shorten, at 0 -/
theorem b57_0 {d t : Nat} {u : Nat} {x1 : Int} {x2 : Int} {x3 : Int} {M : ab_M} {Q : Option ab_V → ab_M → Prop} (hd : 1 ≤ d) (hS : pu_str t M) (hu : pu_T u) (h : (0 ≤ x1 ∧ x1 < 7) ∧ (0 ≤ x2 ∧ x2 < 7) ∧ (M (u + 10 + x1.toNat) x2.toNat = (-1) → Q none M) ∧ (M (u + 10 + x1.toNat) x2.toNat ≠ (-1) → (0 ≤ x3 ∧ x3 < 7) ∧ (M (u + 10 + x2.toNat) x3.toNat ≠ (-1) → ab_rg ((M (u + 10 + x1.toNat) x2.toNat) + (M (u + 10 + x2.toNat) x3.toNat)) ∧ (M (u + 10 + x1.toNat) x3.toNat = (-1) → Q none (ab_w M (u + 10 + x1.toNat) x3.toNat ((M (u + 10 + x1.toNat) x2.toNat) + (M (u + 10 + x2.toNat) x3.toNat)))) ∧ (M (u + 10 + x1.toNat) x3.toNat ≠ (-1) → (M (u + 10 + x1.toNat) x3.toNat ≤ (M (u + 10 + x1.toNat) x2.toNat) + (M (u + 10 + x2.toNat) x3.toNat) → Q none M) ∧ ((M (u + 10 + x1.toNat) x2.toNat) + (M (u + 10 + x2.toNat) x3.toNat) < M (u + 10 + x1.toNat) x3.toNat → Q none (ab_w M (u + 10 + x1.toNat) x3.toNat ((M (u + 10 + x1.toNat) x2.toNat) + (M (u + 10 + x2.toNat) x3.toNat)))))) ∧ (M (u + 10 + x2.toNat) x3.toNat = (-1) → Q none M))) : ab_wp d 57 0 [some (.inr (.inr u)), some (.inl x1), some (.inl x2), some (.inl x3), none] [] M Q := by
  refine wp_sts 1 (pc' := 1) (ls' := [some (.inr (.inr u)), some (.inl x1), some (.inl x2), some (.inl x3), none]) (st' := [.inr (.inr u)]) (M' := M) rfl ?_
  refine g_getR (j := u + 9) rfl hS (fT (P := fun z => pu_bJ 2 z 6 8 = true) hu rfl rfl) (fT (P := fun z => M z 6 = ((z + 9 : Nat) : Int)) hu (str_r hS 5 6 14 rfl) (str_r hS 37 6 46 rfl)) (fT (P := fun z => z + 9 < 1000) hu (by decide) (by decide)) ?_
  refine wp_sts 1 (pc' := 5) (ls' := [some (.inr (.inr u)), some (.inl x1), some (.inl x2), some (.inl x3), none]) (st' := [.inl x1, .inr (.inr (u + 9))]) (M' := M) rfl ?_
  obtain ⟨hf1, h⟩ := h
  refine g_aald (n := 7) (j := u + 10 + x1.toNat) rfl hS (fT (P := fun z => ab_arB 24 (z + 9) 7 = true) hu rfl rfl) hf1 (fT (P := fun z => M (z + 9) x1.toNat = ((z + 10 + x1.toNat : Nat) : Int)) hu (row_rf (n := 7) hS (by decide) hf1) (row_rf (n := 7) hS (by decide) hf1)) (fT (P := fun z => z + 10 + x1.toNat < 1000) hu (row_lt (n := 7) (by decide) hf1) (row_lt (n := 7) (by decide) hf1)) ?_
  refine wp_sts 1 (pc' := 7) (ls' := [some (.inr (.inr u)), some (.inl x1), some (.inl x2), some (.inl x3), none]) (st' := [.inl x2, .inr (.inr (u + 10 + x1.toNat))]) (M' := M) rfl ?_
  obtain ⟨hf2, h⟩ := h
  refine g_iald (n := 7) rfl hS (fT (P := fun z => ab_arB 20 (z + 10 + x1.toNat) 7 = true) hu (row_ar (n := 7) (by decide) hf1) (row_ar (n := 7) (by decide) hf1)) hf2 ?_
  refine wp_sts 1 (pc' := 9) (ls' := [some (.inr (.inr u)), some (.inl x1), some (.inl x2), some (.inl x3), none]) (st' := [.inl ((-1)), .inl (M (u + 10 + x1.toNat) x2.toNat)]) (M' := M) rfl ?_
  refine c2_eq rfl (fun c => ?_) (fun c => ?_)
  · replace h := h.1 c
    exact wp_ret rfl rfl rfl h
  · replace h := h.2 c
    refine wp_sts 1 (pc' := 13) (ls' := [some (.inr (.inr u)), some (.inl x1), some (.inl x2), some (.inl x3), none]) (st' := [.inr (.inr u)]) (M' := M) rfl ?_
    refine g_getR (j := u + 9) rfl hS (fT (P := fun z => pu_bJ 2 z 6 8 = true) hu rfl rfl) (fT (P := fun z => M z 6 = ((z + 9 : Nat) : Int)) hu (str_r hS 5 6 14 rfl) (str_r hS 37 6 46 rfl)) (fT (P := fun z => z + 9 < 1000) hu (by decide) (by decide)) ?_
    refine wp_sts 1 (pc' := 17) (ls' := [some (.inr (.inr u)), some (.inl x1), some (.inl x2), some (.inl x3), none]) (st' := [.inl x2, .inr (.inr (u + 9))]) (M' := M) rfl ?_
    refine g_aald (n := 7) (j := u + 10 + x2.toNat) rfl hS (fT (P := fun z => ab_arB 24 (z + 9) 7 = true) hu rfl rfl) hf2 (fT (P := fun z => M (z + 9) x2.toNat = ((z + 10 + x2.toNat : Nat) : Int)) hu (row_rf (n := 7) hS (by decide) hf2) (row_rf (n := 7) hS (by decide) hf2)) (fT (P := fun z => z + 10 + x2.toNat < 1000) hu (row_lt (n := 7) (by decide) hf2) (row_lt (n := 7) (by decide) hf2)) ?_
    refine wp_sts 1 (pc' := 19) (ls' := [some (.inr (.inr u)), some (.inl x1), some (.inl x2), some (.inl x3), none]) (st' := [.inl x3, .inr (.inr (u + 10 + x2.toNat))]) (M' := M) rfl ?_
    obtain ⟨hf3, h⟩ := h
    refine g_iald (n := 7) rfl hS (fT (P := fun z => ab_arB 20 (z + 10 + x2.toNat) 7 = true) hu (row_ar (n := 7) (by decide) hf2) (row_ar (n := 7) (by decide) hf2)) hf3 ?_
    refine wp_sts 1 (pc' := 21) (ls' := [some (.inr (.inr u)), some (.inl x1), some (.inl x2), some (.inl x3), none]) (st' := [.inl ((-1)), .inl (M (u + 10 + x2.toNat) x3.toNat)]) (M' := M) rfl ?_
    refine c2_ne rfl (fun c => ?_) (fun c => ?_)
    · replace h := h.1 c
      refine wp_sts 1 (pc' := 26) (ls' := [some (.inr (.inr u)), some (.inl x1), some (.inl x2), some (.inl x3), none]) (st' := [.inr (.inr u)]) (M' := M) rfl ?_
      refine g_getR (j := u + 9) rfl hS (fT (P := fun z => pu_bJ 2 z 6 8 = true) hu rfl rfl) (fT (P := fun z => M z 6 = ((z + 9 : Nat) : Int)) hu (str_r hS 5 6 14 rfl) (str_r hS 37 6 46 rfl)) (fT (P := fun z => z + 9 < 1000) hu (by decide) (by decide)) ?_
      refine wp_sts 1 (pc' := 30) (ls' := [some (.inr (.inr u)), some (.inl x1), some (.inl x2), some (.inl x3), none]) (st' := [.inl x1, .inr (.inr (u + 9))]) (M' := M) rfl ?_
      refine g_aald (n := 7) (j := u + 10 + x1.toNat) rfl hS (fT (P := fun z => ab_arB 24 (z + 9) 7 = true) hu rfl rfl) hf1 (fT (P := fun z => M (z + 9) x1.toNat = ((z + 10 + x1.toNat : Nat) : Int)) hu (row_rf (n := 7) hS (by decide) hf1) (row_rf (n := 7) hS (by decide) hf1)) (fT (P := fun z => z + 10 + x1.toNat < 1000) hu (row_lt (n := 7) (by decide) hf1) (row_lt (n := 7) (by decide) hf1)) ?_
      refine wp_sts 1 (pc' := 32) (ls' := [some (.inr (.inr u)), some (.inl x1), some (.inl x2), some (.inl x3), none]) (st' := [.inl x2, .inr (.inr (u + 10 + x1.toNat))]) (M' := M) rfl ?_
      refine g_iald (n := 7) rfl hS (fT (P := fun z => ab_arB 20 (z + 10 + x1.toNat) 7 = true) hu (row_ar (n := 7) (by decide) hf1) (row_ar (n := 7) (by decide) hf1)) hf2 ?_
      refine wp_sts 1 (pc' := 34) (ls' := [some (.inr (.inr u)), some (.inl x1), some (.inl x2), some (.inl x3), none]) (st' := [.inr (.inr u), .inl (M (u + 10 + x1.toNat) x2.toNat)]) (M' := M) rfl ?_
      refine g_getR (j := u + 9) rfl hS (fT (P := fun z => pu_bJ 2 z 6 8 = true) hu rfl rfl) (fT (P := fun z => M z 6 = ((z + 9 : Nat) : Int)) hu (str_r hS 5 6 14 rfl) (str_r hS 37 6 46 rfl)) (fT (P := fun z => z + 9 < 1000) hu (by decide) (by decide)) ?_
      refine wp_sts 1 (pc' := 38) (ls' := [some (.inr (.inr u)), some (.inl x1), some (.inl x2), some (.inl x3), none]) (st' := [.inl x2, .inr (.inr (u + 9)), .inl (M (u + 10 + x1.toNat) x2.toNat)]) (M' := M) rfl ?_
      refine g_aald (n := 7) (j := u + 10 + x2.toNat) rfl hS (fT (P := fun z => ab_arB 24 (z + 9) 7 = true) hu rfl rfl) hf2 (fT (P := fun z => M (z + 9) x2.toNat = ((z + 10 + x2.toNat : Nat) : Int)) hu (row_rf (n := 7) hS (by decide) hf2) (row_rf (n := 7) hS (by decide) hf2)) (fT (P := fun z => z + 10 + x2.toNat < 1000) hu (row_lt (n := 7) (by decide) hf2) (row_lt (n := 7) (by decide) hf2)) ?_
      refine wp_sts 1 (pc' := 40) (ls' := [some (.inr (.inr u)), some (.inl x1), some (.inl x2), some (.inl x3), none]) (st' := [.inl x3, .inr (.inr (u + 10 + x2.toNat)), .inl (M (u + 10 + x1.toNat) x2.toNat)]) (M' := M) rfl ?_
      refine g_iald (n := 7) rfl hS (fT (P := fun z => ab_arB 20 (z + 10 + x2.toNat) 7 = true) hu (row_ar (n := 7) (by decide) hf2) (row_ar (n := 7) (by decide) hf2)) hf3 ?_
      obtain ⟨hf4, h⟩ := h
      refine w_iadd rfl hf4 ?_
      refine wp_sts 2 (pc' := 45) (ls' := [some (.inr (.inr u)), some (.inl x1), some (.inl x2), some (.inl x3), some (.inl ((M (u + 10 + x1.toNat) x2.toNat) + (M (u + 10 + x2.toNat) x3.toNat)))]) (st' := [.inr (.inr u)]) (M' := M) rfl ?_
      refine g_getR (j := u + 9) rfl hS (fT (P := fun z => pu_bJ 2 z 6 8 = true) hu rfl rfl) (fT (P := fun z => M z 6 = ((z + 9 : Nat) : Int)) hu (str_r hS 5 6 14 rfl) (str_r hS 37 6 46 rfl)) (fT (P := fun z => z + 9 < 1000) hu (by decide) (by decide)) ?_
      refine wp_sts 1 (pc' := 49) (ls' := [some (.inr (.inr u)), some (.inl x1), some (.inl x2), some (.inl x3), some (.inl ((M (u + 10 + x1.toNat) x2.toNat) + (M (u + 10 + x2.toNat) x3.toNat)))]) (st' := [.inl x1, .inr (.inr (u + 9))]) (M' := M) rfl ?_
      refine g_aald (n := 7) (j := u + 10 + x1.toNat) rfl hS (fT (P := fun z => ab_arB 24 (z + 9) 7 = true) hu rfl rfl) hf1 (fT (P := fun z => M (z + 9) x1.toNat = ((z + 10 + x1.toNat : Nat) : Int)) hu (row_rf (n := 7) hS (by decide) hf1) (row_rf (n := 7) hS (by decide) hf1)) (fT (P := fun z => z + 10 + x1.toNat < 1000) hu (row_lt (n := 7) (by decide) hf1) (row_lt (n := 7) (by decide) hf1)) ?_
      refine wp_sts 1 (pc' := 51) (ls' := [some (.inr (.inr u)), some (.inl x1), some (.inl x2), some (.inl x3), some (.inl ((M (u + 10 + x1.toNat) x2.toNat) + (M (u + 10 + x2.toNat) x3.toNat)))]) (st' := [.inl x3, .inr (.inr (u + 10 + x1.toNat))]) (M' := M) rfl ?_
      refine g_iald (n := 7) rfl hS (fT (P := fun z => ab_arB 20 (z + 10 + x1.toNat) 7 = true) hu (row_ar (n := 7) (by decide) hf1) (row_ar (n := 7) (by decide) hf1)) hf3 ?_
      refine wp_sts 1 (pc' := 53) (ls' := [some (.inr (.inr u)), some (.inl x1), some (.inl x2), some (.inl x3), some (.inl ((M (u + 10 + x1.toNat) x2.toNat) + (M (u + 10 + x2.toNat) x3.toNat)))]) (st' := [.inl ((-1)), .inl (M (u + 10 + x1.toNat) x3.toNat)]) (M' := M) rfl ?_
      refine c2_eq rfl (fun c => ?_) (fun c => ?_)
      · replace h := h.1 c
        refine wp_sts 1 (pc' := 70) (ls' := [some (.inr (.inr u)), some (.inl x1), some (.inl x2), some (.inl x3), some (.inl ((M (u + 10 + x1.toNat) x2.toNat) + (M (u + 10 + x2.toNat) x3.toNat)))]) (st' := [.inr (.inr u)]) (M' := M) rfl ?_
        refine g_getR (j := u + 9) rfl hS (fT (P := fun z => pu_bJ 2 z 6 8 = true) hu rfl rfl) (fT (P := fun z => M z 6 = ((z + 9 : Nat) : Int)) hu (str_r hS 5 6 14 rfl) (str_r hS 37 6 46 rfl)) (fT (P := fun z => z + 9 < 1000) hu (by decide) (by decide)) ?_
        refine wp_sts 1 (pc' := 74) (ls' := [some (.inr (.inr u)), some (.inl x1), some (.inl x2), some (.inl x3), some (.inl ((M (u + 10 + x1.toNat) x2.toNat) + (M (u + 10 + x2.toNat) x3.toNat)))]) (st' := [.inl x1, .inr (.inr (u + 9))]) (M' := M) rfl ?_
        refine g_aald (n := 7) (j := u + 10 + x1.toNat) rfl hS (fT (P := fun z => ab_arB 24 (z + 9) 7 = true) hu rfl rfl) hf1 (fT (P := fun z => M (z + 9) x1.toNat = ((z + 10 + x1.toNat : Nat) : Int)) hu (row_rf (n := 7) hS (by decide) hf1) (row_rf (n := 7) hS (by decide) hf1)) (fT (P := fun z => z + 10 + x1.toNat < 1000) hu (row_lt (n := 7) (by decide) hf1) (row_lt (n := 7) (by decide) hf1)) ?_
        refine wp_sts 2 (pc' := 78) (ls' := [some (.inr (.inr u)), some (.inl x1), some (.inl x2), some (.inl x3), some (.inl ((M (u + 10 + x1.toNat) x2.toNat) + (M (u + 10 + x2.toNat) x3.toNat)))]) (st' := [.inl ((M (u + 10 + x1.toNat) x2.toNat) + (M (u + 10 + x2.toNat) x3.toNat)), .inl x3, .inr (.inr (u + 10 + x1.toNat))]) (M' := M) rfl ?_
        refine g_iast (n := 7) rfl hS (fT (P := fun z => ab_arB 20 (z + 10 + x1.toNat) 7 = true) hu (row_ar (n := 7) (by decide) hf1) (row_ar (n := 7) (by decide) hf1)) hf3 ?_
        exact wp_ret rfl rfl rfl h
      · replace h := h.2 c
        refine wp_sts 2 (pc' := 59) (ls' := [some (.inr (.inr u)), some (.inl x1), some (.inl x2), some (.inl x3), some (.inl ((M (u + 10 + x1.toNat) x2.toNat) + (M (u + 10 + x2.toNat) x3.toNat)))]) (st' := [.inr (.inr u), .inl ((M (u + 10 + x1.toNat) x2.toNat) + (M (u + 10 + x2.toNat) x3.toNat))]) (M' := M) rfl ?_
        refine g_getR (j := u + 9) rfl hS (fT (P := fun z => pu_bJ 2 z 6 8 = true) hu rfl rfl) (fT (P := fun z => M z 6 = ((z + 9 : Nat) : Int)) hu (str_r hS 5 6 14 rfl) (str_r hS 37 6 46 rfl)) (fT (P := fun z => z + 9 < 1000) hu (by decide) (by decide)) ?_
        refine wp_sts 1 (pc' := 63) (ls' := [some (.inr (.inr u)), some (.inl x1), some (.inl x2), some (.inl x3), some (.inl ((M (u + 10 + x1.toNat) x2.toNat) + (M (u + 10 + x2.toNat) x3.toNat)))]) (st' := [.inl x1, .inr (.inr (u + 9)), .inl ((M (u + 10 + x1.toNat) x2.toNat) + (M (u + 10 + x2.toNat) x3.toNat))]) (M' := M) rfl ?_
        refine g_aald (n := 7) (j := u + 10 + x1.toNat) rfl hS (fT (P := fun z => ab_arB 24 (z + 9) 7 = true) hu rfl rfl) hf1 (fT (P := fun z => M (z + 9) x1.toNat = ((z + 10 + x1.toNat : Nat) : Int)) hu (row_rf (n := 7) hS (by decide) hf1) (row_rf (n := 7) hS (by decide) hf1)) (fT (P := fun z => z + 10 + x1.toNat < 1000) hu (row_lt (n := 7) (by decide) hf1) (row_lt (n := 7) (by decide) hf1)) ?_
        refine wp_sts 1 (pc' := 65) (ls' := [some (.inr (.inr u)), some (.inl x1), some (.inl x2), some (.inl x3), some (.inl ((M (u + 10 + x1.toNat) x2.toNat) + (M (u + 10 + x2.toNat) x3.toNat)))]) (st' := [.inl x3, .inr (.inr (u + 10 + x1.toNat)), .inl ((M (u + 10 + x1.toNat) x2.toNat) + (M (u + 10 + x2.toNat) x3.toNat))]) (M' := M) rfl ?_
        refine g_iald (n := 7) rfl hS (fT (P := fun z => ab_arB 20 (z + 10 + x1.toNat) 7 = true) hu (row_ar (n := 7) (by decide) hf1) (row_ar (n := 7) (by decide) hf1)) hf3 ?_
        refine c2_ge rfl (fun c => ?_) (fun c => ?_)
        · replace h := h.1 c
          exact wp_ret rfl rfl rfl h
        · replace h := h.2 c
          refine wp_sts 1 (pc' := 70) (ls' := [some (.inr (.inr u)), some (.inl x1), some (.inl x2), some (.inl x3), some (.inl ((M (u + 10 + x1.toNat) x2.toNat) + (M (u + 10 + x2.toNat) x3.toNat)))]) (st' := [.inr (.inr u)]) (M' := M) rfl ?_
          refine g_getR (j := u + 9) rfl hS (fT (P := fun z => pu_bJ 2 z 6 8 = true) hu rfl rfl) (fT (P := fun z => M z 6 = ((z + 9 : Nat) : Int)) hu (str_r hS 5 6 14 rfl) (str_r hS 37 6 46 rfl)) (fT (P := fun z => z + 9 < 1000) hu (by decide) (by decide)) ?_
          refine wp_sts 1 (pc' := 74) (ls' := [some (.inr (.inr u)), some (.inl x1), some (.inl x2), some (.inl x3), some (.inl ((M (u + 10 + x1.toNat) x2.toNat) + (M (u + 10 + x2.toNat) x3.toNat)))]) (st' := [.inl x1, .inr (.inr (u + 9))]) (M' := M) rfl ?_
          refine g_aald (n := 7) (j := u + 10 + x1.toNat) rfl hS (fT (P := fun z => ab_arB 24 (z + 9) 7 = true) hu rfl rfl) hf1 (fT (P := fun z => M (z + 9) x1.toNat = ((z + 10 + x1.toNat : Nat) : Int)) hu (row_rf (n := 7) hS (by decide) hf1) (row_rf (n := 7) hS (by decide) hf1)) (fT (P := fun z => z + 10 + x1.toNat < 1000) hu (row_lt (n := 7) (by decide) hf1) (row_lt (n := 7) (by decide) hf1)) ?_
          refine wp_sts 2 (pc' := 78) (ls' := [some (.inr (.inr u)), some (.inl x1), some (.inl x2), some (.inl x3), some (.inl ((M (u + 10 + x1.toNat) x2.toNat) + (M (u + 10 + x2.toNat) x3.toNat)))]) (st' := [.inl ((M (u + 10 + x1.toNat) x2.toNat) + (M (u + 10 + x2.toNat) x3.toNat)), .inl x3, .inr (.inr (u + 10 + x1.toNat))]) (M' := M) rfl ?_
          refine g_iast (n := 7) rfl hS (fT (P := fun z => ab_arB 20 (z + 10 + x1.toNat) 7 = true) hu (row_ar (n := 7) (by decide) hf1) (row_ar (n := 7) (by decide) hf1)) hf3 ?_
          exact wp_ret rfl rfl rfl h
    · replace h := h.2 c
      exact wp_ret rfl rfl rfl h
/- Town.between, at 0 -/
theorem b58_0 {d t : Nat} {u : Nat} {x1 : Int} {x2 : Int} {M : ab_M} {Q : Option ab_V → ab_M → Prop} (hd : 1 ≤ d) (hS : pu_str t M) (hu : pu_T u) (h : ∃ r1 M1, ab_ev (d - 1) 51 [.inr (.inr u), .inl x1] M (some (.inl r1)) M1 ∧ pu_str t M1 ∧ (r1 = 0 → Q (some (.inl ((-1)))) M1) ∧ (r1 ≠ 0 → ∃ r2 M2, ab_ev (d - 1) 51 [.inr (.inr u), .inl x2] M1 (some (.inl r2)) M2 ∧ pu_str t M2 ∧ (r2 = 0 → Q (some (.inl ((-1)))) M2) ∧ (r2 ≠ 0 → (0 ≤ x1 ∧ x1 < 7) ∧ (0 ≤ x2 ∧ x2 < 7) ∧ Q (some (.inl (M2 (u + 10 + x1.toNat) x2.toNat))) M2))) : ab_wp d 58 0 [some (.inr (.inr u)), some (.inl x1), some (.inl x2)] [] M Q := by
  refine wp_sts 2 (pc' := 2) (ls' := [some (.inr (.inr u)), some (.inl x1), some (.inl x2)]) (st' := [.inl x1, .inr (.inr u)]) (M' := M) rfl ?_
  obtain ⟨r1, M1, he, hS1, h⟩ := h
  refine g_callI (c := 51) (as := [.inr (.inr u), .inl x1]) (rs := []) rfl rfl hS hd (fT (P := fun z => ab_argsN (.invokevirtual 80, 1, 51, 2) [.inl x1, .inr (.inr z)] = some (51, [.inr (.inr z), .inl x1], [])) hu rfl rfl) he ?_
  refine c1_eq rfl (fun c => ?_) (fun c => ?_)
  · replace h := h.1 c
    refine wp_sts 1 (pc' := 28) (ls' := [some (.inr (.inr u)), some (.inl x1), some (.inl x2)]) (st' := [.inl ((-1))]) (M' := M1) rfl ?_
    exact wp_ret rfl rfl (z := (some (.inl ((-1))), M1)) rfl h
  · replace h := h.2 c
    refine wp_sts 2 (pc' := 10) (ls' := [some (.inr (.inr u)), some (.inl x1), some (.inl x2)]) (st' := [.inl x2, .inr (.inr u)]) (M' := M1) rfl ?_
    obtain ⟨r2, M2, he, hS2, h⟩ := h
    refine g_callI (c := 51) (as := [.inr (.inr u), .inl x2]) (rs := []) rfl rfl hS1 hd (fT (P := fun z => ab_argsN (.invokevirtual 80, 1, 51, 2) [.inl x2, .inr (.inr z)] = some (51, [.inr (.inr z), .inl x2], [])) hu rfl rfl) he ?_
    refine c1_eq rfl (fun c => ?_) (fun c => ?_)
    · replace h := h.1 c
      refine wp_sts 1 (pc' := 28) (ls' := [some (.inr (.inr u)), some (.inl x1), some (.inl x2)]) (st' := [.inl ((-1))]) (M' := M2) rfl ?_
      exact wp_ret rfl rfl (z := (some (.inl ((-1))), M2)) rfl h
    · replace h := h.2 c
      refine wp_sts 1 (pc' := 17) (ls' := [some (.inr (.inr u)), some (.inl x1), some (.inl x2)]) (st' := [.inr (.inr u)]) (M' := M2) rfl ?_
      refine g_getR (j := u + 9) rfl hS2 (fT (P := fun z => pu_bJ 2 z 6 8 = true) hu rfl rfl) (fT (P := fun z => M2 z 6 = ((z + 9 : Nat) : Int)) hu (str_r hS2 5 6 14 rfl) (str_r hS2 37 6 46 rfl)) (fT (P := fun z => z + 9 < 1000) hu (by decide) (by decide)) ?_
      refine wp_sts 1 (pc' := 21) (ls' := [some (.inr (.inr u)), some (.inl x1), some (.inl x2)]) (st' := [.inl x1, .inr (.inr (u + 9))]) (M' := M2) rfl ?_
      obtain ⟨hf1, h⟩ := h
      refine g_aald (n := 7) (j := u + 10 + x1.toNat) rfl hS2 (fT (P := fun z => ab_arB 24 (z + 9) 7 = true) hu rfl rfl) hf1 (fT (P := fun z => M2 (z + 9) x1.toNat = ((z + 10 + x1.toNat : Nat) : Int)) hu (row_rf (n := 7) hS2 (by decide) hf1) (row_rf (n := 7) hS2 (by decide) hf1)) (fT (P := fun z => z + 10 + x1.toNat < 1000) hu (row_lt (n := 7) (by decide) hf1) (row_lt (n := 7) (by decide) hf1)) ?_
      refine wp_sts 1 (pc' := 23) (ls' := [some (.inr (.inr u)), some (.inl x1), some (.inl x2)]) (st' := [.inl x2, .inr (.inr (u + 10 + x1.toNat))]) (M' := M2) rfl ?_
      obtain ⟨hf2, h⟩ := h
      refine g_iald (n := 7) rfl hS2 (fT (P := fun z => ab_arB 20 (z + 10 + x1.toNat) 7 = true) hu (row_ar (n := 7) (by decide) hf1) (row_ar (n := 7) (by decide) hf1)) hf2 ?_
      refine wp_sts 1 (pc' := 28) (ls' := [some (.inr (.inr u)), some (.inl x1), some (.inl x2)]) (st' := [.inl (M2 (u + 10 + x1.toNat) x2.toNat)]) (M' := M2) rfl ?_
      exact wp_ret rfl rfl (z := (some (.inl (M2 (u + 10 + x1.toNat) x2.toNat)), M2)) rfl h
/- Town.squareOf, at 0 -/
theorem b59_0 {d t : Nat} {u : Nat} {x1 : Int} {M : ab_M} {Q : Option ab_V → ab_M → Prop} (hd : 1 ≤ d) (hS : pu_str t M) (hu : pu_T u) (h : ∃ r1 M1, ab_ev (d - 1) 54 [.inr (.inr u), .inl x1] M (some (.inl r1)) M1 ∧ pu_str t M1 ∧ (r1 = 0 → Q (some (.inl ((-1)))) M1) ∧ (r1 ≠ 0 → (0 ≤ x1 ∧ x1 < 6) ∧ ∃ r2 M2, ab_ev (d - 1) 52 [.inr (.inr u), .inl (M1 (u + 19) x1.toNat)] M1 (some (.inl r2)) M2 ∧ pu_str t M2 ∧ (r2 = 0 → Q (some (.inl ((-1)))) M2) ∧ (r2 ≠ 0 → (0 ≤ M2 (u + 19) x1.toNat ∧ M2 (u + 19) x1.toNat < 6) ∧ Q (some (.inl (M2 (u + 17) (M2 (u + 19) x1.toNat).toNat))) M2))) : ab_wp d 59 0 [some (.inr (.inr u)), some (.inl x1)] [] M Q := by
  refine wp_sts 2 (pc' := 2) (ls' := [some (.inr (.inr u)), some (.inl x1)]) (st' := [.inl x1, .inr (.inr u)]) (M' := M) rfl ?_
  obtain ⟨r1, M1, he, hS1, h⟩ := h
  refine g_callI (c := 54) (as := [.inr (.inr u), .inl x1]) (rs := []) rfl rfl hS hd (fT (P := fun z => ab_argsN (.invokevirtual 83, 1, 54, 2) [.inl x1, .inr (.inr z)] = some (54, [.inr (.inr z), .inl x1], [])) hu rfl rfl) he ?_
  refine c1_eq rfl (fun c => ?_) (fun c => ?_)
  · replace h := h.1 c
    refine wp_sts 1 (pc' := 36) (ls' := [some (.inr (.inr u)), some (.inl x1)]) (st' := [.inl ((-1))]) (M' := M1) rfl ?_
    exact wp_ret rfl rfl (z := (some (.inl ((-1))), M1)) rfl h
  · replace h := h.2 c
    refine wp_sts 2 (pc' := 10) (ls' := [some (.inr (.inr u)), some (.inl x1)]) (st' := [.inr (.inr u), .inr (.inr u)]) (M' := M1) rfl ?_
    refine g_getR (j := u + 19) rfl hS1 (fT (P := fun z => pu_bJ 2 z 9 8 = true) hu rfl rfl) (fT (P := fun z => M1 z 9 = ((z + 19 : Nat) : Int)) hu (str_r hS1 5 9 24 rfl) (str_r hS1 37 9 56 rfl)) (fT (P := fun z => z + 19 < 1000) hu (by decide) (by decide)) ?_
    refine wp_sts 1 (pc' := 14) (ls' := [some (.inr (.inr u)), some (.inl x1)]) (st' := [.inl x1, .inr (.inr (u + 19)), .inr (.inr u)]) (M' := M1) rfl ?_
    obtain ⟨hf1, h⟩ := h
    refine g_iald (n := 6) rfl hS1 (fT (P := fun z => ab_arB 20 (z + 19) 6 = true) hu rfl rfl) hf1 ?_
    obtain ⟨r2, M2, he, hS2, h⟩ := h
    refine g_callI (c := 52) (as := [.inr (.inr u), .inl (M1 (u + 19) x1.toNat)]) (rs := []) rfl rfl hS1 hd (fT (P := fun z => ab_argsN (.invokevirtual 72, 1, 52, 2) [.inl (M1 (u + 19) x1.toNat), .inr (.inr z)] = some (52, [.inr (.inr z), .inl (M1 (u + 19) x1.toNat)], [])) hu rfl rfl) he ?_
    refine c1_eq rfl (fun c => ?_) (fun c => ?_)
    · replace h := h.1 c
      refine wp_sts 1 (pc' := 36) (ls' := [some (.inr (.inr u)), some (.inl x1)]) (st' := [.inl ((-1))]) (M' := M2) rfl ?_
      exact wp_ret rfl rfl (z := (some (.inl ((-1))), M2)) rfl h
    · replace h := h.2 c
      refine wp_sts 1 (pc' := 22) (ls' := [some (.inr (.inr u)), some (.inl x1)]) (st' := [.inr (.inr u)]) (M' := M2) rfl ?_
      refine g_getR (j := u + 17) rfl hS2 (fT (P := fun z => pu_bJ 2 z 7 8 = true) hu rfl rfl) (fT (P := fun z => M2 z 7 = ((z + 17 : Nat) : Int)) hu (str_r hS2 5 7 22 rfl) (str_r hS2 37 7 54 rfl)) (fT (P := fun z => z + 17 < 1000) hu (by decide) (by decide)) ?_
      refine wp_sts 1 (pc' := 26) (ls' := [some (.inr (.inr u)), some (.inl x1)]) (st' := [.inr (.inr u), .inr (.inr (u + 17))]) (M' := M2) rfl ?_
      refine g_getR (j := u + 19) rfl hS2 (fT (P := fun z => pu_bJ 2 z 9 8 = true) hu rfl rfl) (fT (P := fun z => M2 z 9 = ((z + 19 : Nat) : Int)) hu (str_r hS2 5 9 24 rfl) (str_r hS2 37 9 56 rfl)) (fT (P := fun z => z + 19 < 1000) hu (by decide) (by decide)) ?_
      refine wp_sts 1 (pc' := 30) (ls' := [some (.inr (.inr u)), some (.inl x1)]) (st' := [.inl x1, .inr (.inr (u + 19)), .inr (.inr (u + 17))]) (M' := M2) rfl ?_
      refine g_iald (n := 6) rfl hS2 (fT (P := fun z => ab_arB 20 (z + 19) 6 = true) hu rfl rfl) hf1 ?_
      obtain ⟨hf2, h⟩ := h
      refine g_iald (n := 6) rfl hS2 (fT (P := fun z => ab_arB 20 (z + 17) 6 = true) hu rfl rfl) hf2 ?_
      refine wp_sts 1 (pc' := 36) (ls' := [some (.inr (.inr u)), some (.inl x1)]) (st' := [.inl (M2 (u + 17) (M2 (u + 19) x1.toNat).toNat)]) (M' := M2) rfl ?_
      exact wp_ret rfl rfl (z := (some (.inl (M2 (u + 17) (M2 (u + 19) x1.toNat).toNat)), M2)) rfl h
/- Town.worthOf, at 0 -/
theorem b60_0 {d t : Nat} {u : Nat} {x1 : Int} {M : ab_M} {Q : Option ab_V → ab_M → Prop} (hd : 1 ≤ d) (hS : pu_str t M) (hu : pu_T u) (h : ab_wp d 60 4 [some (.inr (.inr u)), some (.inl x1), some (.inl 0), some (.inl 0)] [] M Q) : ab_wp d 60 0 [some (.inr (.inr u)), some (.inl x1), none, none] [] M Q := by
  refine wp_sts 4 (pc' := 4) (ls' := [some (.inr (.inr u)), some (.inl x1), some (.inl 0), some (.inl 0)]) (st' := []) (M' := M) rfl ?_
  exact h
/- Town.worthOf, at 4 -/
theorem b60_4 {d t : Nat} {u : Nat} {x1 : Int} {x2 : Int} {x3 : Int} {M : ab_M} {Q : Option ab_V → ab_M → Prop} (hd : 1 ≤ d) (hS : pu_str t M) (hu : pu_T u) (h : (M u 3 ≤ x3 → Q (some (.inl x2)) M) ∧ (x3 < M u 3 → (ab_and (ab_shr x1 x3) 1 = 0 → ab_rg (x3 + 1) ∧ ab_wp d 60 4 [some (.inr (.inr u)), some (.inl x1), some (.inl x2), some (.inl (x3 + 1))] [] M Q) ∧ (ab_and (ab_shr x1 x3) 1 ≠ 0 → (0 ≤ x3 ∧ x3 < 6) ∧ ab_rg (x2 + (M (u + 22) x3.toNat)) ∧ ab_rg (x3 + 1) ∧ ab_wp d 60 4 [some (.inr (.inr u)), some (.inl x1), some (.inl (x2 + (M (u + 22) x3.toNat))), some (.inl (x3 + 1))] [] M Q))) : ab_wp d 60 4 [some (.inr (.inr u)), some (.inl x1), some (.inl x2), some (.inl x3)] [] M Q := by
  refine wp_sts 2 (pc' := 6) (ls' := [some (.inr (.inr u)), some (.inl x1), some (.inl x2), some (.inl x3)]) (st' := [.inr (.inr u), .inl x3]) (M' := M) rfl ?_
  refine g_getI rfl hS (fT (P := fun z => pu_bI z 3 8 = true) hu rfl rfl) ?_
  refine c2_ge rfl (fun c => ?_) (fun c => ?_)
  · replace h := h.1 c
    refine wp_sts 1 (pc' := 36) (ls' := [some (.inr (.inr u)), some (.inl x1), some (.inl x2), some (.inl x3)]) (st' := [.inl x2]) (M' := M) rfl ?_
    exact wp_ret rfl rfl (z := (some (.inl x2), M)) rfl h
  · replace h := h.2 c
    refine wp_sts 5 (pc' := 17) (ls' := [some (.inr (.inr u)), some (.inl x1), some (.inl x2), some (.inl x3)]) (st' := [.inl (ab_and (ab_shr x1 x3) 1)]) (M' := M) rfl ?_
    refine c1_eq rfl (fun c => ?_) (fun c => ?_)
    · replace h := h.1 c
      obtain ⟨hf1, h⟩ := h
      refine w_iinc rfl rfl hf1 ?_
      refine wp_sts 1 (pc' := 4) (ls' := [some (.inr (.inr u)), some (.inl x1), some (.inl x2), some (.inl (x3 + 1))]) (st' := []) (M' := M) rfl ?_
      exact h
    · replace h := h.2 c
      refine wp_sts 2 (pc' := 22) (ls' := [some (.inr (.inr u)), some (.inl x1), some (.inl x2), some (.inl x3)]) (st' := [.inr (.inr u), .inl x2]) (M' := M) rfl ?_
      refine g_getR (j := u + 22) rfl hS (fT (P := fun z => pu_bJ 2 z 12 8 = true) hu rfl rfl) (fT (P := fun z => M z 12 = ((z + 22 : Nat) : Int)) hu (str_r hS 5 12 27 rfl) (str_r hS 37 12 59 rfl)) (fT (P := fun z => z + 22 < 1000) hu (by decide) (by decide)) ?_
      refine wp_sts 1 (pc' := 26) (ls' := [some (.inr (.inr u)), some (.inl x1), some (.inl x2), some (.inl x3)]) (st' := [.inl x3, .inr (.inr (u + 22)), .inl x2]) (M' := M) rfl ?_
      obtain ⟨hf1, h⟩ := h
      refine g_iald (n := 6) rfl hS (fT (P := fun z => ab_arB 20 (z + 22) 6 = true) hu rfl rfl) hf1 ?_
      obtain ⟨hf2, h⟩ := h
      refine w_iadd rfl hf2 ?_
      refine wp_sts 1 (pc' := 29) (ls' := [some (.inr (.inr u)), some (.inl x1), some (.inl (x2 + (M (u + 22) x3.toNat))), some (.inl x3)]) (st' := []) (M' := M) rfl ?_
      obtain ⟨hf3, h⟩ := h
      refine w_iinc rfl rfl hf3 ?_
      refine wp_sts 1 (pc' := 4) (ls' := [some (.inr (.inr u)), some (.inl x1), some (.inl (x2 + (M (u + 22) x3.toNat))), some (.inl (x3 + 1))]) (st' := []) (M' := M) rfl ?_
      exact h
/- Town.costOf, at 0 -/
theorem b61_0 {d t : Nat} {u : Nat} {x1 : Int} {M : ab_M} {Q : Option ab_V → ab_M → Prop} (hd : 1 ≤ d) (hS : pu_str t M) (hu : pu_T u) (h : ab_wp d 61 4 [some (.inr (.inr u)), some (.inl x1), some (.inl 0), some (.inl 0)] [] M Q) : ab_wp d 61 0 [some (.inr (.inr u)), some (.inl x1), none, none] [] M Q := by
  refine wp_sts 4 (pc' := 4) (ls' := [some (.inr (.inr u)), some (.inl x1), some (.inl 0), some (.inl 0)]) (st' := []) (M' := M) rfl ?_
  exact h
/- Town.costOf, at 4 -/
theorem b61_4 {d t : Nat} {u : Nat} {x1 : Int} {x2 : Int} {x3 : Int} {M : ab_M} {Q : Option ab_V → ab_M → Prop} (hd : 1 ≤ d) (hS : pu_str t M) (hu : pu_T u) (h : (M u 3 ≤ x3 → Q (some (.inl x2)) M) ∧ (x3 < M u 3 → (ab_and (ab_shr x1 x3) 1 = 0 → ab_rg (x3 + 1) ∧ ab_wp d 61 4 [some (.inr (.inr u)), some (.inl x1), some (.inl x2), some (.inl (x3 + 1))] [] M Q) ∧ (ab_and (ab_shr x1 x3) 1 ≠ 0 → (0 ≤ x3 ∧ x3 < 6) ∧ (M (u + 23) x3.toNat ≠ (-1) → ab_rg (x2 + (M (u + 23) x3.toNat)) ∧ ab_rg (x3 + 1) ∧ ab_wp d 61 4 [some (.inr (.inr u)), some (.inl x1), some (.inl (x2 + (M (u + 23) x3.toNat))), some (.inl (x3 + 1))] [] M Q) ∧ (M (u + 23) x3.toNat = (-1) → Q (some (.inl ((-1)))) M)))) : ab_wp d 61 4 [some (.inr (.inr u)), some (.inl x1), some (.inl x2), some (.inl x3)] [] M Q := by
  refine wp_sts 2 (pc' := 6) (ls' := [some (.inr (.inr u)), some (.inl x1), some (.inl x2), some (.inl x3)]) (st' := [.inr (.inr u), .inl x3]) (M' := M) rfl ?_
  refine g_getI rfl hS (fT (P := fun z => pu_bI z 3 8 = true) hu rfl rfl) ?_
  refine c2_ge rfl (fun c => ?_) (fun c => ?_)
  · replace h := h.1 c
    refine wp_sts 1 (pc' := 48) (ls' := [some (.inr (.inr u)), some (.inl x1), some (.inl x2), some (.inl x3)]) (st' := [.inl x2]) (M' := M) rfl ?_
    exact wp_ret rfl rfl (z := (some (.inl x2), M)) rfl h
  · replace h := h.2 c
    refine wp_sts 5 (pc' := 17) (ls' := [some (.inr (.inr u)), some (.inl x1), some (.inl x2), some (.inl x3)]) (st' := [.inl (ab_and (ab_shr x1 x3) 1)]) (M' := M) rfl ?_
    refine c1_eq rfl (fun c => ?_) (fun c => ?_)
    · replace h := h.1 c
      obtain ⟨hf1, h⟩ := h
      refine w_iinc rfl rfl hf1 ?_
      refine wp_sts 1 (pc' := 4) (ls' := [some (.inr (.inr u)), some (.inl x1), some (.inl x2), some (.inl (x3 + 1))]) (st' := []) (M' := M) rfl ?_
      exact h
    · replace h := h.2 c
      refine wp_sts 1 (pc' := 21) (ls' := [some (.inr (.inr u)), some (.inl x1), some (.inl x2), some (.inl x3)]) (st' := [.inr (.inr u)]) (M' := M) rfl ?_
      refine g_getR (j := u + 23) rfl hS (fT (P := fun z => pu_bJ 2 z 13 8 = true) hu rfl rfl) (fT (P := fun z => M z 13 = ((z + 23 : Nat) : Int)) hu (str_r hS 5 13 28 rfl) (str_r hS 37 13 60 rfl)) (fT (P := fun z => z + 23 < 1000) hu (by decide) (by decide)) ?_
      refine wp_sts 1 (pc' := 25) (ls' := [some (.inr (.inr u)), some (.inl x1), some (.inl x2), some (.inl x3)]) (st' := [.inl x3, .inr (.inr (u + 23))]) (M' := M) rfl ?_
      obtain ⟨hf1, h⟩ := h
      refine g_iald (n := 6) rfl hS (fT (P := fun z => ab_arB 20 (z + 23) 6 = true) hu rfl rfl) hf1 ?_
      refine wp_sts 1 (pc' := 27) (ls' := [some (.inr (.inr u)), some (.inl x1), some (.inl x2), some (.inl x3)]) (st' := [.inl ((-1)), .inl (M (u + 23) x3.toNat)]) (M' := M) rfl ?_
      refine c2_ne rfl (fun c => ?_) (fun c => ?_)
      · replace h := h.1 c
        refine wp_sts 2 (pc' := 34) (ls' := [some (.inr (.inr u)), some (.inl x1), some (.inl x2), some (.inl x3)]) (st' := [.inr (.inr u), .inl x2]) (M' := M) rfl ?_
        refine g_getR (j := u + 23) rfl hS (fT (P := fun z => pu_bJ 2 z 13 8 = true) hu rfl rfl) (fT (P := fun z => M z 13 = ((z + 23 : Nat) : Int)) hu (str_r hS 5 13 28 rfl) (str_r hS 37 13 60 rfl)) (fT (P := fun z => z + 23 < 1000) hu (by decide) (by decide)) ?_
        refine wp_sts 1 (pc' := 38) (ls' := [some (.inr (.inr u)), some (.inl x1), some (.inl x2), some (.inl x3)]) (st' := [.inl x3, .inr (.inr (u + 23)), .inl x2]) (M' := M) rfl ?_
        refine g_iald (n := 6) rfl hS (fT (P := fun z => ab_arB 20 (z + 23) 6 = true) hu rfl rfl) hf1 ?_
        obtain ⟨hf2, h⟩ := h
        refine w_iadd rfl hf2 ?_
        refine wp_sts 1 (pc' := 41) (ls' := [some (.inr (.inr u)), some (.inl x1), some (.inl (x2 + (M (u + 23) x3.toNat))), some (.inl x3)]) (st' := []) (M' := M) rfl ?_
        obtain ⟨hf3, h⟩ := h
        refine w_iinc rfl rfl hf3 ?_
        refine wp_sts 1 (pc' := 4) (ls' := [some (.inr (.inr u)), some (.inl x1), some (.inl (x2 + (M (u + 23) x3.toNat))), some (.inl (x3 + 1))]) (st' := []) (M' := M) rfl ?_
        exact h
      · replace h := h.2 c
        refine wp_sts 1 (pc' := 31) (ls' := [some (.inr (.inr u)), some (.inl x1), some (.inl x2), some (.inl x3)]) (st' := [.inl ((-1))]) (M' := M) rfl ?_
        exact wp_ret rfl rfl (z := (some (.inl ((-1))), M)) rfl h
/- Town.deedsOf, at 0 -/
theorem b62_0 {d t : Nat} {u : Nat} {x1 : Int} {M : ab_M} {Q : Option ab_V → ab_M → Prop} (hd : 1 ≤ d) (hS : pu_str t M) (hu : pu_T u) (h : ab_wp d 62 4 [some (.inr (.inr u)), some (.inl x1), some (.inl 0), some (.inl 0)] [] M Q) : ab_wp d 62 0 [some (.inr (.inr u)), some (.inl x1), none, none] [] M Q := by
  refine wp_sts 4 (pc' := 4) (ls' := [some (.inr (.inr u)), some (.inl x1), some (.inl 0), some (.inl 0)]) (st' := []) (M' := M) rfl ?_
  exact h
/- Town.deedsOf, at 4 -/
theorem b62_4 {d t : Nat} {u : Nat} {x1 : Int} {x2 : Int} {x3 : Int} {M : ab_M} {Q : Option ab_V → ab_M → Prop} (hd : 1 ≤ d) (hS : pu_str t M) (hu : pu_T u) (h : (M u 3 ≤ x3 → Q (some (.inl x2)) M) ∧ (x3 < M u 3 → (0 ≤ x3 ∧ x3 < 6) ∧ (M (u + 19) x3.toNat ≠ x1 → ab_rg (x3 + 1) ∧ ab_wp d 62 4 [some (.inr (.inr u)), some (.inl x1), some (.inl x2), some (.inl (x3 + 1))] [] M Q) ∧ (M (u + 19) x3.toNat = x1 → ab_rg (x3 + 1) ∧ ab_wp d 62 4 [some (.inr (.inr u)), some (.inl x1), some (.inl (ab_or x2 (ab_shl 1 x3))), some (.inl (x3 + 1))] [] M Q))) : ab_wp d 62 4 [some (.inr (.inr u)), some (.inl x1), some (.inl x2), some (.inl x3)] [] M Q := by
  refine wp_sts 2 (pc' := 6) (ls' := [some (.inr (.inr u)), some (.inl x1), some (.inl x2), some (.inl x3)]) (st' := [.inr (.inr u), .inl x3]) (M' := M) rfl ?_
  refine g_getI rfl hS (fT (P := fun z => pu_bI z 3 8 = true) hu rfl rfl) ?_
  refine c2_ge rfl (fun c => ?_) (fun c => ?_)
  · replace h := h.1 c
    refine wp_sts 1 (pc' := 35) (ls' := [some (.inr (.inr u)), some (.inl x1), some (.inl x2), some (.inl x3)]) (st' := [.inl x2]) (M' := M) rfl ?_
    exact wp_ret rfl rfl (z := (some (.inl x2), M)) rfl h
  · replace h := h.2 c
    refine wp_sts 1 (pc' := 13) (ls' := [some (.inr (.inr u)), some (.inl x1), some (.inl x2), some (.inl x3)]) (st' := [.inr (.inr u)]) (M' := M) rfl ?_
    refine g_getR (j := u + 19) rfl hS (fT (P := fun z => pu_bJ 2 z 9 8 = true) hu rfl rfl) (fT (P := fun z => M z 9 = ((z + 19 : Nat) : Int)) hu (str_r hS 5 9 24 rfl) (str_r hS 37 9 56 rfl)) (fT (P := fun z => z + 19 < 1000) hu (by decide) (by decide)) ?_
    refine wp_sts 1 (pc' := 17) (ls' := [some (.inr (.inr u)), some (.inl x1), some (.inl x2), some (.inl x3)]) (st' := [.inl x3, .inr (.inr (u + 19))]) (M' := M) rfl ?_
    obtain ⟨hf1, h⟩ := h
    refine g_iald (n := 6) rfl hS (fT (P := fun z => ab_arB 20 (z + 19) 6 = true) hu rfl rfl) hf1 ?_
    refine wp_sts 1 (pc' := 19) (ls' := [some (.inr (.inr u)), some (.inl x1), some (.inl x2), some (.inl x3)]) (st' := [.inl x1, .inl (M (u + 19) x3.toNat)]) (M' := M) rfl ?_
    refine c2_ne rfl (fun c => ?_) (fun c => ?_)
    · replace h := h.1 c
      obtain ⟨hf2, h⟩ := h
      refine w_iinc rfl rfl hf2 ?_
      refine wp_sts 1 (pc' := 4) (ls' := [some (.inr (.inr u)), some (.inl x1), some (.inl x2), some (.inl (x3 + 1))]) (st' := []) (M' := M) rfl ?_
      exact h
    · replace h := h.2 c
      refine wp_sts 6 (pc' := 28) (ls' := [some (.inr (.inr u)), some (.inl x1), some (.inl (ab_or x2 (ab_shl 1 x3))), some (.inl x3)]) (st' := []) (M' := M) rfl ?_
      obtain ⟨hf2, h⟩ := h
      refine w_iinc rfl rfl hf2 ?_
      refine wp_sts 1 (pc' := 4) (ls' := [some (.inr (.inr u)), some (.inl x1), some (.inl (ab_or x2 (ab_shl 1 x3))), some (.inl (x3 + 1))]) (st' := []) (M' := M) rfl ?_
      exact h
/- Town.endOf, at 0 -/
theorem b63_0 {d t : Nat} {u : Nat} {x1 : Int} {x2 : Int} {x3 : Int} {M : ab_M} {Q : Option ab_V → ab_M → Prop} (hd : 1 ≤ d) (hS : pu_str t M) (hu : pu_T u) (h : ∃ r1 M1, ab_ev (d - 1) 59 [.inr (.inr u), .inl x1] M (some (.inl r1)) M1 ∧ pu_str t M1 ∧ ∃ r2 M2, ab_ev (d - 1) 58 [.inr (.inr u), .inl x2, .inl r1] M1 (some (.inl r2)) M2 ∧ pu_str t M2 ∧ (r2 = (-1) → Q (some (.inl ((-1)))) M2) ∧ (r2 ≠ (-1) → ∃ r3 M3, ab_ev (d - 1) 54 [.inr (.inr u), .inl x1] M2 (some (.inl r3)) M3 ∧ pu_str t M3 ∧ (r3 ≠ 0 → ab_rg (x3 + r2) ∧ (0 ≤ x1 ∧ x1 < 6) ∧ ab_rg ((x3 + r2) + (M3 (u + 20) x1.toNat)) ∧ ((x3 + r2) + (M3 (u + 20) x1.toNat) ≤ M3 (u + 21) x1.toNat → Q (some (.inl ((x3 + r2) + (M3 (u + 20) x1.toNat)))) M3) ∧ (M3 (u + 21) x1.toNat < (x3 + r2) + (M3 (u + 20) x1.toNat) → Q (some (.inl ((-1)))) M3)) ∧ (r3 = 0 → Q (some (.inl ((-1)))) M3))) : ab_wp d 63 0 [some (.inr (.inr u)), some (.inl x1), some (.inl x2), some (.inl x3), none, none] [] M Q := by
  refine wp_sts 4 (pc' := 4) (ls' := [some (.inr (.inr u)), some (.inl x1), some (.inl x2), some (.inl x3), none, none]) (st' := [.inl x1, .inr (.inr u), .inl x2, .inr (.inr u)]) (M' := M) rfl ?_
  obtain ⟨r1, M1, he, hS1, h⟩ := h
  refine g_callI (c := 59) (as := [.inr (.inr u), .inl x1]) (rs := [.inl x2, .inr (.inr u)]) rfl rfl hS hd (fT (P := fun z => ab_argsN (.invokevirtual 86, 1, 59, 2) [.inl x1, .inr (.inr z), .inl x2, .inr (.inr u)] = some (59, [.inr (.inr z), .inl x1], [.inl x2, .inr (.inr u)])) hu rfl rfl) he ?_
  obtain ⟨r2, M2, he, hS2, h⟩ := h
  refine g_callI (c := 58) (as := [.inr (.inr u), .inl x2, .inl r1]) (rs := []) rfl rfl hS1 hd (fT (P := fun z => ab_argsN (.invokevirtual 90, 1, 58, 3) [.inl r1, .inl x2, .inr (.inr z)] = some (58, [.inr (.inr z), .inl x2, .inl r1], [])) hu rfl rfl) he ?_
  refine wp_sts 3 (pc' := 15) (ls' := [some (.inr (.inr u)), some (.inl x1), some (.inl x2), some (.inl x3), some (.inl r2), none]) (st' := [.inl ((-1)), .inl r2]) (M' := M2) rfl ?_
  refine c2_eq rfl (fun c => ?_) (fun c => ?_)
  · replace h := h.1 c
    refine wp_sts 1 (pc' := 27) (ls' := [some (.inr (.inr u)), some (.inl x1), some (.inl x2), some (.inl x3), some (.inl r2), none]) (st' := [.inl ((-1))]) (M' := M2) rfl ?_
    exact wp_ret rfl rfl (z := (some (.inl ((-1))), M2)) rfl h
  · replace h := h.2 c
    refine wp_sts 2 (pc' := 20) (ls' := [some (.inr (.inr u)), some (.inl x1), some (.inl x2), some (.inl x3), some (.inl r2), none]) (st' := [.inl x1, .inr (.inr u)]) (M' := M2) rfl ?_
    obtain ⟨r3, M3, he, hS3, h⟩ := h
    refine g_callI (c := 54) (as := [.inr (.inr u), .inl x1]) (rs := []) rfl rfl hS2 hd (fT (P := fun z => ab_argsN (.invokevirtual 83, 1, 54, 2) [.inl x1, .inr (.inr z)] = some (54, [.inr (.inr z), .inl x1], [])) hu rfl rfl) he ?_
    refine c1_ne rfl (fun c => ?_) (fun c => ?_)
    · replace h := h.1 c
      refine wp_sts 2 (pc' := 31) (ls' := [some (.inr (.inr u)), some (.inl x1), some (.inl x2), some (.inl x3), some (.inl r2), none]) (st' := [.inl r2, .inl x3]) (M' := M3) rfl ?_
      obtain ⟨hf1, h⟩ := h
      refine w_iadd rfl hf1 ?_
      refine wp_sts 1 (pc' := 33) (ls' := [some (.inr (.inr u)), some (.inl x1), some (.inl x2), some (.inl x3), some (.inl r2), none]) (st' := [.inr (.inr u), .inl (x3 + r2)]) (M' := M3) rfl ?_
      refine g_getR (j := u + 20) rfl hS3 (fT (P := fun z => pu_bJ 2 z 10 8 = true) hu rfl rfl) (fT (P := fun z => M3 z 10 = ((z + 20 : Nat) : Int)) hu (str_r hS3 5 10 25 rfl) (str_r hS3 37 10 57 rfl)) (fT (P := fun z => z + 20 < 1000) hu (by decide) (by decide)) ?_
      refine wp_sts 1 (pc' := 37) (ls' := [some (.inr (.inr u)), some (.inl x1), some (.inl x2), some (.inl x3), some (.inl r2), none]) (st' := [.inl x1, .inr (.inr (u + 20)), .inl (x3 + r2)]) (M' := M3) rfl ?_
      obtain ⟨hf2, h⟩ := h
      refine g_iald (n := 6) rfl hS3 (fT (P := fun z => ab_arB 20 (z + 20) 6 = true) hu rfl rfl) hf2 ?_
      obtain ⟨hf3, h⟩ := h
      refine w_iadd rfl hf3 ?_
      refine wp_sts 3 (pc' := 44) (ls' := [some (.inr (.inr u)), some (.inl x1), some (.inl x2), some (.inl x3), some (.inl r2), some (.inl ((x3 + r2) + (M3 (u + 20) x1.toNat)))]) (st' := [.inr (.inr u), .inl ((x3 + r2) + (M3 (u + 20) x1.toNat))]) (M' := M3) rfl ?_
      refine g_getR (j := u + 21) rfl hS3 (fT (P := fun z => pu_bJ 2 z 11 8 = true) hu rfl rfl) (fT (P := fun z => M3 z 11 = ((z + 21 : Nat) : Int)) hu (str_r hS3 5 11 26 rfl) (str_r hS3 37 11 58 rfl)) (fT (P := fun z => z + 21 < 1000) hu (by decide) (by decide)) ?_
      refine wp_sts 1 (pc' := 48) (ls' := [some (.inr (.inr u)), some (.inl x1), some (.inl x2), some (.inl x3), some (.inl r2), some (.inl ((x3 + r2) + (M3 (u + 20) x1.toNat)))]) (st' := [.inl x1, .inr (.inr (u + 21)), .inl ((x3 + r2) + (M3 (u + 20) x1.toNat))]) (M' := M3) rfl ?_
      refine g_iald (n := 6) rfl hS3 (fT (P := fun z => ab_arB 20 (z + 21) 6 = true) hu rfl rfl) hf2 ?_
      refine c2_le rfl (fun c => ?_) (fun c => ?_)
      · replace h := h.1 c
        refine wp_sts 1 (pc' := 58) (ls' := [some (.inr (.inr u)), some (.inl x1), some (.inl x2), some (.inl x3), some (.inl r2), some (.inl ((x3 + r2) + (M3 (u + 20) x1.toNat)))]) (st' := [.inl ((x3 + r2) + (M3 (u + 20) x1.toNat))]) (M' := M3) rfl ?_
        exact wp_ret rfl rfl (z := (some (.inl ((x3 + r2) + (M3 (u + 20) x1.toNat))), M3)) rfl h
      · replace h := h.2 c
        refine wp_sts 2 (pc' := 58) (ls' := [some (.inr (.inr u)), some (.inl x1), some (.inl x2), some (.inl x3), some (.inl r2), some (.inl ((x3 + r2) + (M3 (u + 20) x1.toNat)))]) (st' := [.inl ((-1))]) (M' := M3) rfl ?_
        exact wp_ret rfl rfl (z := (some (.inl ((-1))), M3)) rfl h
    · replace h := h.2 c
      refine wp_sts 1 (pc' := 27) (ls' := [some (.inr (.inr u)), some (.inl x1), some (.inl x2), some (.inl x3), some (.inl r2), none]) (st' := [.inl ((-1))]) (M' := M3) rfl ?_
      exact wp_ret rfl rfl (z := (some (.inl ((-1))), M3)) rfl h
