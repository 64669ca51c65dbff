/-! the law's loop -/
abbrev la_ls (i : Int) : ab_L := [some (.inr (.inr 1000)), some (.inr (.inr 0)), some (.inr (.inr 103)), some (.inl i)]
theorem la_x {pc : Nat} {i k : Int} {st : List ab_V} {M : ab_M} {Q : Option ab_V → ab_M → Prop} (h0 : pu_sts 3 194 (pc, la_ls i, st, M) = some (pc + 3, la_ls i, .inl k :: .inl i :: .inr (.inr 1000) :: st, M)) (h3 : ab_at 194 (pc + 3) = some (.iadd, 0, 0, 0)) (h4 : ab_at 194 (pc + 3 + 1) = some (.iaload, 0, 0, 0)) (hk : 1 ≤ k ∧ k ≤ 4) (hi : 0 ≤ i ∧ i + 5 ≤ M 999 2 ∧ M 999 2 ≤ 320) (h : ab_wp 30 194 (pc + 5) (la_ls i) (.inl (M 1000 (i + k).toNat) :: st) M Q) : ab_wp 30 194 pc (la_ls i) st M Q :=
  wp_sts 3 h0 (w_iadd h3 (by omega) (w_xld h4 (by omega) h))
theorem la_up {d m : Nat} {as : List ab_V} {t : Nat} {M M' : ab_M} {r : Option ab_V} (hS : pu_str t M) (h : ab_ev d m as M r M') : M' 999 2 = M 999 2 ∧ M' 1000 = M 1000 := by
  obtain ⟨n, hr⟩ := h
  have := ab_up_run _ _ _ _ _ _ _ _ (by rw [hS.1]; decide) hr
  exact this.2.2.2
theorem and31 (y : Int) : 0 ≤ ab_and y 31 ∧ ab_and y 31 ≤ 31 := by
  unfold ab_and
  generalize Int32.ofInt y = z
  have h : (z.toBitVec &&& (Int32.ofInt 31).toBitVec).toNat ≤ 31 := by
    rw [BitVec.toNat_and]
    exact Nat.and_le_right
  show 0 ≤ (z.toBitVec &&& (Int32.ofInt 31).toBitVec).toInt ∧ (z.toBitVec &&& (Int32.ofInt 31).toBitVec).toInt ≤ 31
  generalize z.toBitVec &&& (Int32.ofInt 31).toBitVec = b at *
  rw [BitVec.toInt_eq_toNat_cond, if_pos (by omega)]
  omega
def la_go (M : ab_M) (i : Int) (Q : Option ab_V → ab_M → Prop) : Prop := ∀ (t' : Nat) (M2 : ab_M), pu_inv t' M2 → M2 999 2 = M 999 2 → M2 1000 = M 1000 → ab_wp 30 194 18 (la_ls (i + 5)) [] M2 Q
set_option maxRecDepth 100000 in
theorem la_next {t : Nat} {i : Int} {M M2 : ab_M} {Q : Option ab_V → ab_M → Prop} (hi : 0 ≤ i ∧ i + 5 ≤ M 999 2 ∧ M 999 2 ≤ 320) (go : la_go M i Q) (h : pu_inv t M2) (h1 : M2 999 2 = M 999 2) (h2 : M2 1000 = M 1000) : ab_wp 30 194 972 (la_ls i) [] M2 Q := by
  refine w_iinc (n := 3) (c := 5) (a := i) rfl rfl (by omega) ?_
  refine wp_sts 1 (pc' := 18) (ls' := la_ls (i + 5)) (st' := []) (M' := M2) rfl ?_
  exact go t M2 h h1 h2

set_option maxRecDepth 100000 in
theorem la_0 {t : Nat} {i : Int} {M : ab_M} {Q : Option ab_V → ab_M → Prop} (h : pu_inv t M) (hx : ∀ j, ab_rg (M 1000 j)) (hi : 0 ≤ i ∧ i + 5 ≤ M 999 2 ∧ M 999 2 ≤ 320) (go : la_go M i Q) : ab_wp 30 194 176 (la_ls i) [] M Q := by
  obtain ⟨r, t2, M1, M2, e1, s1, e2, h2⟩ := c_feed h (M 1000 (i + 1).toNat)
  have u1 := la_up h.1 e1
  have u2 := la_up s1 e2
  have hi1 : 0 ≤ i ∧ i + 5 ≤ M1 999 2 ∧ M1 999 2 ≤ 320 := by rw [u1.1]; exact hi
  refine wp_sts 1 (pc' := 177) (ls' := la_ls i) (st' := [.inr (.inr 0)]) (M' := M) rfl ?_
  refine la_x (k := 1) rfl rfl rfl (by omega) hi ?_
  refine g_callI (c := 65) (as := [.inr (.inr 0), .inl (M 1000 (i + 1).toNat)]) (rs := []) (v := .inl r) rfl rfl h.1 (by omega) rfl e1 ?_
  refine wp_sts 1 (pc' := 186) (ls' := la_ls i) (st' := [.inr (.inr 103), .inl r]) (M' := M1) rfl ?_
  refine la_x (k := 1) rfl rfl rfl (by omega) hi1 ?_
  rw [u1.2]
  refine g_callI (c := 112) (as := [.inr (.inr 103), .inl (M 1000 (i + 1).toNat)]) (rs := [.inl r]) (v := .inl r) rfl rfl s1 (by omega) rfl e2 ?_
  exact c2_eq rfl (fun _ => la_next hi go h2 (u2.1.trans u1.1) (u2.2.trans u1.2)) (fun q => absurd rfl q)
set_option maxRecDepth 100000 in
theorem la_1 {t : Nat} {i : Int} {M : ab_M} {Q : Option ab_V → ab_M → Prop} (h : pu_inv t M) (hx : ∀ j, ab_rg (M 1000 j)) (hi : 0 ≤ i ∧ i + 5 ≤ M 999 2 ∧ M 999 2 ≤ 320) (go : la_go M i Q) : ab_wp 30 194 199 (la_ls i) [] M Q := by
  obtain ⟨r, t2, M1, M2, e1, s1, e2, h2⟩ := c_town h 
  have u1 := la_up h.1 e1
  have u2 := la_up s1 e2
  have hi1 : 0 ≤ i ∧ i + 5 ≤ M1 999 2 ∧ M1 999 2 ≤ 320 := by rw [u1.1]; exact hi
  refine wp_sts 1 (pc' := 200) (ls' := la_ls i) (st' := [.inr (.inr 0)]) (M' := M) rfl ?_
  refine g_callI (c := 66) (as := [.inr (.inr 0)]) (rs := []) (v := .inl r) rfl rfl h.1 (by omega) rfl e1 ?_
  refine wp_sts 1 (pc' := 204) (ls' := la_ls i) (st' := [.inr (.inr 103), .inl r]) (M' := M1) rfl ?_
  refine g_callI (c := 126) (as := [.inr (.inr 103)]) (rs := [.inl r]) (v := .inl r) rfl rfl s1 (by omega) rfl e2 ?_
  exact c2_eq rfl (fun _ => la_next hi go h2 (u2.1.trans u1.1) (u2.2.trans u1.2)) (fun q => absurd rfl q)
set_option maxRecDepth 100000 in
theorem la_2 {t : Nat} {i : Int} {M : ab_M} {Q : Option ab_V → ab_M → Prop} (h : pu_inv t M) (hx : ∀ j, ab_rg (M 1000 j)) (hi : 0 ≤ i ∧ i + 5 ≤ M 999 2 ∧ M 999 2 ≤ 320) (go : la_go M i Q) : ab_wp 30 194 212 (la_ls i) [] M Q := by
  obtain ⟨r, t2, M1, M2, e1, s1, e2, h2⟩ := c_fault h 
  have u1 := la_up h.1 e1
  have u2 := la_up s1 e2
  have hi1 : 0 ≤ i ∧ i + 5 ≤ M1 999 2 ∧ M1 999 2 ≤ 320 := by rw [u1.1]; exact hi
  refine wp_sts 1 (pc' := 213) (ls' := la_ls i) (st' := [.inr (.inr 0)]) (M' := M) rfl ?_
  refine g_callI (c := 67) (as := [.inr (.inr 0)]) (rs := []) (v := .inl r) rfl rfl h.1 (by omega) rfl e1 ?_
  refine wp_sts 1 (pc' := 217) (ls' := la_ls i) (st' := [.inr (.inr 103), .inl r]) (M' := M1) rfl ?_
  refine g_callI (c := 127) (as := [.inr (.inr 103)]) (rs := [.inl r]) (v := .inl r) rfl rfl s1 (by omega) rfl e2 ?_
  exact c2_eq rfl (fun _ => la_next hi go h2 (u2.1.trans u1.1) (u2.2.trans u1.2)) (fun q => absurd rfl q)
set_option maxRecDepth 100000 in
theorem la_3 {t : Nat} {i : Int} {M : ab_M} {Q : Option ab_V → ab_M → Prop} (h : pu_inv t M) (hx : ∀ j, ab_rg (M 1000 j)) (hi : 0 ≤ i ∧ i + 5 ≤ M 999 2 ∧ M 999 2 ≤ 320) (go : la_go M i Q) : ab_wp 30 194 225 (la_ls i) [] M Q := by
  obtain ⟨r, t2, M1, M2, e1, s1, e2, h2⟩ := c_told h (M 1000 (i + 1).toNat)
  have u1 := la_up h.1 e1
  have u2 := la_up s1 e2
  have hi1 : 0 ≤ i ∧ i + 5 ≤ M1 999 2 ∧ M1 999 2 ≤ 320 := by rw [u1.1]; exact hi
  refine wp_sts 1 (pc' := 226) (ls' := la_ls i) (st' := [.inr (.inr 0)]) (M' := M) rfl ?_
  refine la_x (k := 1) rfl rfl rfl (by omega) hi ?_
  refine g_callI (c := 68) (as := [.inr (.inr 0), .inl (M 1000 (i + 1).toNat)]) (rs := []) (v := .inl r) rfl rfl h.1 (by omega) rfl e1 ?_
  refine wp_sts 1 (pc' := 235) (ls' := la_ls i) (st' := [.inr (.inr 103), .inl r]) (M' := M1) rfl ?_
  refine la_x (k := 1) rfl rfl rfl (by omega) hi1 ?_
  rw [u1.2]
  refine g_callI (c := 131) (as := [.inr (.inr 103), .inl (M 1000 (i + 1).toNat)]) (rs := [.inl r]) (v := .inl r) rfl rfl s1 (by omega) rfl e2 ?_
  exact c2_eq rfl (fun _ => la_next hi go h2 (u2.1.trans u1.1) (u2.2.trans u1.2)) (fun q => absurd rfl q)
set_option maxRecDepth 100000 in
theorem la_4 {t : Nat} {i : Int} {M : ab_M} {Q : Option ab_V → ab_M → Prop} (h : pu_inv t M) (hx : ∀ j, ab_rg (M 1000 j)) (hi : 0 ≤ i ∧ i + 5 ≤ M 999 2 ∧ M 999 2 ≤ 320) (go : la_go M i Q) : ab_wp 30 194 248 (la_ls i) [] M Q := by
  obtain ⟨r, t2, M1, M2, e1, s1, e2, h2⟩ := c_far h (M 1000 (i + 1).toNat) (M 1000 (i + 2).toNat)
  have u1 := la_up h.1 e1
  have u2 := la_up s1 e2
  have hi1 : 0 ≤ i ∧ i + 5 ≤ M1 999 2 ∧ M1 999 2 ≤ 320 := by rw [u1.1]; exact hi
  refine wp_sts 1 (pc' := 249) (ls' := la_ls i) (st' := [.inr (.inr 0)]) (M' := M) rfl ?_
  refine la_x (k := 1) rfl rfl rfl (by omega) hi ?_
  refine la_x (k := 2) rfl rfl rfl (by omega) hi ?_
  refine g_callI (c := 69) (as := [.inr (.inr 0), .inl (M 1000 (i + 1).toNat), .inl (M 1000 (i + 2).toNat)]) (rs := []) (v := .inl r) rfl rfl h.1 (by omega) rfl e1 ?_
  refine wp_sts 1 (pc' := 263) (ls' := la_ls i) (st' := [.inr (.inr 103), .inl r]) (M' := M1) rfl ?_
  refine la_x (k := 1) rfl rfl rfl (by omega) hi1 ?_
  refine la_x (k := 2) rfl rfl rfl (by omega) hi1 ?_
  rw [u1.2]
  refine g_callI (c := 133) (as := [.inr (.inr 103), .inl (M 1000 (i + 1).toNat), .inl (M 1000 (i + 2).toNat)]) (rs := [.inl r]) (v := .inl r) rfl rfl s1 (by omega) rfl e2 ?_
  exact c2_eq rfl (fun _ => la_next hi go h2 (u2.1.trans u1.1) (u2.2.trans u1.2)) (fun q => absurd rfl q)
set_option maxRecDepth 100000 in
theorem la_5 {t : Nat} {i : Int} {M : ab_M} {Q : Option ab_V → ab_M → Prop} (h : pu_inv t M) (hx : ∀ j, ab_rg (M 1000 j)) (hi : 0 ≤ i ∧ i + 5 ≤ M 999 2 ∧ M 999 2 ≤ 320) (go : la_go M i Q) : ab_wp 30 194 281 (la_ls i) [] M Q := by
  obtain ⟨r, t2, M1, M2, e1, s1, e2, h2⟩ := c_person h (M 1000 (i + 1).toNat) (M 1000 (i + 2).toNat)
  have u1 := la_up h.1 e1
  have u2 := la_up s1 e2
  have hi1 : 0 ≤ i ∧ i + 5 ≤ M1 999 2 ∧ M1 999 2 ≤ 320 := by rw [u1.1]; exact hi
  refine wp_sts 1 (pc' := 282) (ls' := la_ls i) (st' := [.inr (.inr 0)]) (M' := M) rfl ?_
  refine la_x (k := 1) rfl rfl rfl (by omega) hi ?_
  refine la_x (k := 2) rfl rfl rfl (by omega) hi ?_
  refine g_callI (c := 70) (as := [.inr (.inr 0), .inl (M 1000 (i + 1).toNat), .inl (M 1000 (i + 2).toNat)]) (rs := []) (v := .inl r) rfl rfl h.1 (by omega) rfl e1 ?_
  refine wp_sts 1 (pc' := 296) (ls' := la_ls i) (st' := [.inr (.inr 103), .inl r]) (M' := M1) rfl ?_
  refine la_x (k := 1) rfl rfl rfl (by omega) hi1 ?_
  refine la_x (k := 2) rfl rfl rfl (by omega) hi1 ?_
  rw [u1.2]
  refine g_callI (c := 134) (as := [.inr (.inr 103), .inl (M 1000 (i + 1).toNat), .inl (M 1000 (i + 2).toNat)]) (rs := [.inl r]) (v := .inl r) rfl rfl s1 (by omega) rfl e2 ?_
  exact c2_eq rfl (fun _ => la_next hi go h2 (u2.1.trans u1.1) (u2.2.trans u1.2)) (fun q => absurd rfl q)
set_option maxRecDepth 100000 in
theorem la_6 {t : Nat} {i : Int} {M : ab_M} {Q : Option ab_V → ab_M → Prop} (h : pu_inv t M) (hx : ∀ j, ab_rg (M 1000 j)) (hi : 0 ≤ i ∧ i + 5 ≤ M 999 2 ∧ M 999 2 ≤ 320) (go : la_go M i Q) : ab_wp 30 194 314 (la_ls i) [] M Q := by
  obtain ⟨r, t2, M1, M2, e1, s1, e2, h2⟩ := c_deed h (M 1000 (i + 1).toNat) (M 1000 (i + 2).toNat)
  have u1 := la_up h.1 e1
  have u2 := la_up s1 e2
  have hi1 : 0 ≤ i ∧ i + 5 ≤ M1 999 2 ∧ M1 999 2 ≤ 320 := by rw [u1.1]; exact hi
  refine wp_sts 1 (pc' := 315) (ls' := la_ls i) (st' := [.inr (.inr 0)]) (M' := M) rfl ?_
  refine la_x (k := 1) rfl rfl rfl (by omega) hi ?_
  refine la_x (k := 2) rfl rfl rfl (by omega) hi ?_
  refine g_callI (c := 71) (as := [.inr (.inr 0), .inl (M 1000 (i + 1).toNat), .inl (M 1000 (i + 2).toNat)]) (rs := []) (v := .inl r) rfl rfl h.1 (by omega) rfl e1 ?_
  refine wp_sts 1 (pc' := 329) (ls' := la_ls i) (st' := [.inr (.inr 103), .inl r]) (M' := M1) rfl ?_
  refine la_x (k := 1) rfl rfl rfl (by omega) hi1 ?_
  refine la_x (k := 2) rfl rfl rfl (by omega) hi1 ?_
  rw [u1.2]
  refine g_callI (c := 135) (as := [.inr (.inr 103), .inl (M 1000 (i + 1).toNat), .inl (M 1000 (i + 2).toNat)]) (rs := [.inl r]) (v := .inl r) rfl rfl s1 (by omega) rfl e2 ?_
  exact c2_eq rfl (fun _ => la_next hi go h2 (u2.1.trans u1.1) (u2.2.trans u1.2)) (fun q => absurd rfl q)
set_option maxRecDepth 100000 in
theorem la_7 {t : Nat} {i : Int} {M : ab_M} {Q : Option ab_V → ab_M → Prop} (h : pu_inv t M) (hx : ∀ j, ab_rg (M 1000 j)) (hi : 0 ≤ i ∧ i + 5 ≤ M 999 2 ∧ M 999 2 ≤ 320) (go : la_go M i Q) : ab_wp 30 194 347 (la_ls i) [] M Q := by
  obtain ⟨r, t2, M1, M2, e1, s1, e2, h2⟩ := c_trust h (M 1000 (i + 1).toNat) (M 1000 (i + 2).toNat)
  have u1 := la_up h.1 e1
  have u2 := la_up s1 e2
  have hi1 : 0 ≤ i ∧ i + 5 ≤ M1 999 2 ∧ M1 999 2 ≤ 320 := by rw [u1.1]; exact hi
  refine wp_sts 1 (pc' := 348) (ls' := la_ls i) (st' := [.inr (.inr 0)]) (M' := M) rfl ?_
  refine la_x (k := 1) rfl rfl rfl (by omega) hi ?_
  refine la_x (k := 2) rfl rfl rfl (by omega) hi ?_
  refine g_callI (c := 72) (as := [.inr (.inr 0), .inl (M 1000 (i + 1).toNat), .inl (M 1000 (i + 2).toNat)]) (rs := []) (v := .inl r) rfl rfl h.1 (by omega) rfl e1 ?_
  refine wp_sts 1 (pc' := 362) (ls' := la_ls i) (st' := [.inr (.inr 103), .inl r]) (M' := M1) rfl ?_
  refine la_x (k := 1) rfl rfl rfl (by omega) hi1 ?_
  refine la_x (k := 2) rfl rfl rfl (by omega) hi1 ?_
  rw [u1.2]
  refine g_callI (c := 137) (as := [.inr (.inr 103), .inl (M 1000 (i + 1).toNat), .inl (M 1000 (i + 2).toNat)]) (rs := [.inl r]) (v := .inl r) rfl rfl s1 (by omega) rfl e2 ?_
  exact c2_eq rfl (fun _ => la_next hi go h2 (u2.1.trans u1.1) (u2.2.trans u1.2)) (fun q => absurd rfl q)
set_option maxRecDepth 100000 in
theorem la_8 {t : Nat} {i : Int} {M : ab_M} {Q : Option ab_V → ab_M → Prop} (h : pu_inv t M) (hx : ∀ j, ab_rg (M 1000 j)) (hi : 0 ≤ i ∧ i + 5 ≤ M 999 2 ∧ M 999 2 ≤ 320) (go : la_go M i Q) : ab_wp 30 194 380 (la_ls i) [] M Q := by
  obtain ⟨r, t2, M1, M2, e1, s1, e2, h2⟩ := c_lets h (M 1000 (i + 1).toNat)
  have u1 := la_up h.1 e1
  have u2 := la_up s1 e2
  have hi1 : 0 ≤ i ∧ i + 5 ≤ M1 999 2 ∧ M1 999 2 ≤ 320 := by rw [u1.1]; exact hi
  refine wp_sts 1 (pc' := 381) (ls' := la_ls i) (st' := [.inr (.inr 0)]) (M' := M) rfl ?_
  refine la_x (k := 1) rfl rfl rfl (by omega) hi ?_
  refine g_callI (c := 73) (as := [.inr (.inr 0), .inl (M 1000 (i + 1).toNat)]) (rs := []) (v := .inl r) rfl rfl h.1 (by omega) rfl e1 ?_
  refine wp_sts 1 (pc' := 390) (ls' := la_ls i) (st' := [.inr (.inr 103), .inl r]) (M' := M1) rfl ?_
  refine la_x (k := 1) rfl rfl rfl (by omega) hi1 ?_
  rw [u1.2]
  refine g_callI (c := 138) (as := [.inr (.inr 103), .inl (M 1000 (i + 1).toNat)]) (rs := [.inl r]) (v := .inl r) rfl rfl s1 (by omega) rfl e2 ?_
  exact c2_eq rfl (fun _ => la_next hi go h2 (u2.1.trans u1.1) (u2.2.trans u1.2)) (fun q => absurd rfl q)
set_option maxRecDepth 100000 in
theorem la_9 {t : Nat} {i : Int} {M : ab_M} {Q : Option ab_V → ab_M → Prop} (h : pu_inv t M) (hx : ∀ j, ab_rg (M 1000 j)) (hi : 0 ≤ i ∧ i + 5 ≤ M 999 2 ∧ M 999 2 ≤ 320) (go : la_go M i Q) : ab_wp 30 194 403 (la_ls i) [] M Q := by
  obtain ⟨r, t2, M1, M2, e1, s1, e2, h2⟩ := c_lend h (M 1000 (i + 1).toNat)
  have u1 := la_up h.1 e1
  have u2 := la_up s1 e2
  have hi1 : 0 ≤ i ∧ i + 5 ≤ M1 999 2 ∧ M1 999 2 ≤ 320 := by rw [u1.1]; exact hi
  refine wp_sts 1 (pc' := 404) (ls' := la_ls i) (st' := [.inr (.inr 0)]) (M' := M) rfl ?_
  refine la_x (k := 1) rfl rfl rfl (by omega) hi ?_
  refine g_callI (c := 74) (as := [.inr (.inr 0), .inl (M 1000 (i + 1).toNat)]) (rs := []) (v := .inl r) rfl rfl h.1 (by omega) rfl e1 ?_
  refine wp_sts 1 (pc' := 413) (ls' := la_ls i) (st' := [.inr (.inr 103), .inl r]) (M' := M1) rfl ?_
  refine la_x (k := 1) rfl rfl rfl (by omega) hi1 ?_
  rw [u1.2]
  refine g_callI (c := 140) (as := [.inr (.inr 103), .inl (M 1000 (i + 1).toNat)]) (rs := [.inl r]) (v := .inl r) rfl rfl s1 (by omega) rfl e2 ?_
  exact c2_eq rfl (fun _ => la_next hi go h2 (u2.1.trans u1.1) (u2.2.trans u1.2)) (fun q => absurd rfl q)
set_option maxRecDepth 100000 in
theorem la_10 {t : Nat} {i : Int} {M : ab_M} {Q : Option ab_V → ab_M → Prop} (h : pu_inv t M) (hx : ∀ j, ab_rg (M 1000 j)) (hi : 0 ≤ i ∧ i + 5 ≤ M 999 2 ∧ M 999 2 ≤ 320) (go : la_go M i Q) : ab_wp 30 194 426 (la_ls i) [] M Q := by
  obtain ⟨r, t2, M1, M2, e1, s1, e2, h2⟩ := c_act h (M 1000 (i + 1).toNat)
  have u1 := la_up h.1 e1
  have u2 := la_up s1 e2
  have hi1 : 0 ≤ i ∧ i + 5 ≤ M1 999 2 ∧ M1 999 2 ≤ 320 := by rw [u1.1]; exact hi
  refine wp_sts 1 (pc' := 427) (ls' := la_ls i) (st' := [.inr (.inr 0)]) (M' := M) rfl ?_
  refine la_x (k := 1) rfl rfl rfl (by omega) hi ?_
  refine g_callI (c := 75) (as := [.inr (.inr 0), .inl (M 1000 (i + 1).toNat)]) (rs := []) (v := .inl r) rfl rfl h.1 (by omega) rfl e1 ?_
  refine wp_sts 1 (pc' := 436) (ls' := la_ls i) (st' := [.inr (.inr 103), .inl r]) (M' := M1) rfl ?_
  refine la_x (k := 1) rfl rfl rfl (by omega) hi1 ?_
  rw [u1.2]
  refine g_callI (c := 143) (as := [.inr (.inr 103), .inl (M 1000 (i + 1).toNat)]) (rs := [.inl r]) (v := .inl r) rfl rfl s1 (by omega) rfl e2 ?_
  exact c2_eq rfl (fun _ => la_next hi go h2 (u2.1.trans u1.1) (u2.2.trans u1.2)) (fun q => absurd rfl q)
set_option maxRecDepth 100000 in
theorem la_11 {t : Nat} {i : Int} {M : ab_M} {Q : Option ab_V → ab_M → Prop} (h : pu_inv t M) (hx : ∀ j, ab_rg (M 1000 j)) (hi : 0 ≤ i ∧ i + 5 ≤ M 999 2 ∧ M 999 2 ≤ 320) (go : la_go M i Q) : ab_wp 30 194 449 (la_ls i) [] M Q := by
  obtain ⟨r, t2, M1, M2, e1, s1, e2, h2⟩ := c_drop h 
  have u1 := la_up h.1 e1
  have u2 := la_up s1 e2
  have hi1 : 0 ≤ i ∧ i + 5 ≤ M1 999 2 ∧ M1 999 2 ≤ 320 := by rw [u1.1]; exact hi
  refine wp_sts 1 (pc' := 450) (ls' := la_ls i) (st' := [.inr (.inr 0)]) (M' := M) rfl ?_
  refine g_callI (c := 76) (as := [.inr (.inr 0)]) (rs := []) (v := .inl r) rfl rfl h.1 (by omega) rfl e1 ?_
  refine wp_sts 1 (pc' := 454) (ls' := la_ls i) (st' := [.inr (.inr 103), .inl r]) (M' := M1) rfl ?_
  refine g_callI (c := 144) (as := [.inr (.inr 103)]) (rs := [.inl r]) (v := .inl r) rfl rfl s1 (by omega) rfl e2 ?_
  exact c2_eq rfl (fun _ => la_next hi go h2 (u2.1.trans u1.1) (u2.2.trans u1.2)) (fun q => absurd rfl q)
set_option maxRecDepth 100000 in
theorem la_12 {t : Nat} {i : Int} {M : ab_M} {Q : Option ab_V → ab_M → Prop} (h : pu_inv t M) (hx : ∀ j, ab_rg (M 1000 j)) (hi : 0 ≤ i ∧ i + 5 ≤ M 999 2 ∧ M 999 2 ≤ 320) (go : la_go M i Q) : ab_wp 30 194 462 (la_ls i) [] M Q := by
  obtain ⟨r, t2, M1, M2, e1, s1, e2, h2⟩ := c_pass h (M 1000 (i + 1).toNat)
  have u1 := la_up h.1 e1
  have u2 := la_up s1 e2
  have hi1 : 0 ≤ i ∧ i + 5 ≤ M1 999 2 ∧ M1 999 2 ≤ 320 := by rw [u1.1]; exact hi
  refine wp_sts 1 (pc' := 463) (ls' := la_ls i) (st' := [.inr (.inr 0)]) (M' := M) rfl ?_
  refine la_x (k := 1) rfl rfl rfl (by omega) hi ?_
  refine g_callI (c := 77) (as := [.inr (.inr 0), .inl (M 1000 (i + 1).toNat)]) (rs := []) (v := .inl r) rfl rfl h.1 (by omega) rfl e1 ?_
  refine wp_sts 1 (pc' := 472) (ls' := la_ls i) (st' := [.inr (.inr 103), .inl r]) (M' := M1) rfl ?_
  refine la_x (k := 1) rfl rfl rfl (by omega) hi1 ?_
  rw [u1.2]
  refine g_callI (c := 145) (as := [.inr (.inr 103), .inl (M 1000 (i + 1).toNat)]) (rs := [.inl r]) (v := .inl r) rfl rfl s1 (by omega) rfl e2 ?_
  exact c2_eq rfl (fun _ => la_next hi go h2 (u2.1.trans u1.1) (u2.2.trans u1.2)) (fun q => absurd rfl q)
set_option maxRecDepth 100000 in
theorem la_13 {t : Nat} {i : Int} {M : ab_M} {Q : Option ab_V → ab_M → Prop} (h : pu_inv t M) (hx : ∀ j, ab_rg (M 1000 j)) (hi : 0 ≤ i ∧ i + 5 ≤ M 999 2 ∧ M 999 2 ≤ 320) (go : la_go M i Q) : ab_wp 30 194 485 (la_ls i) [] M Q := by
  obtain ⟨r, t2, M1, M2, e1, s1, e2, h2⟩ := c_drift h (M 1000 (i + 1).toNat)
  have u1 := la_up h.1 e1
  have u2 := la_up s1 e2
  have hi1 : 0 ≤ i ∧ i + 5 ≤ M1 999 2 ∧ M1 999 2 ≤ 320 := by rw [u1.1]; exact hi
  refine wp_sts 1 (pc' := 486) (ls' := la_ls i) (st' := [.inr (.inr 0)]) (M' := M) rfl ?_
  refine la_x (k := 1) rfl rfl rfl (by omega) hi ?_
  refine g_callI (c := 78) (as := [.inr (.inr 0), .inl (M 1000 (i + 1).toNat)]) (rs := []) (v := .inl r) rfl rfl h.1 (by omega) rfl e1 ?_
  refine wp_sts 1 (pc' := 495) (ls' := la_ls i) (st' := [.inr (.inr 103), .inl r]) (M' := M1) rfl ?_
  refine la_x (k := 1) rfl rfl rfl (by omega) hi1 ?_
  rw [u1.2]
  refine g_callI (c := 147) (as := [.inr (.inr 103), .inl (M 1000 (i + 1).toNat)]) (rs := [.inl r]) (v := .inl r) rfl rfl s1 (by omega) rfl e2 ?_
  exact c2_eq rfl (fun _ => la_next hi go h2 (u2.1.trans u1.1) (u2.2.trans u1.2)) (fun q => absurd rfl q)
set_option maxRecDepth 100000 in
theorem la_14 {t : Nat} {i : Int} {M : ab_M} {Q : Option ab_V → ab_M → Prop} (h : pu_inv t M) (hx : ∀ j, ab_rg (M 1000 j)) (hi : 0 ≤ i ∧ i + 5 ≤ M 999 2 ∧ M 999 2 ≤ 320) (go : la_go M i Q) : ab_wp 30 194 508 (la_ls i) [] M Q := by
  obtain ⟨r, t2, M1, M2, e1, s1, e2, h2⟩ := c_round h (M 1000 (i + 1).toNat)
  have u1 := la_up h.1 e1
  have u2 := la_up s1 e2
  have hi1 : 0 ≤ i ∧ i + 5 ≤ M1 999 2 ∧ M1 999 2 ≤ 320 := by rw [u1.1]; exact hi
  refine wp_sts 1 (pc' := 509) (ls' := la_ls i) (st' := [.inr (.inr 0)]) (M' := M) rfl ?_
  refine la_x (k := 1) rfl rfl rfl (by omega) hi ?_
  refine g_callI (c := 79) (as := [.inr (.inr 0), .inl (M 1000 (i + 1).toNat)]) (rs := []) (v := .inl r) rfl rfl h.1 (by omega) rfl e1 ?_
  refine wp_sts 1 (pc' := 518) (ls' := la_ls i) (st' := [.inr (.inr 103), .inl r]) (M' := M1) rfl ?_
  refine la_x (k := 1) rfl rfl rfl (by omega) hi1 ?_
  rw [u1.2]
  refine g_callI (c := 155) (as := [.inr (.inr 103), .inl (M 1000 (i + 1).toNat)]) (rs := [.inl r]) (v := .inl r) rfl rfl s1 (by omega) rfl e2 ?_
  exact c2_eq rfl (fun _ => la_next hi go h2 (u2.1.trans u1.1) (u2.2.trans u1.2)) (fun q => absurd rfl q)
set_option maxRecDepth 100000 in
theorem la_15 {t : Nat} {i : Int} {M : ab_M} {Q : Option ab_V → ab_M → Prop} (h : pu_inv t M) (hx : ∀ j, ab_rg (M 1000 j)) (hi : 0 ≤ i ∧ i + 5 ≤ M 999 2 ∧ M 999 2 ≤ 320) (go : la_go M i Q) : ab_wp 30 194 531 (la_ls i) [] M Q := by
  obtain ⟨r, t2, M1, M2, e1, s1, e2, h2⟩ := c_two h (M 1000 (i + 1).toNat)
  have u1 := la_up h.1 e1
  have u2 := la_up s1 e2
  have hi1 : 0 ≤ i ∧ i + 5 ≤ M1 999 2 ∧ M1 999 2 ≤ 320 := by rw [u1.1]; exact hi
  refine wp_sts 1 (pc' := 532) (ls' := la_ls i) (st' := [.inr (.inr 0)]) (M' := M) rfl ?_
  refine la_x (k := 1) rfl rfl rfl (by omega) hi ?_
  refine g_callI (c := 80) (as := [.inr (.inr 0), .inl (M 1000 (i + 1).toNat)]) (rs := []) (v := .inl r) rfl rfl h.1 (by omega) rfl e1 ?_
  refine wp_sts 1 (pc' := 541) (ls' := la_ls i) (st' := [.inr (.inr 103), .inl r]) (M' := M1) rfl ?_
  refine la_x (k := 1) rfl rfl rfl (by omega) hi1 ?_
  rw [u1.2]
  refine g_callI (c := 156) (as := [.inr (.inr 103), .inl (M 1000 (i + 1).toNat)]) (rs := [.inl r]) (v := .inl r) rfl rfl s1 (by omega) rfl e2 ?_
  exact c2_eq rfl (fun _ => la_next hi go h2 (u2.1.trans u1.1) (u2.2.trans u1.2)) (fun q => absurd rfl q)
set_option maxRecDepth 100000 in
theorem la_16 {t : Nat} {i : Int} {M : ab_M} {Q : Option ab_V → ab_M → Prop} (h : pu_inv t M) (hx : ∀ j, ab_rg (M 1000 j)) (hi : 0 ≤ i ∧ i + 5 ≤ M 999 2 ∧ M 999 2 ≤ 320) (go : la_go M i Q) : ab_wp 30 194 554 (la_ls i) [] M Q := by
  obtain ⟨r, t2, M1, M2, e1, s1, e2, h2⟩ := c_reword h (M 1000 (i + 1).toNat)
  have u1 := la_up h.1 e1
  have u2 := la_up s1 e2
  have hi1 : 0 ≤ i ∧ i + 5 ≤ M1 999 2 ∧ M1 999 2 ≤ 320 := by rw [u1.1]; exact hi
  refine wp_sts 1 (pc' := 555) (ls' := la_ls i) (st' := [.inr (.inr 0)]) (M' := M) rfl ?_
  refine la_x (k := 1) rfl rfl rfl (by omega) hi ?_
  refine g_callI (c := 81) (as := [.inr (.inr 0), .inl (M 1000 (i + 1).toNat)]) (rs := []) (v := .inl r) rfl rfl h.1 (by omega) rfl e1 ?_
  refine wp_sts 1 (pc' := 564) (ls' := la_ls i) (st' := [.inr (.inr 103), .inl r]) (M' := M1) rfl ?_
  refine la_x (k := 1) rfl rfl rfl (by omega) hi1 ?_
  rw [u1.2]
  refine g_callI (c := 158) (as := [.inr (.inr 103), .inl (M 1000 (i + 1).toNat)]) (rs := [.inl r]) (v := .inl r) rfl rfl s1 (by omega) rfl e2 ?_
  exact c2_eq rfl (fun _ => la_next hi go h2 (u2.1.trans u1.1) (u2.2.trans u1.2)) (fun q => absurd rfl q)
set_option maxRecDepth 100000 in
theorem la_17 {t : Nat} {i : Int} {M : ab_M} {Q : Option ab_V → ab_M → Prop} (h : pu_inv t M) (hx : ∀ j, ab_rg (M 1000 j)) (hi : 0 ≤ i ∧ i + 5 ≤ M 999 2 ∧ M 999 2 ≤ 320) (go : la_go M i Q) : ab_wp 30 194 577 (la_ls i) [] M Q := by
  obtain ⟨r, t2, M1, M2, e1, s1, e2, h2⟩ := c_chain h (M 1000 (i + 1).toNat) (M 1000 (i + 2).toNat) (M 1000 (i + 3).toNat)
  have u1 := la_up h.1 e1
  have u2 := la_up s1 e2
  have hi1 : 0 ≤ i ∧ i + 5 ≤ M1 999 2 ∧ M1 999 2 ≤ 320 := by rw [u1.1]; exact hi
  refine wp_sts 1 (pc' := 578) (ls' := la_ls i) (st' := [.inr (.inr 0)]) (M' := M) rfl ?_
  refine la_x (k := 1) rfl rfl rfl (by omega) hi ?_
  refine la_x (k := 2) rfl rfl rfl (by omega) hi ?_
  refine la_x (k := 3) rfl rfl rfl (by omega) hi ?_
  refine g_callI (c := 82) (as := [.inr (.inr 0), .inl (M 1000 (i + 1).toNat), .inl (M 1000 (i + 2).toNat), .inl (M 1000 (i + 3).toNat)]) (rs := []) (v := .inl r) rfl rfl h.1 (by omega) rfl e1 ?_
  refine wp_sts 1 (pc' := 597) (ls' := la_ls i) (st' := [.inr (.inr 103), .inl r]) (M' := M1) rfl ?_
  refine la_x (k := 1) rfl rfl rfl (by omega) hi1 ?_
  refine la_x (k := 2) rfl rfl rfl (by omega) hi1 ?_
  refine la_x (k := 3) rfl rfl rfl (by omega) hi1 ?_
  rw [u1.2]
  refine g_callI (c := 159) (as := [.inr (.inr 103), .inl (M 1000 (i + 1).toNat), .inl (M 1000 (i + 2).toNat), .inl (M 1000 (i + 3).toNat)]) (rs := [.inl r]) (v := .inl r) rfl rfl s1 (by omega) rfl e2 ?_
  exact c2_eq rfl (fun _ => la_next hi go h2 (u2.1.trans u1.1) (u2.2.trans u1.2)) (fun q => absurd rfl q)
set_option maxRecDepth 100000 in
theorem la_18 {t : Nat} {i : Int} {M : ab_M} {Q : Option ab_V → ab_M → Prop} (h : pu_inv t M) (hx : ∀ j, ab_rg (M 1000 j)) (hi : 0 ≤ i ∧ i + 5 ≤ M 999 2 ∧ M 999 2 ≤ 320) (go : la_go M i Q) : ab_wp 30 194 620 (la_ls i) [] M Q := by
  obtain ⟨r, t2, M1, M2, e1, s1, e2, h2⟩ := c_lost h (M 1000 (i + 1).toNat)
  have u1 := la_up h.1 e1
  have u2 := la_up s1 e2
  have hi1 : 0 ≤ i ∧ i + 5 ≤ M1 999 2 ∧ M1 999 2 ≤ 320 := by rw [u1.1]; exact hi
  refine wp_sts 1 (pc' := 621) (ls' := la_ls i) (st' := [.inr (.inr 0)]) (M' := M) rfl ?_
  refine la_x (k := 1) rfl rfl rfl (by omega) hi ?_
  refine g_callI (c := 83) (as := [.inr (.inr 0), .inl (M 1000 (i + 1).toNat)]) (rs := []) (v := .inl r) rfl rfl h.1 (by omega) rfl e1 ?_
  refine wp_sts 1 (pc' := 630) (ls' := la_ls i) (st' := [.inr (.inr 103), .inl r]) (M' := M1) rfl ?_
  refine la_x (k := 1) rfl rfl rfl (by omega) hi1 ?_
  rw [u1.2]
  refine g_callI (c := 161) (as := [.inr (.inr 103), .inl (M 1000 (i + 1).toNat)]) (rs := [.inl r]) (v := .inl r) rfl rfl s1 (by omega) rfl e2 ?_
  exact c2_eq rfl (fun _ => la_next hi go h2 (u2.1.trans u1.1) (u2.2.trans u1.2)) (fun q => absurd rfl q)
set_option maxRecDepth 100000 in
theorem la_19 {t : Nat} {i : Int} {M : ab_M} {Q : Option ab_V → ab_M → Prop} (h : pu_inv t M) (hx : ∀ j, ab_rg (M 1000 j)) (hi : 0 ≤ i ∧ i + 5 ≤ M 999 2 ∧ M 999 2 ≤ 320) (go : la_go M i Q) : ab_wp 30 194 643 (la_ls i) [] M Q := by
  obtain ⟨r, t2, M1, M2, e1, s1, e2, h2⟩ := c_sold h (M 1000 (i + 1).toNat) (M 1000 (i + 2).toNat) (M 1000 (i + 3).toNat)
  have u1 := la_up h.1 e1
  have u2 := la_up s1 e2
  have hi1 : 0 ≤ i ∧ i + 5 ≤ M1 999 2 ∧ M1 999 2 ≤ 320 := by rw [u1.1]; exact hi
  refine wp_sts 1 (pc' := 644) (ls' := la_ls i) (st' := [.inr (.inr 0)]) (M' := M) rfl ?_
  refine la_x (k := 1) rfl rfl rfl (by omega) hi ?_
  refine la_x (k := 2) rfl rfl rfl (by omega) hi ?_
  refine la_x (k := 3) rfl rfl rfl (by omega) hi ?_
  refine g_callI (c := 84) (as := [.inr (.inr 0), .inl (M 1000 (i + 1).toNat), .inl (M 1000 (i + 2).toNat), .inl (M 1000 (i + 3).toNat)]) (rs := []) (v := .inl r) rfl rfl h.1 (by omega) rfl e1 ?_
  refine wp_sts 1 (pc' := 663) (ls' := la_ls i) (st' := [.inr (.inr 103), .inl r]) (M' := M1) rfl ?_
  refine la_x (k := 1) rfl rfl rfl (by omega) hi1 ?_
  refine la_x (k := 2) rfl rfl rfl (by omega) hi1 ?_
  refine la_x (k := 3) rfl rfl rfl (by omega) hi1 ?_
  rw [u1.2]
  refine g_callI (c := 163) (as := [.inr (.inr 103), .inl (M 1000 (i + 1).toNat), .inl (M 1000 (i + 2).toNat), .inl (M 1000 (i + 3).toNat)]) (rs := [.inl r]) (v := .inl r) rfl rfl s1 (by omega) rfl e2 ?_
  exact c2_eq rfl (fun _ => la_next hi go h2 (u2.1.trans u1.1) (u2.2.trans u1.2)) (fun q => absurd rfl q)
set_option maxRecDepth 100000 in
theorem la_20 {t : Nat} {i : Int} {M : ab_M} {Q : Option ab_V → ab_M → Prop} (h : pu_inv t M) (hx : ∀ j, ab_rg (M 1000 j)) (hi : 0 ≤ i ∧ i + 5 ≤ M 999 2 ∧ M 999 2 ≤ 320) (go : la_go M i Q) : ab_wp 30 194 686 (la_ls i) [] M Q := by
  obtain ⟨r, t2, M1, M2, e1, s1, e2, h2⟩ := c_thief h (M 1000 (i + 1).toNat) (M 1000 (i + 2).toNat) (M 1000 (i + 3).toNat) (M 1000 (i + 4).toNat)
  have u1 := la_up h.1 e1
  have u2 := la_up s1 e2
  have hi1 : 0 ≤ i ∧ i + 5 ≤ M1 999 2 ∧ M1 999 2 ≤ 320 := by rw [u1.1]; exact hi
  refine wp_sts 1 (pc' := 687) (ls' := la_ls i) (st' := [.inr (.inr 0)]) (M' := M) rfl ?_
  refine la_x (k := 1) rfl rfl rfl (by omega) hi ?_
  refine la_x (k := 2) rfl rfl rfl (by omega) hi ?_
  refine la_x (k := 3) rfl rfl rfl (by omega) hi ?_
  refine la_x (k := 4) rfl rfl rfl (by omega) hi ?_
  refine g_callI (c := 85) (as := [.inr (.inr 0), .inl (M 1000 (i + 1).toNat), .inl (M 1000 (i + 2).toNat), .inl (M 1000 (i + 3).toNat), .inl (M 1000 (i + 4).toNat)]) (rs := []) (v := .inl r) rfl rfl h.1 (by omega) rfl e1 ?_
  refine wp_sts 1 (pc' := 711) (ls' := la_ls i) (st' := [.inr (.inr 103), .inl r]) (M' := M1) rfl ?_
  refine la_x (k := 1) rfl rfl rfl (by omega) hi1 ?_
  refine la_x (k := 2) rfl rfl rfl (by omega) hi1 ?_
  refine la_x (k := 3) rfl rfl rfl (by omega) hi1 ?_
  refine la_x (k := 4) rfl rfl rfl (by omega) hi1 ?_
  rw [u1.2]
  refine g_callI (c := 168) (as := [.inr (.inr 103), .inl (M 1000 (i + 1).toNat), .inl (M 1000 (i + 2).toNat), .inl (M 1000 (i + 3).toNat), .inl (M 1000 (i + 4).toNat)]) (rs := [.inl r]) (v := .inl r) rfl rfl s1 (by omega) rfl e2 ?_
  exact c2_eq rfl (fun _ => la_next hi go h2 (u2.1.trans u1.1) (u2.2.trans u1.2)) (fun q => absurd rfl q)
set_option maxRecDepth 100000 in
theorem la_21 {t : Nat} {i : Int} {M : ab_M} {Q : Option ab_V → ab_M → Prop} (h : pu_inv t M) (hx : ∀ j, ab_rg (M 1000 j)) (hi : 0 ≤ i ∧ i + 5 ≤ M 999 2 ∧ M 999 2 ≤ 320) (go : la_go M i Q) : ab_wp 30 194 739 (la_ls i) [] M Q := by
  obtain ⟨r, t2, M1, M2, e1, s1, e2, h2⟩ := c_vote h (M 1000 (i + 1).toNat)
  have u1 := la_up h.1 e1
  have u2 := la_up s1 e2
  have hi1 : 0 ≤ i ∧ i + 5 ≤ M1 999 2 ∧ M1 999 2 ≤ 320 := by rw [u1.1]; exact hi
  refine wp_sts 1 (pc' := 740) (ls' := la_ls i) (st' := [.inr (.inr 0)]) (M' := M) rfl ?_
  refine la_x (k := 1) rfl rfl rfl (by omega) hi ?_
  refine g_callI (c := 86) (as := [.inr (.inr 0), .inl (M 1000 (i + 1).toNat)]) (rs := []) (v := .inl r) rfl rfl h.1 (by omega) rfl e1 ?_
  refine wp_sts 1 (pc' := 749) (ls' := la_ls i) (st' := [.inr (.inr 103), .inl r]) (M' := M1) rfl ?_
  refine la_x (k := 1) rfl rfl rfl (by omega) hi1 ?_
  rw [u1.2]
  refine g_callI (c := 172) (as := [.inr (.inr 103), .inl (M 1000 (i + 1).toNat)]) (rs := [.inl r]) (v := .inl r) rfl rfl s1 (by omega) rfl e2 ?_
  exact c2_eq rfl (fun _ => la_next hi go h2 (u2.1.trans u1.1) (u2.2.trans u1.2)) (fun q => absurd rfl q)
set_option maxRecDepth 100000 in
theorem la_22 {t : Nat} {i : Int} {M : ab_M} {Q : Option ab_V → ab_M → Prop} (h : pu_inv t M) (hx : ∀ j, ab_rg (M 1000 j)) (hi : 0 ≤ i ∧ i + 5 ≤ M 999 2 ∧ M 999 2 ≤ 320) (go : la_go M i Q) : ab_wp 30 194 762 (la_ls i) [] M Q := by
  obtain ⟨r, t2, M1, M2, e1, s1, e2, h2⟩ := c_bestWord h 
  have u1 := la_up h.1 e1
  have u2 := la_up s1 e2
  have hi1 : 0 ≤ i ∧ i + 5 ≤ M1 999 2 ∧ M1 999 2 ≤ 320 := by rw [u1.1]; exact hi
  refine wp_sts 1 (pc' := 763) (ls' := la_ls i) (st' := [.inr (.inr 0)]) (M' := M) rfl ?_
  refine g_callI (c := 87) (as := [.inr (.inr 0)]) (rs := []) (v := .inl r) rfl rfl h.1 (by omega) rfl e1 ?_
  refine wp_sts 1 (pc' := 767) (ls' := la_ls i) (st' := [.inr (.inr 103), .inl r]) (M' := M1) rfl ?_
  refine g_callI (c := 173) (as := [.inr (.inr 103)]) (rs := [.inl r]) (v := .inl r) rfl rfl s1 (by omega) rfl e2 ?_
  exact c2_eq rfl (fun _ => la_next hi go h2 (u2.1.trans u1.1) (u2.2.trans u1.2)) (fun q => absurd rfl q)
set_option maxRecDepth 100000 in
theorem la_23 {t : Nat} {i : Int} {M : ab_M} {Q : Option ab_V → ab_M → Prop} (h : pu_inv t M) (hx : ∀ j, ab_rg (M 1000 j)) (hi : 0 ≤ i ∧ i + 5 ≤ M 999 2 ∧ M 999 2 ≤ 320) (go : la_go M i Q) : ab_wp 30 194 775 (la_ls i) [] M Q := by
  obtain ⟨r, t2, M1, M2, e1, s1, e2, h2⟩ := c_tell h (M 1000 (i + 1).toNat) (M 1000 (i + 2).toNat)
  have u1 := la_up h.1 e1
  have u2 := la_up s1 e2
  have hi1 : 0 ≤ i ∧ i + 5 ≤ M1 999 2 ∧ M1 999 2 ≤ 320 := by rw [u1.1]; exact hi
  refine wp_sts 1 (pc' := 776) (ls' := la_ls i) (st' := [.inr (.inr 0)]) (M' := M) rfl ?_
  refine la_x (k := 1) rfl rfl rfl (by omega) hi ?_
  refine la_x (k := 2) rfl rfl rfl (by omega) hi ?_
  refine g_callI (c := 88) (as := [.inr (.inr 0), .inl (M 1000 (i + 1).toNat), .inl (M 1000 (i + 2).toNat)]) (rs := []) (v := .inl r) rfl rfl h.1 (by omega) rfl e1 ?_
  refine wp_sts 1 (pc' := 790) (ls' := la_ls i) (st' := [.inr (.inr 103), .inl r]) (M' := M1) rfl ?_
  refine la_x (k := 1) rfl rfl rfl (by omega) hi1 ?_
  refine la_x (k := 2) rfl rfl rfl (by omega) hi1 ?_
  rw [u1.2]
  refine g_callI (c := 174) (as := [.inr (.inr 103), .inl (M 1000 (i + 1).toNat), .inl (M 1000 (i + 2).toNat)]) (rs := [.inl r]) (v := .inl r) rfl rfl s1 (by omega) rfl e2 ?_
  exact c2_eq rfl (fun _ => la_next hi go h2 (u2.1.trans u1.1) (u2.2.trans u1.2)) (fun q => absurd rfl q)
set_option maxRecDepth 100000 in
theorem la_24 {t : Nat} {i : Int} {M : ab_M} {Q : Option ab_V → ab_M → Prop} (h : pu_inv t M) (hx : ∀ j, ab_rg (M 1000 j)) (hi : 0 ≤ i ∧ i + 5 ≤ M 999 2 ∧ M 999 2 ≤ 320) (go : la_go M i Q) : ab_wp 30 194 808 (la_ls i) [] M Q := by
  obtain ⟨r, t2, M1, M2, e1, s1, e2, h2⟩ := c_days h 
  have u1 := la_up h.1 e1
  have u2 := la_up s1 e2
  have hi1 : 0 ≤ i ∧ i + 5 ≤ M1 999 2 ∧ M1 999 2 ≤ 320 := by rw [u1.1]; exact hi
  refine wp_sts 1 (pc' := 809) (ls' := la_ls i) (st' := [.inr (.inr 0)]) (M' := M) rfl ?_
  refine g_callI (c := 89) (as := [.inr (.inr 0)]) (rs := []) (v := .inl r) rfl rfl h.1 (by omega) rfl e1 ?_
  refine wp_sts 1 (pc' := 813) (ls' := la_ls i) (st' := [.inr (.inr 103), .inl r]) (M' := M1) rfl ?_
  refine g_callI (c := 177) (as := [.inr (.inr 103)]) (rs := [.inl r]) (v := .inl r) rfl rfl s1 (by omega) rfl e2 ?_
  exact c2_eq rfl (fun _ => la_next hi go h2 (u2.1.trans u1.1) (u2.2.trans u1.2)) (fun q => absurd rfl q)
set_option maxRecDepth 100000 in
theorem la_25 {t : Nat} {i : Int} {M : ab_M} {Q : Option ab_V → ab_M → Prop} (h : pu_inv t M) (hx : ∀ j, ab_rg (M 1000 j)) (hi : 0 ≤ i ∧ i + 5 ≤ M 999 2 ∧ M 999 2 ≤ 320) (go : la_go M i Q) : ab_wp 30 194 821 (la_ls i) [] M Q := by
  obtain ⟨r, t2, M1, M2, e1, s1, e2, h2⟩ := c_where h (M 1000 (i + 1).toNat)
  have u1 := la_up h.1 e1
  have u2 := la_up s1 e2
  have hi1 : 0 ≤ i ∧ i + 5 ≤ M1 999 2 ∧ M1 999 2 ≤ 320 := by rw [u1.1]; exact hi
  refine wp_sts 1 (pc' := 822) (ls' := la_ls i) (st' := [.inr (.inr 0)]) (M' := M) rfl ?_
  refine la_x (k := 1) rfl rfl rfl (by omega) hi ?_
  refine g_callI (c := 90) (as := [.inr (.inr 0), .inl (M 1000 (i + 1).toNat)]) (rs := []) (v := .inl r) rfl rfl h.1 (by omega) rfl e1 ?_
  refine wp_sts 1 (pc' := 831) (ls' := la_ls i) (st' := [.inr (.inr 103), .inl r]) (M' := M1) rfl ?_
  refine la_x (k := 1) rfl rfl rfl (by omega) hi1 ?_
  rw [u1.2]
  refine g_callI (c := 178) (as := [.inr (.inr 103), .inl (M 1000 (i + 1).toNat)]) (rs := [.inl r]) (v := .inl r) rfl rfl s1 (by omega) rfl e2 ?_
  exact c2_eq rfl (fun _ => la_next hi go h2 (u2.1.trans u1.1) (u2.2.trans u1.2)) (fun q => absurd rfl q)
set_option maxRecDepth 100000 in
theorem la_26 {t : Nat} {i : Int} {M : ab_M} {Q : Option ab_V → ab_M → Prop} (h : pu_inv t M) (hx : ∀ j, ab_rg (M 1000 j)) (hi : 0 ≤ i ∧ i + 5 ≤ M 999 2 ∧ M 999 2 ≤ 320) (go : la_go M i Q) : ab_wp 30 194 844 (la_ls i) [] M Q := by
  obtain ⟨r, t2, M1, M2, e1, s1, e2, h2⟩ := c_write h (M 1000 (i + 1).toNat) (M 1000 (i + 2).toNat)
  have u1 := la_up h.1 e1
  have u2 := la_up s1 e2
  have hi1 : 0 ≤ i ∧ i + 5 ≤ M1 999 2 ∧ M1 999 2 ≤ 320 := by rw [u1.1]; exact hi
  refine wp_sts 1 (pc' := 845) (ls' := la_ls i) (st' := [.inr (.inr 0)]) (M' := M) rfl ?_
  refine la_x (k := 1) rfl rfl rfl (by omega) hi ?_
  refine la_x (k := 2) rfl rfl rfl (by omega) hi ?_
  refine g_callI (c := 91) (as := [.inr (.inr 0), .inl (M 1000 (i + 1).toNat), .inl (M 1000 (i + 2).toNat)]) (rs := []) (v := .inl r) rfl rfl h.1 (by omega) rfl e1 ?_
  refine wp_sts 1 (pc' := 859) (ls' := la_ls i) (st' := [.inr (.inr 103), .inl r]) (M' := M1) rfl ?_
  refine la_x (k := 1) rfl rfl rfl (by omega) hi1 ?_
  refine la_x (k := 2) rfl rfl rfl (by omega) hi1 ?_
  rw [u1.2]
  refine g_callI (c := 179) (as := [.inr (.inr 103), .inl (M 1000 (i + 1).toNat), .inl (M 1000 (i + 2).toNat)]) (rs := [.inl r]) (v := .inl r) rfl rfl s1 (by omega) rfl e2 ?_
  exact c2_eq rfl (fun _ => la_next hi go h2 (u2.1.trans u1.1) (u2.2.trans u1.2)) (fun q => absurd rfl q)
set_option maxRecDepth 100000 in
theorem la_27 {t : Nat} {i : Int} {M : ab_M} {Q : Option ab_V → ab_M → Prop} (h : pu_inv t M) (hx : ∀ j, ab_rg (M 1000 j)) (hi : 0 ≤ i ∧ i + 5 ≤ M 999 2 ∧ M 999 2 ≤ 320) (go : la_go M i Q) : ab_wp 30 194 877 (la_ls i) [] M Q := by
  obtain ⟨r, t2, M1, M2, e1, s1, e2, h2⟩ := c_judge h 
  have u1 := la_up h.1 e1
  have u2 := la_up s1 e2
  have hi1 : 0 ≤ i ∧ i + 5 ≤ M1 999 2 ∧ M1 999 2 ≤ 320 := by rw [u1.1]; exact hi
  refine wp_sts 1 (pc' := 878) (ls' := la_ls i) (st' := [.inr (.inr 0)]) (M' := M) rfl ?_
  refine g_callI (c := 92) (as := [.inr (.inr 0)]) (rs := []) (v := .inl r) rfl rfl h.1 (by omega) rfl e1 ?_
  refine wp_sts 1 (pc' := 882) (ls' := la_ls i) (st' := [.inr (.inr 103), .inl r]) (M' := M1) rfl ?_
  refine g_callI (c := 180) (as := [.inr (.inr 103)]) (rs := [.inl r]) (v := .inl r) rfl rfl s1 (by omega) rfl e2 ?_
  exact c2_eq rfl (fun _ => la_next hi go h2 (u2.1.trans u1.1) (u2.2.trans u1.2)) (fun q => absurd rfl q)
set_option maxRecDepth 100000 in
theorem la_28 {t : Nat} {i : Int} {M : ab_M} {Q : Option ab_V → ab_M → Prop} (h : pu_inv t M) (hx : ∀ j, ab_rg (M 1000 j)) (hi : 0 ≤ i ∧ i + 5 ≤ M 999 2 ∧ M 999 2 ≤ 320) (go : la_go M i Q) : ab_wp 30 194 890 (la_ls i) [] M Q := by
  obtain ⟨r, t2, M1, M2, e1, s1, e2, h2⟩ := c_tear h 
  have u1 := la_up h.1 e1
  have u2 := la_up s1 e2
  have hi1 : 0 ≤ i ∧ i + 5 ≤ M1 999 2 ∧ M1 999 2 ≤ 320 := by rw [u1.1]; exact hi
  refine wp_sts 1 (pc' := 891) (ls' := la_ls i) (st' := [.inr (.inr 0)]) (M' := M) rfl ?_
  refine g_callI (c := 93) (as := [.inr (.inr 0)]) (rs := []) (v := .inl r) rfl rfl h.1 (by omega) rfl e1 ?_
  refine wp_sts 1 (pc' := 895) (ls' := la_ls i) (st' := [.inr (.inr 103), .inl r]) (M' := M1) rfl ?_
  refine g_callI (c := 181) (as := [.inr (.inr 103)]) (rs := [.inl r]) (v := .inl r) rfl rfl s1 (by omega) rfl e2 ?_
  exact c2_eq rfl (fun _ => la_next hi go h2 (u2.1.trans u1.1) (u2.2.trans u1.2)) (fun q => absurd rfl q)
set_option maxRecDepth 100000 in
theorem la_29 {t : Nat} {i : Int} {M : ab_M} {Q : Option ab_V → ab_M → Prop} (h : pu_inv t M) (hx : ∀ j, ab_rg (M 1000 j)) (hi : 0 ≤ i ∧ i + 5 ≤ M 999 2 ∧ M 999 2 ≤ 320) (go : la_go M i Q) : ab_wp 30 194 903 (la_ls i) [] M Q := by
  obtain ⟨r, t2, M1, M2, e1, s1, e2, h2⟩ := c_seed h (M 1000 (i + 1).toNat) (hx _)
  have u1 := la_up h.1 e1
  have u2 := la_up s1 e2
  have hi1 : 0 ≤ i ∧ i + 5 ≤ M1 999 2 ∧ M1 999 2 ≤ 320 := by rw [u1.1]; exact hi
  refine wp_sts 1 (pc' := 904) (ls' := la_ls i) (st' := [.inr (.inr 0)]) (M' := M) rfl ?_
  refine la_x (k := 1) rfl rfl rfl (by omega) hi ?_
  refine g_callI (c := 94) (as := [.inr (.inr 0), .inl (M 1000 (i + 1).toNat)]) (rs := []) (v := .inl r) rfl rfl h.1 (by omega) rfl e1 ?_
  refine wp_sts 1 (pc' := 913) (ls' := la_ls i) (st' := [.inr (.inr 103), .inl r]) (M' := M1) rfl ?_
  refine la_x (k := 1) rfl rfl rfl (by omega) hi1 ?_
  rw [u1.2]
  refine g_callI (c := 182) (as := [.inr (.inr 103), .inl (M 1000 (i + 1).toNat)]) (rs := [.inl r]) (v := .inl r) rfl rfl s1 (by omega) rfl e2 ?_
  exact c2_eq rfl (fun _ => la_next hi go h2 (u2.1.trans u1.1) (u2.2.trans u1.2)) (fun q => absurd rfl q)
set_option maxRecDepth 100000 in
theorem la_30 {t : Nat} {i : Int} {M : ab_M} {Q : Option ab_V → ab_M → Prop} (h : pu_inv t M) (hx : ∀ j, ab_rg (M 1000 j)) (hi : 0 ≤ i ∧ i + 5 ≤ M 999 2 ∧ M 999 2 ≤ 320) (go : la_go M i Q) : ab_wp 30 194 926 (la_ls i) [] M Q := by
  obtain ⟨r, t2, M1, M2, e1, s1, e2, h2⟩ := c_keep h (M 1000 (i + 1).toNat)
  have u1 := la_up h.1 e1
  have u2 := la_up s1 e2
  have hi1 : 0 ≤ i ∧ i + 5 ≤ M1 999 2 ∧ M1 999 2 ≤ 320 := by rw [u1.1]; exact hi
  refine wp_sts 1 (pc' := 927) (ls' := la_ls i) (st' := [.inr (.inr 0)]) (M' := M) rfl ?_
  refine la_x (k := 1) rfl rfl rfl (by omega) hi ?_
  refine g_callI (c := 95) (as := [.inr (.inr 0), .inl (M 1000 (i + 1).toNat)]) (rs := []) (v := .inl r) rfl rfl h.1 (by omega) rfl e1 ?_
  refine wp_sts 1 (pc' := 936) (ls' := la_ls i) (st' := [.inr (.inr 103), .inl r]) (M' := M1) rfl ?_
  refine la_x (k := 1) rfl rfl rfl (by omega) hi1 ?_
  rw [u1.2]
  refine g_callI (c := 183) (as := [.inr (.inr 103), .inl (M 1000 (i + 1).toNat)]) (rs := [.inl r]) (v := .inl r) rfl rfl s1 (by omega) rfl e2 ?_
  exact c2_eq rfl (fun _ => la_next hi go h2 (u2.1.trans u1.1) (u2.2.trans u1.2)) (fun q => absurd rfl q)
set_option maxRecDepth 100000 in
theorem la_31 {t : Nat} {i : Int} {M : ab_M} {Q : Option ab_V → ab_M → Prop} (h : pu_inv t M) (hx : ∀ j, ab_rg (M 1000 j)) (hi : 0 ≤ i ∧ i + 5 ≤ M 999 2 ∧ M 999 2 ≤ 320) (go : la_go M i Q) : ab_wp 30 194 949 (la_ls i) [] M Q := by
  obtain ⟨r, t2, M1, M2, e1, s1, e2, h2⟩ := c_goBack h (M 1000 (i + 1).toNat)
  have u1 := la_up h.1 e1
  have u2 := la_up s1 e2
  have hi1 : 0 ≤ i ∧ i + 5 ≤ M1 999 2 ∧ M1 999 2 ≤ 320 := by rw [u1.1]; exact hi
  refine wp_sts 1 (pc' := 950) (ls' := la_ls i) (st' := [.inr (.inr 0)]) (M' := M) rfl ?_
  refine la_x (k := 1) rfl rfl rfl (by omega) hi ?_
  refine g_callI (c := 96) (as := [.inr (.inr 0), .inl (M 1000 (i + 1).toNat)]) (rs := []) (v := .inl r) rfl rfl h.1 (by omega) rfl e1 ?_
  refine wp_sts 1 (pc' := 959) (ls' := la_ls i) (st' := [.inr (.inr 103), .inl r]) (M' := M1) rfl ?_
  refine la_x (k := 1) rfl rfl rfl (by omega) hi1 ?_
  rw [u1.2]
  refine g_callI (c := 184) (as := [.inr (.inr 103), .inl (M 1000 (i + 1).toNat)]) (rs := [.inl r]) (v := .inl r) rfl rfl s1 (by omega) rfl e2 ?_
  exact c2_eq rfl (fun _ => la_next hi go h2 (u2.1.trans u1.1) (u2.2.trans u1.2)) (fun q => absurd rfl q)
set_option maxRecDepth 100000 in
theorem la_sw {t : Nat} {i : Int} {M : ab_M} {Q : Option ab_V → ab_M → Prop} (h : pu_inv t M) (hx : ∀ j, ab_rg (M 1000 j)) (hi : 0 ≤ i ∧ i + 5 ≤ M 999 2 ∧ M 999 2 ≤ 320) (go : la_go M i Q) {x : Int} (h0 : 0 ≤ x ∧ x ≤ 31) : ab_wp 30 194 32 (la_ls i) [.inl x] M Q := by
  have hc : x = 0 ∨ x = 1 ∨ x = 2 ∨ x = 3 ∨ x = 4 ∨ x = 5 ∨ x = 6 ∨ x = 7 ∨ x = 8 ∨ x = 9 ∨ x = 10 ∨ x = 11 ∨ x = 12 ∨ x = 13 ∨ x = 14 ∨ x = 15 ∨ x = 16 ∨ x = 17 ∨ x = 18 ∨ x = 19 ∨ x = 20 ∨ x = 21 ∨ x = 22 ∨ x = 23 ∨ x = 24 ∨ x = 25 ∨ x = 26 ∨ x = 27 ∨ x = 28 ∨ x = 29 ∨ x = 30 ∨ x = 31 := by omega
  rcases hc with rfl | rfl | rfl | rfl | rfl | rfl | rfl | rfl | rfl | rfl | rfl | rfl | rfl | rfl | rfl | rfl | rfl | rfl | rfl | rfl | rfl | rfl | rfl | rfl | rfl | rfl | rfl | rfl | rfl | rfl | rfl | rfl
  · refine wp_sts 1 (pc' := 176) (ls' := la_ls i) (st' := []) (M' := M) rfl ?_
    exact la_0 h hx hi go
  · refine wp_sts 1 (pc' := 199) (ls' := la_ls i) (st' := []) (M' := M) rfl ?_
    exact la_1 h hx hi go
  · refine wp_sts 1 (pc' := 212) (ls' := la_ls i) (st' := []) (M' := M) rfl ?_
    exact la_2 h hx hi go
  · refine wp_sts 1 (pc' := 225) (ls' := la_ls i) (st' := []) (M' := M) rfl ?_
    exact la_3 h hx hi go
  · refine wp_sts 1 (pc' := 248) (ls' := la_ls i) (st' := []) (M' := M) rfl ?_
    exact la_4 h hx hi go
  · refine wp_sts 1 (pc' := 281) (ls' := la_ls i) (st' := []) (M' := M) rfl ?_
    exact la_5 h hx hi go
  · refine wp_sts 1 (pc' := 314) (ls' := la_ls i) (st' := []) (M' := M) rfl ?_
    exact la_6 h hx hi go
  · refine wp_sts 1 (pc' := 347) (ls' := la_ls i) (st' := []) (M' := M) rfl ?_
    exact la_7 h hx hi go
  · refine wp_sts 1 (pc' := 380) (ls' := la_ls i) (st' := []) (M' := M) rfl ?_
    exact la_8 h hx hi go
  · refine wp_sts 1 (pc' := 403) (ls' := la_ls i) (st' := []) (M' := M) rfl ?_
    exact la_9 h hx hi go
  · refine wp_sts 1 (pc' := 426) (ls' := la_ls i) (st' := []) (M' := M) rfl ?_
    exact la_10 h hx hi go
  · refine wp_sts 1 (pc' := 449) (ls' := la_ls i) (st' := []) (M' := M) rfl ?_
    exact la_11 h hx hi go
  · refine wp_sts 1 (pc' := 462) (ls' := la_ls i) (st' := []) (M' := M) rfl ?_
    exact la_12 h hx hi go
  · refine wp_sts 1 (pc' := 485) (ls' := la_ls i) (st' := []) (M' := M) rfl ?_
    exact la_13 h hx hi go
  · refine wp_sts 1 (pc' := 508) (ls' := la_ls i) (st' := []) (M' := M) rfl ?_
    exact la_14 h hx hi go
  · refine wp_sts 1 (pc' := 531) (ls' := la_ls i) (st' := []) (M' := M) rfl ?_
    exact la_15 h hx hi go
  · refine wp_sts 1 (pc' := 554) (ls' := la_ls i) (st' := []) (M' := M) rfl ?_
    exact la_16 h hx hi go
  · refine wp_sts 1 (pc' := 577) (ls' := la_ls i) (st' := []) (M' := M) rfl ?_
    exact la_17 h hx hi go
  · refine wp_sts 1 (pc' := 620) (ls' := la_ls i) (st' := []) (M' := M) rfl ?_
    exact la_18 h hx hi go
  · refine wp_sts 1 (pc' := 643) (ls' := la_ls i) (st' := []) (M' := M) rfl ?_
    exact la_19 h hx hi go
  · refine wp_sts 1 (pc' := 686) (ls' := la_ls i) (st' := []) (M' := M) rfl ?_
    exact la_20 h hx hi go
  · refine wp_sts 1 (pc' := 739) (ls' := la_ls i) (st' := []) (M' := M) rfl ?_
    exact la_21 h hx hi go
  · refine wp_sts 1 (pc' := 762) (ls' := la_ls i) (st' := []) (M' := M) rfl ?_
    exact la_22 h hx hi go
  · refine wp_sts 1 (pc' := 775) (ls' := la_ls i) (st' := []) (M' := M) rfl ?_
    exact la_23 h hx hi go
  · refine wp_sts 1 (pc' := 808) (ls' := la_ls i) (st' := []) (M' := M) rfl ?_
    exact la_24 h hx hi go
  · refine wp_sts 1 (pc' := 821) (ls' := la_ls i) (st' := []) (M' := M) rfl ?_
    exact la_25 h hx hi go
  · refine wp_sts 1 (pc' := 844) (ls' := la_ls i) (st' := []) (M' := M) rfl ?_
    exact la_26 h hx hi go
  · refine wp_sts 1 (pc' := 877) (ls' := la_ls i) (st' := []) (M' := M) rfl ?_
    exact la_27 h hx hi go
  · refine wp_sts 1 (pc' := 890) (ls' := la_ls i) (st' := []) (M' := M) rfl ?_
    exact la_28 h hx hi go
  · refine wp_sts 1 (pc' := 903) (ls' := la_ls i) (st' := []) (M' := M) rfl ?_
    exact la_29 h hx hi go
  · refine wp_sts 1 (pc' := 926) (ls' := la_ls i) (st' := []) (M' := M) rfl ?_
    exact la_30 h hx hi go
  · refine wp_sts 1 (pc' := 949) (ls' := la_ls i) (st' := []) (M' := M) rfl ?_
    exact la_31 h hx hi go
set_option maxRecDepth 100000 in
theorem la_loop {L : Nat} {Q : Option ab_V → ab_M → Prop} (hL : L ≤ 320) (end_ : ∀ (t : Nat) (M : ab_M), pu_inv t M → Q (some (.inl 1)) M) : ∀ (f : Nat) (i : Int) (t : Nat) (M : ab_M), 0 ≤ i → i ≤ 330 → (L : Int) ≤ i + 5 * f → pu_inv t M → (∀ j, ab_rg (M 1000 j)) → M 999 2 = (L : Int) → ab_wp 30 194 18 (la_ls i) [] M Q := by
  intro f
  induction f with
  | zero =>
    intro i t M h0 h3 hf h hx hM
    refine wp_sts 1 (pc' := 19) (ls' := la_ls i) (st' := [.inl i]) (M' := M) rfl ?_
    refine wp_sts 3 (pc' := 22) (ls' := la_ls i) (st' := [.inl 5, .inl (M 999 2), .inl i]) (M' := M) rfl ?_
    refine w_isub rfl (by omega) ?_
    refine c2_gt rfl (fun _ => ?_) (fun q => by omega)
    refine wp_sts 1 (pc' := 979) (ls' := la_ls i) (st' := [.inl 1]) (M' := M) rfl ?_
    exact wp_ret rfl rfl (z := (some (.inl 1), M)) rfl (end_ t M h)
  | succ f ih =>
    intro i t M h0 h3 hf h hx hM
    refine wp_sts 1 (pc' := 19) (ls' := la_ls i) (st' := [.inl i]) (M' := M) rfl ?_
    refine wp_sts 3 (pc' := 22) (ls' := la_ls i) (st' := [.inl 5, .inl (M 999 2), .inl i]) (M' := M) rfl ?_
    refine w_isub rfl (by omega) ?_
    refine c2_gt rfl (fun _ => ?_) (fun q => ?_)
    · refine wp_sts 1 (pc' := 979) (ls' := la_ls i) (st' := [.inl 1]) (M' := M) rfl ?_
      exact wp_ret rfl rfl (z := (some (.inl 1), M)) rfl (end_ t M h)
    · refine wp_sts 2 (pc' := 28) (ls' := la_ls i) (st' := [.inl i, .inr (.inr 1000)]) (M' := M) rfl ?_
      refine w_xld rfl (by omega) ?_
      refine wp_sts 2 (pc' := 32) (ls' := la_ls i) (st' := [.inl (ab_and (M 1000 i.toNat) 31)]) (M' := M) rfl ?_
      refine la_sw h hx (by omega) (fun t' M2 h2 e1 e2 => ?_) (and31 _)
      exact ih (i + 5) t' M2 (by omega) (by omega) (by omega) h2 (by rw [e2]; exact hx) (e1.trans hM)
