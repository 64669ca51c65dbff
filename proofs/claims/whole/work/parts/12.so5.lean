section SO5
variable {p : Program} {l : Launch} {e : Env} {R : Room} {s : State} {m : MethodId} {args : Array Value} {below : List Frame} {meth : Method} {c : Code} {Q : State → Prop} {D : va_G} {I : ab_I4} {b0 : Nat} {sa : Nat → Nat} {L : Nat} {xs : Nat → Int32} {nL n0 s0 : Nat} {cc : ByteArray} {own : String} {pc : Nat} {ls : ab_L} {st : List ab_V} {M : ab_M}
theorem ab_sz {H : Heap} {locs : List Loc} {slots : Nat} {g : JFrame} (hs : s.heap.size = b0 + n0) (hn : n0 ≤ ab_nc M) (hP : va_P D vwCl (ab_ws I b0 (ab_nc M) M) H) (hS : va_S (ab_A b0) s.heap H locs) (k : H.size = b0 + ab_nc M → W p l e R s m args below meth c H locs (ab_nc M - n0) slots Q g) : W p l e R s m args below meth c H locs (ab_nc M - n0) slots Q g := by
  intro T hT X
  refine k ?_ T hT X
  have h1 := X.heapSize
  rw [hT] at h1
  have h2 : b0 + ab_nc M ≤ H.size := by
    by_cases h0 : ab_nc M = 0
    · have := hS.1; omega
    · have := (hP (ab_nc M - 1) _ (ab_ws_get (by omega))).lt
      dsimp only at this
      omega
  omega
theorem ab_fty_big {t f : Nat} (h : 11 ≤ t) : ab_fty t f = 0 := by
  unfold ab_fty
  have : ab_fts.getD t [] = [] := by
    rw [List.getD_eq_getElem?_getD, List.getElem?_eq_none (by show ab_fts.length ≤ t; exact h)]
    rfl
  rw [this]
  rfl
theorem ab_mk_lt {k : Nat} (hn : ab_nc M ≤ 995) (h : k < ab_nc M) : ab_mk M k = M k := by
  funext b
  unfold ab_mk
  rw [if_neg (by omega), if_neg (by omega)]
theorem ab_mk_at {b : Nat} : ab_mk M (ab_nc M) b = if ab_fty (ab_kd (ab_nc M)).1 b = 2 then -1 else 0 := by
  unfold ab_mk
  rw [if_pos rfl]
theorem ab_mk_9 {b : Nat} (hn : ab_nc M ≤ 995) : ab_mk M 999 b = if b = 0 then M 999 0 + 1 else if b = 1 then M 999 1 + (ab_kd (ab_nc M)).2 else M 999 b := by
  unfold ab_mk
  rw [if_neg (by omega), if_pos rfl]
theorem ab_mk_nc (h0 : 0 ≤ M 999 0) (hn : ab_nc M ≤ 995) : ab_nc (ab_mk M) = ab_nc M + 1 := by
  have : ab_mk M 999 0 = M 999 0 + 1 := by rw [ab_mk_9 hn, if_pos rfl]
  unfold ab_nc at *
  rw [this]
  omega
theorem ab_mok_mk (h : ab_mok L xs M) (hl : M 999 0 < 990) : ab_mok L xs (ab_mk M) := by
  have hn := ab_n995 h
  obtain ⟨h1, h2, h3, h4, h5, h6, h7⟩ := h
  refine ⟨fun k j hk => ?_, ?_, ?_, ?_, ?_, h6, fun j hj => ?_⟩
  · unfold ab_mk
    split
    · split <;> decide
    · exact h1 k j hk
  · rw [ab_mk_9 hn, if_pos rfl]; omega
  · rw [ab_mk_9 hn, if_pos rfl]; omega
  · rw [ab_mk_9 hn, if_neg (by decide), if_pos rfl]; omega
  · rw [ab_mk_9 hn, if_neg (by decide), if_neg (by decide)]; exact h5
  · unfold ab_mk
    rw [if_neg (by omega), if_neg (by decide)]
    exact h7 j hj
/-- behind a new cell -/
theorem so_mk {r : List ab_V} {pc' : Nat} {H H1 : Heap} {locs : List Loc} {lc : Array Slot} (hl : M 999 0 < 990) (kk : ab_K p l e R s m args below meth c Q D I b0 sa L xs nL n0 s0 pc' ls (.inr (.inr (ab_nc M)) :: r) (ab_mk M)) (h1 : ab_mok L xs M) (h2 : ∀ v ∈ r, ab_vk v) (h3 : lv_has lc nL (ab_as b0 sa 0 ls)) (h4 : ls.length = nL) (h5 : ∀ v, some v ∈ ls → ab_vk v) (hP : va_P D vwCl (ab_ws I b0 (ab_nc M) M) H) (hS : va_S (ab_A b0) s.heap H locs) (hn : n0 ≤ ab_nc M) (hs : s0 ≤ (M 999 1).toNat) (hz : H.size = b0 + ab_nc M) (z1 : H1.size = b0 + ab_nc M + 1) (o1 : ∀ q, q < b0 + ab_nc M → H1[q]? = H[q]?) (hat : va_at D vwCl (b0 + ab_nc M, ab_ce I b0 (ab_mk M) (ab_nc M)) H1) : W p l e R s m args below meth c H1 locs (ab_nc M - n0 + 1) ((M 999 1).toNat - s0 + (ab_kd (ab_nc M)).2) Q (F0 m pc' lc (.ref (b0 + ab_nc M) :: r.map (ab_cv b0 sa))) := by
  have hn9 := ab_n995 h1
  have e1 := ab_mk_nc h1.2.1 hn9
  have e2 : ab_mk M 999 1 = M 999 1 + (ab_kd (ab_nc M)).2 := by rw [ab_mk_9 hn9, if_neg (by decide), if_pos rfl]
  have h04 := h1.2.2.2.1
  have hP1 : va_P D vwCl (ab_ws I b0 (ab_nc (ab_mk M)) (ab_mk M)) H1 := by
    intro k q hk
    obtain ⟨hk, rfl⟩ := ab_ws_at hk
    rw [e1] at hk
    by_cases hlt : k < ab_nc M
    · rw [ab_ce_eq (ab_mk_lt hn9 hlt)]
      exact (hP k _ (ab_ws_get hlt)).kept (o1 _ (by dsimp only; omega))
    · have : k = ab_nc M := by omega
      subst this
      exact hat
  have := kk H1 locs lc ⟨ab_mok_mk h1 hl, List.forall_mem_cons.mpr ⟨trivial, h2⟩, h3, h4, h5, hP1, ⟨Nat.le_trans hS.1 (by omega), fun q q1 q2 => (o1 q (by have := hS.1; omega)).trans (hS.2.1 q q1 q2), hS.2.2⟩, by omega, by rw [e2]; omega⟩
  rw [e1, e2, List.map_cons, ab_adk (by omega)] at this
  have e3 : ab_nc M + 1 - n0 = ab_nc M - n0 + 1 := by omega
  have e4 : (M 999 1 + ((ab_kd (ab_nc M)).2 : Int)).toNat - s0 = (M 999 1).toNat - s0 + (ab_kd (ab_nc M)).2 := by omega
  rw [e3, e4] at this
  exact this
theorem so_new {idx : Nat} {x : Int} {u : ab_St} (C : ab_cx p s m args c D I b0 sa L xs nL n0 cc own) (hd : decode cc pc = .ok (.new idx, 3)) (hlk : ∀ (t : Nat) (r : vw_C), x = t → vwCl[t]? = some r → Cond.classLink own idx r.1 ∈ ab_tb ∧ Cond.instantiable r.1 r.2.2 ∈ ab_tb ∧ Cond.initialized r.1 ∈ ab_tb) (hu : ab_new x pc ls st M = some u) (hrm : ab_nc u.2.2.2 - n0 ≤ R.cells ∧ (u.2.2.2 999 1).toNat - s0 ≤ R.slots) (kk : ab_K p l e R s m args below meth c Q D I b0 sa L xs nL n0 s0 u.1 u.2.1 u.2.2.1 u.2.2.2) : ab_K p l e R s m args below meth c Q D I b0 sa L xs nL n0 s0 pc ls st M := by
  obtain ⟨hx, hb, hml, hown, hts, hK, hG, hsz⟩ := C
  unfold ab_new at hu
  split at hu
  next hc =>
    cases hu
    obtain ⟨c1, c2, c3, c4⟩ := hc
    intro H locs lc h
    obtain ⟨h1, h2, h3, h4, h5, hP, hS, h8, h9⟩ := h
    have hn9 := ab_n995 h1
    obtain ⟨r, hr, hN⟩ := ab_kdN c4
    obtain ⟨l1, l2, l3⟩ := hlk _ r c3 hr
    have hKn := hK.1 _ _ hr
    have e1 := ab_mk_nc h1.2.1 hn9
    have e2 : ab_mk M 999 1 = M 999 1 + (ab_kd (ab_nc M)).2 := by rw [ab_mk_9 hn9, if_neg (by decide), if_pos rfl]
    have h04 := h1.2.2.2.1
    dsimp only at hrm
    rw [e1, e2] at hrm
    refine ab_sz hsz h8 hP hS (fun hz => ?_)
    refine W.newcK hx hb hown (hts _ l1) (hts _ l2) (hts _ l3) rfl hd (by omega) (by rw [hN]; omega) hKn.2.1 hz (fun H1 kC hkC q1 z1 o1 => ?_)
    rw [hN]
    refine so_mk c2 kk h1 h2 h3 h4 h5 hP hS h8 h9 hz z1 o1 ?_
    rw [ab_ce_obj c4]
    refine ⟨r, hr, (u_born (ab_ty (ab_kd (ab_nc M)).1) hts (ab_clin _ r hr) hKn hkC q1 (fun k hk => (ab_clty hr hk).1)).to (fun j hj => ?_)⟩
    have hj' : j < (ab_kd (ab_nc M)).2 := by omega
    have hty := (ab_clty hr hj).2
    show _ = (ab_fs b0 (ab_mk M) (ab_nc M)).getD j .null
    rw [List.getD_eq_getElem?_getD, ab_fs_get hj', ab_mk_at]
    show _ = ab_fv _ _ _
    unfold ab_fv
    revert hty
    have h3f : ab_fty (ab_kd (ab_nc M)).1 j = 0 ∨ ab_fty (ab_kd (ab_nc M)).1 j = 1 ∨ ab_fty (ab_kd (ab_nc M)).1 j = 2 ∨ 3 ≤ ab_fty (ab_kd (ab_nc M)).1 j := by omega
    rcases h3f with h0 | h0 | h0 | h0
    · rw [h0]
      cases ab_ty (ab_kd (ab_nc M)).1 j <;> intro ht <;> first | (cases ht; done) | rfl
    · rw [h0]
      cases ab_ty (ab_kd (ab_nc M)).1 j <;> intro ht <;> first | (cases ht; done) | rfl
    · rw [h0]
      cases ab_ty (ab_kd (ab_nc M)).1 j <;> intro ht <;> first | (cases ht; done) | rfl
    · obtain ⟨z, hz3⟩ : ∃ z, ab_fty (ab_kd (ab_nc M)).1 j = z + 3 := ⟨_, (Nat.sub_add_cancel h0).symm⟩
      rw [hz3]
      cases ab_ty (ab_kd (ab_nc M)).1 j <;> intro ht <;> cases ht
  next => cases hu
theorem so_nar {at' : ArrayType} {x : Int} {u : ab_St} (C : ab_cx p s m args c D I b0 sa L xs nL n0 cc own) (hd : decode cc pc = .ok (.newarray at', 2)) (hat : (x = 20 → at' = .int) ∧ (x = 21 → at' = .boolean) ∧ (x = 22 → at' = .char)) (hu : ab_nar x pc ls st M = some u) (hrm : ab_nc u.2.2.2 - n0 ≤ R.cells ∧ (u.2.2.2 999 1).toNat - s0 ≤ R.slots) (kk : ab_K p l e R s m args below meth c Q D I b0 sa L xs nL n0 s0 u.1 u.2.1 u.2.2.1 u.2.2.2) : ab_K p l e R s m args below meth c Q D I b0 sa L xs nL n0 s0 pc ls st M := by
  obtain ⟨hx, hb, hml, hown, hts, hK, hG, hsz⟩ := C
  unfold ab_nar at hu
  split at hu
  next n r =>
    split at hu
    next hc =>
      cases hu
      obtain ⟨c1, c2, c3, c4, c5, c6⟩ := hc
      intro H locs lc h
      obtain ⟨h1, h2, h3, h4, h5, hP, hS, h8, h9⟩ := h
      obtain ⟨hvn, h2⟩ := List.forall_mem_cons.mp h2
      have hvn : ab_rg n := hvn
      have hn9 := ab_n995 h1
      have e1 := ab_mk_nc h1.2.1 hn9
      have e2 : ab_mk M 999 1 = M 999 1 + (ab_kd (ab_nc M)).2 := by rw [ab_mk_9 hn9, if_neg (by decide), if_pos rfl]
      have h04 := h1.2.2.2.1
      dsimp only at hrm
      rw [e1, e2] at hrm
      have hNn : (Int32.ofInt n).toNatClampNeg = (ab_kd (ab_nc M)).2 := by rw [ab_cl32 hvn]; omega
      have hneg : ¬ Int32.ofInt n < 0 := by
        have : (Int32.ofInt n < 0) ↔ n < 0 := ab_lt32 hvn ab_rg0
        rw [this]; omega
      have zero : ∀ j, ab_is (ab_mk M) (ab_nc M) j = 0 := by
        intro j
        unfold ab_is
        rw [ab_mk_at, ab_fty_big (by omega), if_neg (by decide)]
        rfl
      refine ab_sz hsz h8 hP hS (fun hz => ?_)
      rcases c4 with rfl | rfl | rfl
      · obtain rfl := hat.1 rfl
        refine va_newaK hx hb (hts _ (ab_ix_mem (i := 124) (by decide +kernel))) rfl hd rfl hneg hNn (by show _ * 4 ≤ _; omega) (by omega) (by omega) hz (fun H1 cA q1 z1 o1 _ hcA => ?_)
        have ec : cA = I.1 := Option.some.inj (hcA.symm.trans (hK.2 0 _ rfl).2)
        subst ec
        refine so_mk c2 kk h1 h2 h3 h4 h5 hP hS h8 h9 hz z1 o1 ?_
        unfold ab_ce
        rw [if_pos (by omega)]
        show H1[b0 + ab_nc M]? = some (vp_cell _ _)
        rw [q1, vp_cell_i]
        congr 2
        funext j
        rw [zero j]
        rfl
      · obtain rfl := hat.2.1 rfl
        refine va_newaK hx hb (hts _ (ab_ix_mem (i := 329) (by decide +kernel))) rfl hd rfl hneg hNn (by show _ * 1 ≤ _; omega) (by omega) (by omega) hz (fun H1 cA q1 z1 o1 _ hcA => ?_)
        have ec : cA = I.2.1 := Option.some.inj (hcA.symm.trans (hK.2 1 _ rfl).2)
        subst ec
        refine so_mk c2 kk h1 h2 h3 h4 h5 hP hS h8 h9 hz z1 o1 ?_
        unfold ab_ce
        rw [if_neg (by omega), if_pos (by omega)]
        show H1[b0 + ab_nc M]? = some (vp_cell _ _)
        rw [q1, vp_cell_i]
        congr 2
        funext j
        rw [zero j]
        rfl
      · obtain rfl := hat.2.2 rfl
        refine va_newaK hx hb (hts _ (ab_ix_mem (i := 123) (by decide +kernel))) rfl hd rfl hneg hNn (by show _ * 2 ≤ _; omega) (by omega) (by omega) hz (fun H1 cA q1 z1 o1 _ hcA => ?_)
        have ec : cA = I.2.2.1 := Option.some.inj (hcA.symm.trans (hK.2 2 _ rfl).2)
        subst ec
        refine so_mk c2 kk h1 h2 h3 h4 h5 hP hS h8 h9 hz z1 o1 ?_
        unfold ab_ce
        rw [if_neg (by omega), if_neg (by omega), if_pos (by omega)]
        show H1[b0 + ab_nc M]? = some (vp_cell _ _)
        rw [q1, vp_cell_i]
        congr 2
        funext j
        rw [zero j]
        rfl
    next => cases hu
  next => cases hu
theorem so_oi {idx : Nat} {u : ab_St} (C : ab_cx p s m args c D I b0 sa L xs nL n0 cc own) (hd : decode cc pc = .ok (.invokespecial idx, 3)) (hlk : Cond.methodLink own idx Lib.objectInit ∈ ab_tb) (hR : 1 ≤ R.frames ∧ 100 ≤ R.locals) (hu : ab_oi pc ls st M = some u) (kk : ab_K p l e R s m args below meth c Q D I b0 sa L xs nL n0 s0 u.1 u.2.1 u.2.2.1 u.2.2.2) : ab_K p l e R s m args below meth c Q D I b0 sa L xs nL n0 s0 pc ls st M := by
  obtain ⟨hx, hb, hml, hown, hts, hK, hG, hsz⟩ := C
  unfold ab_oi at hu
  split at hu
  next k r =>
    split at hu
    next hc =>
      cases hu
      intro H locs lc h
      obtain ⟨h1, h2, h3⟩ := h
      obtain ⟨-, h2⟩ := List.forall_mem_cons.mp h2
      have hcat : ((r.map (ab_cv b0 sa)).map fun v => v.category).sum = (r.map ab_cat).sum := by
        rw [List.map_map]
        congr 1
        apply List.map_congr_left
        intro v _
        exact ab_cat_cv b0 sa v
      refine W.objInit hx hb hown (hts _ hlk) (hts _ (ab_ix_mem (i := 94) (by decide +kernel))) (hts _ (ab_ix_mem (i := 95) (by decide +kernel))) rfl (by rw [hml]; exact h3.1.1) rfl hd hR.1 ?_ (kk H locs lc ⟨h1, h2, h3⟩)
      rw [hcat]
      show 2 * 0 + _ + 12 ≤ _
      omega
    next => cases hu
  next => cases hu
theorem ab_cpm_ne {sc d sp dp n j : Nat} (h : j ≠ d) : ab_cpm M sc d sp dp n j = M j := by
  funext b
  unfold ab_cpm
  rw [if_neg (fun q => h q.1)]
theorem so_cpy {idx : Nat} {u : ab_St} (C : ab_cx p s m args c D I b0 sa L xs nL n0 cc own) (hd : decode cc pc = .ok (.invokestatic idx, 3)) (hlk : Cond.methodLink own idx arraycopyName ∈ ab_tb) (hR : 1 ≤ R.frames ∧ 100 ≤ R.locals) (hu : ab_cpy pc ls st M = some u) (kk : ab_K p l e R s m args below meth c Q D I b0 sa L xs nL n0 s0 u.1 u.2.1 u.2.2.1 u.2.2.2) : ab_K p l e R s m args below meth c Q D I b0 sa L xs nL n0 s0 pc ls st M := by
  obtain ⟨hx, hb, hml, hown, hts, hK, hG, hsz⟩ := C
  unfold ab_cpy at hu
  split at hu
  next n dp d sp sc r =>
    split at hu
    next hc =>
      cases hu
      obtain ⟨c1, c2, c3, c4, c5, c6, c7, c8, c9, c10⟩ := hc
      intro H locs lc h
      obtain ⟨h1, h2, h3, h4, h5, hP, hS, h8, h9⟩ := h
      obtain ⟨hvn, h2⟩ := List.forall_mem_cons.mp h2
      obtain ⟨hvdp, h2⟩ := List.forall_mem_cons.mp h2
      obtain ⟨-, h2⟩ := List.forall_mem_cons.mp h2
      obtain ⟨hvsp, h2⟩ := List.forall_mem_cons.mp h2
      obtain ⟨-, h2⟩ := List.forall_mem_cons.mp h2
      have hvn : ab_rg n := hvn
      have hvdp : ab_rg dp := hvdp
      have hvsp : ab_rg sp := hvsp
      have hn9 := ab_n995 h1
      have ng : ∀ z : Int, ab_rg z → 0 ≤ z → ¬ Int32.ofInt z < 0 := by
        intro z hz h0
        have : (Int32.ofInt z < 0) ↔ z < 0 := ab_lt32 hz ab_rg0
        rw [this]; omega
      have hcat : ((r.map (ab_cv b0 sa)).map fun v => v.category).sum = (r.map ab_cat).sum := by
        rw [List.map_map]
        congr 1
        apply List.map_congr_left
        intro v _
        exact ab_cat_cv b0 sa v
      rw [List.map_cons, List.map_cons, List.map_cons, List.map_cons, List.map_cons, ab_adk (by omega : d < 1000), ab_adk (by omega : sc < 1000)]
      refine va_copyi hx hb (by rw [hml]; exact h3.1.symm) hown (hts _ hlk) (hts _ (ab_ix_mem (i := 754) (by decide +kernel))) (hts _ (ab_ix_mem (i := 753) (by decide +kernel))) (hts _ (ab_ix_mem (i := 87) (by decide +kernel))) hK hP ab_D hS sc d 0 0 (f := ab_is M sc) (g := ab_is M d) (ty := .int) (c0 := I.1) (c1 := I.1) (n0 := (ab_kd sc).2) (n1 := (ab_kd d).2)
        (by rw [ab_ws_get c1]; unfold ab_ce; rw [if_pos c3]) (by rw [ab_ws_get c2]; unfold ab_ce; rw [if_pos c4]) rfl rfl rfl (ng _ hvsp c6) (ng _ hvdp c7) (ng _ hvn c5) (by rw [ab_cl32 hvsp, ab_cl32 hvn]; omega) (by rw [ab_cl32 hvdp, ab_cl32 hvn]; omega) (fun _ _ => rfl) hR.1 (by rw [hcat]; show _ + (5 + 2 + 11) ≤ _; omega) hd (fun H1 locs1 hP1 _ hS1 => ?_)
      rw [ab_cl32 hvsp, ab_cl32 hvdp, ab_cl32 hvn] at hP1
      have ec : va_cpy (ab_is M sc) (ab_is M d) sp.toNat dp.toNat n.toNat = ab_is (ab_cpm M sc d sp.toNat dp.toNat n.toNat) d := by
        funext q
        unfold va_cpy ab_is ab_cpm
        by_cases hq : dp.toNat ≤ q ∧ q < dp.toNat + n.toNat
        · rw [if_pos hq, if_pos ⟨rfl, hq.1, hq.2⟩]
        · rw [if_neg hq, if_neg (fun z => hq z.2)]
      have ece : (.inl (I.1, (ab_kd d).2, .inl (va_cpy (ab_is M sc) (ab_is M d) sp.toNat dp.toNat n.toNat)) : va_E) = ab_ce I b0 (ab_cpm M sc d sp.toNat dp.toNat n.toNat) d := by
        unfold ab_ce
        rw [if_pos c4, ec]
      rw [ece, ab_ws_set c2 (fun j hj => ab_cpm_ne hj)] at hP1
      have e1 : ab_nc (ab_cpm M sc d sp.toNat dp.toNat n.toNat) = ab_nc M := by unfold ab_nc; rw [ab_cpm_ne (by omega)]
      have e9 : ab_cpm M sc d sp.toNat dp.toNat n.toNat 999 = M 999 := ab_cpm_ne (by omega)
      have hm : ab_mok L xs (ab_cpm M sc d sp.toNat dp.toNat n.toNat) := by
        obtain ⟨m1, m2, m3, m4, m5, m6, m7⟩ := h1
        refine ⟨fun a b ha => ?_, by rw [e9]; exact m2, by rw [e9]; exact m3, by rw [e9]; exact m4, by rw [e9]; exact m5, m6, fun j hj => by rw [ab_cpm_ne (by omega)]; exact m7 j hj⟩
        unfold ab_cpm
        split
        · exact m1 sc _ (by omega)
        · exact m1 a b ha
      have kk : ab_K p l e R s m args below meth c Q D I b0 sa L xs nL n0 s0 (pc + 3) ls r (ab_cpm M sc d sp.toNat dp.toNat n.toNat) := kk
      have := kk H1 locs1 lc ⟨hm, h2, h3, h4, h5, by rw [e1]; exact hP1, hS1, by rw [e1]; exact h8, by rw [e9]; exact h9⟩
      rw [e1, e9] at this
      exact this
    next => cases hu
  next => cases hu
end SO5
