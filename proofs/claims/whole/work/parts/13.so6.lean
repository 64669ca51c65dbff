/-- what an instruction that is no call and no return needs of the tables -/
def ab_eok (own : String) (cc : ByteArray) (nm : String) (pc : Nat) (en : ab_E) : Prop := match en.1 with
  | .iconst n => decode cc pc = .ok (.iconst n, 1) ∧ ab_rg n
  | .bipush n => decode cc pc = .ok (.bipush n, 2) ∧ ab_rg n ∧ (Int8.ofInt n).toInt32 = Int32.ofInt n
  | .sipush n => decode cc pc = .ok (.sipush n, 3) ∧ ab_rg n ∧ (Int16.ofInt n).toInt32 = Int32.ofInt n
  | .ldc i => decode cc pc = .ok (.ldc i, 2) ∧ (en.2.2.1 = 0 → ab_rg en.2.2.2 ∧ Cond.constant own i (Int32.ofInt en.2.2.2) ∈ ab_tb) ∧ (en.2.2.1 ≠ 0 → own = "LoneAdjective$Reader" ∧ i = 50)
  | .ldc_w i => decode cc pc = .ok (.ldc_w i, 3) ∧ ab_rg en.2.2.2 ∧ Cond.constant own i (Int32.ofInt en.2.2.2) ∈ ab_tb
  | .ldc2_w i => decode cc pc = .ok (.ldc2_w i, 3) ∧ ab_rl en.2.2.2 ∧ Cond.constantLong own i (Int64.ofInt en.2.2.2) ∈ ab_tb
  | .goto off => decode cc pc = .ok (.goto off, 3) ∧ (pc : Int) + off = (en.2.2.1 : Int)
  | .ifCond c off => decode cc pc = .ok (.ifCond c off, 3) ∧ (pc : Int) + off = (en.2.2.1 : Int)
  | .if_icmp c off => decode cc pc = .ok (.if_icmp c off, 3) ∧ (pc : Int) + off = (en.2.2.1 : Int)
  | .tableswitch d lo hi offs => (∃ len, decode cc pc = .ok (.tableswitch d lo hi offs, len)) ∧ (pc : Int) + d = (en.2.2.1 : Int)
  | .lookupswitch d ps => (∃ len, decode cc pc = .ok (.lookupswitch d ps, len)) ∧ (ps.toList.zip (ps.toList.drop 1)).all (fun (a, next) => a.1 < next.1) = true
  | .getfield i => decode cc pc = .ok (.getfield i, 3) ∧ (en.2.2.2 ≠ 30 → ∃ q : ab_FL, q ∈ ab_flt ∧ own = ab_ows.getD q.1 "" ∧ q.2.1 = i ∧ q.2.2.1 = en.2.2.2 ∧ q.2.2.2.1 = en.2.2.1) ∧ (en.2.2.2 = 30 → own = "java/lang/String" ∧ ((en.2.2.1 = 0 ∧ i = 9) ∨ (en.2.2.1 ≠ 0 ∧ i = 15)))
  | .putfield i => decode cc pc = .ok (.putfield i, 3) ∧ (∃ q : ab_FL, q ∈ ab_flt ∧ own = ab_ows.getD q.1 "" ∧ q.2.1 = i ∧ q.2.2.1 = en.2.2.2 ∧ q.2.2.2.1 = en.2.2.1) ∧ (∀ (t : Nat) (r : vw_C), ab_tg en.2.2.2 t → vwCl[t]? = some r → (r.2.1 en.2.2.1).2.2.2 = false ∨ ((r.2.1 en.2.2.1).2.2.2 = true ∧ nm = "<init>" ∧ (r.2.1 en.2.2.1).1 = own))
  | .getstatic i => decode cc pc = .ok (.getstatic i, 3) ∧ ((en.2.2.2 = 0 ∧ own = "LoneAdjective$Reader" ∧ ((en.2.2.1 = 1001 ∧ Cond.fieldLink own i "LoneAdjective$Reader" "NUMBERS" "[I" ∈ ab_tb) ∨ (en.2.2.1 = 1002 ∧ Cond.fieldLink own i "LoneAdjective$Reader" "MOST" "[I" ∈ ab_tb) ∨ (en.2.2.1 = 1003 ∧ Cond.fieldLink own i "LoneAdjective$Reader" "DEED_BOUNDS" "[I" ∈ ab_tb))) ∨ (en.2.2.2 ≠ 0 ∧ en.2.2.1 = 1 ∧ Cond.fieldLink own i "java/lang/String" "COMPACT_STRINGS" "Z" ∈ ab_tb))
  | .new i => decode cc pc = .ok (.new i, 3) ∧ (∀ (t : Nat) (r : vw_C), en.2.2.2 = t → vwCl[t]? = some r → Cond.classLink own i r.1 ∈ ab_tb ∧ Cond.instantiable r.1 r.2.2 ∈ ab_tb ∧ Cond.initialized r.1 ∈ ab_tb)
  | .newarray a => decode cc pc = .ok (.newarray a, 2) ∧ (en.2.2.2 = 20 → a = .int) ∧ (en.2.2.2 = 21 → a = .boolean) ∧ (en.2.2.2 = 22 → a = .char)
  | .multianewarray i n => decode cc pc = .ok (.multianewarray i 2, 4) ∧ n = 2 ∧ Cond.classLink own i "[[I" ∈ ab_tb
  | .invokespecial i => decode cc pc = .ok (.invokespecial i, 3) ∧ Cond.methodLink own i Lib.objectInit ∈ ab_tb
  | .invokestatic i => decode cc pc = .ok (.invokestatic i, 3) ∧ (en.2.2.1 = 901 → Cond.methodLink own i arraycopyName ∈ ab_tb) ∧ (en.2.2.1 ≠ 901 → en.2.2.1 = 902 → Cond.methodLink own i Lib.Math.max.name ∈ ab_tb) ∧ (en.2.2.1 ≠ 901 → en.2.2.1 ≠ 902 → Cond.methodLink own i Lib.Math.min.name ∈ ab_tb)
  | .iinc n z => decode cc pc = .ok (.iinc n z, 3)
  | .iload n => decode cc pc = .ok (.iload n, 2)
  | .lload n => decode cc pc = .ok (.lload n, 2)
  | .aload n => decode cc pc = .ok (.aload n, 2)
  | .istore n => decode cc pc = .ok (.istore n, 2)
  | .lstore n => decode cc pc = .ok (.lstore n, 2)
  | .astore n => decode cc pc = .ok (.astore n, 2)
  | i => decode cc pc = .ok (i, 1)
section SO6
variable {p : Program} {l : Launch} {e : Env} {R : Room} {s : State} {m : MethodId} {args : Array Value} {below : List Frame} {meth : Method} {c : Code} {Q : State → Prop} {D : va_G} {I : ab_I4} {b0 : Nat} {sa : Nat → Nat} {L : Nat} {xs : Nat → Int32} {nL n0 s0 : Nat} {cc : ByteArray} {own : String} {pc : Nat} {ls : ab_L} {st : List ab_V} {M : ab_M}
set_option maxRecDepth 100000 in
theorem so_mm {idx : Nat} {b : Bool} {u : ab_St} (C : ab_cx p s m args c D I b0 sa L xs nL n0 cc own) (hd : decode cc pc = .ok (.invokestatic idx, 3)) (hlk : Cond.methodLink own idx (if b = true then Lib.Math.max.name else Lib.Math.min.name) ∈ ab_tb) (hR : 1 ≤ R.frames ∧ 100 ≤ R.locals) (hu : ab_mm b pc ls st M = some u) (hrm : ab_nc u.2.2.2 - n0 ≤ R.cells ∧ (u.2.2.2 999 1).toNat - s0 ≤ R.slots) (kk : ab_K p l e R s m args below meth c Q D I b0 sa L xs nL n0 s0 u.1 u.2.1 u.2.2.1 u.2.2.2) : ab_K p l e R s m args below meth c Q D I b0 sa L xs nL n0 s0 pc ls st M := by
  obtain ⟨hx, hb, hml, hown, hts, hK, hG, hsz⟩ := C
  unfold ab_mm at hu
  split at hu
  next y x r =>
    split at hu
    next hc =>
      cases hu
      intro H locs lc h
      obtain ⟨h1, h2, h3⟩ := h
      obtain ⟨hy, h2⟩ := List.forall_mem_cons.mp h2
      obtain ⟨hvx, h2⟩ := List.forall_mem_cons.mp h2
      have hy : ab_rg y := hy
      have hvx : ab_rg x := hvx
      have hcat : ((r.map (ab_cv b0 sa)).map fun v => v.category).sum = (r.map ab_cat).sum := by
        rw [List.map_map]
        congr 1
        apply List.map_congr_left
        intro v _
        exact ab_cat_cv b0 sa v
      have hini : Cond.initialized "java/lang/Math" ∈ ab_tb := ab_ix_mem (i := 83) (by decide +kernel)
      cases b with
      | true =>
        have kf := kk H locs lc ⟨h1, List.forall_mem_cons.mpr ⟨(show ab_rg (if true = true then (if x < y then y else x) else (if y < x then y else x)) by rw [if_pos rfl]; split <;> assumption), h2⟩, h3⟩
        refine va_mmax hx hb (by rw [hml]; exact h3.1.1.symm) hown (hts _ hlk) (hts _ (ab_ix_mem (i := 497) (by decide +kernel))) (hts _ hini) (hts _ (List.mem_filter.mpr ⟨List.mem_of_getElem? (i := 498) rfl, rfl⟩)) hR.1 (by rw [hcat]; omega) hrm.1 hrm.2 hd ?_
        have e : (if Int32.ofInt x < Int32.ofInt y then Int32.ofInt y else Int32.ofInt x) = Int32.ofInt (if x < y then y else x) := by
          simp only [ab_lt32 hvx hy]
          split <;> rfl
        rw [e]
        exact kf
      | false =>
        have kf := kk H locs lc ⟨h1, List.forall_mem_cons.mpr ⟨(show ab_rg (if false = true then (if x < y then y else x) else (if y < x then y else x)) by rw [if_neg (by decide)]; split <;> assumption), h2⟩, h3⟩
        refine va_mmin hx hb (by rw [hml]; exact h3.1.1.symm) hown (hts _ hlk) (hts _ (ab_ix_mem (i := 500) (by decide +kernel))) (hts _ hini) (hts _ (List.mem_filter.mpr ⟨List.mem_of_getElem? (i := 501) rfl, rfl⟩)) hR.1 (by rw [hcat]; omega) hrm.1 hrm.2 hd ?_
        have e : (if Int32.ofInt y < Int32.ofInt x then Int32.ofInt y else Int32.ofInt x) = Int32.ofInt (if y < x then y else x) := by
          simp only [ab_lt32 hy hvx]
          split <;> rfl
        rw [e]
        exact kf
    next => cases hu
  next => cases hu
theorem so_st1 {en : ab_E} {u : ab_St} (C : ab_cx p s m args c D I b0 sa L xs nL n0 cc own) (hR : 1 ≤ R.frames ∧ 100 ≤ R.locals) (hk : ab_eok own cc meth.name pc en) (hu : ab_st1 en pc ls st M = some u) (hrm : ab_nc u.2.2.2 - n0 ≤ R.cells ∧ (u.2.2.2 999 1).toNat - s0 ≤ R.slots)
    (hna2 : ∀ i : Nat, decode cc pc = .ok (.multianewarray i 2, 4) → Cond.classLink own i "[[I" ∈ ab_tb → ab_na2 pc ls st M = some u → ab_K p l e R s m args below meth c Q D I b0 sa L xs nL n0 s0 pc ls st M) (kk : ab_K p l e R s m args below meth c Q D I b0 sa L xs nL n0 s0 u.1 u.2.1 u.2.2.1 u.2.2.2) : ab_K p l e R s m args below meth c Q D I b0 sa L xs nL n0 s0 pc ls st M := by
  have C' := C
  obtain ⟨hx, hb, hml, hown, hts, hK, hG, hsz⟩ := C'
  obtain ⟨i, kd, k, x⟩ := en
  cases i with
  | iconst n =>
    obtain ⟨hd, hr⟩ : decode cc pc = .ok (.iconst n, 1) ∧ ab_rg n := hk
    cases hu
    exact so_push (v := .inl n) hr (fun H locs cells slots lc rest kw => lv_iconst hx hb hd rfl kw) kk
  | bipush n =>
    obtain ⟨hd, hr, hn8⟩ : decode cc pc = .ok (.bipush n, 2) ∧ ab_rg n ∧ (Int8.ofInt n).toInt32 = Int32.ofInt n := hk
    cases hu
    exact so_push (v := .inl n) hr (fun H locs cells slots lc rest kw => lv_bipush hx hb hd hn8 kw) kk
  | sipush n =>
    obtain ⟨hd, hr, hn8⟩ : decode cc pc = .ok (.sipush n, 3) ∧ ab_rg n ∧ (Int16.ofInt n).toInt32 = Int32.ofInt n := hk
    cases hu
    exact so_push (v := .inl n) hr (fun H locs cells slots lc rest kw => lv_sipush hx hb hd hn8 kw) kk
  | lconst n =>
    have hd : decode cc pc = .ok (.lconst n, 1) := hk
    cases hu
    refine so_push (v := .inr (.inl n.val)) ?_ (fun H locs cells slots lc rest kw => lv_lconst hx hb hd ?_ kw) kk
    · have := n.isLt
      exact ⟨by omega, by omega⟩
    · have : n = 0 ∨ n = 1 := by omega
      rcases this with rfl | rfl <;> rfl
  | ldc n =>
    obtain ⟨hd, h0, h1⟩ : decode cc pc = .ok (.ldc n, 2) ∧ (k = 0 → ab_rg x ∧ Cond.constant own n (Int32.ofInt x) ∈ ab_tb) ∧ (k ≠ 0 → own = "LoneAdjective$Reader" ∧ n = 50) := hk
    cases hu
    by_cases hk0 : k = 0
    · have kk : ab_K p l e R s m args below meth c Q D I b0 sa L xs nL n0 s0 (pc + 2) ls ((if k = 0 then .inl x else .inr (.inr 1004)) :: st) M := kk
      rw [if_pos hk0] at kk
      exact so_push (v := .inl x) (h0 hk0).1 (fun H locs cells slots lc rest kw => lv_ldc hx hb hown (hts _ (h0 hk0).2) hd kw) kk
    · have kk2 : ab_K p l e R s m args below meth c Q D I b0 sa L xs nL n0 s0 (pc + 2) ls ((if k = 0 then .inl x else .inr (.inr 1004)) :: st) M := kk
      rw [if_neg hk0] at kk2
      obtain ⟨ho, rfl⟩ := h1 hk0
      subst ho
      refine so_push (v := .inr (.inr 1004)) trivial (fun H locs cells slots lc rest kw => va_ldcS hx hb hown hG.2.2.2.1.1 hd ?_) kk2
      rw [ab_ads (by omega)] at kw
      exact kw
  | ldc_w n =>
    obtain ⟨hd, h0, h1⟩ : decode cc pc = .ok (.ldc_w n, 3) ∧ ab_rg x ∧ Cond.constant own n (Int32.ofInt x) ∈ ab_tb := hk
    cases hu
    exact so_push (v := .inl x) h0 (fun H locs cells slots lc rest kw => lv_ldcw hx hb hown (hts _ h1) hd kw) kk
  | ldc2_w n =>
    obtain ⟨hd, h0, h1⟩ : decode cc pc = .ok (.ldc2_w n, 3) ∧ ab_rl x ∧ Cond.constantLong own n (Int64.ofInt x) ∈ ab_tb := hk
    cases hu
    exact so_push (v := .inr (.inl x)) h0 (fun H locs cells slots lc rest kw => lv_ldc2 hx hb hown (hts _ h1) hd kw) kk
  | iload n =>
    have hd : decode cc pc = .ok (.iload n, 2) := hk
    refine so_lda hu (fun v hv H locs cells slots lc rest hl kw => ?_) kk
    rcases v with z | z | z
    · exact lv_iload hx hb hd hl kw
    · cases hv
    · cases hv
  | iload_n n =>
    have hd : decode cc pc = .ok (.iload_n n, 1) := hk
    refine so_lda hu (fun v hv H locs cells slots lc rest hl kw => ?_) kk
    rcases v with z | z | z
    · exact lv_iload_n hx hb hd rfl hl kw
    · cases hv
    · cases hv
  | lload n =>
    have hd : decode cc pc = .ok (.lload n, 2) := hk
    refine so_lda hu (fun v hv H locs cells slots lc rest hl kw => ?_) kk
    rcases v with z | z | z
    · cases hv
    · exact lv_lload hx hb hd hl kw
    · cases hv
  | lload_n n =>
    have hd : decode cc pc = .ok (.lload_n n, 1) := hk
    refine so_lda hu (fun v hv H locs cells slots lc rest hl kw => ?_) kk
    rcases v with z | z | z
    · cases hv
    · exact lv_lload_n hx hb hd rfl hl kw
    · cases hv
  | aload n =>
    have hd : decode cc pc = .ok (.aload n, 2) := hk
    refine so_lda hu (fun v hv H locs cells slots lc rest hl kw => ?_) kk
    rcases v with z | z | z
    · cases hv
    · cases hv
    · exact lv_aload hx hb hd hl kw
  | aload_n n =>
    have hd : decode cc pc = .ok (.aload_n n, 1) := hk
    refine so_lda hu (fun v hv H locs cells slots lc rest hl kw => ?_) kk
    rcases v with z | z | z
    · cases hv
    · cases hv
    · exact lv_aload_n hx hb hd rfl hl kw
  | istore n =>
    have hd : decode cc pc = .ok (.istore n, 2) := hk
    refine so_sto hu (fun v hv H locs cells slots lc rest hl hn kw => ?_) kk
    rcases v with z | z | z
    · exact lv_istore hx hb hd hl (by exact hn) rfl (fun lc' h' => kw lc' (ab_lvm h' (fun q hq => ab_set1_sub rfl hq)))
    · cases hv
    · cases hv
  | istore_n n =>
    have hd : decode cc pc = .ok (.istore_n n, 1) := hk
    refine so_sto hu (fun v hv H locs cells slots lc rest hl hn kw => ?_) kk
    rcases v with z | z | z
    · exact lv_istore_n hx hb hd rfl hl (by exact hn) rfl (fun lc' h' => kw lc' (ab_lvm h' (fun q hq => ab_set1_sub rfl hq)))
    · cases hv
    · cases hv
  | lstore n =>
    have hd : decode cc pc = .ok (.lstore n, 2) := hk
    refine so_sto hu (fun v hv H locs cells slots lc rest hl hn kw => ?_) kk
    rcases v with z | z | z
    · cases hv
    · exact lv_lstore hx hb hd hl (by exact hn) rfl (fun lc' h' => kw lc' (ab_lvm h' (fun q hq => ab_set2_sub hq)))
    · cases hv
  | astore n =>
    have hd : decode cc pc = .ok (.astore n, 2) := hk
    refine so_sto hu (fun v hv H locs cells slots lc rest hl hn kw => ?_) kk
    rcases v with z | z | z
    · cases hv
    · cases hv
    · exact lv_astore hx hb hd hl (by exact hn) rfl (fun lc' h' => kw lc' (ab_lvm h' (fun q hq => ab_set1_sub rfl hq)))
  | astore_n n =>
    have hd : decode cc pc = .ok (.astore_n n, 1) := hk
    refine so_sto hu (fun v hv H locs cells slots lc rest hl hn kw => ?_) kk
    rcases v with z | z | z
    · cases hv
    · cases hv
    · exact lv_astore_n hx hb hd rfl hl (by exact hn) rfl (fun lc' h' => kw lc' (ab_lvm h' (fun q hq => ab_set1_sub rfl hq)))
  | iinc n z => exact so_iinc hx hb hk hu kk
  | iadd =>
    have hd : decode cc pc = .ok (.iadd, 1) := hk
    refine so_i2 hu (fun a b z ha hb' hz => ?_) kk
    obtain ⟨hr, rfl⟩ := ab_cki hz
    exact ⟨hr, fun H locs cells slots lc rest kw => lv_iadd hx hb hd (by rw [← Int32.ofInt_add]; exact kw)⟩
  | isub =>
    have hd : decode cc pc = .ok (.isub, 1) := hk
    refine so_i2 hu (fun a b z ha hb' hz => ?_) kk
    obtain ⟨hr, rfl⟩ := ab_cki hz
    exact ⟨hr, fun H locs cells slots lc rest kw => lv_isub hx hb hd (by rw [← Int32.ofInt_sub]; exact kw)⟩
  | imul =>
    have hd : decode cc pc = .ok (.imul, 1) := hk
    refine so_i2 hu (fun a b z ha hb' hz => ?_) kk
    obtain ⟨hr, rfl⟩ := ab_cki hz
    exact ⟨hr, fun H locs cells slots lc rest kw => lv_imul hx hb hd (by rw [← Int32.ofInt_mul]; exact kw)⟩
  | idiv =>
    have hd : decode cc pc = .ok (.idiv, 1) := hk
    refine so_i2 hu (fun a b z ha hb' hz => ?_) kk
    obtain ⟨h0, hr, rfl⟩ := ab_divi hz
    refine ⟨hr, fun H locs cells slots lc rest kw => lv_idiv hx hb hd ?_ (by rw [ab_div32 ha hb']; exact kw)⟩
    intro q
    exact h0 ((ab_eq32 hb' ab_rg0).mp q)
  | irem =>
    have hd : decode cc pc = .ok (.irem, 1) := hk
    refine so_i2 hu (fun a b z ha hb' hz => ?_) kk
    obtain ⟨h0, hr, rfl⟩ := ab_remi hz
    refine ⟨ab_rem32 ha hb' h0, fun H locs cells slots lc rest kw => lv_irem hx hb hd ?_ ?_⟩
    · intro q
      exact h0 ((ab_eq32 hb' ab_rg0).mp q)
    · rw [ab_div32 ha hb', ← Int32.ofInt_mul, ← Int32.ofInt_sub]
      exact kw
  | iand =>
    have hd : decode cc pc = .ok (.iand, 1) := hk
    refine so_i2 (f := fun x y => some (ab_and x y)) hu (fun a b z ha hb' hz => ?_) kk
    cases hz
    refine ⟨ab_rgz _, fun H locs cells slots lc rest kw => lv_iand hx hb hd ?_⟩
    unfold ab_and at kw
    rw [Int32.ofInt_toInt] at kw
    exact kw
  | ior =>
    have hd : decode cc pc = .ok (.ior, 1) := hk
    refine so_i2 (f := fun x y => some (ab_or x y)) hu (fun a b z ha hb' hz => ?_) kk
    cases hz
    refine ⟨ab_rgz _, fun H locs cells slots lc rest kw => lv_ior hx hb hd ?_⟩
    unfold ab_or at kw
    rw [Int32.ofInt_toInt] at kw
    exact kw
  | ixor =>
    have hd : decode cc pc = .ok (.ixor, 1) := hk
    refine so_i2 (f := fun x y => some (ab_xor x y)) hu (fun a b z ha hb' hz => ?_) kk
    cases hz
    refine ⟨ab_rgz _, fun H locs cells slots lc rest kw => lv_ixor hx hb hd ?_⟩
    unfold ab_xor at kw
    rw [Int32.ofInt_toInt] at kw
    exact kw
  | ishl =>
    have hd : decode cc pc = .ok (.ishl, 1) := hk
    refine so_i2 (f := fun x y => some (ab_shl x y)) hu (fun a b z ha hb' hz => ?_) kk
    cases hz
    refine ⟨ab_rgz _, fun H locs cells slots lc rest kw => lv_ishl hx hb hd ?_⟩
    unfold ab_shl at kw
    rw [Int32.ofInt_toInt] at kw
    exact kw
  | ishr =>
    have hd : decode cc pc = .ok (.ishr, 1) := hk
    refine so_i2 (f := fun x y => some (ab_shr x y)) hu (fun a b z ha hb' hz => ?_) kk
    cases hz
    refine ⟨ab_rgz _, fun H locs cells slots lc rest kw => lv_ishr hx hb hd ?_⟩
    unfold ab_shr at kw
    rw [Int32.ofInt_toInt] at kw
    exact kw
  | ladd =>
    have hd : decode cc pc = .ok (.ladd, 1) := hk
    refine so_l2 hu (fun a b z ha hb' hz => ?_) kk
    obtain ⟨hr, rfl⟩ := ab_cli hz
    exact ⟨hr, fun H locs cells slots lc rest kw => lv_ladd hx hb hd (by rw [← Int64.ofInt_add]; exact kw)⟩
  | lmul =>
    have hd : decode cc pc = .ok (.lmul, 1) := hk
    refine so_l2 hu (fun a b z ha hb' hz => ?_) kk
    obtain ⟨hr, rfl⟩ := ab_cli hz
    exact ⟨hr, fun H locs cells slots lc rest kw => lv_lmul hx hb hd (by rw [← Int64.ofInt_mul]; exact kw)⟩
  | ldiv =>
    have hd : decode cc pc = .ok (.ldiv, 1) := hk
    refine so_l2 hu (fun a b z ha hb' hz => ?_) kk
    by_cases h0 : b = 0
    · rw [if_pos h0] at hz; cases hz
    · rw [if_neg h0] at hz
      obtain ⟨hr, rfl⟩ := ab_cli hz
      refine ⟨hr, fun H locs cells slots lc rest kw => lv_ldiv hx hb hd ?_ (by rw [ab_div64 ha hb']; exact kw)⟩
      intro q
      apply h0
      have := congrArg Int64.toInt q
      rw [ab_i64 hb'] at this
      exact this
  | land =>
    have hd : decode cc pc = .ok (.land, 1) := hk
    refine so_l2 (f := fun x y => some (ab_land x y)) hu (fun a b z ha hb' hz => ?_) kk
    cases hz
    refine ⟨ab_rlz _, fun H locs cells slots lc rest kw => lv_land hx hb hd ?_⟩
    unfold ab_land at kw
    rw [Int64.ofInt_toInt] at kw
    exact kw
  | i2l => exact so_cnv hx hb hk (Or.inl ⟨rfl, rfl⟩) hu kk
  | l2i => exact so_cnv hx hb hk (Or.inr (Or.inl ⟨rfl, rfl⟩)) hu kk
  | i2c => exact so_cnv hx hb hk (Or.inr (Or.inr (Or.inl ⟨rfl, rfl⟩))) hu kk
  | i2b => exact so_cnv hx hb hk (Or.inr (Or.inr (Or.inr ⟨rfl, rfl⟩))) hu kk
  | lcmp => exact so_lcmp hx hb hk hu kk
  | dup => exact so_dup hx hb hk hu kk
  | pop => exact so_pop hx hb hk hu kk
  | dup2 => exact so_dup2 hx hb hk hu kk
  | goto off =>
    obtain ⟨hd, ht⟩ : decode cc pc = .ok (.goto off, 3) ∧ (pc : Int) + off = (k : Int) := hk
    cases hu
    exact fun H locs lc h => lv_goto hx hb hd ht (kk H locs lc h)
  | ifCond c' off => exact so_br1 hx hb hk.1 hk.2 hu kk
  | if_icmp c' off => exact so_br2 hx hb hk.1 hk.2 hu kk
  | tableswitch d lo hi offs =>
    obtain ⟨⟨len, hd⟩, ht⟩ := hk
    exact so_sw hx hb hd ht hu kk
  | lookupswitch d ps =>
    obtain ⟨⟨len, hd⟩, ht⟩ := hk
    exact so_lsw hx hb hd ht hu kk
  | getfield i => exact so_get C hk.1 hk.2.1 hk.2.2 hu kk
  | putfield i => exact so_put C hk.1 hk.2.1 hk.2.2 hu kk
  | getstatic i =>
    obtain ⟨hd, hc⟩ := hk
    cases hu
    have kk : ab_K p l e R s m args below meth c Q D I b0 sa L xs nL n0 s0 (pc + 3) ls ((if x = 0 then .inr (.inr k) else .inl k) :: st) M := kk
    rcases hc with ⟨h0, ho, hq⟩ | ⟨h0, hq, hlk⟩
    · have h0 : x = 0 := h0
      rw [if_pos h0] at kk
      intro H locs lc h
      have hS := h.2.2.2.2.2.2.1
      have h' := h
      obtain ⟨h1, h2, h3⟩ := h'
      have kf := kk H locs lc ⟨h1, List.forall_mem_cons.mpr ⟨trivial, h2⟩, h3⟩
      rcases hq with ⟨hq, hlk⟩ | ⟨hq, hlk⟩ | ⟨hq, hlk⟩
      · have hq : k = 1001 := hq
        rw [List.map_cons, ab_ads (by omega), hq] at kf
        exact va_gets hx hb hG.2.2.1.1 hS hown (hts _ hlk) (fun _ h => h) hd kf
      · have hq : k = 1002 := hq
        rw [List.map_cons, ab_ads (by omega), hq] at kf
        exact va_gets hx hb hG.2.2.1.2.1 hS hown (hts _ hlk) (fun _ h => h) hd kf
      · have hq : k = 1003 := hq
        rw [List.map_cons, ab_ads (by omega), hq] at kf
        exact va_gets hx hb hG.2.2.1.2.2.1 hS hown (hts _ hlk) (fun _ h => h) hd kf
    · have h0 : x ≠ 0 := h0
      have hq : k = 1 := hq
      rw [if_neg h0, hq] at kk
      intro H locs lc h
      have hS := h.2.2.2.2.2.2.1
      obtain ⟨h1, h2, h3⟩ := h
      have kf := kk H locs lc ⟨h1, List.forall_mem_cons.mpr ⟨(by decide : ab_rg 1), h2⟩, h3⟩
      exact va_gets hx hb hG.2.2.1.2.2.2 hS hown (hts _ hlk) (fun _ h => h) hd kf
  | iaload => exact so_iald C hk hu kk
  | baload => exact so_bald C hk hu kk
  | caload => exact so_cald C hk hu kk
  | aaload => exact so_aald C hk hu kk
  | iastore => exact so_ast C hk (Or.inl ⟨rfl, rfl⟩) hu kk
  | bastore => exact so_ast C hk (Or.inr (Or.inl ⟨rfl, rfl⟩)) hu kk
  | castore => exact so_ast C hk (Or.inr (Or.inr ⟨rfl, rfl⟩)) hu kk
  | arraylength => exact so_len C hk hu kk
  | new i => exact so_new C hk.1 hk.2 hu hrm kk
  | newarray a => exact so_nar C hk.1 hk.2 hu hrm kk
  | multianewarray i n => exact hna2 i hk.1 hk.2.2 hu
  | invokespecial i => exact so_oi C hk.1 hk.2 hR hu kk
  | invokestatic i =>
    have hu : (if k = 901 then ab_cpy pc ls st M else ab_mm (decide (k = 902)) pc ls st M) = some u := hu
    by_cases h901 : k = 901
    · rw [if_pos h901] at hu
      exact so_cpy C hk.1 (hk.2.1 h901) hR hu kk
    · rw [if_neg h901] at hu
      by_cases h902 : k = 902
      · rw [decide_eq_true h902] at hu
        exact so_mm C hk.1 (by rw [if_pos rfl]; exact hk.2.2.1 h901 h902) hR hu hrm kk
      · rw [decide_eq_false h902] at hu
        exact so_mm C hk.1 (by rw [if_neg (by decide)]; exact hk.2.2.2 h901 h902) hR hu hrm kk
  | _ => cases hu
end SO6
