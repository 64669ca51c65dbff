/-! EACH INSTRUCTION'S NEEDS, as a test that a program runs -/
def ab_dc (cc : ByteArray) (pc : Nat) (i : Instr) (n : Nat) : Bool := decide (decode cc pc = .ok (i, n))
def ab_dl (cc : ByteArray) (pc : Nat) (i : Instr) : Bool := match decode cc pc with
  | .ok (j, _) => decide (j = i)
  | _ => false
theorem ab_dli {cc : ByteArray} {pc : Nat} {i : Instr} (h : ab_dl cc pc i = true) : ∃ n, decode cc pc = .ok (i, n) := by
  unfold ab_dl at h
  split at h
  next j n hd => rw [hd, of_decide_eq_true h]; exact ⟨n, rfl⟩
  next => cases h
def ab_en0 (oid : Nat) (cc : ByteArray) (ini : Bool) (pc : Nat) (en : ab_E) : Bool := match en.1 with
  | .iconst n => ab_dc cc pc (.iconst n) 1 && decide (ab_rg n)
  | .bipush n => ab_dc cc pc (.bipush n) 2 && decide (ab_rg n) && decide ((Int8.ofInt n).toInt32 = Int32.ofInt n)
  | .sipush n => ab_dc cc pc (.sipush n) 3 && decide (ab_rg n) && decide ((Int16.ofInt n).toInt32 = Int32.ofInt n)
  | .ldc i => ab_dc cc pc (.ldc i) 2 && (if en.2.2.1 = 0 then ab_cnt.any (fun q => decide (q.1 = oid ∧ q.2.1 = i ∧ q.2.2.1 = en.2.2.2)) else decide (oid = 6 ∧ i = 50))
  | .ldc_w i => ab_dc cc pc (.ldc_w i) 3 && ab_cnt.any (fun q => decide (q.1 = oid ∧ q.2.1 = i ∧ q.2.2.1 = en.2.2.2))
  | .ldc2_w i => ab_dc cc pc (.ldc2_w i) 3 && ab_lnt.any (fun q => decide (q.1 = oid ∧ q.2.1 = i ∧ q.2.2.1 = en.2.2.2))
  | .goto off => ab_dc cc pc (.goto off) 3 && decide ((pc : Int) + off = (en.2.2.1 : Int))
  | .ifCond c off => ab_dc cc pc (.ifCond c off) 3 && decide ((pc : Int) + off = (en.2.2.1 : Int))
  | .if_icmp c off => ab_dc cc pc (.if_icmp c off) 3 && decide ((pc : Int) + off = (en.2.2.1 : Int))
  | .tableswitch d lo hi offs => ab_dl cc pc (.tableswitch d lo hi offs) && decide ((pc : Int) + d = (en.2.2.1 : Int))
  | .lookupswitch d ps => ab_dl cc pc (.lookupswitch d ps) && (ps.toList.zip (ps.toList.drop 1)).all (fun (a, next) => a.1 < next.1)
  | .getfield i => ab_dc cc pc (.getfield i) 3 && (if en.2.2.2 = 30 then decide (oid = 14 ∧ ((en.2.2.1 = 0 ∧ i = 9) ∨ (en.2.2.1 ≠ 0 ∧ i = 15))) else ab_flt.any (fun q => decide (q.1 = oid ∧ q.2.1 = i ∧ q.2.2.1 = en.2.2.2 ∧ q.2.2.2.1 = en.2.2.1)))
  | .putfield i => ab_dc cc pc (.putfield i) 3 && ab_flt.any (fun q => decide (q.1 = oid ∧ q.2.1 = i ∧ q.2.2.1 = en.2.2.2 ∧ q.2.2.2.1 = en.2.2.1)) && (List.range 11).all (fun t => !decide (ab_tg en.2.2.2 t) || (match vwCl[t]? with | some r => !(r.2.1 en.2.2.1).2.2.2 || (ini && decide ((r.2.1 en.2.2.1).1 = ab_ows.getD oid "")) | none => true))
  | .getstatic i => ab_dc cc pc (.getstatic i) 3 && ab_gst.any (fun q => decide (q.1 = oid ∧ q.2.1 = i ∧ q.2.2.1 = en.2.2.1)) && (decide (en.2.2.2 = 0 ∧ oid = 6 ∧ (en.2.2.1 = 1001 ∨ en.2.2.1 = 1002 ∨ en.2.2.1 = 1003)) || decide (en.2.2.2 ≠ 0 ∧ en.2.2.1 = 1))
  | .new i => ab_dc cc pc (.new i) 3 && ab_nwt.any (fun q => decide (q.1 = oid ∧ q.2.1 = i ∧ (q.2.2.1 : Int) = en.2.2.2))
  | .newarray a => ab_dc cc pc (.newarray a) 2 && (decide (en.2.2.2 = 20 ∧ a = .int) || decide (en.2.2.2 = 21 ∧ a = .boolean) || decide (en.2.2.2 = 22 ∧ a = .char))
  | .multianewarray i n => ab_dc cc pc (.multianewarray i 2) 4 && decide (n = 2 ∧ oid = 8 ∧ i = 15)
  | .invokespecial i => ab_dc cc pc (.invokespecial i) 3 && ab_oit.any (fun q => decide (q.1 = oid ∧ q.2.1 = i))
  | .invokestatic i => ab_dc cc pc (.invokestatic i) 3 && (if en.2.2.1 = 901 then ab_act.any (fun q => decide (q.1 = oid ∧ q.2.1 = i)) else decide (en.2.2.1 = 902 ∨ en.2.2.1 = 903) && ab_mmt.any (fun q => decide (q.1 = oid ∧ q.2.1 = i ∧ q.2.2.1 = en.2.2.1)))
  | .iinc n z => ab_dc cc pc (.iinc n z) 3
  | .iload n => ab_dc cc pc (.iload n) 2
  | .lload n => ab_dc cc pc (.lload n) 2
  | .aload n => ab_dc cc pc (.aload n) 2
  | .istore n => ab_dc cc pc (.istore n) 2
  | .lstore n => ab_dc cc pc (.lstore n) 2
  | .astore n => ab_dc cc pc (.astore n) 2
  | i => ab_dc cc pc i 1
theorem ab_fl_any {oid i f : Nat} {x : Int} (h : ab_flt.any (fun q => decide (q.1 = oid ∧ q.2.1 = i ∧ q.2.2.1 = x ∧ q.2.2.2.1 = f)) = true) : ∃ q : ab_FL, q ∈ ab_flt ∧ ab_ows.getD oid "" = ab_ows.getD q.1 "" ∧ q.2.1 = i ∧ q.2.2.1 = x ∧ q.2.2.2.1 = f := by
  obtain ⟨q, hq, h2⟩ := List.any_eq_true.mp h
  obtain ⟨a1, a2, a3, a4⟩ := of_decide_eq_true h2
  exact ⟨q, hq, by rw [a1], a2, a3, a4⟩
theorem ab_cn_any {oid i : Nat} {x : Int} (h : ab_cnt.any (fun q => decide (q.1 = oid ∧ q.2.1 = i ∧ q.2.2.1 = x)) = true) : ab_rg x ∧ Cond.constant (ab_ows.getD oid "") i (Int32.ofInt x) ∈ ab_tb := by
  obtain ⟨q, hq, h2⟩ := List.any_eq_true.mp h
  obtain ⟨a1, a2, a3⟩ := of_decide_eq_true h2
  have h3 := List.all_eq_true.mp ab_cnt0 q hq
  simp only [Bool.and_eq_true, decide_eq_true_eq] at h3
  subst a1; subst a2; subst a3
  exact ⟨h3.1, ab_ix_mem h3.2⟩
theorem ab_ln_any {oid i : Nat} {x : Int} (h : ab_lnt.any (fun q => decide (q.1 = oid ∧ q.2.1 = i ∧ q.2.2.1 = x)) = true) : ab_rl x ∧ Cond.constantLong (ab_ows.getD oid "") i (Int64.ofInt x) ∈ ab_tb := by
  obtain ⟨q, hq, h2⟩ := List.any_eq_true.mp h
  obtain ⟨a1, a2, a3⟩ := of_decide_eq_true h2
  have h3 := List.all_eq_true.mp ab_lnt0 q hq
  simp only [Bool.and_eq_true, decide_eq_true_eq] at h3
  subst a1; subst a2; subst a3
  exact ⟨h3.1, ab_ix_mem h3.2⟩
theorem ab_gs_any {oid i k : Nat} (h : ab_gst.any (fun q => decide (q.1 = oid ∧ q.2.1 = i ∧ q.2.2.1 = k)) = true) : Cond.fieldLink (ab_ows.getD oid "") i (ab_sn k).1 (ab_sn k).2.1 (ab_sn k).2.2 ∈ ab_tb := by
  obtain ⟨q, hq, h2⟩ := List.any_eq_true.mp h
  obtain ⟨a1, a2, a3⟩ := of_decide_eq_true h2
  have h3 := List.all_eq_true.mp ab_gst0 q hq
  subst a1; subst a2; subst a3
  exact ab_ix_mem h3
theorem ab_en0_ok {oid : Nat} {cc : ByteArray} {ini : Bool} {nm : String} {pc : Nat} {en : ab_E} (hi : ini = true → nm = "<init>") (h : ab_en0 oid cc ini pc en = true) : ab_eok (ab_ows.getD oid "") cc nm pc en := by
  obtain ⟨i, kd, k, x⟩ := en
  have dc : ∀ {j : Instr} {n : Nat}, ab_dc cc pc j n = true → decode cc pc = .ok (j, n) := fun h => of_decide_eq_true h
  cases i with
  | iconst n =>
    have h : (ab_dc cc pc (.iconst n) 1 && decide (ab_rg n)) = true := h
    simp only [Bool.and_eq_true, decide_eq_true_eq] at h
    exact ⟨dc h.1, h.2⟩
  | bipush n =>
    have h : (ab_dc cc pc (.bipush n) 2 && decide (ab_rg n) && decide ((Int8.ofInt n).toInt32 = Int32.ofInt n)) = true := h
    simp only [Bool.and_eq_true, decide_eq_true_eq] at h
    exact ⟨dc h.1.1, h.1.2, h.2⟩
  | sipush n =>
    have h : (ab_dc cc pc (.sipush n) 3 && decide (ab_rg n) && decide ((Int16.ofInt n).toInt32 = Int32.ofInt n)) = true := h
    simp only [Bool.and_eq_true, decide_eq_true_eq] at h
    exact ⟨dc h.1.1, h.1.2, h.2⟩
  | ldc j =>
    have h : (ab_dc cc pc (.ldc j) 2 && (if k = 0 then ab_cnt.any (fun q => decide (q.1 = oid ∧ q.2.1 = j ∧ q.2.2.1 = x)) else decide (oid = 6 ∧ j = 50))) = true := h
    rw [Bool.and_eq_true] at h
    refine ⟨dc h.1, fun h0 => ?_, fun h0 => ?_⟩
    · have h0 : k = 0 := h0
      have h2 := h.2
      rw [if_pos h0] at h2
      exact ab_cn_any h2
    · have h0 : ¬ k = 0 := h0
      have h2 := h.2
      rw [if_neg h0] at h2
      obtain ⟨a1, a2⟩ := of_decide_eq_true h2
      exact ⟨by rw [a1]; rfl, a2⟩
  | ldc_w j =>
    have h : (ab_dc cc pc (.ldc_w j) 3 && ab_cnt.any (fun q => decide (q.1 = oid ∧ q.2.1 = j ∧ q.2.2.1 = x))) = true := h
    rw [Bool.and_eq_true] at h
    exact ⟨dc h.1, ab_cn_any h.2⟩
  | ldc2_w j =>
    have h : (ab_dc cc pc (.ldc2_w j) 3 && ab_lnt.any (fun q => decide (q.1 = oid ∧ q.2.1 = j ∧ q.2.2.1 = x))) = true := h
    rw [Bool.and_eq_true] at h
    exact ⟨dc h.1, ab_ln_any h.2⟩
  | goto off =>
    have h : (ab_dc cc pc (.goto off) 3 && decide ((pc : Int) + off = (k : Int))) = true := h
    simp only [Bool.and_eq_true, decide_eq_true_eq] at h
    exact ⟨dc h.1, h.2⟩
  | ifCond c off =>
    have h : (ab_dc cc pc (.ifCond c off) 3 && decide ((pc : Int) + off = (k : Int))) = true := h
    simp only [Bool.and_eq_true, decide_eq_true_eq] at h
    exact ⟨dc h.1, h.2⟩
  | if_icmp c off =>
    have h : (ab_dc cc pc (.if_icmp c off) 3 && decide ((pc : Int) + off = (k : Int))) = true := h
    simp only [Bool.and_eq_true, decide_eq_true_eq] at h
    exact ⟨dc h.1, h.2⟩
  | tableswitch d lo hi offs =>
    have h : (ab_dl cc pc (.tableswitch d lo hi offs) && decide ((pc : Int) + d = (k : Int))) = true := h
    simp only [Bool.and_eq_true, decide_eq_true_eq] at h
    exact ⟨ab_dli h.1, h.2⟩
  | lookupswitch d ps =>
    have h : (ab_dl cc pc (.lookupswitch d ps) && (ps.toList.zip (ps.toList.drop 1)).all (fun (a, next) => a.1 < next.1)) = true := h
    rw [Bool.and_eq_true] at h
    exact ⟨ab_dli h.1, h.2⟩
  | getfield j =>
    have h : (ab_dc cc pc (.getfield j) 3 && (if x = 30 then decide (oid = 14 ∧ ((k = 0 ∧ j = 9) ∨ (k ≠ 0 ∧ j = 15))) else ab_flt.any (fun q => decide (q.1 = oid ∧ q.2.1 = j ∧ q.2.2.1 = x ∧ q.2.2.2.1 = k)))) = true := h
    rw [Bool.and_eq_true] at h
    refine ⟨dc h.1, fun h0 => ?_, fun h0 => ?_⟩
    · have h0 : ¬ x = 30 := h0
      have h2 := h.2
      rw [if_neg h0] at h2
      exact ab_fl_any h2
    · have h0 : x = 30 := h0
      have h2 := h.2
      rw [if_pos h0] at h2
      obtain ⟨a1, a2⟩ := of_decide_eq_true h2
      exact ⟨by rw [a1]; rfl, a2⟩
  | putfield j =>
    have h : (ab_dc cc pc (.putfield j) 3 && ab_flt.any (fun q => decide (q.1 = oid ∧ q.2.1 = j ∧ q.2.2.1 = x ∧ q.2.2.2.1 = k)) && (List.range 11).all (fun t => !decide (ab_tg x t) || (match vwCl[t]? with | some r => !(r.2.1 k).2.2.2 || (ini && decide ((r.2.1 k).1 = ab_ows.getD oid "")) | none => true))) = true := h
    rw [Bool.and_eq_true, Bool.and_eq_true] at h
    refine ⟨dc h.1.1, ab_fl_any h.1.2, fun t r ht hr => ?_⟩
    have hl : t < 11 := (List.getElem?_eq_some_iff.mp hr).1
    have h3 := List.all_eq_true.mp h.2 t (List.mem_range.mpr hl)
    rw [hr] at h3
    simp only [Bool.or_eq_true, Bool.not_eq_true', decide_eq_false_iff_not, Bool.and_eq_true, decide_eq_true_eq] at h3
    rcases h3 with h3 | h3 | h3
    · exact absurd ht h3
    · exact Or.inl h3
    · cases hq : (r.2.1 k).2.2.2 with
      | false => exact Or.inl rfl
      | true => exact Or.inr ⟨rfl, hi h3.1, h3.2⟩
  | getstatic j =>
    have h : (ab_dc cc pc (.getstatic j) 3 && ab_gst.any (fun q => decide (q.1 = oid ∧ q.2.1 = j ∧ q.2.2.1 = k)) && (decide (x = 0 ∧ oid = 6 ∧ (k = 1001 ∨ k = 1002 ∨ k = 1003)) || decide (x ≠ 0 ∧ k = 1))) = true := h
    rw [Bool.and_eq_true, Bool.and_eq_true, Bool.or_eq_true] at h
    have hl := ab_gs_any h.1.2
    refine ⟨dc h.1.1, ?_⟩
    rcases h.2 with h3 | h3
    · obtain ⟨a1, a2, a3⟩ := of_decide_eq_true h3
      refine Or.inl ⟨a1, by rw [a2]; rfl, ?_⟩
      rcases a3 with rfl | rfl | rfl
      · exact Or.inl ⟨rfl, hl⟩
      · exact Or.inr (Or.inl ⟨rfl, hl⟩)
      · exact Or.inr (Or.inr ⟨rfl, hl⟩)
    · obtain ⟨a1, rfl⟩ := of_decide_eq_true h3
      exact Or.inr ⟨a1, rfl, hl⟩
  | new j =>
    have h : (ab_dc cc pc (.new j) 3 && ab_nwt.any (fun q => decide (q.1 = oid ∧ q.2.1 = j ∧ (q.2.2.1 : Int) = x))) = true := h
    rw [Bool.and_eq_true] at h
    refine ⟨dc h.1, fun t r ht hr => ?_⟩
    obtain ⟨q, hq, h2⟩ := List.any_eq_true.mp h.2
    obtain ⟨a1, a2, a3⟩ := of_decide_eq_true h2
    have h3 := List.all_eq_true.mp ab_nwt0 q hq
    have ht : x = t := ht
    have : q.2.2.1 = t := by omega
    rw [this, hr] at h3
    simp only [Bool.and_eq_true] at h3
    subst a1; subst a2
    exact ⟨ab_ix_mem h3.1.1, ab_ix_mem h3.1.2, ab_ix_mem h3.2⟩
  | newarray a =>
    have h : (ab_dc cc pc (.newarray a) 2 && (decide (x = 20 ∧ a = .int) || decide (x = 21 ∧ a = .boolean) || decide (x = 22 ∧ a = .char))) = true := h
    simp only [Bool.and_eq_true, Bool.or_eq_true, decide_eq_true_eq] at h
    refine ⟨dc h.1, ?_⟩
    rcases h.2 with (⟨rfl, rfl⟩ | ⟨rfl, rfl⟩) | ⟨rfl, rfl⟩
    · exact ⟨fun _ => rfl, fun z => absurd z (by dsimp only; decide), fun z => absurd z (by dsimp only; decide)⟩
    · exact ⟨fun z => absurd z (by dsimp only; decide), fun _ => rfl, fun z => absurd z (by dsimp only; decide)⟩
    · exact ⟨fun z => absurd z (by dsimp only; decide), fun z => absurd z (by dsimp only; decide), fun _ => rfl⟩
  | multianewarray j n =>
    have h : (ab_dc cc pc (.multianewarray j 2) 4 && decide (n = 2 ∧ oid = 8 ∧ j = 15)) = true := h
    simp only [Bool.and_eq_true, decide_eq_true_eq] at h
    obtain ⟨h1, h2, h3, h4⟩ := h
    refine ⟨dc h1, h2, ?_⟩
    rw [h3, h4]
    exact ab_mul0
  | invokespecial j =>
    have h : (ab_dc cc pc (.invokespecial j) 3 && ab_oit.any (fun q => decide (q.1 = oid ∧ q.2.1 = j))) = true := h
    rw [Bool.and_eq_true] at h
    refine ⟨dc h.1, ?_⟩
    obtain ⟨q, hq, h2⟩ := List.any_eq_true.mp h.2
    obtain ⟨a1, a2⟩ := of_decide_eq_true h2
    have h3 := ab_ix_mem (List.all_eq_true.mp ab_oit0 q hq)
    rw [a1, a2] at h3
    exact h3
  | invokestatic j =>
    have h : (ab_dc cc pc (.invokestatic j) 3 && (if k = 901 then ab_act.any (fun q => decide (q.1 = oid ∧ q.2.1 = j)) else decide (k = 902 ∨ k = 903) && ab_mmt.any (fun q => decide (q.1 = oid ∧ q.2.1 = j ∧ q.2.2.1 = k)))) = true := h
    rw [Bool.and_eq_true] at h
    have mm : ¬ k = 901 → (k = 902 ∨ k = 903) ∧ Cond.methodLink (ab_ows.getD oid "") j (if k = 902 then Lib.Math.max.name else Lib.Math.min.name) ∈ ab_tb := by
      intro h0
      have h2 := h.2
      rw [if_neg h0, Bool.and_eq_true] at h2
      refine ⟨of_decide_eq_true h2.1, ?_⟩
      obtain ⟨q, hq, h4⟩ := List.any_eq_true.mp h2.2
      obtain ⟨a1, a2, a3⟩ := of_decide_eq_true h4
      have h3 := ab_ix_mem (List.all_eq_true.mp ab_mmt0 q hq)
      rw [a1, a2, a3] at h3
      exact h3
    refine ⟨dc h.1, fun h0 => ?_, fun h0 h1 => ?_, fun h0 h1 => ?_⟩
    · have h0 : k = 901 := h0
      have h2 := h.2
      rw [if_pos h0] at h2
      obtain ⟨q, hq, h4⟩ := List.any_eq_true.mp h2
      obtain ⟨a1, a2⟩ := of_decide_eq_true h4
      have h3 := ab_ix_mem (List.all_eq_true.mp ab_act0 q hq)
      rw [a1, a2] at h3
      exact h3
    · have h1 : k = 902 := h1
      have := (mm h0).2
      rw [if_pos h1] at this
      exact this
    · have h1 : ¬ k = 902 := h1
      have := (mm h0).2
      rw [if_neg h1] at this
      exact this
  | _ => exact dc h
/-- a call's link -/
def ab_cok (oid : Nat) (cc : ByteArray) (pc : Nat) (en : ab_E) : Prop := ∃ q : ab_CL, q ∈ ab_clt ∧ q.2.1 = oid ∧ q.2.2.2.1 = en.2.2.1 ∧ (q.2.2.2.2.1 : Int) = en.2.2.2 ∧
  ((q.1 = 0 ∧ en.1 = .invokestatic q.2.2.1) ∨ ((q.1 = 1 ∨ q.1 = 2) ∧ en.1 = .invokespecial q.2.2.1) ∨ ((q.1 = 3 ∨ q.1 = 4 ∨ q.1 = 5) ∧ en.1 = .invokevirtual q.2.2.1)) ∧ decode cc pc = .ok (en.1, 3)
def ab_en1 (oid : Nat) (cc : ByteArray) (pc : Nat) (en : ab_E) : Bool := ab_dc cc pc en.1 3 && ab_clt.any (fun q => decide (q.2.1 = oid ∧ q.2.2.2.1 = en.2.2.1 ∧ (q.2.2.2.2.1 : Int) = en.2.2.2) && (match en.1 with
  | .invokestatic i => decide (q.2.2.1 = i ∧ q.1 = 0)
  | .invokespecial i => decide (q.2.2.1 = i ∧ (q.1 = 1 ∨ q.1 = 2))
  | .invokevirtual i => decide (q.2.2.1 = i ∧ (q.1 = 3 ∨ q.1 = 4 ∨ q.1 = 5))
  | _ => false))
theorem ab_en1_ok {oid : Nat} {cc : ByteArray} {pc : Nat} {en : ab_E} (h : ab_en1 oid cc pc en = true) : ab_cok oid cc pc en := by
  unfold ab_en1 at h
  rw [Bool.and_eq_true] at h
  obtain ⟨q, hq, h2⟩ := List.any_eq_true.mp h.2
  rw [Bool.and_eq_true] at h2
  obtain ⟨a1, a2, a3⟩ := of_decide_eq_true h2.1
  refine ⟨q, hq, a1, a2, a3, ?_, of_decide_eq_true h.1⟩
  have h3 := h2.2
  split at h3
  next i hi =>
    obtain ⟨b1, b2⟩ := of_decide_eq_true h3
    exact Or.inl ⟨b2, by rw [hi, b1]⟩
  next i hi =>
    obtain ⟨b1, b2⟩ := of_decide_eq_true h3
    exact Or.inr (Or.inl ⟨b2, by rw [hi, b1]⟩)
  next i hi =>
    obtain ⟨b1, b2⟩ := of_decide_eq_true h3
    exact Or.inr (Or.inr ⟨b2, by rw [hi, b1]⟩)
  next => cases h3
/-- a return's -/
def ab_rok (rv : Option FieldType) (cc : ByteArray) (pc : Nat) (en : ab_E) : Prop := (en.2.2.1 = 0 ∧ rv = none ∧ decode cc pc = .ok (.return_, 1)) ∨ (en.2.2.1 = 1 ∧ decode cc pc = .ok (.ireturn, 1) ∧ ((en.2.2.2 = 0 ∧ rv = some .int) ∨ (en.2.2.2 = 1 ∧ rv = some .boolean) ∨ (en.2.2.2 = 3 ∧ rv = some .byte)))
def ab_en2 (rv : Option FieldType) (cc : ByteArray) (pc : Nat) (en : ab_E) : Bool := (decide (en.2.2.1 = 0 ∧ rv = none) && ab_dc cc pc .return_ 1) || (decide (en.2.2.1 = 1) && ab_dc cc pc .ireturn 1 && (decide (en.2.2.2 = 0 ∧ rv = some .int) || decide (en.2.2.2 = 1 ∧ rv = some .boolean) || decide (en.2.2.2 = 3 ∧ rv = some .byte)))
theorem ab_en2_ok {rv : Option FieldType} {cc : ByteArray} {pc : Nat} {en : ab_E} (h : ab_en2 rv cc pc en = true) : ab_rok rv cc pc en := by
  unfold ab_en2 at h
  simp only [Bool.or_eq_true, Bool.and_eq_true, decide_eq_true_eq] at h
  rcases h with ⟨⟨h1, h2⟩, h3⟩ | ⟨⟨h1, h2⟩, h3⟩
  · exact Or.inl ⟨h1, h2, of_decide_eq_true h3⟩
  · refine Or.inr ⟨h1, of_decide_eq_true h2, ?_⟩
    rcases h3 with (h3 | h3) | h3
    · exact Or.inl h3
    · exact Or.inr (Or.inl h3)
    · exact Or.inr (Or.inr h3)
def ab_enB (oid : Nat) (cc : ByteArray) (ini : Bool) (rv : Option FieldType) (q : Nat × ab_E) : Bool := match q.2.2.1 with
  | 0 => ab_en0 oid cc ini q.1 q.2
  | 1 => ab_en1 oid cc q.1 q.2
  | 2 => ab_en2 rv cc q.1 q.2
  | _ => true
