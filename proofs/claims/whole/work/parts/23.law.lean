/-! THE CLAIM OUT OF AN ABSTRACT RUN OF THE LAW -/
def ab_M0 (L : Nat) (xs : Nat → Int32) : ab_M := fun a b => if a = 999 then (if b = 2 then (L : Int) else 0) else if a = 1000 then (if b < L then (xs b).toInt else 0) else 0
theorem ab_inst : ∀ (t : Nat) (r : vw_C), vwCl[t]? = some r → Cond.instantiable r.1 r.2.2 ∈ ab_tb
  | 0, r, h => by cases h; exact ab_ix_mem (i := 279) (by decide +kernel)
  | 1, r, h => by cases h; exact ab_ix_mem (i := 361) (by decide +kernel)
  | 2, r, h => by cases h; exact ab_ix_mem (i := 376) (by decide +kernel)
  | 3, r, h => by cases h; exact ab_ix_mem (i := 331) (by decide +kernel)
  | 4, r, h => by cases h; exact ab_ix_mem (i := 262) (by decide +kernel)
  | 5, r, h => by cases h; exact ab_ix_mem (i := 317) (by decide +kernel)
  | 6, r, h => by cases h; exact ab_ix_mem (i := 97) (by decide +kernel)
  | 7, r, h => by cases h; exact ab_ix_mem (i := 230) (by decide +kernel)
  | 8, r, h => by cases h; exact ab_ix_mem (i := 126) (by decide +kernel)
  | 9, r, h => by cases h; exact ab_ix_mem (i := 89) (by decide +kernel)
  | 10, r, h => by cases h; exact ab_ix_mem (i := 950) (by decide +kernel)
  | n + 11, r, h => by simp [vwCl] at h
set_option maxRecDepth 100000 in
set_option maxHeartbeats 4000000 in
theorem ab_start {p : Program} {e : Env} {s : State} {m : MethodId} {below : List Frame} {meth : Method} {c : Code} (l : Launch) {b L : Nat} {xs : Nat → Int32} (hL : L ≤ 320) (C0 : lw_At p s m meth c b L xs) {n : Nat} {M' : ab_M} (hrun : ab_run n 30 194 0 (ab_ent [.inr (.inr 1000)] 4) [] (ab_M0 L xs) = some (some (.inl 1), M')) (hsl : (M' 999 1).toNat ≤ 7302250) : W p l e room_1 s m #[Value.ref b] below meth c s.heap [] 0 0 (lw_Z below #[Value.ref b] s) (entryFrame m ([Value.ref b] : List Value).toArray 4) := by
  obtain ⟨hx, hb, hr, hml, hown, hts, hX, hbl, hlocks, hgv⟩ := id C0
  have hs := flat_of_before _ hgv
  have hA : ∀ a : Nat, a < s.heap.size → ¬ ab_A s.heap.size a := fun a h q => absurd q (Nat.not_le.mpr h)
  have htb : ∀ w ∈ ab_tb, w.before #[Value.ref b] s = true := fun w hw => hts w (List.mem_filter.mp hw).1
  obtain ⟨cI, kI, compI, hcI, hkI, hkindI⟩ := Cond.arrayClass_spec (type := .int) (hts _ (List.mem_of_getElem? (i := 124) (by decide +kernel)))
  obtain ⟨cZ, kZ, compZ, hcZ, hkZ, hkindZ⟩ := Cond.arrayClass_spec (type := .boolean) (hts _ (List.mem_of_getElem? (i := 329) (by decide +kernel)))
  obtain ⟨cC, kC, compC, hcC, hkC, hkindC⟩ := Cond.arrayClass_spec (type := .char) (hts _ (List.mem_of_getElem? (i := 123) (by decide +kernel)))
  have hov : (Cond.arrayOver (.array .int)).before #[Value.ref b] s = true := (hts _ (List.mem_of_getElem? (i := 132) (by decide +kernel)))
  obtain ⟨compA, cA, kA, hcompA, -, hkA, hkindA, hnameA⟩ := arrayOverA_spec hov
  have hov0 : (Cond.arrayOver (.array .int)).before #[] s = true := over_moved (Vm.Alike.refl s.vm) hov
  have hex : ∀ k : Nat, ∃ z : ClassId × (Nat → Nat), ∀ q : vw_C, vwCl[k]? = some q → u_Kn s q.1 q.2.1 q.2.2 z.1 z.2 := by
    intro k
    cases hk : vwCl[k]? with
    | none => exact ⟨(0, fun _ => 0), fun q hq => by cases hq⟩
    | some r =>
      obtain ⟨cC, iS, h⟩ := u_known (C := r.1) (T := r.2.1) (N := r.2.2) htb (ab_clin k r hk) (htb _ (ab_inst k r hk))
      exact ⟨(cC, iS), fun q hq => by cases hq; exact h⟩
  obtain ⟨f, hf⟩ := Classical.axiomOfChoice hex
  have hK : va_K (fun k => (f k).1, fun k => (f k).2) vwCl (ab_tys (cI, cZ, cC, cA)) s := by
    refine ⟨fun k q hq => hf k q hq, fun k q hq => ?_⟩
    have hk : k < 4 := (List.getElem?_eq_some_iff.mp hq).1
    have hk4 : k = 0 ∨ k = 1 ∨ k = 2 ∨ k = 3 := by omega
    rcases hk4 with rfl | rfl | rfl | rfl
    · cases hq; exact ⟨fun n z => ⟨fun k h => (by cases h), kI, hkI, compI, hkindI⟩, hcI⟩
    · cases hq; exact ⟨fun n z => ⟨fun k h => (by cases h), kZ, hkZ, compZ, hkindZ⟩, hcZ⟩
    · cases hq; exact ⟨fun n z => ⟨fun k h => (by cases h), kC, hkC, compC, hkindC⟩, hcC⟩
    · cases hq; exact ⟨fun n z => ⟨fun k h => (by cases h), kA, hkA, compA, hkindA⟩, hnameA⟩
  obtain ⟨t1001, ht1001, hT1001⟩ := va_Tof (args := #[Value.ref b]) (s := s) (tm := (Term.static "LoneAdjective$Reader" "NUMBERS" "[I")) (ty := .int) (N := 7) (f := ab_si 1001) (A := ab_A s.heap.size) (by decide) (hs (.arrayOf (Term.static "LoneAdjective$Reader" "NUMBERS" "[I") .int) (by decide +kernel)) (va_eqt (z := 7) (hs (.eq (.length (Term.static "LoneAdjective$Reader" "NUMBERS" "[I")) (.int 7)) (by decide +kernel))) (fun j hj => by
    have hj : j = 0 ∨ j = 1 ∨ j = 2 ∨ j = 3 ∨ j = 4 ∨ j = 5 ∨ j = 6 := by omega
    rcases hj with rfl | rfl | rfl | rfl | rfl | rfl | rfl
    · exact va_eqt (z := 2) (hs (.eq (.elem (Term.static "LoneAdjective$Reader" "NUMBERS" "[I") (.int 0)) (.int 2)) (by decide +kernel))
    · exact va_eqt (z := 3) (hs (.eq (.elem (Term.static "LoneAdjective$Reader" "NUMBERS" "[I") (.int 1)) (.int 3)) (by decide +kernel))
    · exact va_eqt (z := 2) (hs (.eq (.elem (Term.static "LoneAdjective$Reader" "NUMBERS" "[I") (.int 2)) (.int 2)) (by decide +kernel))
    · exact va_eqt (z := 4) (hs (.eq (.elem (Term.static "LoneAdjective$Reader" "NUMBERS" "[I") (.int 3)) (.int 4)) (by decide +kernel))
    · exact va_eqt (z := 2) (hs (.eq (.elem (Term.static "LoneAdjective$Reader" "NUMBERS" "[I") (.int 4)) (.int 2)) (by decide +kernel))
    · exact va_eqt (z := 3) (hs (.eq (.elem (Term.static "LoneAdjective$Reader" "NUMBERS" "[I") (.int 5)) (.int 3)) (by decide +kernel))
    · exact va_eqt (z := 1) (hs (.eq (.elem (Term.static "LoneAdjective$Reader" "NUMBERS" "[I") (.int 6)) (.int 1)) (by decide +kernel))) hA
  have hZ1001 := va_Zof (A := ab_A s.heap.size) (hts _ (List.mem_of_getElem? (i := 557) (by decide +kernel))) (hts _ (List.mem_of_getElem? (i := 69) (by decide +kernel))) ht1001 hA
  obtain ⟨t1002, ht1002, hT1002⟩ := va_Tof (args := #[Value.ref b]) (s := s) (tm := (Term.static "LoneAdjective$Reader" "MOST" "[I")) (ty := .int) (N := 7) (f := ab_si 1002) (A := ab_A s.heap.size) (by decide) (hs (.arrayOf (Term.static "LoneAdjective$Reader" "MOST" "[I") .int) (by decide +kernel)) (va_eqt (z := 7) (hs (.eq (.length (Term.static "LoneAdjective$Reader" "MOST" "[I")) (.int 7)) (by decide +kernel))) (fun j hj => by
    have hj : j = 0 ∨ j = 1 ∨ j = 2 ∨ j = 3 ∨ j = 4 ∨ j = 5 ∨ j = 6 := by omega
    rcases hj with rfl | rfl | rfl | rfl | rfl | rfl | rfl
    · exact va_eqt (z := 1) (hs (.eq (.elem (Term.static "LoneAdjective$Reader" "MOST" "[I") (.int 0)) (.int 1)) (by decide +kernel))
    · exact va_eqt (z := 10) (hs (.eq (.elem (Term.static "LoneAdjective$Reader" "MOST" "[I") (.int 1)) (.int 10)) (by decide +kernel))
    · exact va_eqt (z := 6) (hs (.eq (.elem (Term.static "LoneAdjective$Reader" "MOST" "[I") (.int 2)) (.int 6)) (by decide +kernel))
    · exact va_eqt (z := 6) (hs (.eq (.elem (Term.static "LoneAdjective$Reader" "MOST" "[I") (.int 3)) (.int 6)) (by decide +kernel))
    · exact va_eqt (z := 250) (hs (.eq (.elem (Term.static "LoneAdjective$Reader" "MOST" "[I") (.int 4)) (.int 250)) (by decide +kernel))
    · exact va_eqt (z := 12) (hs (.eq (.elem (Term.static "LoneAdjective$Reader" "MOST" "[I") (.int 5)) (.int 12)) (by decide +kernel))
    · exact va_eqt (z := 4) (hs (.eq (.elem (Term.static "LoneAdjective$Reader" "MOST" "[I") (.int 6)) (.int 4)) (by decide +kernel))) hA
  have hZ1002 := va_Zof (A := ab_A s.heap.size) (hts _ (List.mem_of_getElem? (i := 555) (by decide +kernel))) (hts _ (List.mem_of_getElem? (i := 69) (by decide +kernel))) ht1002 hA
  obtain ⟨t1003, ht1003, hT1003⟩ := va_Tof (args := #[Value.ref b]) (s := s) (tm := (Term.static "LoneAdjective$Reader" "DEED_BOUNDS" "[I")) (ty := .int) (N := 4) (f := ab_si 1003) (A := ab_A s.heap.size) (by decide) (hs (.arrayOf (Term.static "LoneAdjective$Reader" "DEED_BOUNDS" "[I") .int) (by decide +kernel)) (va_eqt (z := 4) (hs (.eq (.length (Term.static "LoneAdjective$Reader" "DEED_BOUNDS" "[I")) (.int 4)) (by decide +kernel))) (fun j hj => by
    have hj : j = 0 ∨ j = 1 ∨ j = 2 ∨ j = 3 := by omega
    rcases hj with rfl | rfl | rfl | rfl
    · exact va_eqt (z := 0) (hs (.eq (.elem (Term.static "LoneAdjective$Reader" "DEED_BOUNDS" "[I") (.int 0)) (.int 0)) (by decide +kernel))
    · exact va_eqt (z := 30) (hs (.eq (.elem (Term.static "LoneAdjective$Reader" "DEED_BOUNDS" "[I") (.int 1)) (.int 30)) (by decide +kernel))
    · exact va_eqt (z := 999) (hs (.eq (.elem (Term.static "LoneAdjective$Reader" "DEED_BOUNDS" "[I") (.int 2)) (.int 999)) (by decide +kernel))
    · exact va_eqt (z := 99) (hs (.eq (.elem (Term.static "LoneAdjective$Reader" "DEED_BOUNDS" "[I") (.int 3)) (.int 99)) (by decide +kernel))) hA
  have hZ1003 := va_Zof (A := ab_A s.heap.size) (hts _ (List.mem_of_getElem? (i := 573) (by decide +kernel))) (hts _ (List.mem_of_getElem? (i := 69) (by decide +kernel))) ht1003 hA
  have hZC := va_Zof (A := ab_A s.heap.size) (hts _ (List.mem_of_getElem? (i := 481) (by decide +kernel))) (hts _ (List.mem_of_getElem? (i := 81) (by decide +kernel))) (va_eqt (z := 1) (hs (.eq (.static "java/lang/String" "COMPACT_STRINGS" "Z") (.int 1)) (by decide +kernel))) hA
  obtain ⟨adK, adV, hvS, hvE⟩ := vk_Sof (args := #[Value.ref b]) (s := s) (N := 1) (tm := fun _ => Term.string "LoneAdjective$Reader" 50) (len := [7]) (byt := [[116, 119, 112, 100, 114, 113, 111]]) (A := ab_A s.heap.size) (fun i hi => by rw [show i = 0 by omega]; decide) (fun i hi => hs _ (by decide +kernel)) (fun i hi => hs _ (by decide +kernel)) (fun i hi => hs _ (by decide +kernel))
    (fun i hi => by rw [show i = 0 by omega]; exact hs (.eq (.length (Term.field (Term.string "LoneAdjective$Reader" 50) "java/lang/String" "value" "[B")) (.int 7)) (by decide +kernel))
    (fun i hi j hj => by
      rw [show i = 0 by omega] at hj ⊢
      have hj : j < 7 := hj
      have hj : j = 0 ∨ j = 1 ∨ j = 2 ∨ j = 3 ∨ j = 4 ∨ j = 5 ∨ j = 6 := by omega
      rcases hj with rfl | rfl | rfl | rfl | rfl | rfl | rfl
      · exact hs (.eq (.elem (Term.field (Term.string "LoneAdjective$Reader" 50) "java/lang/String" "value" "[B") (.int 0)) (.int 116)) (by decide +kernel)
      · exact hs (.eq (.elem (Term.field (Term.string "LoneAdjective$Reader" 50) "java/lang/String" "value" "[B") (.int 1)) (.int 119)) (by decide +kernel)
      · exact hs (.eq (.elem (Term.field (Term.string "LoneAdjective$Reader" 50) "java/lang/String" "value" "[B") (.int 2)) (.int 112)) (by decide +kernel)
      · exact hs (.eq (.elem (Term.field (Term.string "LoneAdjective$Reader" 50) "java/lang/String" "value" "[B") (.int 3)) (.int 100)) (by decide +kernel)
      · exact hs (.eq (.elem (Term.field (Term.string "LoneAdjective$Reader" 50) "java/lang/String" "value" "[B") (.int 4)) (.int 114)) (by decide +kernel)
      · exact hs (.eq (.elem (Term.field (Term.string "LoneAdjective$Reader" 50) "java/lang/String" "value" "[B") (.int 5)) (.int 113)) (by decide +kernel)
      · exact hs (.eq (.elem (Term.field (Term.string "LoneAdjective$Reader" 50) "java/lang/String" "value" "[B") (.int 6)) (.int 111)) (by decide +kernel))
    (fun i j hi hj hij => by omega) hA
  have hvR : vk_R "LoneAdjective$Reader" 50 "twpdrqo" (adK 0) s := by
    have hsr : (Cond.stringRef "LoneAdjective$Reader" 50 "twpdrqo").before #[Value.ref b] s = true := (hts _ (List.mem_of_getElem? (i := 467) (by decide +kernel)))
    refine ⟨by simp only [Cond.before, Cond.holds, Cond.value] at hsr ⊢; exact hsr, ?_⟩
    have h1 := hvE 0 (by decide)
    rw [Term.string_eval_of_vm (args := #[Value.ref b]) (args' := #[]) (U := s) (V := s) rfl]
    exact h1
  have hG : ab_G s.heap.size (fun k => if k = 1000 then b else if k = 1001 then t1001 else if k = 1002 then t1002 else if k = 1003 then t1003 else if k = 1004 then adK 0 else adV 0) L xs s := by
    refine ⟨⟨hX, hbl, hbl⟩, ⟨hT1001, hT1002, hT1003⟩, ⟨hZ1001, hZ1002, hZ1003, hZC⟩, ⟨hvR, ?_⟩, ?_, hov0⟩
    · obtain ⟨v1, v2⟩ := hvS
      exact ⟨fun i hi => by rw [show i = 0 by omega]; exact v1 0 (by decide), fun i j hi hj _ => by omega⟩
    · unfold ab_nwd
      exact List.forall_mem_cons.mpr ⟨va_Nw.of rfl (hts _ (List.mem_of_getElem? (i := 740) (by decide +kernel))), List.forall_mem_cons.mpr ⟨va_Nw.of rfl (hts _ (List.mem_of_getElem? (i := 98) (by decide +kernel))), List.forall_mem_cons.mpr ⟨va_Nw.of rfl (hts _ (List.mem_of_getElem? (i := 263) (by decide +kernel))), List.forall_mem_cons.mpr ⟨va_Nw.of rfl (hts _ (List.mem_of_getElem? (i := 280) (by decide +kernel))), List.forall_mem_cons.mpr ⟨va_Nw.of rfl (hts _ (List.mem_of_getElem? (i := 283) (by decide +kernel))), List.forall_mem_cons.mpr ⟨va_Nw.of rfl (hts _ (List.mem_of_getElem? (i := 318) (by decide +kernel))), List.forall_mem_cons.mpr ⟨va_Nw.of rfl (hts _ (List.mem_of_getElem? (i := 321) (by decide +kernel))), List.forall_mem_cons.mpr ⟨va_Nw.of rfl (hts _ (List.mem_of_getElem? (i := 332) (by decide +kernel))), List.forall_mem_cons.mpr ⟨va_Nw.of rfl (hts _ (List.mem_of_getElem? (i := 335) (by decide +kernel))), List.forall_mem_cons.mpr ⟨va_Nw.of rfl (hts _ (List.mem_of_getElem? (i := 362) (by decide +kernel))), List.forall_mem_cons.mpr ⟨va_Nw.of rfl (hts _ (List.mem_of_getElem? (i := 377) (by decide +kernel))), fun _ h => absurd h List.not_mem_nil⟩⟩⟩⟩⟩⟩⟩⟩⟩⟩⟩
  generalize hsa : (fun k => if k = 1000 then b else if k = 1001 then t1001 else if k = 1002 then t1002 else if k = 1003 then t1003 else if k = 1004 then adK 0 else adV 0) = sa at hG
  have hsb : sa 1000 = b := by rw [← hsa]; rfl
  have hm : ab_mok L xs (ab_M0 L xs) := by
    refine ⟨fun k j hk => ?_, (by show (0 : Int) ≤ 0; decide), (by show (0 : Int) ≤ 995; decide), (by show (0 : Int) ≤ 0; decide), rfl, hL, fun j hj => ?_⟩
    · unfold ab_M0
      rw [if_neg hk]
      split
      · split
        · exact ab_rgz _
        · decide
      · decide
    · unfold ab_M0
      rw [if_neg (by decide), if_pos rfl, if_pos hj]
  have C : ab_cx p s m #[Value.ref b] c (fun k => (f k).1, fun k => (f k).2) (cI, cZ, cC, cA) s.heap.size sa L xs 4 0 (ab_b 194) (ab_ows.getD (ab_oi' 194) "") := ⟨hx, hb, hml, hown, htb, hK, hG, rfl⟩
  have h0 : ab_M0 L xs 999 0 ≤ 995 := by show (0 : Int) ≤ 995; decide
  have hup := ab_up_run _ _ _ _ _ _ _ _ h0 hrun
  have hkk := so_run (R := room_1) (mm := 194) (d := 30) (N := n) (z := (some (.inl 1), M')) (n0 := 0) (s0 := 0) (l := l) (e := e) (below := below) (meth := meth) (Q := lw_Z below #[Value.ref b] s) (by decide) C (fun hi => by cases hi) (so_met l _ _ _ _ _ _ n) ⟨by decide, by decide⟩ ⟨by have := hup.2.2.1; show ab_nc M' - 0 ≤ 600000; unfold ab_nc; dsimp only at this; omega, by show _ ≤ 7302250; dsimp only; omega⟩
    (fun pc ls st M1 en hat hk2 hz => by
      have hen := ab_aten (by decide : 194 < 195) hat
      have hen : ab_en2 (ab_rv 194) (ab_b 194) pc en = true := by
        unfold ab_enB at hen
        dsimp only at hen
        rw [hk2] at hen
        exact hen
      have hrok := ab_en2_ok hen
      intro H locs lc h
      obtain ⟨h1, h2, h3, h4, h5, hP, hS, h8, h9⟩ := h
      unfold ab_ret at hz
      split at hz
      · split at hz
        · cases hz
        · cases hz
      next v =>
        split at hz
        next hk =>
          cases hz
          rcases hrok with ⟨h0, -⟩ | ⟨-, hd, -⟩
          · omega
          · refine va_forget hS.2.2 (W.widen (k := 600000) (n := 7302250) (by have := ab_n995 h1; omega) (by omega) ?_)
            exact lw_ret hx hb hr hlocks hd
        next => cases hz
      · cases hz)
    n (Nat.le_refl _) 0 _ [] (ab_M0 L xs) h0 hrun
  have hle := lv_entry ([.ref b] : List Value) (n := 4) (Nat.le_of_ble_eq_true rfl)
  have := hkk s.heap [] _ ⟨hm, fun v h => absurd h List.not_mem_nil, ab_lvm hle (fun q hq => ?_), rfl, fun v hv => ?_, ?_, va_S.rf, Nat.le_refl _, Nat.zero_le _⟩
  · rw [lg_entry_eq]
    exact this
  · have := ab_as_args s.heap.size sa [.inr (.inr 1000)] 0 q (ab_as_app s.heap.size sa _ _ 0 q hq)
    have e1 : ([.inr (.inr 1000)] : List ab_V).map (ab_cv s.heap.size sa) = [.ref b] := by
      show [ab_cv s.heap.size sa (.inr (.inr 1000))] = _
      rw [ab_ads (by decide), hsb]
    rw [e1] at this
    exact this
  · have hv : some v ∈ ab_sl [.inr (.inr 1000)] ++ List.replicate 3 none := hv
    rcases List.mem_append.mp hv with h | h
    · have := ab_sl_mem h
      rw [List.mem_singleton.mp this]
      trivial
    · have := List.eq_of_mem_replicate h
      cases this
  · intro k q hq
    have : ab_nc (ab_M0 L xs) = 0 := rfl
    rw [this] at hq
    cases hq
