section NA2W
variable {E : CtlPost} {e : Env} {d : Bool} {acts : List Action}
theorem mn_new {s : State} {cA comp : ClassId} {k : Class} {ty : FieldType} {n : Nat} {v : Value} {Q : Addr → Pre} (hk : s.vm.classes[cA]? = some k) (hkind : k.kind = .array comp ty) (h1 : n ≤ e.platform.arrayLengthLimit) (h2 : n * componentBytes ty ≤ e.platform.maxHeapBytes) (hcells : s.heap.size < e.platform.maxCells) (hslots : s.slotsUsed + n ≤ e.platform.maxSlots) (hfit : fits ty v = true) (hq : ∀ acts', Q s.heap.size d acts' (s.pushCell { cls := cA, slots := Array.replicate n v, vm := .none })) : wp (Jvm.newArray cA n v) Q E e d acts s := by
  have hfit' : ∀ i w, (Array.replicate n v)[i]? = some w → s.fitsSlot cA .none i w = true := by
    intro i w hw
    simp only [Array.getElem?_replicate] at hw
    split at hw
    · cases hw; simp [State.fitsSlot, State.slotType?, hk, hkind, hfit]
    · cases hw
  have a1 : ¬ n > e.platform.arrayLengthLimit := by omega
  have a2 : ¬ n * componentBytes ty > e.platform.maxHeapBytes := by omega
  have a3 : ¬ n > e.platform.maxSlots := by omega
  simp only [Jvm.newArray, Jvm.arrayFits, wp_bind', W.ask, W.ite, a1, a2, a3, if_false, W.theClass, hk, hkind, Option.some.injEq, exists_eq_left', wp_pure', W.alloc, Array.size_replicate]
  exact ⟨hcells, hslots, hfit', hq _⟩
/-- the outer row, when i of its n places are told -/
def mn_C (cA : ClassId) (n h i : Nat) : Cell := arrV cA n (fun j => if j < i then .ref (h + 1 + j) else .null)
def mn_R (cI : ClassId) (b : Nat) : Cell := { cls := cI, slots := Array.replicate b (.int 0), vm := .none }
def mn_S (s : State) (cA cI : ClassId) (n b : Nat) : Nat → State
  | 0 => s.pushCell { cls := cA, slots := Array.replicate n .null, vm := .none }
  | i + 1 => ((mn_S s cA cI n b i).pushCell (mn_R cI b)).setCell s.heap.size (mn_C cA n s.heap.size (i + 1))
theorem mn_C0 (cA : ClassId) (n h : Nat) : ({ cls := cA, slots := Array.replicate n .null, vm := .none } : Cell) = mn_C cA n h 0 := by
  rw [arrV_new]
  unfold mn_C
  congr 1
theorem mn_Cs (cA : ClassId) (n h i : Nat) : (mn_C cA n h i).setSlot i (.ref (h + 1 + i)) = mn_C cA n h (i + 1) := by
  unfold mn_C
  rw [arrV_store]
  congr 1
  funext j
  unfold updV
  by_cases hj : j = i
  · subst hj; rw [if_pos rfl, if_pos (by omega)]
  · rw [if_neg hj]
    dsimp only
    by_cases hl : j < i
    · rw [if_pos hl, if_pos (by omega)]
    · rw [if_neg hl, if_neg (by omega)]
theorem mn_facts (s : State) (cA cI : ClassId) (n b : Nat) : ∀ i, (mn_S s cA cI n b i).heap.size = s.heap.size + 1 + i ∧ (mn_S s cA cI n b i).heap[s.heap.size]? = some (mn_C cA n s.heap.size i) ∧ (∀ j, j < i → (mn_S s cA cI n b i).heap[s.heap.size + 1 + j]? = some (mn_R cI b)) ∧ (∀ q, q < s.heap.size → (mn_S s cA cI n b i).heap[q]? = s.heap[q]?) ∧ (mn_S s cA cI n b i).slotsUsed = s.slotsUsed + n + i * b ∧ (mn_S s cA cI n b i).vm = s.vm := by
  intro i
  induction i with
  | zero =>
    refine ⟨?_, ?_, fun j hj => by omega, fun q hq => ?_, ?_, rfl⟩
    · show (s.heap.push _).size = _; simp
    · show (s.heap.push _)[s.heap.size]? = _
      rw [← mn_C0]; simp
    · show (s.heap.push _)[q]? = _
      rw [Array.getElem?_push, if_neg (by omega)]
    · show s.slotsUsed + (Array.replicate n Value.null).size = _
      simp
  | succ i ih =>
    obtain ⟨h1, h2, h3, h4, h5, h6⟩ := ih
    refine ⟨?_, ?_, fun j hj => ?_, fun q hq => ?_, ?_, h6⟩
    · show (((mn_S s cA cI n b i).heap.push _).setIfInBounds _ _).size = _
      simp [h1]; omega
    · show (((mn_S s cA cI n b i).heap.push _).setIfInBounds _ _)[_]? = _
      rw [Array.getElem?_setIfInBounds_self_of_lt (by simp [h1]; omega)]
    · show (((mn_S s cA cI n b i).heap.push _).setIfInBounds _ _)[_]? = _
      rw [Array.getElem?_setIfInBounds_ne (by omega), Array.getElem?_push]
      by_cases hji : j = i
      · subst hji; rw [if_pos (by omega)]
      · rw [if_neg (by omega)]; exact h3 j (by omega)
    · show (((mn_S s cA cI n b i).heap.push _).setIfInBounds _ _)[_]? = _
      rw [Array.getElem?_setIfInBounds_ne (by omega), Array.getElem?_push, if_neg (by omega)]
      exact h4 q hq
    · show (mn_S s cA cI n b i).slotsUsed + (mn_R cI b).slots.size = _
      rw [h5]
      show _ + (Array.replicate b (Value.int 0)).size = _
      simp [Nat.succ_mul]; omega
theorem mn_top (s : State) (f : JFrame) (cA cI : ClassId) (n b : Nat) : ∀ i, mn_S (s.setTop f) cA cI n b i = (mn_S s cA cI n b i).setTop f := by
  intro i
  induction i with
  | zero => rfl
  | succ i ih =>
    show ((mn_S (s.setTop f) cA cI n b i).pushCell _).setCell _ _ = _
    rw [ih]
    rfl
theorem mn_make {s : State} {cA cI c0 : ClassId} {kA kI : Class} {n b : Nat} {Q : Addr → Pre} (hkA : s.vm.classes[cA]? = some kA) (hA : kA.kind = .array cI (.array .int)) (hkI : s.vm.classes[cI]? = some kI) (hI : kI.kind = .array c0 .int) (hn : n < 10) (hb : b < 10) (h1 : 10 ≤ e.platform.arrayLengthLimit) (h2 : 100 ≤ e.platform.maxHeapBytes) (hcells : s.heap.size + 1 + n ≤ e.platform.maxCells) (hslots : s.slotsUsed + n + n * b ≤ e.platform.maxSlots)
    (hq : ∀ d' acts', Q s.heap.size d' acts' (mn_S s cA cI n b n)) : wp (multianewarray.make cA [nI n, nI b]) Q E e d acts s := by
  have nn : ∀ z : Nat, z < 10 → ¬ nI z < 0 := fun z hz => nI_pos (by omega)
  have nc : ∀ z : Nat, z < 10 → (nI z).toNatClampNeg = z := fun z hz => nI_clamp (by omega)
  rw [multianewarray.make]
  simp only [wp_bind', W.ite, nn n hn, if_false, wp_pure', W.theClass, hkA, Option.some.injEq, exists_eq_left', hA, nc n hn]
  have hf : List.find? (fun x => decide (x < 0)) [nI b] = none := by simp [nn b hb]
  refine mn_new hkA hA (by omega) (by show n * 4 ≤ _; omega) (by omega) (by omega) rfl (fun acts' => ?_)
  simp only [hf, ite_self, wp_bind', wp_pure', Std.Legacy.Range.forIn_eq_forIn_range']
  have hsz : ([:n] : Std.Legacy.Range).size = n := by simp [Std.Legacy.Range.size]
  have key : ∀ (Q' : PUnit → Pre), (∀ d' acts', Q' PUnit.unit d' acts' (mn_S s cA cI n b n)) → ∀ (l : List Nat) (i : Nat), l = List.range' i (n - i) → i ≤ n → ∀ (d : Bool) (acts : List Action) (f : Nat → PUnit → Sem (ForInStep PUnit)), (∀ j u, f j u = (do let z ← multianewarray.make cI [nI b]; Jvm.writeLoc s.heap.size j (.ref z); Pure.pure (ForInStep.yield PUnit.unit))) → wp (forIn l PUnit.unit f) Q' E e d acts (mn_S s cA cI n b i) := by
    intro Q' hq' l
    induction l with
    | nil =>
      intro i hl hi d acts f hf
      have : n - i = 0 := by
        have := congrArg List.length hl
        simpa using this.symm
      have : i = n := by omega
      subst this
      simp only [List.forIn_nil, wp_pure']
      exact hq' _ _
    | cons x t ih =>
      intro i hl hi d acts f hf
      have hlt : i < n := by
        have := congrArg List.length hl
        simp at this
        omega
      obtain ⟨w, hw⟩ : ∃ w, n - i = w + 1 := ⟨n - i - 1, by omega⟩
      rw [hw, List.range'_succ] at hl
      obtain ⟨rfl, ht⟩ := List.cons.inj hl
      obtain ⟨g1, g2, g3, g4, g5, g6⟩ := mn_facts s cA cI n b x
      simp only [List.forIn_cons, hf, wp_bind']
      rw [multianewarray.make]
      have hib : x * b + b ≤ n * b := by
        have : (x + 1) * b ≤ n * b := Nat.mul_le_mul_right b hlt
        rw [Nat.succ_mul] at this
        exact this
      simp only [wp_bind', W.ite, nn b hb, if_false, wp_pure', W.theClass, g6, hkI, Option.some.injEq, exists_eq_left', hI, nc b hb]
      refine mn_new (by rw [g6]; exact hkI) hI (by omega) (by show b * 4 ≤ _; omega) (by omega) (by omega) rfl (fun acts' => ?_)
      simp only [wp_bind', W.writeLoc, wp_pure']
      refine ⟨mn_C cA n s.heap.size x, ?_, (fun q => by cases q), ?_, ?_, ?_⟩
      · show ((mn_S s cA cI n b x).heap.push _)[s.heap.size]? = _
        rw [Array.getElem?_push, if_neg (by omega)]
        exact g2
      · show x < (arrV _ _ _).slots.size
        rw [arrV_size]; exact hlt
      · show State.fitsSlot _ cA .none x _ = true
        simp [State.fitsSlot, State.slotType?, State.pushCell, g6, hkA, hA, fits]
      · have hstep : ((mn_S s cA cI n b x).pushCell { cls := cI, slots := Array.replicate b (defaultValue .int), vm := .none }).setCell s.heap.size ((mn_C cA n s.heap.size x).setSlot x (.ref (mn_S s cA cI n b x).heap.size)) = mn_S s cA cI n b (x + 1) := by
          rw [g1, mn_Cs]
          rfl
        rw [hstep]
        exact ih (x + 1) (by rw [ht]; congr 1; omega) (by omega) _ _ f hf
  simp only [Std.Legacy.Range.size, Nat.sub_zero, Nat.add_sub_cancel, Nat.div_one]
  exact key _ (fun d' acts' => by simp only [wp_pure']; exact hq _ _) (List.range' 0 n) 0 (by simp) (by omega) d acts' _ (fun j u => rfl)
theorem mn_wp {s : State} {f : JFrame} {index : Nat} {cA cI c0 : ClassId} {kA kI : Class} {n b : Nat} {rest : List Value} {Q : Unit → Pre} (hs : s.topJava?.isSome) (hr : s.vm.classReady f.method.cls index cA) (hkA : s.vm.classes[cA]? = some kA) (hA : kA.kind = .array cI (.array .int)) (hkI : s.vm.classes[cI]? = some kI) (hI : kI.kind = .array c0 .int) (hstack : f.stack = .int (nI b) :: .int (nI n) :: rest) (hn : n < 10) (hb : b < 10) (h1 : 10 ≤ e.platform.arrayLengthLimit) (h2 : 100 ≤ e.platform.maxHeapBytes) (hcells : s.heap.size + 1 + n ≤ e.platform.maxCells) (hslots : s.slotsUsed + n + n * b ≤ e.platform.maxSlots)
    (hq : ∀ d' acts', Q () d' acts' ((mn_S s cA cI n b n).setTop { f with stack := .ref s.heap.size :: rest })) : wp (multianewarray.sem index 2) Q E e d acts (s.setTop f) := by
  have hpop := fun (Q' : List Value → Pre) => Op.popN_top (Q := Q') (E := E) (e := e) (d := d) (acts := acts) (s := s) (f := f) hs (args := [.int (nI n), .int (nI b)]) (rest := rest) hstack
  simp only [multianewarray.sem, wp_bind', W.resolveClassAt_ready (State.method?_setTop f hs) hr]
  refine (hpop _).mpr ?_
  simp only [List.mapM_cons, List.mapM_nil, wp_bind', wp_pure']
  refine mn_make (s := s.setTop { f with stack := rest }) hkA hA hkI hI hn hb h1 h2 hcells hslots (fun d' acts' => ?_)
  have ht : (mn_S s cA cI n b n).topJava?.isSome := by
    have : ∀ i, (mn_S s cA cI n b i).topJava? = s.topJava? := by
      intro i
      induction i with
      | zero => rfl
      | succ i ih => exact ih
    rw [this]; exact hs
  simp only [wp_bind', W.mark, W.pushRef, mn_top, State.topJava?_setTop' _ ht, Option.some.injEq, exists_eq_left', State.setTop_setTop]
  exact hq _ _
end NA2W
section NA2
variable {p : Program} {l : Launch} {e : Env} {R : Room} {s : State} {m : MethodId} {args : Array Value} {below : List Frame} {meth : Method} {c : Code} {Q : State → Prop} {D : va_G} {I : ab_I4} {b0 : Nat} {sa : Nat → Nat} {L : Nat} {xs : Nat → Int32} {nL n0 s0 : Nat} {cc : ByteArray} {own : String} {pc : Nat} {ls : ab_L} {st : List ab_V} {M : ab_M}
theorem mn_arr {cA : ClassId} {n : Nat} {f g : Nat → Value} (h : ∀ j, j < n → f j = g j) : arrV cA n f = arrV cA n g := by
  unfold arrV
  congr 2
  funext j
  exact h j.val j.isLt
theorem so_na2 {i : Nat} {u : ab_St} (C : ab_cx p s m args c D I b0 sa L xs nL n0 cc own) (hd : decode cc pc = .ok (.multianewarray i 2, 4)) (hlk : Cond.classLink own i "[[I" ∈ ab_tb) (hu : ab_na2 pc ls st M = some u) (hrm : ab_nc u.2.2.2 - n0 ≤ R.cells ∧ (u.2.2.2 999 1).toNat - s0 ≤ R.slots) (kk : ab_K p l e R s m args below meth c Q D I b0 sa L xs nL n0 s0 u.1 u.2.1 u.2.2.1 u.2.2.2) : ab_K p l e R s m args below meth c Q D I b0 sa L xs nL n0 s0 pc ls st M := by
  obtain ⟨hx, hb, hml, hown, hts, hK, hG, hsz⟩ := C
  unfold ab_na2 at hu
  split at hu
  next b n r =>
    split at hu
    next hc =>
      cases hu
      obtain ⟨c1, c2, c3, c4, c5, c6, c7, c8⟩ := hc
      obtain ⟨n, rfl⟩ := Int.eq_ofNat_of_zero_le c4
      obtain ⟨b, rfl⟩ := Int.eq_ofNat_of_zero_le c6
      have c5 : n < 10 := by omega
      have c7 : b < 10 := by omega
      simp only [Int.toNat_natCast] at c3 c8 kk hrm
      have c8 : ∀ j, j < n → ab_kd (ab_nc M + 1 + j) = (20, b) := fun j hj => of_decide_eq_true (List.all_eq_true.mp c8 j (List.mem_range.mpr hj))
      intro H locs lc h
      obtain ⟨h1, h2, h3, h4, h5, hP, hS, h8, h9⟩ := h
      obtain ⟨-, h2⟩ := List.forall_mem_cons.mp h2
      obtain ⟨-, h2⟩ := List.forall_mem_cons.mp h2
      have hnc : ab_nc M < 900 := by unfold ab_nc; omega
      have h04 := h1.2.2.2.1
      have e9 : ∀ y, ab_mk2 M n b 999 y = if y = 0 then M 999 0 + 1 + n else if y = 1 then M 999 1 + n + n * b else M 999 y := by
        intro y
        unfold ab_mk2
        rw [if_neg (by omega), if_neg (by omega), if_pos rfl]
      have en : ab_nc (ab_mk2 M n b) = ab_nc M + 1 + n := by
        show (ab_mk2 M n b 999 0).toNat = (M 999 0).toNat + 1 + n
        rw [e9, if_pos rfl]; omega
      have enb : ((n : Int) * (b : Int)) = ((n * b : Nat) : Int) := by rw [Int.natCast_mul]
      have es : (ab_mk2 M n b 999 1).toNat = (M 999 1).toNat + n + n * b := by
        rw [e9, if_neg (by decide), if_pos rfl, enb]; omega
      have elt : ∀ k, k < ab_nc M → ab_mk2 M n b k = M k := by
        intro k hk
        funext y
        unfold ab_mk2
        rw [if_neg (by omega), if_neg (by omega), if_neg (by omega)]
      have hmok : ab_mok L xs (ab_mk2 M n b) := by
        obtain ⟨m1, m2, m3, m4, m5, m6, m7⟩ := h1
        refine ⟨fun k j hk => ?_, by rw [e9, if_pos rfl]; omega, by rw [e9, if_pos rfl]; omega, by rw [e9, if_neg (by decide), if_pos rfl, enb]; omega, by rw [e9, if_neg (by decide), if_neg (by decide)]; exact m5, m6, fun j hj => ?_⟩
        · unfold ab_mk2
          split
          · split
            · exact ⟨by omega, by omega⟩
            · decide
          · split
            · decide
            · exact m1 k j hk
        · unfold ab_mk2
          rw [if_neg (by omega), if_neg (by omega), if_neg (by decide)]
          exact m7 j hj
      rw [en, es] at hrm
      refine ab_sz hsz h8 hP hS (fun hz => ?_)
      intro T hT X
      obtain ⟨comp, cA', kA, hcomp, -, hkA, hkindA, hnameA⟩ := arrayOverA_spec hG.2.2.2.2.2
      have hcA : cA' = I.2.2.2 := Option.some.inj (hnameA.symm.trans (hK.2 3 _ rfl).2)
      have hcI : comp = I.1 := Option.some.inj (hcomp.symm.trans (hK.2 0 _ rfl).2)
      subst hcA; subst hcI
      obtain ⟨-, kI, hkI, cz, hkindI⟩ := (hK.2 0 _ rfl).1 0 (fun _ => .null)
      have hpl : e.platform.magicAccessors = ({} : Platform).magicAccessors := by rw [X.admits.platform]
      obtain ⟨cc', hfcc, hcl⟩ := Cond.classLink_spec hown (hts _ hlk) e.platform hpl
      cases hnameA.symm.trans hfcc
      obtain ⟨hg₁, hwarm₁, hready₁⟩ := State.classEntry (e := e) X.warmed hcl
      generalize T.vm.noted m.cls i (.cls I.2.2.2) = vm₁ at hg₁ hwarm₁ hready₁
      have hal : s.vm.Alike vm₁ := hwarm₁.alike
      obtain ⟨kA₁, hkA₁, heA⟩ := hal.2.2 _ _ hkA
      obtain ⟨kI₁, hkI₁, heI⟩ := hal.2.2 _ _ hkI
      have hkindA₁ : kA₁.kind = .array I.1 (.array .int) := by rw [heA]; exact hkindA
      have hkindI₁ : kI₁.kind = .array cz .int := by rw [heI]; exact hkindI
      have X₁ := X.noted hwarm₁
      have hTz : (T.setVm vm₁).heap.size = b0 + ab_nc M := by show T.heap.size = _; rw [hT]; exact hz
      obtain ⟨hr1, hr2⟩ := X₁.roomAbove (a := 1 + n) (b := n + n * b) (by omega) (by omega)
      have XS : ∀ j, ∃ L1 : List Loc, (∀ q ∈ L1, q.base = b0 + ab_nc M) ∧ Stand p l e R s m args below meth c (mn_S (T.setVm vm₁) I.2.2.2 I.1 n b j) (locs ++ L1) (ab_nc M - n0 + 1 + j) ((M 999 1).toNat - s0 + n + j * b) := by
        intro j
        induction j with
        | zero =>
          refine ⟨[], (fun q hq => absurd hq List.not_mem_nil), ?_⟩
          have := X₁.pushed { cls := I.2.2.2, slots := Array.replicate n .null, vm := .none }
          show Stand p l e R s m args below meth c ((T.setVm vm₁).pushCell { cls := I.2.2.2, slots := Array.replicate n .null, vm := .none }) _ _ _
          simpa using this
        | succ j ih =>
          obtain ⟨L1, hL1, XJ⟩ := ih
          obtain ⟨g1, g2, g3, g4, g5, g6⟩ := mn_facts (T.setVm vm₁) I.2.2.2 I.1 n b j
          have X2 := XJ.pushed (mn_R I.1 b)
          have hcell : ((mn_S (T.setVm vm₁) I.2.2.2 I.1 n b j).pushCell (mn_R I.1 b)).heap[(T.setVm vm₁).heap.size]? = some (mn_C I.2.2.2 n (T.setVm vm₁).heap.size j) := by
            show ((mn_S (T.setVm vm₁) I.2.2.2 I.1 n b j).heap.push _)[_]? = _
            rw [Array.getElem?_push, if_neg (by omega)]
            exact g2
          have X3 := X2.stored hcell j (.ref ((T.setVm vm₁).heap.size + 1 + j))
          rw [mn_Cs] at X3
          refine ⟨L1 ++ [⟨(T.setVm vm₁).heap.size, j⟩], fun q hq => ?_, ?_⟩
          · rcases List.mem_append.mp hq with hq | hq
            · exact hL1 q hq
            · rw [List.mem_singleton.mp hq]; exact hTz
          · have e1 : (mn_R I.1 b).slots.size = b := by show (Array.replicate b _).size = b; simp
            rw [e1] at X3
            rw [← List.append_assoc, Nat.succ_mul, show ab_nc M - n0 + 1 + (j + 1) = ab_nc M - n0 + 1 + j + 1 by omega, show (M 999 1).toNat - s0 + n + (j * b + b) = (M 999 1).toNat - s0 + n + j * b + b by omega]
            exact X3
      obtain ⟨L1, hL1, XN⟩ := XS n
      obtain ⟨g1, g2, g3, g4, g5, g6⟩ := mn_facts (T.setVm vm₁) I.2.2.2 I.1 n b n
      rw [hTz] at g1 g2 g3
      have g4' : ∀ q, q < b0 + ab_nc M → (mn_S (T.setVm vm₁) I.2.2.2 I.1 n b n).heap[q]? = H[q]? := by
        intro q hq
        rw [g4 q (by rw [hTz]; exact hq)]
        show T.heap[q]? = _
        rw [hT]
      have hP' : va_P D vwCl (ab_ws I b0 (ab_nc (ab_mk2 M n b)) (ab_mk2 M n b)) (mn_S (T.setVm vm₁) I.2.2.2 I.1 n b n).heap := by
        intro k q hk
        obtain ⟨hk, rfl⟩ := ab_ws_at hk
        rw [en] at hk
        by_cases hlt : k < ab_nc M
        · rw [ab_ce_eq (elt k hlt)]
          exact (hP k _ (ab_ws_get hlt)).kept (g4' _ (by dsimp only; omega))
        · by_cases heq : k = ab_nc M
          · subst heq
            unfold ab_ce
            rw [c3]
            rw [if_neg (by dsimp only; decide), if_neg (by dsimp only; decide), if_neg (by dsimp only; decide), if_pos rfl]
            show _ = some (vp_cell _ _)
            rw [g2, vp_cell_q]
            congr 1
            refine mn_arr (fun j hj => ?_)
            rw [if_pos hj]
            have : ab_mk2 M n b (ab_nc M) j = ((ab_nc M + 1 + j : Nat) : Int) := by
              unfold ab_mk2
              rw [if_pos rfl, if_pos hj]
            unfold ab_gr
            rw [this, if_neg (by omega)]
            show Value.ref (b0 + ab_nc M + 1 + j) = Value.ref (b0 + ((ab_nc M + 1 + j : Nat) : Int).toNat)
            rw [Int.toNat_natCast, show b0 + ab_nc M + 1 + j = b0 + (ab_nc M + 1 + j) by omega]
          · obtain ⟨j, rfl⟩ : ∃ j, k = ab_nc M + 1 + j := ⟨k - ab_nc M - 1, by omega⟩
            have hj : j < n := by omega
            unfold ab_ce
            rw [c8 j hj]
            rw [if_pos rfl]
            show _ = some (vp_cell _ _)
            rw [show b0 + (ab_nc M + 1 + j) = b0 + ab_nc M + 1 + j by omega, g3 j hj, vp_cell_i]
            congr 1
            unfold mn_R
            rw [arrV_new]
            refine mn_arr (fun w hw => ?_)
            unfold ab_is
            have : ab_mk2 M n b (ab_nc M + 1 + j) w = 0 := by
              unfold ab_mk2
              rw [if_neg (by omega), if_pos ⟨by omega, by omega⟩]
            rw [this]
            rfl
      have kf := kk (mn_S (T.setVm vm₁) I.2.2.2 I.1 n b n).heap (locs ++ L1) lc ⟨hmok, List.forall_mem_cons.mpr ⟨trivial, h2⟩, h3, h4, h5, hP', ⟨by have := hS.1; omega, fun q q1 q2 => (g4' q (by have := hS.1; omega)).trans (hS.2.1 q q1 q2), fun q hq => ?_⟩, by omega, by omega⟩
      · rw [en, es] at kf
        have eA : ab_nc M + 1 + n - n0 = ab_nc M - n0 + 1 + n := by omega
        have eB : (M 999 1).toNat + n + n * b - s0 = (M 999 1).toNat - s0 + n + n * b := by omega
        rw [eA, eB, List.map_cons, ab_adk (by omega)] at kf
        obtain ⟨t, a1, b1⟩ := kf _ rfl XN
        refine ⟨t, ?_, b1⟩
        have hst : (F0 m pc lc (List.map (ab_cv b0 sa) (.inl (b : Int) :: .inl (n : Int) :: r))).stack = .int (nI b) :: .int (nI n) :: r.map (ab_cv b0 sa) := by
          show Value.int (Int32.ofInt (b : Int)) :: Value.int (Int32.ofInt (n : Int)) :: _ = _
          rw [Int32.ofInt_eq_ofNat, Int32.ofInt_eq_ofNat]
          rfl
        refine Steps.instr (c := c) (f := F0 m pc lc (List.map (ab_cv b0 sa) (.inl (b : Int) :: .inl (n : Int) :: r))) X.here ?_
        rw [show decode c.code (F0 m pc lc (List.map (ab_cv b0 sa) (.inl (b : Int) :: .inl (n : Int) :: r))).pc = .ok (.multianewarray i 2, 4) by rw [hb]; exact hd]
        dsimp only
        rw [hx]
        show wp (multianewarray.sem i 2) _ _ e false [] (T.setTop _)
        have hcold : ∀ (Q' : Unit → Pre) (E' : CtlPost), wp (multianewarray.sem i 2) Q' E' e false [] (T.setTop (F0 m pc lc (List.map (ab_cv b0 sa) (.inl (b : Int) :: .inl (n : Int) :: r)))) ↔ wp (multianewarray.sem i 2) Q' E' e false [] ((T.setVm vm₁).setTop (F0 m pc lc (List.map (ab_cv b0 sa) (.inl (b : Int) :: .inl (n : Int) :: r)))) := by
          intro Q' E'
          simp only [multianewarray.sem, wp_bind']
          exact W.resolveClassAt_transfer (s := T.setTop _) (State.method?_setTop _ X.here.top) hg₁ hready₁
        rw [hcold]
        refine mn_wp (s := T.setVm vm₁) X.here.top hready₁ hkA₁ hkindA₁ hkI₁ hkindI₁ hst c5 c7 (by rw [Launch.admits_arrayLengthLimit X.admits]; omega) (by rw [Launch.admits_maxHeapBytes X.admits]; omega) (by omega) (by omega) (fun d' acts' => ?_)
        intro acts
        rw [afterInstr_ok, hTz]
        exact a1
      · rcases List.mem_append.mp hq with hq | hq
        · exact hS.2.2 q hq
        · show b0 ≤ _
          rw [hL1 q hq]; omega
    next => cases hu
  next => cases hu
end NA2
