/-! CALLS AND RETURNS; the abstract run is the machine's -/
def ab_rm (d mc ms : Nat) : Room := { frames := d + 2, cells := mc, slots := ms, locals := 200 * (d + 1) }
def ab_Pre (D : va_G) (I : ab_I4) (b0 : Nat) (sa : Nat → Nat) (L : Nat) (xs : Nat → Int32) (as : List ab_V) (M : ab_M) : Array Value → State → Prop := va_Pc (as.map (ab_cv b0 sa)) (fun U => U.heap.size = b0 + ab_nc M ∧ va_P D vwCl (ab_ws I b0 (ab_nc M) M) U.heap ∧ va_K D vwCl (ab_tys I) U ∧ ab_G b0 sa L xs U)
def ab_BB (D : va_G) (I : ab_I4) (b0 : Nat) (L : Nat) (xs : Nat → Int32) (r : Option ab_V) (M : ab_M) (_ : Unit) (t : State) : Prop := va_P D vwCl (ab_ws I b0 (ab_nc M) M) t.heap ∧ ab_mok L xs M ∧ ∀ v, r = some v → ab_vk v
def ab_Post (D : va_G) (I : ab_I4) (b0 : Nat) (sa : Nat → Nat) (L : Nat) (xs : Nat → Int32) (r : Option ab_V) (M : ab_M) : Array Value → State → Outcome → State → Prop := match r with
  | some v => va_Qi (fun z (_ : Unit) => Value.int z = ab_cv b0 sa v) (ab_BB D I b0 L xs r M) (ab_A b0)
  | none => va_Qv (fun (_ : Unit) => True) (ab_BB D I b0 L xs r M) (ab_A b0)
theorem ab_G_move {b0 : Nat} {sa : Nat → Nat} {L : Nat} {xs : Nat → Int32} {s U : State} (hW : s.WarmedH U.vm) (hz : s.heap.size ≤ U.heap.size) (hk : ∀ q, q < s.heap.size → ¬ ab_A b0 q → U.heap[q]? = s.heap[q]?) (h : ab_G b0 sa L xs s) : ab_G b0 sa L xs U := by
  obtain ⟨⟨x1, x2, x3⟩, ⟨t1, t2, t3⟩, ⟨z1, z2, z3, z4⟩, ⟨r1, r2⟩, nw, ov⟩ := h
  have ha := hW.alike
  refine ⟨⟨(x1.moved ha).kept (hk _ x2 (Nat.not_le.mpr x3)), Nat.lt_of_lt_of_le x2 hz, x3⟩, ⟨(t1.moved ha).kept hk, (t2.moved ha).kept hk, (t3.moved ha).kept hk⟩, ⟨(z1.moved ha).kept hk, (z2.moved ha).kept hk, (z3.moved ha).kept hk, (z4.moved ha).kept hk⟩, ⟨r1.warm hW, (r2.moved ha).kept hk⟩, fun w hw => ?_, over_moved ha ov⟩
  have hn := nw w hw
  unfold ab_nwd at hw
  simp only [List.mem_cons, List.not_mem_nil, or_false] at hw
  rcases hw with rfl | rfl | rfl | rfl | rfl | rfl | rfl | rfl | rfl | rfl | rfl
  · exact hn.warmD hW
  all_goals exact hn.warmM hW
theorem ab_blind {D : va_G} {I : ab_I4} {b0 : Nat} {sa : Nat → Nat} {L : Nat} {xs : Nat → Int32} {as : List ab_V} {M : ab_M} : FrameBlind (ab_Pre D I b0 sa L xs as M) := by
  intro a U g mk hq
  obtain ⟨h1, h2, h3, h4, h5⟩ := hq
  exact ⟨h1, h2, h3, va_K.moved (u := U) (U := U.calling g mk a) (Vm.Alike.refl U.vm) h4, ab_G_move (U := U.calling g mk a) (State.WarmedH.refl U) (Nat.le_refl _) (fun q _ _ => rfl) h5⟩
section MAIN
variable {p : Program} {l : Launch} {e : Env} {R : Room} {s : State} {m : MethodId} {args : Array Value} {below : List Frame} {meth : Method} {c : Code} {Q : State → Prop} {D : va_G} {I : ab_I4} {b0 : Nat} {sa : Nat → Nat} {L : Nat} {xs : Nat → Int32} {nL n0 s0 : Nat} {cc : ByteArray} {own : String} {pc : Nat} {ls : ab_L} {st : List ab_V} {M : ab_M}
/-- what a call finds -/
theorem so_pre {as : List ab_V} {H : Heap} {locs : List Loc} (hG : ab_G b0 sa L xs s) (hK : va_K D vwCl (ab_tys I) s) (hP : va_P D vwCl (ab_ws I b0 (ab_nc M) M) H) (hS : va_S (ab_A b0) s.heap H locs) (hz : H.size = b0 + ab_nc M) : ∀ U : State, U.heap = H → s.WarmedH U.vm → ab_Pre D I b0 sa L xs as M (as.map (ab_cv b0 sa)).toArray U := by
  intro U hU hW
  refine ⟨rfl, by rw [hU]; exact hz, by rw [hU]; exact hP, va_K.moved hW.alike hK, ab_G_move hW (by rw [hU]; exact hS.1) (fun q h1 h2 => by rw [hU]; exact hS.2.1 q h1 h2) hG⟩
theorem so_after {z : Option ab_V × ab_M} {rest : List ab_V} {H : Heap} {locs : List Loc} {lc : Array Slot} {st0 : List Value} {a : Array Value} (hup : ab_up M z.2) (h0 : 0 ≤ M 999 0 ∧ 0 ≤ M 999 1) (h2 : ∀ v ∈ rest, ab_vk v) (h3 : lv_has lc nL (ab_as b0 sa 0 ls)) (h4 : ls.length = nL) (h5 : ∀ v, some v ∈ ls → ab_vk v) (hS : va_S (ab_A b0) s.heap H locs) (hn : n0 ≤ ab_nc M) (hs : s0 ≤ (M 999 1).toNat)
    (hr : va_Run p l e R s m args below meth c H locs (ab_nc M - n0) ((M 999 1).toNat - s0) (ab_nc z.2 - ab_nc M) ((z.2 999 1).toNat - (M 999 1).toNat) (F0 m pc lc st0) (rest.map (ab_cv b0 sa)) (ab_Post D I b0 sa L xs z.1 z.2 a) (ab_A b0)) (kk : ab_K p l e R s m args below meth c Q D I b0 sa L xs nL n0 s0 (pc + 3) ls (z.1.toList ++ rest) z.2) : W p l e R s m args below meth c H locs (ab_nc M - n0) ((M 999 1).toNat - s0) Q (F0 m pc lc st0) := by
  obtain ⟨r, M'⟩ := z
  obtain ⟨u1, u2, u3, -⟩ := hup
  have u1 : M 999 0 ≤ M' 999 0 := u1
  have u2 : M 999 1 ≤ M' 999 1 := u2
  have hnc : ab_nc M ≤ ab_nc M' := by unfold ab_nc; omega
  have e1 : ab_nc M - n0 + (ab_nc M' - ab_nc M) = ab_nc M' - n0 := by omega
  have e2 : (M 999 1).toNat - s0 + ((M' 999 1).toNat - (M 999 1).toNat) = (M' 999 1).toNat - s0 := by omega
  have fin : ∀ (H1 : Heap) (locs1 : List Loc), ab_mok L xs M' → (∀ v, r = some v → ab_vk v) → va_P D vwCl (ab_ws I b0 (ab_nc M') M') H1 → va_S (ab_A b0) s.heap H1 locs1 → W p l e R s m args below meth c H1 locs1 (ab_nc M - n0 + (ab_nc M' - ab_nc M)) ((M 999 1).toNat - s0 + ((M' 999 1).toNat - (M 999 1).toNat)) Q (F0 m (pc + 3) lc ((r.toList ++ rest).map (ab_cv b0 sa))) := by
    intro H1 locs1 hm hv hP1 hS1
    rw [e1, e2]
    refine kk H1 locs1 lc ⟨hm, ?_, h3, h4, h5, hP1, hS1, by dsimp only; omega, by dsimp only; omega⟩
    intro v hv2
    rcases List.mem_append.mp hv2 with h | h
    · exact hv v (by simpa using h)
    · exact h2 v h
  cases r with
  | none =>
    refine va_callv (a := a) (post := fun (_ : Unit) => True) (B := ab_BB D I b0 L xs none M') (A1 := ab_A b0) hr hS (fun q _ h => h) (fun q h => h) (fun u t H1 locs1 ht _ _ hB _ _ hS1 => ?_)
    obtain ⟨b1, b2, b3⟩ := hB
    rw [ht] at b1
    exact fin H1 locs1 b2 b3 b1 hS1
  | some v =>
    refine va_calli (a := a) (post := fun z (_ : Unit) => Value.int z = ab_cv b0 sa v) (B := ab_BB D I b0 L xs (some v) M') (A1 := ab_A b0) hr hS (fun q _ h => h) (fun q h => h) (fun z u t H1 locs1 ht _ hz hB _ _ hS1 => ?_)
    obtain ⟨b1, b2, b3⟩ := hB
    rw [ht] at b1
    have := fin H1 locs1 b2 b3 b1 hS1
    have e3 : ((some v).toList ++ rest).map (ab_cv b0 sa) = .int z :: rest.map (ab_cv b0 sa) := by
      show ab_cv b0 sa v :: _ = _
      rw [hz]
      rfl
    rw [e3] at this
    exact this
theorem ab_lk {q : ab_CL} (h : q ∈ ab_clt) : ab_lkc q = true := List.all_eq_true.mp ab_clt0 q h
theorem ab_codem {k : Nat} (h : k < 194) : Cond.code (ab_y k) (ab_b k) (ab_mx k) (ab_rv k) ∈ ab_tb := by
  have hc := ab_mcs k h
  unfold ab_mc at hc
  simp only [Bool.and_eq_true, decide_eq_true_eq] at hc
  have hlen : ab_rcs.length = 194 := by decide +kernel
  have hin : ab_rec k ∈ ab_rcs := by
    unfold ab_rec
    rw [List.getD_eq_getElem?_getD, List.getElem?_eq_getElem (by omega)]
    exact List.getElem_mem _
  have := ab_rcm _ hin
  rw [hc.1.1.1.1.1] at this
  exact this
theorem ab_mcf {k : Nat} (h : k < 194) : plainName (ab_y k).cls = true ∧ (ab_y k).cls ≠ "java/lang/invoke/MethodHandle" ∧ (ab_y k).cls ≠ "java/lang/invoke/VarHandle" ∧ ab_ows.getD (ab_oi' k) "" = (ab_y k).cls ∧ ab_mx k ≤ 100 := by
  have hc := ab_mcs k h
  unfold ab_mc at hc
  simp only [Bool.and_eq_true, decide_eq_true_eq, Bool.not_eq_true', decide_eq_false_iff_not] at hc
  exact ⟨hc.1.1.1.1.2, hc.1.1.1.2, hc.1.1.2, hc.1.2, hc.2⟩
abbrev ab_MetOf (l : Launch) (D : va_G) (I : ab_I4) (b0 : Nat) (sa : Nat → Nat) (L : Nat) (xs : Nat → Int32) (d k : Nat) (as : List ab_V) (M : ab_M) (z : Option ab_V × ab_M) : Prop := Met l (ab_y k) (.code (ab_y k) (ab_b k) (ab_mx k) (ab_rv k) :: ab_tb) (ab_rm d (ab_nc z.2 - ab_nc M) ((z.2 999 1).toNat - (M 999 1).toNat)) (ab_Pre D I b0 sa L xs as M) (ab_Post D I b0 sa L xs z.1 z.2) (ab_nc z.2 - ab_nc M) ((z.2 999 1).toNat - (M 999 1).toNat) (ab_A b0)
theorem iv_args {en : ab_E} {q : Nat × (List ab_V × List ab_V)} (h : ab_args en st M = some q) : st = q.2.1.reverse ++ q.2.2 ∧ q.2.1.length = en.2.2.2.toNat ∧ (q.2.2.map ab_cat).sum ≤ 8 ∧ (ab_sl q.2.1).length ≤ ab_mx q.1 ∧
    ((ab_isS en.1 = true ∧ q.1 = en.2.2.1) ∨ (ab_isS en.1 = false ∧ ∃ r t, q.2.1 = .inr (.inr r) :: t ∧
      ((en.2.2.1 = 300 ∧ q.1 = ab_meet (ab_kd r).1 ∧ r < ab_nc M ∧ (ab_kd r).1 < 11 ∧ ab_tg 50 (ab_kd r).1) ∨ (en.2.2.1 ≠ 300 ∧ 1000 ≤ en.2.2.1 ∧ q.1 = en.2.2.1 % 1000 ∧ r < ab_nc M ∧ (ab_kd r).1 < 11 ∧ (ab_kd r).1 + 1 = en.2.2.1 / 1000) ∨ (en.2.2.1 ≠ 300 ∧ ¬ 1000 ≤ en.2.2.1 ∧ q.1 = en.2.2.1 ∧ ab_rc M en.2.2.1 r)))) := by
  have base : ∀ (a : List ab_V), a = (st.take en.2.2.2.toNat).reverse → ¬ (st.length < en.2.2.2.toNat ∨ 8 < ((st.drop en.2.2.2.toNat).map ab_cat).sum) → st = a.reverse ++ st.drop en.2.2.2.toNat ∧ a.length = en.2.2.2.toNat ∧ ((st.drop en.2.2.2.toNat).map ab_cat).sum ≤ 8 := by
    intro a ha hc
    subst ha
    refine ⟨by rw [List.reverse_reverse, List.take_append_drop], ?_, by omega⟩
    rw [List.length_reverse, List.length_take]
    omega
  unfold ab_args at h
  split at h
  · cases h
  next hc =>
    split at h
    next hs =>
      split at h
      next hl =>
        cases h
        obtain ⟨b1, b2, b3⟩ := base _ rfl hc
        exact ⟨b1, b2, b3, hl, Or.inl ⟨hs, rfl⟩⟩
      next => cases h
    next hs =>
      have hs : ab_isS en.1 = false := by simpa using hs
      split at h
      next r t hrt =>
        obtain ⟨b1, b2, b3⟩ := base _ hrt.symm hc
        split at h
        next h3 =>
          split at h
          next hq => cases h; exact ⟨b1, b2, b3, hq.2.2.2, Or.inr ⟨hs, r, t, rfl, Or.inl ⟨h3, rfl, hq.1, hq.2.1, hq.2.2.1⟩⟩⟩
          next => cases h
        next h3 =>
          split at h
          next h4 =>
            split at h
            next hq => cases h; exact ⟨b1, b2, b3, hq.2.2.2, Or.inr ⟨hs, r, t, rfl, Or.inr (Or.inl ⟨h3, h4, rfl, hq.1, hq.2.1, hq.2.2.1⟩)⟩⟩
            next => cases h
          next h4 =>
            split at h
            next hq => cases h; exact ⟨b1, b2, b3, hq.2, Or.inr ⟨hs, r, t, rfl, Or.inr (Or.inr ⟨h3, h4, rfl, hq.1⟩)⟩⟩
            next => cases h
      next => cases h
theorem ab_pni {d : String} {n : Nat} (h : ab_pn d n = true) : (parseMethodDescriptor d).map (fun d => d.parameters.length) = some n := of_decide_eq_true h
theorem ab_pnl {d : String} {n : Nat} (h : ab_pn d n = true) : ∀ sig, parseMethodDescriptor d = some sig → n = sig.parameters.length := by
  intro sig hs
  have := ab_pni h
  rw [hs] at this
  exact (Option.some.inj this).symm
theorem ab_payw {y : MethodName} {b : ByteArray} {n : Nat} {r : Option FieldType} (hts : ∀ w ∈ ab_tb, w.before args s = true) (h : Cond.code y b n r ∈ ab_tb) : ∀ w ∈ (Cond.code y b n r :: ab_tb), ∀ (a' : Array Value) (U : State), s.WarmedH U.vm → w.before a' U = true := pay_in hts (ab_good h)
theorem ab_recvc {r : Nat} {H : Heap} {rr : vw_C} (hK : va_K D vwCl (ab_tys I) s) (hP : va_P D vwCl (ab_ws I b0 (ab_nc M) M) H) (h1 : r < ab_nc M) (h2 : (ab_kd r).1 < 11) (hr : vwCl[(ab_kd r).1]? = some rr) : ∃ cellB : Cell, H[b0 + r]? = some cellB ∧ cellB.vm.isStatics = false ∧ s.vm.findClass rr.1 = some cellB.cls :=
  va_recv hK hP hr (q0 := r) (fs := ab_fs b0 M r) (by rw [ab_ws_get h1, ab_ce_obj h2])
theorem ab_cn_of {t : Nat} {rr : vw_C} (hr : vwCl[t]? = some rr) : ab_cn t = rr.1 := by
  unfold ab_cn
  rw [hr]
theorem so_call {en : ab_E} {q : Nat × (List ab_V × List ab_V)} {z : Option ab_V × ab_M} {oid d : Nat} (C : ab_cx p s m args c D I b0 sa L xs nL n0 cc own) (ho : own = ab_ows.getD oid "") (hcok : ab_cok oid cc pc en) (hargs : ab_args en st M = some q)
    (hmet : ab_mok L xs M → (∀ v ∈ q.2.1, ab_vk v) → (ab_sl q.2.1).length ≤ ab_mx q.1 → q.1 < 194 → ab_MetOf l D I b0 sa L xs d q.1 q.2.1 M z) (hup : ab_up M z.2) (hRd : d + 3 ≤ R.frames ∧ 200 * (d + 2) ≤ R.locals) (hrm : ab_nc z.2 - n0 ≤ R.cells ∧ (z.2 999 1).toNat - s0 ≤ R.slots) (kk : ab_K p l e R s m args below meth c Q D I b0 sa L xs nL n0 s0 (pc + 3) ls (z.1.toList ++ q.2.2) z.2) : ab_K p l e R s m args below meth c Q D I b0 sa L xs nL n0 s0 pc ls st M := by
  obtain ⟨hx, hb, hml, hown, hts, hK, hG, hsz⟩ := C
  obtain ⟨w, hw, hw1, hw2, hw3, hop, hd⟩ := hcok
  obtain ⟨b1, b2, b3, b4, b5⟩ := iv_args hargs
  obtain ⟨k, as, rest⟩ := q
  dsimp only at b1 b2 b3 b4 b5 hmet kk
  have hlk := ab_lk hw
  intro H locs lc h
  obtain ⟨h1, h2, h3, h4, h5, hP, hS, h8, h9⟩ := h
  have hn9 := ab_n995 h1
  refine ab_sz hsz h8 hP hS (fun hz => ?_)
  have h2a : ∀ v ∈ as, ab_vk v := fun v hv => h2 v (by rw [b1]; exact List.mem_append_left _ (List.mem_reverse.mpr hv))
  have h2r : ∀ v ∈ rest, ab_vk v := fun v hv => h2 v (by rw [b1]; exact List.mem_append_right _ hv)
  have hst : st.map (ab_cv b0 sa) = (as.map (ab_cv b0 sa)).reverse ++ rest.map (ab_cv b0 sa) := by
    rw [b1, List.map_append, List.map_reverse]
  have hcat : ((rest.map (ab_cv b0 sa)).map fun v => v.category).sum ≤ 8 := by
    have : ((rest.map (ab_cv b0 sa)).map fun v => v.category) = rest.map ab_cat := by
      rw [List.map_map]
      apply List.map_congr_left
      intro v _
      exact ab_cat_cv b0 sa v
    rw [this]
    exact b3
  have hfc : ab_nc M - n0 + (ab_nc z.2 - ab_nc M) ≤ R.cells ∧ (M 999 1).toNat - s0 + ((z.2 999 1).toNat - (M 999 1).toNat) ≤ R.slots := by
    have u1 := hup.1
    have u2 := hup.2.1
    clear b5
    have : ab_nc M ≤ ab_nc z.2 := by unfold ab_nc; omega
    exact ⟨by omega, by omega⟩
  have hpre := so_pre (as := as) hG hK hP hS hz
  have CF : CallFix p m c cc nL s args ab_tb own := ⟨hx, hb, hml, hown, hts⟩
  have hroom : ∀ k' : Nat, k' < 194 → (ab_rm d (ab_nc z.2 - ab_nc M) ((z.2 999 1).toNat - (M 999 1).toNat)).frames + 1 ≤ R.frames ∧ 8 + (ab_mx k' + 11) + (ab_rm d (ab_nc z.2 - ab_nc M) ((z.2 999 1).toNat - (M 999 1).toNat)).locals ≤ R.locals := by
    intro k' hk'
    have := (ab_mcf hk').2.2.2.2
    show d + 2 + 1 ≤ _ ∧ 8 + (_ + 11) + 200 * (d + 1) ≤ _
    exact ⟨by omega, by omega⟩
  have fin : ∀ {a : Array Value} , va_Run p l e R s m args below meth c H locs (ab_nc M - n0) ((M 999 1).toNat - s0) (ab_nc z.2 - ab_nc M) ((z.2 999 1).toNat - (M 999 1).toNat) (F0 m pc lc (st.map (ab_cv b0 sa))) (rest.map (ab_cv b0 sa)) (ab_Post D I b0 sa L xs z.1 z.2 a) (ab_A b0) → W p l e R s m args below meth c H locs (ab_nc M - n0) ((M 999 1).toNat - s0) Q (F0 m pc lc (st.map (ab_cv b0 sa))) :=
    fun hr => so_after hup ⟨h1.2.1, h1.2.2.2.1⟩ h2r h3 h4 h5 hS h8 h9 hr kk
  unfold ab_lkc at hlk
  dsimp only at hlk
  rw [hw1, ← ho] at hlk
  rcases hop with ⟨hop, hi⟩ | ⟨hop, hi⟩ | ⟨hop, hi⟩
  · rw [if_pos hop] at hlk
    simp only [Bool.and_eq_true, decide_eq_true_eq] at hlk
    obtain ⟨⟨⟨⟨l0, l1⟩, l2⟩, l3⟩, l4⟩ := hlk
    have hk : k = w.2.2.2.1 := by
      rcases b5 with ⟨-, b5⟩ | ⟨b5, -⟩
      · rw [b5, hw2]
      · rw [hi] at b5; cases b5
    subst hk
    have hM := hmet h1 h2a b4 l0
    obtain ⟨-, f1, f2, -, -⟩ := ab_mcf l0
    have hcb := callB_of (R := R) (s := s) (args := args) (own := own) (index := w.2.2.1) (ws' := ab_tb) (rm := ab_rm d (ab_nc z.2 - ab_nc M) ((z.2 999 1).toNat - (M 999 1).toNat)) w.2.2.2.2.1 hts (ab_good (ab_codem l0)) rfl rfl rfl (hts _ (ab_ix_mem l3)) (hts _ (ab_ix_mem l1)) ⟨f1, f2, ab_pni l4⟩ (hroom _ l0)
    refine fin (va_runS CF hM ⟨hcb, hts _ (ab_ix_mem l2)⟩ ⟨ab_blind, hpre⟩ rfl ?_ h3.1 hst (lv_room hcat) (by rw [hi] at hd; exact hd) hfc)
    rw [List.length_map, b2]
    clear b5
    omega
  · have h12 : w.1 = 1 ∨ w.1 = 2 := hop
    obtain ⟨r, t, hat, hk0⟩ : ∃ r t, as = .inr (.inr r) :: t ∧ (en.2.2.1 = 300 ∨ 1000 ≤ en.2.2.1 ∨ k = en.2.2.1) := by
      rcases b5 with ⟨b5, -⟩ | ⟨-, r, t, hat, hq⟩
      · rw [hi] at b5; cases b5
      · refine ⟨r, t, hat, ?_⟩
        rcases hq with ⟨hq, -⟩ | ⟨-, hq, -⟩ | ⟨-, -, hq, -⟩
        · exact Or.inl hq
        · exact Or.inr (Or.inl hq)
        · exact Or.inr (Or.inr hq)
    have core : w.2.2.2.1 < 194 → (k = w.2.2.2.1 → 0 < w.2.2.2.2.1 → (parseMethodDescriptor (ab_y w.2.2.2.1).desc).map (fun d => d.parameters.length) = some (w.2.2.2.2.1 - 1) → W p l e R s m args below meth c H locs (ab_nc M - n0) ((M 999 1).toNat - s0) Q (F0 m pc lc (st.map (ab_cv b0 sa)))) → 0 < w.2.2.2.2.1 → ab_pn (ab_y w.2.2.2.1).desc (w.2.2.2.2.1 - 1) = true → W p l e R s m args below meth c H locs (ab_nc M - n0) ((M 999 1).toNat - s0) Q (F0 m pc lc (st.map (ab_cv b0 sa))) := by
      intro l0 hh hpos hpn
      refine hh ?_ hpos (ab_pni hpn)
      rcases hk0 with hk0 | hk0 | hk0
      · omega
      · omega
      · rw [hk0, hw2]
    have hstr : st.map (ab_cv b0 sa) = (t.map (ab_cv b0 sa)).reverse ++ .ref (ab_ad b0 sa r) :: rest.map (ab_cv b0 sa) := by
      rw [hst, hat, List.map_cons, List.reverse_cons, List.append_assoc]
      rfl
    have hlen : (t.map (ab_cv b0 sa)).length = w.2.2.2.2.1 - 1 := by
      rw [List.length_map]
      rw [hat, List.length_cons] at b2
      omega
    have hpre2 : ∀ U : State, U.heap = H → s.WarmedH U.vm → ab_Pre D I b0 sa L xs as M (Value.ref (ab_ad b0 sa r) :: t.map (ab_cv b0 sa)).toArray U := by
      intro U hU hW
      have := hpre U hU hW
      rw [hat] at this ⊢
      exact this
    rcases h12 with h12 | h12
    · rw [if_neg (by omega), if_pos h12] at hlk
      simp only [Bool.and_eq_true, decide_eq_true_eq] at hlk
      obtain ⟨⟨⟨⟨⟨⟨⟨l0, l1⟩, l2⟩, l3⟩, l4⟩, l5⟩, l6⟩, l7⟩ := hlk
      refine core l0 (fun hk hpos hpn => ?_) l6 l7
      subst hk
      have hM := hmet h1 h2a b4 l0
      obtain ⟨-, f1, f2, -, -⟩ := ab_mcf l0
      have hcm := ab_codem l0
      unfold ab_MetOf at hM
      rw [l5] at hM hcm
      have hcw := cwI (R := R) (s := s) (args := args) (own := own) (index := w.2.2.1) (ws' := ab_tb) (rm := ab_rm d (ab_nc z.2 - ab_nc M) ((z.2 999 1).toNat - (M 999 1).toNat)) (w.2.2.2.2.1 - 1) hts (ab_good hcm) rfl rfl rfl (hts _ (ab_ix_mem l3)) (hts _ (ab_ix_mem l1)) (hts _ (ab_ix_mem l2)) l4 ⟨f1, f2, hpn⟩ (hroom _ l0)
      exact fin (va_runI CF hM hcw ⟨ab_blind, hpre2⟩ rfl hlen h3.1 hstr (lv_room hcat) (by rw [hi] at hd; exact hd) hfc)
    · rw [if_neg (by omega), if_neg (by omega), if_pos h12] at hlk
      simp only [Bool.and_eq_true, decide_eq_true_eq] at hlk
      obtain ⟨⟨⟨⟨⟨⟨⟨l0, l1⟩, l2⟩, l3⟩, l4⟩, l5⟩, l6⟩, l7⟩ := hlk
      refine core l0 (fun hk hpos hpn => ?_) l6 l7
      subst hk
      have hM := hmet h1 h2a b4 l0
      obtain ⟨-, f1, f2, -, -⟩ := ab_mcf l0
      have hcm := ab_codem l0
      unfold ab_MetOf at hM
      rw [l5] at hM hcm
      obtain ⟨x, hxm, hxe⟩ := List.any_eq_true.mp l1
      have hxe := of_decide_eq_true hxe
      have hnw := hG.2.2.2.2.1 x hxm
      rw [hxe] at hnw
      have hcn := va_cnB (R := R) (args := args) (ws' := ab_tb) (rm := ab_rm d (ab_nc z.2 - ab_nc M) ((z.2 999 1).toNat - (M 999 1).toNat)) (w.2.2.2.2.1 - 1) hts (ab_good hcm) rfl rfl rfl hnw (hts _ (ab_ix_mem l3)) ⟨f1, f2, hpn⟩ (hroom _ l0)
      exact fin (va_runIN CF hM ⟨hcn, l4, hts _ (ab_ix_mem l2)⟩ ⟨ab_blind, hpre2⟩ rfl hlen h3.1 hstr (lv_room hcat) (by rw [hi] at hd; exact hd) hfc)
  · obtain ⟨r, t, hat, hk0⟩ : ∃ r t, as = .inr (.inr r) :: t ∧ ((en.2.2.1 = 300 ∧ k = ab_meet (ab_kd r).1 ∧ r < ab_nc M ∧ (ab_kd r).1 < 11 ∧ ab_tg 50 (ab_kd r).1) ∨ (en.2.2.1 ≠ 300 ∧ 1000 ≤ en.2.2.1 ∧ k = en.2.2.1 % 1000 ∧ r < ab_nc M ∧ (ab_kd r).1 < 11 ∧ (ab_kd r).1 + 1 = en.2.2.1 / 1000) ∨ (en.2.2.1 ≠ 300 ∧ ¬ 1000 ≤ en.2.2.1 ∧ k = en.2.2.1 ∧ ab_rc M en.2.2.1 r)) := by
      rcases b5 with ⟨b5, -⟩ | ⟨-, r, t, hat, hq⟩
      · rw [hi] at b5; cases b5
      · exact ⟨r, t, hat, hq⟩
    have hstr : st.map (ab_cv b0 sa) = (t.map (ab_cv b0 sa)).reverse ++ .ref (ab_ad b0 sa r) :: rest.map (ab_cv b0 sa) := by
      rw [hst, hat, List.map_cons, List.reverse_cons, List.append_assoc]
      rfl
    have hlen : 0 < w.2.2.2.2.1 → (t.map (ab_cv b0 sa)).length = w.2.2.2.2.1 - 1 := by
      intro _
      rw [List.length_map]
      rw [hat, List.length_cons] at b2
      omega
    have hpre2 : ∀ U : State, U.heap = H → s.WarmedH U.vm → ab_Pre D I b0 sa L xs as M (Value.ref (ab_ad b0 sa r) :: t.map (ab_cv b0 sa)).toArray U := by
      intro U hU hW
      have := hpre U hU hW
      rw [hat] at this ⊢
      exact this
    have had : r < ab_nc M → ab_ad b0 sa r = b0 + r := by
      intro hr
      unfold ab_ad
      rw [if_pos (by omega)]
    rcases hop with hop | hop | hop
    · rw [if_neg (by omega), if_neg (by omega), if_neg (by omega), if_pos hop] at hlk
      simp only [Bool.and_eq_true, Bool.or_eq_true, decide_eq_true_eq] at hlk
      obtain ⟨⟨⟨⟨⟨⟨⟨l0, l1⟩, l2⟩, l3⟩, l4⟩, l5⟩, l6⟩, l7⟩ := hlk
      rcases hk0 with ⟨hk0, -⟩ | ⟨-, hk0, -⟩ | ⟨-, -, hk, hrc⟩
      · omega
      · omega
      have hk : k = w.2.2.2.1 := by rw [hk, hw2]
      subst hk
      rw [← hw2] at hrc
      have hM := hmet h1 h2a b4 l0
      obtain ⟨-, f1, f2, -, -⟩ := ab_mcf l0
      have hcb := callB_of (R := R) (s := s) (args := args) (own := own) (index := w.2.2.1) (ws' := ab_tb) (rm := ab_rm d (ab_nc z.2 - ab_nc M) ((z.2 999 1).toNat - (M 999 1).toNat)) (w.2.2.2.2.1 - 1) hts (ab_good (ab_codem l0)) rfl rfl rfl (hts _ (ab_ix_mem l4)) (hts _ (ab_ix_mem l1)) ⟨f1, f2, ab_pni l6⟩ (hroom _ l0)
      have hcell : ∃ cellB : Cell, H[ab_ad b0 sa r]? = some cellB ∧ cellB.vm.isStatics = false ∧ s.vm.findClass (ab_y w.2.2.2.1).cls = some cellB.cls := by
        rcases hrc with ⟨c1, c2, c3⟩ | ⟨rfl, c3⟩
        · rw [had c1]
          obtain ⟨rr, hr, -⟩ := ab_kdN c2
          have hcl : rr.1 = (ab_y w.2.2.2.1).cls := by
            rcases l7 with ⟨l7, l8⟩ | ⟨l7, -⟩
            · have : (ab_kd r).1 = ab_rt w.2.2.2.1 := by
                rcases c3 with c3 | ⟨c3, -⟩ <;> omega
              rw [← ab_cn_of hr, this, l8]
            · rcases c3 with c3 | ⟨c3, -⟩ <;> omega
          rw [← hcl]
          exact ab_recvc hK hP c1 c2 hr
        · rcases l7 with ⟨l7, -⟩ | ⟨-, l7⟩
          · omega
          · rw [l7]
            exact vk_recv (i := 0) hG.2.2.2.1.2 (by decide) hS
      exact fin (va_runV CF hM ⟨hcb, hts _ (ab_ix_mem l2), hts _ (ab_ix_mem l3)⟩ ⟨ab_blind, hcell, hpre2⟩ rfl (hlen l5) h3.1 hstr (lv_room hcat) (by rw [hi] at hd; exact hd) hfc)
    · rw [if_neg (by omega), if_neg (by omega), if_neg (by omega), if_neg (by omega), if_pos hop] at hlk
      simp only [Bool.and_eq_true, Bool.or_eq_true, decide_eq_true_eq] at hlk
      obtain ⟨⟨⟨⟨⟨⟨⟨⟨⟨l0, l1⟩, l2⟩, l3⟩, l4⟩, l5⟩, l6⟩, l7⟩, l8⟩, l9⟩ := hlk
      rcases hk0 with ⟨hk0, -⟩ | ⟨-, hk0, hk, c1, c2, c3⟩ | ⟨-, hk0, -⟩
      · omega
      · rw [← hw2] at hk c3
        subst hk
        have hM := hmet h1 h2a b4 l0
        obtain ⟨-, f1, f2, -, -⟩ := ab_mcf l0
        obtain ⟨rr, hr, -⟩ := ab_kdN c2
        have hC : ab_cn (w.2.2.2.1 / 1000 - 1) = rr.1 := by
          rw [show w.2.2.2.1 / 1000 - 1 = (ab_kd r).1 by omega]
          exact ab_cn_of hr
        have hcu : va_CU R s args own (ab_cn (w.2.2.2.1 / 1000 - 1)) (ab_y (w.2.2.2.1 % 1000)).cls w.2.2.1 ⟨ab_cn (w.2.2.2.1 / 1000 - 1), (ab_y (w.2.2.2.1 % 1000)).name, (ab_y (w.2.2.2.1 % 1000)).desc⟩ (ab_y (w.2.2.2.1 % 1000)) (ab_b (w.2.2.2.1 % 1000)) (ab_mx (w.2.2.2.1 % 1000)) (ab_rv (w.2.2.2.1 % 1000)) (.code (ab_y (w.2.2.2.1 % 1000)) (ab_b (w.2.2.2.1 % 1000)) (ab_mx (w.2.2.2.1 % 1000)) (ab_rv (w.2.2.2.1 % 1000)) :: ab_tb) (ab_rm d (ab_nc z.2 - ab_nc M) ((z.2 999 1).toNat - (M 999 1).toNat)) (ab_nc z.2 - ab_nc M) ((z.2 999 1).toNat - (M 999 1).toNat) (w.2.2.2.2.1 - 1) :=
          ⟨⟨rfl, rfl, (hroom _ l0).1, (hroom _ l0).2, ab_payw hts (ab_codem l0), List.mem_cons_self⟩, hts _ (ab_codem l0), hts _ (ab_ix_mem l7), ⟨f1, f2⟩, ab_pnl l9, hts _ (ab_ix_mem l3), hts _ (ab_ix_mem l4), va_Decl.of (hts _ (ab_ix_mem l6)) (hts _ (ab_codem l0)), hts _ (ab_ix_mem l5), hts _ (ab_ix_mem l6)⟩
        refine fin (va_runU CF hM hcu ⟨ab_blind, ?_, hpre2⟩ rfl (hlen l8) h3.1 hstr (lv_room hcat) (by rw [hi] at hd; exact hd) hfc)
        rw [had c1, hC]
        exact ab_recvc hK hP c1 c2 hr
      · omega
    · rw [if_neg (by omega), if_neg (by omega), if_neg (by omega), if_neg (by omega), if_neg (by omega), if_pos hop] at hlk
      simp only [Bool.and_eq_true, decide_eq_true_eq] at hlk
      obtain ⟨⟨⟨⟨⟨l0, l1⟩, l2⟩, l3⟩, l4⟩, l5⟩ := hlk
      rcases hk0 with ⟨hk0, hk, c1, c2, c3⟩ | ⟨hk0, -⟩ | ⟨hk0, -⟩
      · obtain ⟨rr, hr, -⟩ := ab_kdN c2
        have h35 : (ab_kd r).1 = 0 ∨ (ab_kd r).1 = 3 ∨ (ab_kd r).1 = 5 := by
          rcases c3 with c3 | ⟨-, c3⟩
          · omega
          · exact c3
        have hall : ∃ j : Nat, k < 194 ∧ ab_ix (w.2.2.2.2.2.getD j 0) (.selects (ab_cn (ab_kd r).1) ab_xm (ab_y k)) = true ∧ ab_ix (w.2.2.2.2.2.getD (j + 1) 0) (.instanceMethod (ab_y k)) = true ∧ ab_ix (w.2.2.2.2.2.getD (j + 2) 0) (.initialized (ab_y k).cls) = true := by
          have key : ∀ z : Nat × Nat, z ∈ [(0, 2), (3, 5), (5, 8)] → (ab_kd r).1 = z.1 → ∃ j : Nat, k < 194 ∧ ab_ix (w.2.2.2.2.2.getD j 0) (.selects (ab_cn (ab_kd r).1) ab_xm (ab_y k)) = true ∧ ab_ix (w.2.2.2.2.2.getD (j + 1) 0) (.instanceMethod (ab_y k)) = true ∧ ab_ix (w.2.2.2.2.2.getD (j + 2) 0) (.initialized (ab_y k).cls) = true := by
            intro z hz hzz
            have := List.all_eq_true.mp l5 z hz
            simp only [Bool.and_eq_true, decide_eq_true_eq] at this
            obtain ⟨⟨⟨a1, a2⟩, a3⟩, a4⟩ := this
            rw [← hzz] at a1 a2 a3 a4
            rw [← hk] at a1 a2 a3 a4
            exact ⟨z.2, a1, a2, a3, a4⟩
          rcases h35 with h | h | h
          · exact key (0, 2) (by simp) h
          · exact key (3, 5) (by simp) h
          · exact key (5, 8) (by simp) h
        obtain ⟨j, m0, m1, m2, m3⟩ := hall
        have hM := hmet h1 h2a b4 m0
        have hcu : va_CU R s args own (ab_cn (ab_kd r).1) ab_xm.cls w.2.2.1 ab_xm (ab_y k) (ab_b k) (ab_mx k) (ab_rv k) (.code (ab_y k) (ab_b k) (ab_mx k) (ab_rv k) :: ab_tb) (ab_rm d (ab_nc z.2 - ab_nc M) ((z.2 999 1).toNat - (M 999 1).toNat)) (ab_nc z.2 - ab_nc M) ((z.2 999 1).toNat - (M 999 1).toNat) (w.2.2.2.2.1 - 1) :=
          ⟨⟨rfl, rfl, (hroom _ m0).1, (hroom _ m0).2, ab_payw hts (ab_codem m0), List.mem_cons_self⟩, hts _ (ab_codem m0), hts _ (ab_ix_mem m3), ⟨by decide, by decide⟩, ab_pnl l4, hts _ (ab_ix_mem l1), hts _ (ab_ix_mem l2), va_Decl.abs (hG.2.2.2.2.1 _ List.mem_cons_self), hts _ (ab_ix_mem m1), hts _ (ab_ix_mem m2)⟩
        refine fin (va_runU CF hM hcu ⟨ab_blind, ?_, hpre2⟩ rfl (hlen l3) h3.1 hstr (lv_room hcat) (by rw [hi] at hd; exact hd) hfc)
        rw [had c1, ab_cn_of hr]
        exact ab_recvc hK hP c1 c2 hr
      · omega
      · omega
end MAIN
