section RUN
variable {p : Program} {l : Launch} {e : Env} {R : Room} {s : State} {m : MethodId} {args : Array Value} {below : List Frame} {meth : Method} {c : Code} {Q : State → Prop} {D : va_G} {I : ab_I4} {b0 : Nat} {sa : Nat → Nat} {L : Nat} {xs : Nat → Int32} {nL n0 s0 : Nat} {cc : ByteArray} {own : String} {pc : Nat} {ls : ab_L} {st : List ab_V} {M : ab_M}
theorem so_ret {en : ab_E} {z : Option ab_V × ab_M} {rv : Option FieldType} (C : ab_cx p s m args c D I b0 sa L xs nL n0 cc own) (hrv : meth.sig.returnType = rv) (hlocks : meth.locks = false) (hrok : ab_rok rv cc pc en) (hz : ab_ret en st M = some z) : ab_K p l e R s m args below meth c (MQ below (ab_Post D I b0 sa L xs z.1 z.2) args s (ab_nc z.2 - n0) ((z.2 999 1).toNat - s0) (ab_A b0)) D I b0 sa L xs nL n0 s0 pc ls st M := by
  obtain ⟨hx, hb, hml, hown, hts, hK, hG, hsz⟩ := C
  intro H locs lc h
  obtain ⟨h1, h2, h3, h4, h5, hP, hS, h8, h9⟩ := h
  have hF : ∀ t : State, t.heap = H → va_F (ab_A b0) s t := fun t ht => ⟨by rw [ht]; exact hS.1, fun q q1 q2 => by rw [ht]; exact hS.2.1 q q1 q2⟩
  unfold ab_ret at hz
  split at hz
  · split at hz
    next hk =>
      cases hz
      rcases hrok with ⟨-, h0, hd⟩ | ⟨h0, -⟩
      · exact W.vret hx hb (hrv.trans h0) (fun t ht _ => ⟨⟨(), rfl, trivial, by rw [ab_BB, ht]; exact ⟨hP, h1, fun v hv => by cases hv⟩⟩, hF t ht⟩) hS.2.2 hd hlocks
      · omega
    next => cases hz
  next v =>
    split at hz
    next hk =>
      cases hz
      have hv : ab_rg v := h2 _ List.mem_cons_self
      rcases hrok with ⟨h0, -⟩ | ⟨-, hd, hc⟩
      · omega
      · have key : ∃ ty, rv = some ty ∧ narrow ty (.int (Int32.ofInt v)) = .int (Int32.ofInt v) := by
          rcases hc with ⟨c1, c2⟩ | ⟨c1, c2⟩ | ⟨c1, c2⟩
          · exact ⟨_, c2, rfl⟩
          · refine ⟨_, c2, ?_⟩
            rcases hk.2 with hk | ⟨-, hk⟩ | ⟨hk, -⟩
            · omega
            · rcases hk with rfl | rfl <;> rfl
            · omega
          · refine ⟨_, c2, ?_⟩
            rcases hk.2 with hk | ⟨hk, -⟩ | ⟨-, k1, k2⟩
            · omega
            · omega
            · show Value.int (Int32.ofInt v).toInt8.toInt32 = _
              rw [ab_i2b k1 k2]
        obtain ⟨ty, e1, e2⟩ := key
        exact W.zret hx hb (hrv.trans e1) e2 (fun t ht _ => ⟨⟨Int32.ofInt v, (), rfl, rfl, by rw [ab_BB, ht]; exact ⟨hP, h1, fun w hw => by cases hw; exact hv⟩⟩, hF t ht⟩) hS.2.2 hd hlocks
    next => cases hz
  · cases hz
/-- callee's contracts, for runs of fewer than N steps -/
def ab_HM (l : Launch) (D : va_G) (I : ab_I4) (b0 : Nat) (sa : Nat → Nat) (L : Nat) (xs : Nat → Int32) (N : Nat) : Prop := ∀ n, n < N → ∀ (d k : Nat) (as : List ab_V) (M : ab_M) (z : Option ab_V × ab_M), k < 194 → ab_run n d k 0 (ab_ent as (ab_mx k)) [] M = some z → ab_mok L xs M → (∀ v ∈ as, ab_vk v) → (ab_sl as).length ≤ ab_mx k → ab_MetOf l D I b0 sa L xs d k as M z
theorem so_run {mm d N : Nat} {z : Option ab_V × ab_M} (hmm : mm < 194 + 1) (C : ab_cx p s m args c D I b0 sa L xs nL n0 (ab_b mm) (ab_ows.getD (ab_oi' mm) "")) (hname : ab_ini mm = true → meth.name = "<init>") (HM : ab_HM l D I b0 sa L xs N) (hR : d + 2 ≤ R.frames ∧ 200 * (d + 1) ≤ R.locals) (hrm : ab_nc z.2 - n0 ≤ R.cells ∧ (z.2 999 1).toNat - s0 ≤ R.slots)
    (hret : ∀ (pc : Nat) (ls : ab_L) (st : List ab_V) (M : ab_M) (en : ab_E), ab_at mm pc = some en → en.2.1 = 2 → ab_ret en st M = some z → ab_K p l e R s m args below meth c Q D I b0 sa L xs nL n0 s0 pc ls st M) :
    ∀ n, n ≤ N → ∀ (pc : Nat) (ls : ab_L) (st : List ab_V) (M : ab_M), M 999 0 ≤ 995 → ab_run n d mm pc ls st M = some z → ab_K p l e R s m args below meth c Q D I b0 sa L xs nL n0 s0 pc ls st M := by
  intro n
  induction n with
  | zero => intro _ pc ls st M _ hr; cases hr
  | succ n ih =>
    intro hn pc ls st M h9 hr
    have room : ∀ M1 : ab_M, ab_up M1 z.2 → ab_nc M1 - n0 ≤ R.cells ∧ (M1 999 1).toNat - s0 ≤ R.slots := by
      intro M1 hu
      have u1 := hu.1
      have u2 := hu.2.1
      have : ab_nc M1 ≤ ab_nc z.2 := by unfold ab_nc; omega
      exact ⟨by omega, by omega⟩
    rw [ab_run] at hr
    split at hr
    · cases hr
    next en hat =>
      have hen := ab_aten hmm hat
      split at hr
      next hk0 =>
        split at hr
        · cases hr
        next u hu =>
          have h1 := ab_up_st1 h9 hu
          have h2 := ab_up_run _ _ _ _ _ _ _ _ h1.2.2.1 hr
          have hen : ab_en0 (ab_oi' mm) (ab_b mm) (ab_ini mm) pc en = true := by
            unfold ab_enB at hen
            dsimp only at hen
            rw [hk0] at hen
            exact hen
          have kk := ih (by omega) _ _ _ _ h1.2.2.1 hr
          exact so_st1 C ⟨by omega, by omega⟩ (ab_en0_ok hname hen) hu (room _ h2) (fun i hd hlk hu2 => so_na2 C hd hlk hu2 (room _ h2) kk) kk
      next hk1 =>
        split at hr
        · cases hr
        next d' =>
          split at hr
          · cases hr
          next q hq =>
            split at hr
            · cases hr
            next w hw =>
              have h1 := ab_up_run _ _ _ _ _ _ _ _ h9 hw
              have h2 := ab_up_run _ _ _ _ _ _ _ _ h1.2.2.1 hr
              have hen : ab_en1 (ab_oi' mm) (ab_b mm) pc en = true := by
                unfold ab_enB at hen
                dsimp only at hen
                rw [hk1] at hen
                exact hen
              have kk := ih (by omega) _ _ _ _ h1.2.2.1 hr
              exact so_call C rfl (ab_en1_ok hen) hq (fun hm hv hl hk => HM n (by omega) d' _ _ _ _ hk hw hm hv hl) h1 ⟨by omega, by omega⟩ (room _ h2) kk
      next hk2 => exact hret pc ls st M en hat hk2 hr
      · cases hr
theorem ab_sl_lg (b0 : Nat) (sa : Nat → Nat) : ∀ as : List ab_V, (lg_sl (as.map (ab_cv b0 sa))).length = (ab_sl as).length
  | [] => rfl
  | .inl x :: t => by
    show ([Slot.val _] ++ lg_sl (t.map (ab_cv b0 sa))).length = (some (.inl x) :: ab_sl t).length
    rw [List.length_append, ab_sl_lg b0 sa t]
    exact Nat.add_comm 1 _
  | .inr (.inl x) :: t => by
    show ([Slot.val _, Slot.second] ++ lg_sl (t.map (ab_cv b0 sa))).length = (some (.inr (.inl x)) :: none :: ab_sl t).length
    rw [List.length_append, ab_sl_lg b0 sa t]
    exact Nat.add_comm 2 _
  | .inr (.inr x) :: t => by
    show ([Slot.val _] ++ lg_sl (t.map (ab_cv b0 sa))).length = (some (.inr (.inr x)) :: ab_sl t).length
    rw [List.length_append, ab_sl_lg b0 sa t]
    exact Nat.add_comm 1 _
theorem ab_as_args (b0 : Nat) (sa : Nat → Nat) : ∀ (as : List ab_V) (i : Nat) (q : Nat × Value), q ∈ ab_as b0 sa i (ab_sl as) → q ∈ lv_args i (as.map (ab_cv b0 sa))
  | [], i, q, h => by cases h
  | .inl x :: t, i, q, h => by
    simp only [ab_sl, ab_as, List.mem_cons] at h
    simp only [List.map_cons, lv_args, List.mem_cons]
    rcases h with h | h
    · exact Or.inl h
    · right
      exact ab_as_args b0 sa t _ q h
  | .inr (.inl x) :: t, i, q, h => by
    simp only [ab_sl, ab_as, List.mem_cons] at h
    simp only [List.map_cons, lv_args, List.mem_cons]
    rcases h with h | h
    · exact Or.inl h
    · right
      exact ab_as_args b0 sa t _ q h
  | .inr (.inr x) :: t, i, q, h => by
    simp only [ab_sl, ab_as, List.mem_cons] at h
    simp only [List.map_cons, lv_args, List.mem_cons]
    rcases h with h | h
    · exact Or.inl h
    · right
      exact ab_as_args b0 sa t _ q h
theorem ab_as_app (b0 : Nat) (sa : Nat → Nat) (a : ab_L) (n i : Nat) (q : Nat × Value) (h : q ∈ ab_as b0 sa i (a ++ List.replicate n none)) : q ∈ ab_as b0 sa i a := by
  obtain ⟨j, v, hj, rfl⟩ := (ab_as_mem b0 sa _ i q).mp h
  by_cases hl : j < a.length
  · rw [List.getElem?_append_left hl] at hj
    exact (ab_as_mem b0 sa _ i _).mpr ⟨j, v, hj, rfl⟩
  · rw [List.getElem?_append_right (by omega), List.getElem?_replicate] at hj
    split at hj <;> cases hj
theorem ab_sl_mem {v : ab_V} : ∀ {as : List ab_V}, some v ∈ ab_sl as → v ∈ as
  | [], h => by cases h
  | .inl x :: t, h => by
    simp only [ab_sl, List.mem_cons] at h
    rcases h with h | h
    · rw [Option.some.inj h]; exact List.mem_cons_self
    · exact List.mem_cons_of_mem _ (ab_sl_mem h)
  | .inr (.inl x) :: t, h => by
    simp only [ab_sl, List.mem_cons] at h
    rcases h with h | h | h
    · rw [Option.some.inj h]; exact List.mem_cons_self
    · cases h
    · exact List.mem_cons_of_mem _ (ab_sl_mem h)
  | .inr (.inr x) :: t, h => by
    simp only [ab_sl, List.mem_cons] at h
    rcases h with h | h
    · rw [Option.some.inj h]; exact List.mem_cons_self
    · exact List.mem_cons_of_mem _ (ab_sl_mem h)
theorem so_met (l : Launch) (D : va_G) (I : ab_I4) (b0 : Nat) (sa : Nat → Nat) (L : Nat) (xs : Nat → Int32) : ∀ N, ab_HM l D I b0 sa L xs N := by
  intro N
  induction N with
  | zero => intro n hn; omega
  | succ N ihN =>
    intro n hn d k as M z hk hr hm hv hl
    have h9 : M 999 0 ≤ 995 := hm.2.2.1
    have hcode := ab_codem hk
    obtain ⟨f0, f1, f2, f3, f4⟩ := ab_mcf hk
    have hup := ab_up_run _ _ _ _ _ _ _ _ h9 hr
    refine Met.ofW (cc := ab_b k) (maxL := ab_mx k) (ret := ab_rv k) f0 rfl ?_
    intro p e s m args below meth c s₁ B hml hv2
    obtain ⟨rfl, hsz, hP, hK, hG⟩ := hv2
    have hts0 := atoms_spec (ws := .code (ab_y k) (ab_b k) (ab_mx k) (ab_rv k) :: ab_tb) B.pre
    have hown : s.vm.findClass (ab_y k).cls = some m.cls := findClass_of_methodNamed B.named
    have hin : meth.name = (ab_y k).name := (name_of_methodNamed B.named B.method).1
    have C : ab_cx p s m (as.map (ab_cv b0 sa)).toArray c D I b0 sa L xs (ab_mx k) (ab_nc M) (ab_b k) (ab_ows.getD (ab_oi' k) "") := ⟨B.exec, B.bytes, hml, by rw [f3]; exact hown, fun w hw => hts0 w (List.mem_cons_of_mem _ hw), hK, hG, hsz⟩
    have hkk := so_run (R := (headSpec (.code (ab_y k) (ab_b k) (ab_mx k) (ab_rv k) :: ab_tb) (ab_rm d (ab_nc z.2 - ab_nc M) ((z.2 999 1).toNat - (M 999 1).toNat))).room) (mm := k) (d := d) (N := N) (z := z) (n0 := ab_nc M) (s0 := (M 999 1).toNat) (l := l) (e := e) (below := below) (meth := meth) (Q := MQ below (ab_Post D I b0 sa L xs z.1 z.2) (as.map (ab_cv b0 sa)).toArray s (ab_nc z.2 - ab_nc M) ((z.2 999 1).toNat - (M 999 1).toNat) (ab_A b0)) (by omega) C (fun hi => by rw [hin]; exact ab_inin (by omega) hi) ihN ⟨Nat.le_refl _, Nat.le_refl _⟩ ⟨Nat.le_refl _, Nat.le_refl _⟩
      (fun pc ls st M1 en hat hk2 hz => by
        have hen := ab_aten (by omega : k < 194 + 1) hat
        have hen : ab_en2 (ab_rv k) (ab_b k) pc en = true := by
          unfold ab_enB at hen
          dsimp only at hen
          rw [hk2] at hen
          exact hen
        exact so_ret C B.returns B.notSynchronized (ab_en2_ok hen) hz)
      n (by omega) 0 (ab_ent as (ab_mx k)) [] M h9 hr
    have hlen : (lg_sl (as.map (ab_cv b0 sa))).length ≤ ab_mx k := by rw [ab_sl_lg]; exact hl
    have hle := lv_entry (as.map (ab_cv b0 sa)) (n := ab_mx k) hlen
    have hel : (ab_ent as (ab_mx k)).length = ab_mx k := by
      unfold ab_ent
      rw [List.length_append, List.length_replicate]
      omega
    have := hkk s.heap [] _ ⟨hm, fun v h => absurd h List.not_mem_nil, ab_lvm hle (fun q hq => ab_as_args b0 sa as 0 q (ab_as_app b0 sa _ _ 0 q hq)), hel, fun v hv3 => ?_, hP, va_S.rf, Nat.le_refl _, Nat.le_refl _⟩
    · rw [Nat.sub_self, Nat.sub_self] at this
      rw [lg_entry_eq]
      exact this
    · unfold ab_ent at hv3
      rcases List.mem_append.mp hv3 with h | h
      · exact hv v (ab_sl_mem h)
      · have := List.eq_of_mem_replicate h
        cases this
end RUN
