section SO3
variable {p : Program} {l : Launch} {e : Env} {R : Room} {s : State} {m : MethodId} {args : Array Value} {below : List Frame} {meth : Method} {c : Code} {Q : State → Prop} {D : va_G} {I : ab_I4} {b0 : Nat} {sa : Nat → Nat} {L : Nat} {xs : Nat → Int32} {nL n0 s0 : Nat} {cc : ByteArray} {own : String} {pc : Nat} {ls : ab_L} {st : List ab_V} {M : ab_M}
theorem ab_ws_get {n k : Nat} (h : k < n) : (ab_ws I b0 n M)[k]? = some (b0 + k, ab_ce I b0 M k) := by
  unfold ab_ws
  rw [List.getElem?_map, List.getElem?_range h]
  rfl
theorem ab_ws_len {n : Nat} : (ab_ws I b0 n M).length = n := by simp [ab_ws]
theorem ab_ws_at {n k : Nat} {q : Nat × va_E} (h : (ab_ws I b0 n M)[k]? = some q) : k < n ∧ q = (b0 + k, ab_ce I b0 M k) := by
  have hk : k < n := by
    have := (List.getElem?_eq_some_iff.mp h).1
    rwa [ab_ws_len] at this
  rw [ab_ws_get hk] at h
  exact ⟨hk, (Option.some.inj h).symm⟩
theorem ab_D {n : Nat} : va_D (ab_A b0) (ab_ws I b0 n M) := by
  refine ⟨fun i j q r hi hj he => ?_, fun k q hk => ?_⟩
  · obtain ⟨-, rfl⟩ := ab_ws_at hi
    obtain ⟨-, rfl⟩ := ab_ws_at hj
    dsimp only at he
    omega
  · obtain ⟨-, rfl⟩ := ab_ws_at hk
    exact Nat.le_add_right _ _
theorem ab_ce_eq {M' : ab_M} {k : Nat} (h : M' k = M k) : ab_ce I b0 M' k = ab_ce I b0 M k := by
  unfold ab_ce ab_fs ab_gr ab_is
  rw [h]
theorem ab_ws_set {M' : ab_M} {n k : Nat} (hk : k < n) (h : ∀ j, j ≠ k → M' j = M j) : (ab_ws I b0 n M).set k (b0 + k, ab_ce I b0 M' k) = ab_ws I b0 n M' := by
  apply List.ext_getElem?
  intro i
  by_cases hi : i = k
  · subst hi
    rw [List.getElem?_set_self (by rw [ab_ws_len]; exact hk), ab_ws_get hk]
  · rw [List.getElem?_set_ne (Ne.symm hi)]
    by_cases hin : i < n
    · rw [ab_ws_get hin, ab_ws_get hin, ab_ce_eq (h i hi)]
    · rw [List.getElem?_eq_none (by rw [ab_ws_len]; omega), List.getElem?_eq_none (by rw [ab_ws_len]; omega)]
theorem ab_w_ne {k f j : Nat} {v : Int} (h : j ≠ k) : ab_w M k f v j = M j := by
  funext b
  unfold ab_w
  rw [if_neg (fun q => h q.1)]
theorem ab_w_nc {k f : Nat} {v : Int} (h : k ≠ 999) : ab_nc (ab_w M k f v) = ab_nc M := by
  unfold ab_nc
  rw [ab_w_ne (Ne.symm h)]
theorem ab_mok_w {k f : Nat} {v : Int} (h : ab_mok L xs M) (hk : k < ab_nc M) (hv : ab_rg v) : ab_mok L xs (ab_w M k f v) := by
  obtain ⟨h1, h2, h3, h4, h5, h6, h7⟩ := h
  have hn : ab_nc M ≤ 995 := by unfold ab_nc; omega
  refine ⟨fun a b ha => ?_, by rw [ab_w_ne (by omega)]; exact h2, by rw [ab_w_ne (by omega)]; exact h3, by rw [ab_w_ne (by omega)]; exact h4, by rw [ab_w_ne (by omega)]; exact h5, h6, fun j hj => by rw [ab_w_ne (by omega)]; exact h7 j hj⟩
  unfold ab_w
  split
  · exact hv
  · exact h1 a b ha
theorem ab_fs_len {k : Nat} : (ab_fs b0 M k).length = (ab_kd k).2 := by simp [ab_fs]
theorem ab_fs_get {k f : Nat} (h : f < (ab_kd k).2) : (ab_fs b0 M k)[f]? = some (ab_fv b0 (ab_fty (ab_kd k).1 f) (M k f)) := by
  unfold ab_fs
  rw [List.getElem?_map, List.getElem?_range h]
  rfl
theorem ab_fs_set {k f : Nat} {v : Int} (h : f < (ab_kd k).2) : (ab_fs b0 M k).set f (ab_fv b0 (ab_fty (ab_kd k).1 f) v) = ab_fs b0 (ab_w M k f v) k := by
  apply List.ext_getElem?
  intro i
  by_cases hi : i = f
  · subst hi
    rw [List.getElem?_set_self (by rw [ab_fs_len]; exact h), ab_fs_get h]
    unfold ab_w
    rw [if_pos ⟨rfl, rfl⟩]
  · rw [List.getElem?_set_ne (Ne.symm hi)]
    by_cases hin : i < (ab_kd k).2
    · rw [ab_fs_get hin, ab_fs_get hin]
      unfold ab_w
      rw [if_neg (fun q => hi q.2)]
    · rw [List.getElem?_eq_none (by rw [ab_fs_len]; omega), List.getElem?_eq_none (by rw [ab_fs_len]; omega)]
theorem ab_ce_obj {k : Nat} (h : (ab_kd k).1 < 11) : ab_ce I b0 M k = .inr ((ab_kd k).1, ab_fs b0 M k) := by
  unfold ab_ce
  rw [if_neg (by omega), if_neg (by omega), if_neg (by omega), if_neg (by omega)]
theorem ab_kdN {k : Nat} (h : (ab_kd k).1 < 11) : ∃ r : vw_C, vwCl[(ab_kd k).1]? = some r ∧ r.2.2 = (ab_kd k).2 := by
  by_cases hk : k < 132
  · have h1 := List.all_eq_true.mp ab_kd0 k (List.mem_range.mpr hk)
    simp only [Bool.or_eq_true, decide_eq_true_eq] at h1
    rcases h1 with h1 | h1
    · omega
    · split at h1
      next r hr => exact ⟨r, hr, of_decide_eq_true h1⟩
      next => cases h1
  · have : ab_kd k = (99, 0) := by
      unfold ab_kd
      rw [List.getD_eq_getElem?_getD, List.getElem?_eq_none (by show ab_kds.length ≤ k; have : ab_kds.length = 132 := by decide +kernel
                                                                omega)]
      rfl
    rw [this] at h
    exact absurd h (by decide)
theorem ab_clty {t f : Nat} {r : vw_C} (ht : vwCl[t]? = some r) (hf : f < r.2.2) : parseFieldDescriptor (r.2.1 f).2.2.1 = some (ab_ty t f) ∧ ab_tyc (ab_fty t f) (ab_ty t f) = true := by
  have hl : t < 11 := (List.getElem?_eq_some_iff.mp ht).1
  have h1 := List.all_eq_true.mp ab_clty0 t (List.mem_range.mpr hl)
  rw [ht] at h1
  have h2 := List.all_eq_true.mp h1 f (List.mem_range.mpr hf)
  simp only [Bool.and_eq_true, decide_eq_true_eq] at h2
  exact h2
theorem ab_fl {q : ab_FL} {t : Nat} (hq : q ∈ ab_flt) (ht : ab_tg q.2.2.1 t) (hl : t < 11) : ∃ r : vw_C, vwCl[t]? = some r ∧ q.2.2.2.1 < r.2.2 ∧ Cond.fieldLink (ab_ows.getD q.1 "") q.2.1 (ab_ows.getD q.2.2.2.2.1 "") (r.2.1 q.2.2.2.1).2.1 (r.2.1 q.2.2.2.1).2.2.1 ∈ ab_tb ∧ (ab_ows.getD q.2.2.2.2.1 "" = (r.2.1 q.2.2.2.1).1 ∨ Cond.sameField (ab_ows.getD q.2.2.2.2.1 "") (r.2.1 q.2.2.2.1).1 (r.2.1 q.2.2.2.1).2.1 (r.2.1 q.2.2.2.1).2.2.1 ∈ ab_tb) := by
  have h0 := List.all_eq_true.mp ab_flt0 q hq
  have h1 := List.all_eq_true.mp h0 t (List.mem_range.mpr hl)
  simp only [Bool.or_eq_true, Bool.not_eq_true', decide_eq_false_iff_not] at h1
  rcases h1 with h1 | h1
  · exact absurd ht h1
  · split at h1
    next r hr =>
      simp only [Bool.and_eq_true, Bool.or_eq_true, decide_eq_true_eq] at h1
      obtain ⟨⟨h2, h3⟩, h4⟩ := h1
      refine ⟨r, hr, h2, ab_ix_mem h3, ?_⟩
      rcases h4 with h4 | h4
      · exact Or.inl h4
      · obtain ⟨z, hz, hz2⟩ := List.any_eq_true.mp h4
        have hz3 := of_decide_eq_true hz2
        have hz4 := ab_ix_mem (List.all_eq_true.mp ab_sfl0 z hz)
        rw [hz3] at hz4
        exact Or.inr hz4
    next => cases h1
theorem ab_hsame {ref O nm ds : String} (hts : ∀ w ∈ ab_tb, w.before args s = true) (h : ref = O ∨ Cond.sameField ref O nm ds ∈ ab_tb) : ∀ x, s.fieldFound? O nm ds = some x → s.fieldFound? ref nm ds = some x := by
  intro x hx
  rcases h with rfl | h
  · exact hx
  · exact u_same (hts _ h) x hx
theorem so_get {idx f : Nat} {x : Int} {u : ab_St} (C : ab_cx p s m args c D I b0 sa L xs nL n0 cc own) (hd : decode cc pc = .ok (.getfield idx, 3)) (hq : x ≠ 30 → ∃ q : ab_FL, q ∈ ab_flt ∧ own = ab_ows.getD q.1 "" ∧ q.2.1 = idx ∧ q.2.2.1 = x ∧ q.2.2.2.1 = f) (hstr : x = 30 → own = "java/lang/String" ∧ ((f = 0 ∧ idx = 9) ∨ (f ≠ 0 ∧ idx = 15))) (hu : ab_get f x pc ls st M = some u) (kk : ab_K p l e R s m args below meth c Q D I b0 sa L xs nL n0 s0 u.1 u.2.1 u.2.2.1 u.2.2.2) : ab_K p l e R s m args below meth c Q D I b0 sa L xs nL n0 s0 pc ls st M := by
  obtain ⟨hx, hb, hml, hown, hts, hK, hG, hsz⟩ := C
  unfold ab_get at hu
  split at hu
  next k r =>
    split at hu
    next h30 =>
      obtain ⟨ho, hfi⟩ := hstr h30
      have hl1 : Cond.fieldLink "java/lang/String" 9 "java/lang/String" "value" "[B" ∈ ab_tb := ab_ix_mem (i := 1438) (by decide +kernel)
      have hl2 : Cond.fieldLink "java/lang/String" 15 "java/lang/String" "coder" "B" ∈ ab_tb := ab_ix_mem (i := 1437) (by decide +kernel)
      split at hu
      next hk =>
        have hvk := (hG.2.2.2.1.2.1 0 (by decide))
        intro H locs lc h
        obtain ⟨h1, h2, h3, h4, h5, hP, hS, h8⟩ := h
        have had : ab_cv b0 sa (.inr (.inr k)) = .ref (sa 1004) := by rw [hk]; rfl
        obtain ⟨-, h2⟩ := List.forall_mem_cons.mp h2
        rw [List.map_cons, had]
        subst ho
        split at hu
        next hf =>
          cases hu
          obtain ⟨-, rfl⟩ | ⟨hn, -⟩ := hfi
          · exact vk_getf hx hb hvk.2.2.1 hS hown (hts _ hl1) (fun _ h => h) hd (kk H locs lc ⟨h1, List.forall_mem_cons.mpr ⟨trivial, h2⟩, h3, h4, h5, hP, hS, h8⟩)
          · exact absurd hf hn
        next hf =>
          cases hu
          obtain ⟨hn, -⟩ | ⟨-, rfl⟩ := hfi
          · exact absurd hn hf
          · exact vk_getf hx hb hvk.2.1 hS hown (hts _ hl2) (fun _ h => h) hd (kk H locs lc ⟨h1, List.forall_mem_cons.mpr ⟨ab_rg0, h2⟩, h3, h4, h5, hP, hS, h8⟩)
      next => cases hu
    next h30 =>
      split at hu
      next hob =>
        obtain ⟨hk, ht, htg, hf⟩ := hob
        obtain ⟨q, hqm, ho, hq1, hq2, hq3⟩ := hq h30
        subst hq1; subst hq2; subst hq3
        obtain ⟨rr, hr, hfr, hlk, hsm⟩ := ab_fl hqm htg ht
        have row : ∀ (H : Heap) (locs : List Loc) (cells slots : Nat) (lc : Array Slot) (rest : List Value), va_P D vwCl (ab_ws I b0 (ab_nc M) M) H → ab_nc M ≤ 995 → W p l e R s m args below meth c H locs cells slots Q (F0 m (pc + 3) lc (ab_fv b0 (ab_fty (ab_kd k).1 q.2.2.2.1) (M k q.2.2.2.1) :: rest)) → W p l e R s m args below meth c H locs cells slots Q (F0 m pc lc (ab_cv b0 sa (.inr (.inr k)) :: rest)) := by
          intro H locs cells slots lc rest hP hn kw
          have had : ab_cv b0 sa (.inr (.inr k)) = .ref (b0 + k) := by
            show Value.ref (ab_ad b0 sa k) = _
            unfold ab_ad
            rw [if_pos (by omega)]
          rw [had]
          exact va_get (T := rr.2.1) (C := rr.1) (N := rr.2.2) hx hb hts (ab_clin _ rr hr) hown hK hP k (fs := ab_fs b0 M k) (by rw [ab_ws_get hk, ab_ce_obj ht]) hr q.2.2.2.1 hfr (by rw [ho]; exact hts _ hlk) (ab_hsame hts hsm) (ab_fs_get hf) hd kw
        split at hu
        next hty =>
          split at hu
          next hpos =>
            cases hu
            intro H locs lc h
            obtain ⟨h1, h2, h3, h4, h5, hP, hS, h8⟩ := h
            obtain ⟨-, h2⟩ := List.forall_mem_cons.mp h2
            refine row _ _ _ _ _ _ hP (by unfold ab_nc; have := h1.2.2.1; omega) ?_
            have e1 : ab_fv b0 (ab_fty (ab_kd k).1 q.2.2.2.1) (M k q.2.2.2.1) = ab_cv b0 sa (.inr (.inr (M k q.2.2.2.1).toNat)) := by
              show _ = Value.ref (ab_ad b0 sa _)
              unfold ab_fv ab_ad
              rw [if_pos hty, if_neg (by omega), if_pos (by omega)]
            rw [e1]
            exact kk H locs lc ⟨h1, List.forall_mem_cons.mpr ⟨trivial, h2⟩, h3, h4, h5, hP, hS, h8⟩
          next => cases hu
        next hty =>
          cases hu
          intro H locs lc h
          obtain ⟨h1, h2, h3, h4, h5, hP, hS, h8⟩ := h
          obtain ⟨-, h2⟩ := List.forall_mem_cons.mp h2
          have hn : ab_nc M ≤ 995 := by unfold ab_nc; have := h1.2.2.1; omega
          refine row _ _ _ _ _ _ hP hn ?_
          have e1 : ab_fv b0 (ab_fty (ab_kd k).1 q.2.2.2.1) (M k q.2.2.2.1) = ab_cv b0 sa (.inl (M k q.2.2.2.1)) := by
            unfold ab_fv
            rw [if_neg hty]
            rfl
          rw [e1]
          exact kk H locs lc ⟨h1, List.forall_mem_cons.mpr ⟨h1.1 k _ (by omega), h2⟩, h3, h4, h5, hP, hS, h8⟩
      next => cases hu
  next => cases hu
end SO3
