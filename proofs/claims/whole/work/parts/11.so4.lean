section SO4
variable {p : Program} {l : Launch} {e : Env} {R : Room} {s : State} {m : MethodId} {args : Array Value} {below : List Frame} {meth : Method} {c : Code} {Q : State → Prop} {D : va_G} {I : ab_I4} {b0 : Nat} {sa : Nat → Nat} {L : Nat} {xs : Nat → Int32} {nL n0 s0 : Nat} {cc : ByteArray} {own : String} {pc : Nat} {ls : ab_L} {st : List ab_V} {M : ab_M}
theorem ab_adk {k : Nat} (h : k < 1000) : ab_cv b0 sa (.inr (.inr k)) = .ref (b0 + k) := by
  show Value.ref (ab_ad b0 sa k) = _
  unfold ab_ad
  rw [if_pos h]
theorem ab_ads {k : Nat} (h : ¬ k < 1000) : ab_cv b0 sa (.inr (.inr k)) = .ref (sa k) := by
  show Value.ref (ab_ad b0 sa k) = _
  unfold ab_ad
  rw [if_neg h]
theorem ab_n995 (h : ab_mok L xs M) : ab_nc M ≤ 995 := by unfold ab_nc; have := h.2.2.1; omega
/-- behind a store of one place -/
theorem so_wr {k f : Nat} {v : Int} {r : List ab_V} {pc' : Nat} (hk : k < ab_nc M) (hv : ab_rg v) (kk : ab_K p l e R s m args below meth c Q D I b0 sa L xs nL n0 s0 pc' ls r (ab_w M k f v)) {H1 : Heap} {locs1 : List Loc} {lc : Array Slot} {ce : va_E} (h1 : ab_mok L xs M) (h2 : ∀ v ∈ r, ab_vk v) (h3 : lv_has lc nL (ab_as b0 sa 0 ls)) (h4 : ls.length = nL) (h5 : ∀ v, some v ∈ ls → ab_vk v) (hn : n0 ≤ ab_nc M) (hs : s0 ≤ (M 999 1).toNat) (hce : ce = ab_ce I b0 (ab_w M k f v) k) (hP : va_P D vwCl ((ab_ws I b0 (ab_nc M) M).set k (b0 + k, ce)) H1) (hS : va_S (ab_A b0) s.heap H1 locs1) : W p l e R s m args below meth c H1 locs1 (ab_nc M - n0) ((M 999 1).toNat - s0) Q (F0 m pc' lc (r.map (ab_cv b0 sa))) := by
  have hn9 := ab_n995 h1
  have e1 : ab_nc (ab_w M k f v) = ab_nc M := ab_w_nc (by omega)
  have e2 : (ab_w M k f v) 999 1 = M 999 1 := by rw [ab_w_ne (by omega)]
  rw [hce, ab_ws_set hk (fun j hj => ab_w_ne hj)] at hP
  have := kk H1 locs1 lc ⟨ab_mok_w h1 hk hv, h2, h3, h4, h5, by rw [e1]; exact hP, hS, by rw [e1]; exact hn, by rw [e2]; exact hs⟩
  rw [e1, e2] at this
  exact this
theorem so_put {idx f : Nat} {x : Int} {u : ab_St} (C : ab_cx p s m args c D I b0 sa L xs nL n0 cc own) (hd : decode cc pc = .ok (.putfield idx, 3)) (hq : ∃ q : ab_FL, q ∈ ab_flt ∧ own = ab_ows.getD q.1 "" ∧ q.2.1 = idx ∧ q.2.2.1 = x ∧ q.2.2.2.1 = f) (hfin : ∀ (t : Nat) (r : vw_C), ab_tg x t → vwCl[t]? = some r → (r.2.1 f).2.2.2 = false ∨ ((r.2.1 f).2.2.2 = true ∧ meth.name = "<init>" ∧ (r.2.1 f).1 = own)) (hu : ab_put f x pc ls st M = some u) (kk : ab_K p l e R s m args below meth c Q D I b0 sa L xs nL n0 s0 u.1 u.2.1 u.2.2.1 u.2.2.2) : ab_K p l e R s m args below meth c Q D I b0 sa L xs nL n0 s0 pc ls st M := by
  obtain ⟨hx, hb, hml, hown, hts, hK, hG, hsz⟩ := C
  have main : ∀ (k : Nat) (r : List ab_V) (v : Int) (w : ab_V), ab_ob M k f x → u = (pc + 3, ls, r, ab_w M k f v) → (∀ (H : Heap) (locs : List Loc) (lc : Array Slot), ab_mok L xs M → ab_rg v ∧ ab_cv b0 sa w = ab_fv b0 (ab_fty (ab_kd k).1 f) v ∧ narrow (ab_ty (ab_kd k).1 f) (ab_cv b0 sa w) = ab_cv b0 sa w ∧ fits (ab_ty (ab_kd k).1 f) (ab_cv b0 sa w) = true ∨ ¬ ab_vk w) → ab_K p l e R s m args below meth c Q D I b0 sa L xs nL n0 s0 pc ls (w :: .inr (.inr k) :: r) M := by
    intro k r v w hob he hw
    obtain ⟨hk, ht, htg, hf⟩ := hob
    obtain ⟨q, hqm, ho, hq1, hq2, hq3⟩ := hq
    subst hq1; subst hq2; subst hq3
    obtain ⟨rr, hr, hfr, hlk, hsm⟩ := ab_fl hqm htg ht
    intro H locs lc h
    obtain ⟨h1, h2, h3, h4, h5, hP, hS, h8, h9⟩ := h
    obtain ⟨hvw, h2⟩ := List.forall_mem_cons.mp h2
    obtain ⟨-, h2⟩ := List.forall_mem_cons.mp h2
    rcases hw H locs lc h1 with ⟨hv, e1, e2, e3⟩ | hno
    · have hn9 := ab_n995 h1
      rw [List.map_cons, List.map_cons, ab_adk (by omega : k < 1000)]
      subst he
      have hty := ab_clty hr hfr
      have hcell : (ab_ws I b0 (ab_nc M) M)[k]? = some (b0 + k, .inr ((ab_kd k).1, ab_fs b0 M k)) := by rw [ab_ws_get hk, ab_ce_obj ht]
      have fin : ∀ (H1 : Heap) (locs1 : List Loc), va_P D vwCl ((ab_ws I b0 (ab_nc M) M).set k (b0 + k, .inr ((ab_kd k).1, (ab_fs b0 M k).set q.2.2.2.1 (ab_cv b0 sa w)))) H1 → va_D (ab_A b0) ((ab_ws I b0 (ab_nc M) M).set k (b0 + k, .inr ((ab_kd k).1, (ab_fs b0 M k).set q.2.2.2.1 (ab_cv b0 sa w)))) → va_S (ab_A b0) s.heap H1 locs1 → W p l e R s m args below meth c H1 locs1 (ab_nc M - n0) ((M 999 1).toNat - s0) Q (F0 m (pc + 3) lc (r.map (ab_cv b0 sa))) := by
        intro H1 locs1 hP1 _ hS1
        refine so_wr hk hv kk h1 h2 h3 h4 h5 h8 h9 ?_ hP1 hS1
        rw [ab_ce_obj ht, ← ab_fs_set hf, e1]
      rcases hfin _ rr htg hr with hf0 | ⟨hf1, hin, hdc⟩
      · exact va_put (T := rr.2.1) (C := rr.1) (N := rr.2.2) hx hb hts (ab_clin _ rr hr) (ab_ty (ab_kd k).1) (fun j hj => (ab_clty hr hj).1) (ab_clnm _ rr hr) hown hK hP ab_D hS k hcell hr q.2.2.2.1 hfr (by rw [ho]; exact hts _ hlk) (ab_hsame hts hsm) hf0 hty.1 e2 e3 (by rw [ab_fs_len]; exact hf) hd fin
      · exact va_putF (T := rr.2.1) (C := rr.1) (N := rr.2.2) hx hb hts (ab_clin _ rr hr) (ab_ty (ab_kd k).1) (fun j hj => (ab_clty hr hj).1) (ab_clnm _ rr hr) hown hK hP ab_D hS k hcell hr q.2.2.2.1 hfr (by rw [ho]; exact hts _ hlk) (ab_hsame hts hsm) hf1 hin hdc hty.1 e2 e3 (by rw [ab_fs_len]; exact hf) hd fin
    · exact absurd hvw hno
  have htyk : ∀ k : Nat, ab_ob M k f x → ab_tyc (ab_fty (ab_kd k).1 f) (ab_ty (ab_kd k).1 f) = true := by
    intro k hob
    obtain ⟨rr, hr, hn⟩ := ab_kdN hob.2.1
    exact (ab_clty hr (by rw [hn]; exact hob.2.2.2)).2
  unfold ab_put at hu
  split at hu
  next v k r =>
    split at hu
    next hc =>
      cases hu
      refine main k r v _ hc.1 rfl (fun H locs lc _ => ?_)
      by_cases hv : ab_rg v
      · left
        have ht := htyk k hc.1
        refine ⟨hv, ?_, ?_⟩
        · unfold ab_fv
          rw [if_neg (by rcases hc.2 with h | h <;> omega)]
          rfl
        · rcases hc.2 with h0 | ⟨h0, h01⟩
          · rw [h0] at ht
            revert ht
            cases hty : ab_ty (ab_kd k).1 f <;> intro ht <;> first | (cases ht; done) | exact ⟨rfl, rfl⟩
          · rw [h0] at ht
            revert ht
            cases hty : ab_ty (ab_kd k).1 f <;> intro ht <;> first | (cases ht; done) | (rcases h01 with rfl | rfl <;> exact ⟨rfl, rfl⟩)
      · right
        exact hv
    next => cases hu
  next j k r =>
    split at hu
    next hc =>
      cases hu
      refine main k r j _ hc.1 rfl (fun H locs lc hm => ?_)
      left
      have ht := htyk k hc.1
      have hn9 := ab_n995 hm
      obtain ⟨hob, h2, hj⟩ := hc
      refine ⟨⟨by omega, by omega⟩, ?_, ?_⟩
      · rw [ab_adk (by omega)]
        unfold ab_fv
        rw [if_pos h2, if_neg (by omega)]
        rfl
      · rw [h2] at ht
        revert ht
        cases hty : ab_ty (ab_kd k).1 f <;> intro ht <;> first | (cases ht; done) | exact ⟨rfl, rfl⟩
    next => cases hu
  next => cases hu
theorem iv_ald {t : Nat} {u : ab_St} (hu : ab_ald t pc ls st M = some u) : ∃ i k r, st = .inl i :: .inr (.inr k) :: r ∧
    ((k < 1000 ∧ ab_ar M t k i ∧ ((t = 24 ∧ 0 ≤ M k i.toNat ∧ M k i.toNat < 1000 ∧ u = (pc + 1, ls, .inr (.inr (M k i.toNat).toNat) :: r, M)) ∨ (t ≠ 24 ∧ u = (pc + 1, ls, .inl (M k i.toNat) :: r, M)))) ∨
     (k = 1000 ∧ t = 20 ∧ 0 ≤ i ∧ i < M 999 2 ∧ u = (pc + 1, ls, .inl (M 1000 i.toNat) :: r, M)) ∨
     (1000 < k ∧ ((t = 20 ∧ k < 1004) ∨ (t = 21 ∧ k = 1005)) ∧ 0 ≤ i ∧ i < (ab_stt k).length ∧ u = (pc + 1, ls, .inl ((ab_stt k).getD i.toNat 0) :: r, M))) := by
  unfold ab_ald at hu
  split at hu
  next i k r =>
    refine ⟨i, k, r, rfl, ?_⟩
    split at hu
    next h1 =>
      left
      split at hu
      next h2 =>
        refine ⟨h1, h2, ?_⟩
        split at hu
        next h3 =>
          split at hu
          next h4 => cases hu; exact Or.inl ⟨h3, h4.1, h4.2, rfl⟩
          next => cases hu
        next h3 => cases hu; exact Or.inr ⟨h3, rfl⟩
      next => cases hu
    next h1 =>
      split at hu
      next h2 =>
        split at hu
        next h3 => cases hu; exact Or.inr (Or.inl ⟨h2, h3.1, h3.2.1, h3.2.2, rfl⟩)
        next => cases hu
      next h2 =>
        split at hu
        next h3 => cases hu; exact Or.inr (Or.inr ⟨by omega, h3.1, h3.2.1, h3.2.2, rfl⟩)
        next => cases hu
  next => cases hu
theorem so_iald {u : ab_St} (C : ab_cx p s m args c D I b0 sa L xs nL n0 cc own) (hd : decode cc pc = .ok (.iaload, 1)) (hu : ab_ald 20 pc ls st M = some u) (kk : ab_K p l e R s m args below meth c Q D I b0 sa L xs nL n0 s0 u.1 u.2.1 u.2.2.1 u.2.2.2) : ab_K p l e R s m args below meth c Q D I b0 sa L xs nL n0 s0 pc ls st M := by
  obtain ⟨hx, hb, hml, hown, hts, hK, hG, hsz⟩ := C
  obtain ⟨i, k, r, rfl, hc⟩ := iv_ald hu
  intro H locs lc h
  obtain ⟨h1, h2, h3, h4, h5, hP, hS, h8⟩ := h
  obtain ⟨hvi, h2⟩ := List.forall_mem_cons.mp h2
  obtain ⟨-, h2⟩ := List.forall_mem_cons.mp h2
  have hvi : ab_rg i := hvi
  have hn9 := ab_n995 h1
  have fin : ∀ z : Int, ab_rg z → u = (pc + 1, ls, .inl z :: r, M) → W p l e R s m args below meth c H locs (ab_nc M - n0) ((M 999 1).toNat - s0) Q (F0 m (pc + 1) lc (.int (Int32.ofInt z) :: r.map (ab_cv b0 sa))) := by
    intro z hz he
    subst he
    exact kk H locs lc ⟨h1, List.forall_mem_cons.mpr ⟨hz, h2⟩, h3, h4, h5, hP, hS, h8⟩
  rcases hc with ⟨hk, ⟨ha1, ha2, ha3, ha4⟩, (⟨h24, -⟩ | ⟨-, he⟩)⟩ | ⟨rfl, -, ha3, ha4, he⟩ | ⟨hk, hk2, ha3, ha4, he⟩
  · cases h24
  · rw [List.map_cons, List.map_cons, ab_adk hk]
    refine va_iald hx hb hK hP k 0 (cA := I.1) (n := (ab_kd k).2) (f := ab_is M k) (by rw [ab_ws_get ha1]; unfold ab_ce; rw [if_pos ha2]) rfl (ab_in32 hvi ha3 ha4) hd ?_
    have := fin _ (h1.1 k i.toNat (by omega)) he
    show W p l e R s m args below meth c _ _ _ _ _ (F0 m (pc + 1) lc (.int (Int32.ofInt (M k (Int32.ofInt i).toNatClampNeg)) :: _))
    rw [ab_cl32 hvi]
    exact this
  · rw [List.map_cons, List.map_cons, ab_ads (by omega)]
    obtain ⟨⟨hX, hbl, hbb⟩, -⟩ := hG
    have hL : M 999 2 = L := h1.2.2.2.2.1
    refine va_sld hx hb hX hbl (Nat.not_le.mpr hbb) hS (ab_in32 hvi ha3 (by omega)) hd ?_
    have e1 := h1.2.2.2.2.2.2 i.toNat (by omega)
    have := fin _ (by rw [e1]; exact ab_rgz _) he
    rw [e1, Int32.ofInt_toInt] at this
    rw [ab_cl32 hvi]
    exact this
  · rw [List.map_cons, List.map_cons, ab_ads (by omega)]
    have key : ∃ N, va_T .int (sa k) N (ab_si k) (ab_A b0) s s.heap ∧ (ab_stt k).length = N ∧ ∀ j, ab_rg ((ab_stt k).getD j 0) := by
      have h3c : k = 1001 ∨ k = 1002 ∨ k = 1003 := by rcases hk2 with ⟨-, h⟩ | ⟨h, -⟩ <;> omega
      have rgl : ∀ l : List Int, l.all (fun z => decide (ab_rg z)) = true → ∀ j, ab_rg (l.getD j 0) := by
        intro l hl j
        rw [List.getD_eq_getElem?_getD]
        cases hj : l[j]? with
        | none => exact ab_rg0
        | some z => exact of_decide_eq_true (List.all_eq_true.mp hl z (List.mem_of_getElem? hj))
      rcases h3c with rfl | rfl | rfl
      · exact ⟨7, hG.2.1.1, rfl, rgl _ (by decide)⟩
      · exact ⟨7, hG.2.1.2.1, rfl, rgl _ (by decide)⟩
      · exact ⟨4, hG.2.1.2.2, rfl, rgl _ (by decide)⟩
    obtain ⟨N, hT, hN, hr⟩ := key
    refine va_ti hx hb hT hS (ab_in32 hvi ha3 (by omega)) rfl hd ?_
    have := fin _ (hr i.toNat) he
    unfold ab_si
    rw [ab_cl32 hvi]
    exact this
theorem so_bald {u : ab_St} (C : ab_cx p s m args c D I b0 sa L xs nL n0 cc own) (hd : decode cc pc = .ok (.baload, 1)) (hu : ab_ald 21 pc ls st M = some u) (kk : ab_K p l e R s m args below meth c Q D I b0 sa L xs nL n0 s0 u.1 u.2.1 u.2.2.1 u.2.2.2) : ab_K p l e R s m args below meth c Q D I b0 sa L xs nL n0 s0 pc ls st M := by
  obtain ⟨hx, hb, hml, hown, hts, hK, hG, hsz⟩ := C
  obtain ⟨i, k, r, rfl, hc⟩ := iv_ald hu
  intro H locs lc h
  obtain ⟨h1, h2, h3, h4, h5, hP, hS, h8⟩ := h
  obtain ⟨hvi, h2⟩ := List.forall_mem_cons.mp h2
  obtain ⟨-, h2⟩ := List.forall_mem_cons.mp h2
  have hvi : ab_rg i := hvi
  have hn9 := ab_n995 h1
  have fin : ∀ z : Int, ab_rg z → u = (pc + 1, ls, .inl z :: r, M) → W p l e R s m args below meth c H locs (ab_nc M - n0) ((M 999 1).toNat - s0) Q (F0 m (pc + 1) lc (.int (Int32.ofInt z) :: r.map (ab_cv b0 sa))) := by
    intro z hz he
    subst he
    exact kk H locs lc ⟨h1, List.forall_mem_cons.mpr ⟨hz, h2⟩, h3, h4, h5, hP, hS, h8⟩
  rcases hc with ⟨hk, ⟨ha1, ha2, ha3, ha4⟩, (⟨h24, -⟩ | ⟨-, he⟩)⟩ | ⟨rfl, h20, ha3, ha4, he⟩ | ⟨hk, hk2, ha3, ha4, he⟩
  · cases h24
  · rw [List.map_cons, List.map_cons, ab_adk hk]
    refine va_zald hx hb hK hP k 1 (cA := I.2.1) (n := (ab_kd k).2) (f := ab_is M k) (by rw [ab_ws_get ha1]; unfold ab_ce; rw [if_neg (by omega), if_pos ha2]) rfl (ab_in32 hvi ha3 ha4) hd ?_
    have := fin _ (h1.1 k i.toNat (by omega)) he
    show W p l e R s m args below meth c _ _ _ _ _ (F0 m (pc + 1) lc (.int (Int32.ofInt (M k (Int32.ofInt i).toNatClampNeg)) :: _))
    rw [ab_cl32 hvi]
    exact this
  · cases h20
  · obtain ⟨h20, -⟩ | ⟨-, rfl⟩ := hk2
    · cases h20
    · rw [List.map_cons, List.map_cons, ab_ads (by omega)]
      have hT := (hG.2.2.2.1.2.1 0 (by decide)).2.2.2
      have hlen : (ab_stt 1005).length = 7 := rfl
      refine va_tb hx hb hT hS (ab_in32 hvi ha3 (by show i < 7; omega)) rfl hd ?_
      have hj : i.toNat < 7 := by omega
      rw [ab_cl32 hvi]
      generalize i.toNat = j at hj he
      have hz : ab_rg ((ab_stt 1005).getD j 0) ∧ Int32.ofInt ((ab_stt 1005).getD j 0) = (([[116, 119, 112, 100, 114, 113, 111]] : List (List Int32)).getD 0 []).getD j 0 := by
        have : j = 0 ∨ j = 1 ∨ j = 2 ∨ j = 3 ∨ j = 4 ∨ j = 5 ∨ j = 6 := by omega
        rcases this with rfl | rfl | rfl | rfl | rfl | rfl | rfl <;> exact ⟨by decide, by decide⟩
      have := fin _ hz.1 he
      rw [hz.2] at this
      exact this
theorem so_cald {u : ab_St} (C : ab_cx p s m args c D I b0 sa L xs nL n0 cc own) (hd : decode cc pc = .ok (.caload, 1)) (hu : ab_ald 22 pc ls st M = some u) (kk : ab_K p l e R s m args below meth c Q D I b0 sa L xs nL n0 s0 u.1 u.2.1 u.2.2.1 u.2.2.2) : ab_K p l e R s m args below meth c Q D I b0 sa L xs nL n0 s0 pc ls st M := by
  obtain ⟨hx, hb, hml, hown, hts, hK, hG, hsz⟩ := C
  obtain ⟨i, k, r, rfl, hc⟩ := iv_ald hu
  intro H locs lc h
  obtain ⟨h1, h2, h3, h4, h5, hP, hS, h8⟩ := h
  obtain ⟨hvi, h2⟩ := List.forall_mem_cons.mp h2
  obtain ⟨-, h2⟩ := List.forall_mem_cons.mp h2
  have hvi : ab_rg i := hvi
  have hn9 := ab_n995 h1
  rcases hc with ⟨hk, ⟨ha1, ha2, ha3, ha4⟩, (⟨h24, -⟩ | ⟨-, he⟩)⟩ | ⟨rfl, h20, ha3, ha4, he⟩ | ⟨hk, hk2, ha3, ha4, he⟩
  · cases h24
  · rw [List.map_cons, List.map_cons, ab_adk hk]
    refine va_cald hx hb hK hP k 2 (cA := I.2.2.1) (n := (ab_kd k).2) (f := ab_is M k) (by rw [ab_ws_get ha1]; unfold ab_ce; rw [if_neg (by omega), if_neg (by omega), if_pos ha2]) rfl (ab_in32 hvi ha3 ha4) hd ?_
    show W p l e R s m args below meth c _ _ _ _ _ (F0 m (pc + 1) lc (.int (Int32.ofInt (M k (Int32.ofInt i).toNatClampNeg)) :: _))
    rw [ab_cl32 hvi]
    subst he
    exact kk H locs lc ⟨h1, List.forall_mem_cons.mpr ⟨h1.1 k i.toNat (by omega), h2⟩, h3, h4, h5, hP, hS, h8⟩
  · cases h20
  · rcases hk2 with ⟨h20, -⟩ | ⟨h20, -⟩ <;> cases h20
theorem so_aald {u : ab_St} (C : ab_cx p s m args c D I b0 sa L xs nL n0 cc own) (hd : decode cc pc = .ok (.aaload, 1)) (hu : ab_ald 24 pc ls st M = some u) (kk : ab_K p l e R s m args below meth c Q D I b0 sa L xs nL n0 s0 u.1 u.2.1 u.2.2.1 u.2.2.2) : ab_K p l e R s m args below meth c Q D I b0 sa L xs nL n0 s0 pc ls st M := by
  obtain ⟨hx, hb, hml, hown, hts, hK, hG, hsz⟩ := C
  obtain ⟨i, k, r, rfl, hc⟩ := iv_ald hu
  intro H locs lc h
  obtain ⟨h1, h2, h3, h4, h5, hP, hS, h8⟩ := h
  obtain ⟨hvi, h2⟩ := List.forall_mem_cons.mp h2
  obtain ⟨-, h2⟩ := List.forall_mem_cons.mp h2
  have hvi : ab_rg i := hvi
  have hn9 := ab_n995 h1
  rcases hc with ⟨hk, ⟨ha1, ha2, ha3, ha4⟩, (⟨-, hp, hp2, he⟩ | ⟨h24, -⟩)⟩ | ⟨rfl, h20, ha3, ha4, he⟩ | ⟨hk, hk2, ha3, ha4, he⟩
  · rw [List.map_cons, List.map_cons, ab_adk hk]
    have hcell : (ab_ws I b0 (ab_nc M) M)[k]? = some (b0 + k, .inl (I.2.2.2, (ab_kd k).2, .inr (.inr (.inr (.inr (ab_gr b0 M k)))))) := by
      rw [ab_ws_get ha1]; unfold ab_ce; rw [if_neg (by omega), if_neg (by omega), if_neg (by omega), if_pos ha2]
    have hin := ab_in32 hvi ha3 ha4
    have hlt : (Int32.ofInt i).toNatClampNeg < (ab_kd k).2 := by rw [ab_cl32 hvi]; omega
    refine W.aald (v := va_rf (ab_gr b0 M k (Int32.ofInt i).toNatClampNeg)) (ty := .array .int) hx hb (hP k _ hcell) ((hK.2 3 _ rfl).1 _ (fun j => va_rf (ab_gr b0 M k j))) rfl (fun q => by cases q) (by show ¬ (_ < 0 ∨ (arrV _ _ _).slots.size ≤ _); rw [arrV_size]; exact hin) (by show (arrV _ _ _).slots[_]? = _; rw [arrV_read _ _ hlt]) rfl rfl hd ?_
    subst he
    have e1 : va_rf (ab_gr b0 M k (Int32.ofInt i).toNatClampNeg) = ab_cv b0 sa (.inr (.inr (M k i.toNat).toNat)) := by
      rw [ab_cl32 hvi, ab_adk (by omega)]
      unfold ab_gr
      rw [if_neg (by omega)]
      rfl
    rw [e1]
    exact kk H locs lc ⟨h1, List.forall_mem_cons.mpr ⟨trivial, h2⟩, h3, h4, h5, hP, hS, h8⟩
  · exact absurd rfl h24
  · cases h20
  · rcases hk2 with ⟨h20, -⟩ | ⟨h20, -⟩ <;> cases h20
theorem iv_ast {t : Nat} {u : ab_St} (hu : ab_ast t pc ls st M = some u) : ∃ v i k r, st = .inl v :: .inl i :: .inr (.inr k) :: r ∧ ab_ar M t k i ∧ (t = 21 → v = 0 ∨ v = 1) ∧ (t = 22 → 0 ≤ v ∧ v < 65536) ∧ u = (pc + 1, ls, r, ab_w M k i.toNat v) := by
  unfold ab_ast at hu
  split at hu
  next v i k r =>
    split at hu
    next h => cases hu; exact ⟨v, i, k, r, rfl, h.1, h.2.1, h.2.2, rfl⟩
    next => cases hu
  next => cases hu
theorem ab_is_w {k j : Nat} {v : Int} : upd (ab_is M k) j (Int32.ofInt v) = ab_is (ab_w M k j v) k := by
  funext q
  unfold upd ab_is ab_w
  by_cases h : q = j
  · rw [if_pos h, if_pos ⟨rfl, h⟩]
  · rw [if_neg h, if_neg (fun z => h z.2)]
theorem so_ast {i0 : Instr} {t : Nat} {u : ab_St} (C : ab_cx p s m args c D I b0 sa L xs nL n0 cc own) (hd : decode cc pc = .ok (i0, 1)) (hi0 : (t = 20 ∧ i0 = .iastore) ∨ (t = 21 ∧ i0 = .bastore) ∨ (t = 22 ∧ i0 = .castore)) (hu : ab_ast t pc ls st M = some u) (kk : ab_K p l e R s m args below meth c Q D I b0 sa L xs nL n0 s0 u.1 u.2.1 u.2.2.1 u.2.2.2) : ab_K p l e R s m args below meth c Q D I b0 sa L xs nL n0 s0 pc ls st M := by
  obtain ⟨hx, hb, hml, hown, hts, hK, hG, hsz⟩ := C
  obtain ⟨v, i, k, r, rfl, ⟨ha1, ha2, ha3, ha4⟩, hz, hc, rfl⟩ := iv_ast hu
  intro H locs lc h
  obtain ⟨h1, h2, h3, h4, h5, hP, hS, h8, h9⟩ := h
  obtain ⟨hvv, h2⟩ := List.forall_mem_cons.mp h2
  obtain ⟨hvi, h2⟩ := List.forall_mem_cons.mp h2
  obtain ⟨-, h2⟩ := List.forall_mem_cons.mp h2
  have hvi : ab_rg i := hvi
  have hvv : ab_rg v := hvv
  have hn9 := ab_n995 h1
  have hin := ab_in32 hvi ha3 ha4
  rw [List.map_cons, List.map_cons, List.map_cons, ab_adk (by omega : k < 1000)]
  rcases hi0 with ⟨rfl, rfl⟩ | ⟨rfl, rfl⟩ | ⟨rfl, rfl⟩
  · refine va_iast hx hb hK hP ab_D hS k 0 (cA := I.1) (n := (ab_kd k).2) (f := ab_is M k) (by rw [ab_ws_get ha1]; unfold ab_ce; rw [if_pos ha2]) rfl hin hd (fun H1 locs1 hP1 _ hS1 => ?_)
    refine so_wr ha1 hvv kk h1 h2 h3 h4 h5 h8 h9 ?_ hP1 hS1
    rw [ab_cl32 hvi, ab_is_w]
    unfold ab_ce
    rw [if_pos ha2]
  · have hv : vp_nar .boolean (Int32.ofInt v) = Int32.ofInt v := by rcases hz rfl with rfl | rfl <;> rfl
    refine va_zast hx hb hK hP ab_D hS k 1 (cA := I.2.1) (n := (ab_kd k).2) (f := ab_is M k) (by rw [ab_ws_get ha1]; unfold ab_ce; rw [if_neg (by omega), if_pos ha2]) rfl hin hd (fun H1 locs1 hP1 _ hS1 => ?_)
    refine so_wr ha1 hvv kk h1 h2 h3 h4 h5 h8 h9 ?_ hP1 hS1
    rw [hv, ab_cl32 hvi, ab_is_w]
    unfold ab_ce
    rw [if_neg (by omega), if_pos ha2]
  · have hv : vp_nar .char (Int32.ofInt v) = Int32.ofInt v := by
      obtain ⟨q, rfl⟩ := Int.eq_ofNat_of_zero_le (hc rfl).1
      have e : Int32.ofInt (q : Int) = nI q := Int32.ofInt_eq_ofNat
      rw [e]
      unfold vp_nar
      rw [(pk_charN (by have := (hc rfl).2; omega)).1]
    refine va_cast hx hb hK hP ab_D hS k 2 (cA := I.2.2.1) (n := (ab_kd k).2) (f := ab_is M k) (by rw [ab_ws_get ha1]; unfold ab_ce; rw [if_neg (by omega), if_neg (by omega), if_pos ha2]) rfl hin hd (fun H1 locs1 hP1 _ hS1 => ?_)
    refine so_wr ha1 hvv kk h1 h2 h3 h4 h5 h8 h9 ?_ hP1 hS1
    rw [hv, ab_cl32 hvi, ab_is_w]
    unfold ab_ce
    rw [if_neg (by omega), if_neg (by omega), if_pos ha2]
theorem so_len {u : ab_St} (C : ab_cx p s m args c D I b0 sa L xs nL n0 cc own) (hd : decode cc pc = .ok (.arraylength, 1)) (hu : ab_len pc ls st M = some u) (kk : ab_K p l e R s m args below meth c Q D I b0 sa L xs nL n0 s0 u.1 u.2.1 u.2.2.1 u.2.2.2) : ab_K p l e R s m args below meth c Q D I b0 sa L xs nL n0 s0 pc ls st M := by
  obtain ⟨hx, hb, hml, hown, hts, hK, hG, hsz⟩ := C
  unfold ab_len at hu
  split at hu
  next k r =>
    intro H locs lc h
    obtain ⟨h1, h2, h3, h4, h5, hP, hS, h8⟩ := h
    obtain ⟨-, h2⟩ := List.forall_mem_cons.mp h2
    have hn9 := ab_n995 h1
    split at hu
    next hk =>
      split at hu
      next hc =>
        cases hu
        rw [List.map_cons, ab_adk hk]
        have hlen : (ab_kd k).2 < 1000 := by
          by_cases hk2 : k < 132
          · have h0 : (List.range 132).all (fun k => decide ((ab_kd k).2 < 1000)) = true := by decide +kernel
            exact of_decide_eq_true (List.all_eq_true.mp h0 k (List.mem_range.mpr hk2))
          · have : ab_kd k = (99, 0) := by
              unfold ab_kd
              rw [List.getD_eq_getElem?_getD, List.getElem?_eq_none (by show ab_kds.length ≤ k; have : ab_kds.length = 132 := by decide +kernel
                                                                        omega)]
              rfl
            rw [this]; decide
        have kf := kk H locs lc ⟨h1, List.forall_mem_cons.mpr ⟨(⟨by omega, by omega⟩ : ab_rg ((ab_kd k).2 : Int)), h2⟩, h3, h4, h5, hP, hS, h8⟩
        have e : Int32.ofNat (ab_kd k).2 = Int32.ofInt ((ab_kd k).2 : Int) := Int32.ofInt_eq_ofNat.symm
        have h4c : (ab_kd k).1 = 20 ∨ (ab_kd k).1 = 21 ∨ (ab_kd k).1 = 22 ∨ (ab_kd k).1 = 24 ∨ (ab_kd k).1 = 23 := by omega
        rcases h4c with ht | ht | ht | ht | ht
        · exact va_alen hx hb hK hP k 0 (cA := I.1) (x := ((ab_kd k).2, .inl (ab_is M k))) (by rw [ab_ws_get hc.1]; unfold ab_ce; rw [if_pos ht]) (ty := .int) rfl e hd kf
        · exact va_alen hx hb hK hP k 1 (cA := I.2.1) (x := ((ab_kd k).2, .inl (ab_is M k))) (by rw [ab_ws_get hc.1]; unfold ab_ce; rw [if_neg (by omega), if_pos ht]) (ty := .boolean) rfl e hd kf
        · exact va_alen hx hb hK hP k 2 (cA := I.2.2.1) (x := ((ab_kd k).2, .inl (ab_is M k))) (by rw [ab_ws_get hc.1]; unfold ab_ce; rw [if_neg (by omega), if_neg (by omega), if_pos ht]) (ty := .char) rfl e hd kf
        · exact va_alen hx hb hK hP k 3 (cA := I.2.2.2) (x := ((ab_kd k).2, .inr (.inr (.inr (.inr (ab_gr b0 M k)))))) (by rw [ab_ws_get hc.1]; unfold ab_ce; rw [if_neg (by omega), if_neg (by omega), if_neg (by omega), if_pos ht]) (ty := .array .int) rfl e hd kf
        · exfalso
          have hk2 : k < 132 := by
            by_cases hk2 : k < 132
            · exact hk2
            · have : ab_kd k = (99, 0) := by
                unfold ab_kd
                rw [List.getD_eq_getElem?_getD, List.getElem?_eq_none (by show ab_kds.length ≤ k; have : ab_kds.length = 132 := by decide +kernel
                                                                          omega)]
                rfl
              rw [this] at ht; cases ht
          have h0 : (List.range 132).all (fun k => !decide ((ab_kd k).1 = 23)) = true := by decide +kernel
          have := List.all_eq_true.mp h0 k (List.mem_range.mpr hk2)
          simp [ht] at this
      next => cases hu
    next hk =>
      split at hu
      next hk2 =>
        cases hu
        rw [List.map_cons, ab_ads hk, hk2]
        obtain ⟨⟨hX, hbl, hbb⟩, -⟩ := hG
        have hL : M 999 2 = L := h1.2.2.2.2.1
        have hL3 := h1.2.2.2.2.2.1
        refine va_slen hx hb hX hbl (Nat.not_le.mpr hbb) hS hd ?_
        have := kk H locs lc ⟨h1, List.forall_mem_cons.mpr ⟨(⟨by omega, by omega⟩ : ab_rg (M 999 2)), h2⟩, h3, h4, h5, hP, hS, h8⟩
        rw [hL] at this
        have e : Int32.ofNat L = Int32.ofInt (L : Int) := Int32.ofInt_eq_ofNat.symm
        rw [e]
        exact this
      next hk2 =>
        split at hu
        next hk3 =>
          cases hu
          rw [List.map_cons, ab_ads hk, hk3]
          have hT := (hG.2.2.2.1.2.1 0 (by decide)).2.2.2
          exact va_tlen hx hb hT hS (v := Int32.ofInt 7) (by rfl) hd (kk H locs lc ⟨h1, List.forall_mem_cons.mpr ⟨(by decide : ab_rg 7), h2⟩, h3, h4, h5, hP, hS, h8⟩)
        next => cases hu
  next => cases hu
end SO4
