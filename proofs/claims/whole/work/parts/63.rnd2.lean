/-! the class walks through all rounds -/
def rd_hm (t : Nat) (A : ab_M) (i : Nat) : Int := A (t + 17) (A (t + 19) i).toNat
def rd_end (t : Nat) (A : ab_M) (i : Nat) (sq mn : Int) : Int :=
  if A (t + 10 + sq.toNat) (rd_hm t A i).toNat = -1 then -1 else if A (t + 21) i < mn + A (t + 10 + sq.toNat) (rd_hm t A i).toNat + A (t + 20) i then -1 else mn + A (t + 10 + sq.toNat) (rd_hm t A i).toNat + A (t + 20) i
def rd_H (t : Nat) (A : ab_M) (sq mn : Int) : rd_HH := (rd_hm t A, rd_end t A, sq, mn)
abbrev rd_nd (t : Nat) (A : ab_M) : Nat := (A t 3).toNat
theorem hm_rg {t : Nat} {A : ab_M} (h : pu_inv t A) {i : Nat} (hi : i < rd_nd t A) : 0 ≤ rd_hm t A i ∧ rd_hm t A i < A t 0 := by
  obtain ⟨_, t2, t3, _, _, _, t7, t8, _⟩ := h.2.1
  have a := t8 i (by unfold rd_nd at hi; omega)
  have b := t7 (A (t + 19) i).toNat (by omega)
  exact ⟨b.1, b.2.1⟩
theorem end_rg {t : Nat} {A : ab_M} (h : pu_inv t A) {i : Nat} (hi : i < rd_nd t A) {sq mn : Int} (hs : 0 ≤ sq ∧ sq < A t 0) (hm : 0 ≤ mn) (he : rd_end t A i sq mn ≠ -1) : mn < rd_end t A i sq mn ∧ rd_end t A i sq mn ≤ 999 := by
  obtain ⟨t1, t2, t3, _, _, _, t7, t8, _⟩ := h.2.1
  have a := t8 i (by unfold rd_nd at hi; omega)
  have b := hm_rg h hi
  have gg := h.2.2.2.1 sq.toNat (rd_hm t A i).toNat (by omega) (by omega) (by omega) (by omega)
  unfold rd_end at he ⊢
  by_cases c : A (t + 10 + sq.toNat) (rd_hm t A i).toNat = -1
  · rw [if_pos c] at he; exact absurd rfl he
  · rw [if_neg c] at he ⊢
    by_cases c2 : A (t + 21) i < mn + A (t + 10 + sq.toNat) (rd_hm t A i).toNat + A (t + 20) i
    · rw [if_pos c2] at he; exact absurd rfl he
    · rw [if_neg c2]; omega
theorem s59a {d t : Nat} {A M : ab_M} (hd : 2 ≤ d) (h : pu_at t A M) (i : Nat) (hi : i < rd_nd t A) : ab_ev d 59 [.inr (.inr t), .inl (i : Int)] M (some (.inl (rd_hm t A i))) M := by
  have ht : t = 5 ∨ t = 37 := h.2.1.2.2.1
  obtain ⟨_, t2, t3, _, _, _, t7, t8, _⟩ := h.1.2.1
  unfold rd_nd at hi
  have a := t8 i (by omega)
  have r2 : M t 2 = A t 2 := at_r h t 2 (by omega)
  have r3 : M t 3 = A t 3 := at_r h t 3 (by omega)
  have r4 : M (t + 19) i = A (t + 19) i := at_t h 19 i (by omega)
  have w := s59 hd h.2.1 h.2.1.2.2.1 (by omega) (by omega) (i : Int) (by omega) (by rw [Int.toNat_natCast, r4]; omega)
  rw [Int.toNat_natCast, r4, at_t h 17 _ (by omega)] at w
  exact w
theorem s63 {d t : Nat} {A M : ab_M} (hd : 3 ≤ d) (h : pu_at t A M) (i : Nat) (hi : i < rd_nd t A) {sq mn : Int} (hs : 0 ≤ sq ∧ sq < A t 0) (hm : 0 ≤ mn ∧ mn ≤ 97000) : ab_ev d 63 [.inr (.inr t), .inl (i : Int), .inl sq, .inl mn] M (some (.inl (rd_end t A i sq mn))) M := by
  have ht : t = 5 ∨ t = 37 := h.2.1.2.2.1
  have b := hm_rg h.1 hi
  obtain ⟨t1, t2, t3, _, _, _, t7, t8, _⟩ := h.1.2.1
  have gg := h.1.2.2.2.1 sq.toNat (rd_hm t A i).toNat (by omega) (by omega) (by omega) (by omega)
  have a := t8 i (by unfold rd_nd at hi; omega)
  have r0 : M t 0 = A t 0 := at_r h t 0 (by omega)
  have r3 : M t 3 = A t 3 := at_r h t 3 (by omega)
  have w58 := s58 (d := d - 1) (by omega) h.2.1 h.2.1.2.2.1 (by omega) sq (rd_hm t A i)
  rw [if_pos (by omega), show t + 10 + sq.toNat = t + (10 + sq.toNat) from by omega, at_t h (10 + sq.toNat) _ (by omega), show t + (10 + sq.toNat) = t + 10 + sq.toNat from by omega] at w58
  have w54 := s54 (d := d - 1) (by omega) h.2.1 h.2.1.2.2.1 (i : Int)
  rw [if_pos (by unfold rd_nd at hi; omega)] at w54
  refine ev_wp (b63_0 (by omega) h.2.1 h.2.1.2.2.1 ⟨_, _, s59a (by omega) h i hi, h.2.1, _, _, w58, h.2.1, fun q => ⟨?_, rfl⟩, fun q => ⟨_, _, w54, h.2.1, fun _ => ?_, fun q => by omega⟩⟩)
  · unfold rd_end
    rw [if_pos q]
  · rw [Int.toNat_natCast, at_t h 20 i (by omega), at_t h 21 i (by omega)]
    unfold rd_nd at hi
    refine ⟨by omega, by omega, by omega, fun z => ⟨?_, rfl⟩, fun z => ⟨?_, rfl⟩⟩
    · unfold rd_end
      rw [if_neg q, if_neg (by omega)]
    · unfold rd_end
      rw [if_neg q, if_pos z]
/-- the row that a walk holds -/
def rd_rf (g : Nat) (H : rd_HH) (row : List Nat) (M : ab_M) : Prop := (∀ k : Nat, k < row.length → M (g + 1) k = ((row.getD k 0 : Nat) : Int)) ∧ (∀ i : Nat, i < 6 → M (g + 2) i = rd_ea H row i)
theorem getD_l {r : List Nat} {i k : Nat} (h : k < r.length) : (r ++ [i]).getD k 0 = r.getD k 0 := by
  simp [List.getD_eq_getElem?_getD, List.getElem?_append, h]
theorem getD_e (r : List Nat) (i : Nat) : (r ++ [i]).getD r.length 0 = i := by
  simp [List.getD_eq_getElem?_getD]
theorem G_na {g : Nat} (h : pu_G g) : pu_na (g + 1) = true ∧ pu_na (g + 2) = true := by
  rcases h with h | h | h | h <;> (subst h; exact ⟨rfl, rfl⟩)
theorem range_fm (F : Nat → List (List Nat)) (i : Nat) : (List.range (i + 1)).flatMap F = (List.range i).flatMap F ++ F i := by
  rw [List.range_succ, List.flatMap_append]
  simp
theorem range_le (F : Nat → List (List Nat)) {n : Nat} : ∀ i, i ≤ n → ((List.range i).flatMap F).length ≤ ((List.range n).flatMap F).length := by
  refine loop_up (P := fun i => ((List.range i).flatMap F).length ≤ ((List.range n).flatMap F).length) n (Nat.le_refl _) ?_
  intro i _ ih
  rw [range_fm, List.length_append] at ih
  omega
theorem go_on {t g : Nat} {A : ab_M} {sq0 mn0 : Int} (hg : pu_G g) (hA : pu_inv t A) (N : Nat) (I : List (List Nat) → ab_M → Prop)
    (hI : ∀ L M c f v, (c = g + 1 ∨ c = g + 2) → I L M → I L (ab_w M c f v))
    (hmeet : ∀ (d : Nat) L M row, 5 ≤ d → L.length < N → pu_at t A M → row.length ≤ 6 → (∀ i, i ∈ row → i < rd_nd t A) → (0 ≤ rd_mn (rd_H t A sq0 mn0) row ∧ rd_mn (rd_H t A sq0 mn0) row ≤ 97000) → rd_rf g (rd_H t A sq0 mn0) row M → I L M → ∃ M', ab_ev d (ab_meet (ab_kd g).1) [.inr (.inr g), .inr (.inr t), .inl ((row.length : Nat) : Int), .inl (rd_mn (rd_H t A sq0 mn0) row)] M none M' ∧ pu_at t A M' ∧ rd_rf g (rd_H t A sq0 mn0) row M' ∧ I (L ++ [row]) M') :
    ∀ (f d left : Nat) L row M, 6 + f ≤ d → L.length + (rd_dfs (rd_H t A sq0 mn0) (rd_nd t A) f left row).length ≤ N → row.length + f = 6 → left < 64 → pu_at t A M → (∀ i, i ∈ row → i < rd_nd t A) → (0 ≤ rd_mn (rd_H t A sq0 mn0) row ∧ rd_mn (rd_H t A sq0 mn0) row ≤ 97000) → (0 < rd_nd t A → 0 ≤ rd_sq (rd_H t A sq0 mn0) row ∧ rd_sq (rd_H t A sq0 mn0) row < A t 0) → rd_rf g (rd_H t A sq0 mn0) row M → (∀ i, left.testBit i = true → rd_ea (rd_H t A sq0 mn0) row i = -1) → I L M →
      ∃ M', ab_ev d 39 [.inr (.inr g), .inr (.inr t), .inl (left : Int), .inl (rd_sq (rd_H t A sq0 mn0) row), .inl (rd_mn (rd_H t A sq0 mn0) row), .inl ((row.length : Nat) : Int)] M none M' ∧ pu_at t A M' ∧ rd_rf g (rd_H t A sq0 mn0) row M' ∧ I (L ++ rd_dfs (rd_H t A sq0 mn0) (rd_nd t A) f left row) M' := by
  have ht : t = 5 ∨ t = 37 := hA.1.2.2.1
  have hg' : g = 78 ∨ g = 82 ∨ g = 86 ∨ g = 90 := hg
  have t3 := hA.2.1.2.2.1
  obtain ⟨na1, na2⟩ := G_na hg
  obtain ⟨H, eH⟩ : ∃ H, H = rd_H t A sq0 mn0 := ⟨_, rfl⟩
  have eE : ∀ i sq mn, H.2.1 i sq mn = rd_end t A i sq mn := by intro i sq mn; rw [eH]; rfl
  have eM : ∀ i, H.1 i = rd_hm t A i := by intro i; rw [eH]; rfl
  rw [← eH] at hmeet ⊢
  intro f
  induction f with
  | zero =>
    intro d left L row M hd hN hl h64 hM hr hm hs hf hea hi
    have hN1 : L.length < N := by
      have : 1 ≤ (rd_dfs H (rd_nd t A) 0 left row).length := by
        first
          | exact Nat.le_refl 1
          | (rw [dfs_s, List.length_cons]; omega)
      omega
    obtain ⟨M1, e1, a1, f1, i1⟩ := hmeet (d - 1) L M row (by omega) hN1 hM (by omega) hr hm hf hi
    exact ⟨M1, ev_wp (b39_0 (by omega) hM.2.1 hg hM.2.1.2.2.1 ⟨M1, e1, a1.2.1, fun q => by omega, fun _ => ⟨rfl, rfl⟩⟩), a1, f1, i1⟩
  | succ f ih =>
    intro d left L row M hd hN hl h64 hM hr hm hs hf hea hi
    have hN1 : L.length < N := by
      have : 1 ≤ (rd_dfs H (rd_nd t A) (f + 1) left row).length := by
        first
          | exact Nat.le_refl 1
          | (rw [dfs_s, List.length_cons]; omega)
      omega
    obtain ⟨M1, e1, a1, f1, i1⟩ := hmeet (d - 1) L M row (by omega) hN1 hM (by omega) hr hm hf hi
    have w : ab_wp d 39 0 (ab_ent [.inr (.inr g), .inr (.inr t), .inl (left : Int), .inl (rd_sq H row), .inl (rd_mn H row), .inl ((row.length : Nat) : Int)] (ab_mx 39)) [] M (fun r M' => r = none ∧ pu_at t A M' ∧ rd_rf g H row M' ∧ I (L ++ rd_dfs H (rd_nd t A) (f + 1) left row) M') := by
      refine b39_0 (by omega) hM.2.1 hg hM.2.1.2.2.1 ⟨M1, e1, a1.2.1, fun _ => ?_, fun q => by omega⟩
      rw [dfs_s]
      refine loop_up (P := fun i => ∀ M y7, pu_at t A M → rd_rf g H row M → I (L ++ row :: (List.range i).flatMap (fun i => if left.testBit i = true ∧ H.2.1 i (rd_sq H row) (rd_mn H row) ≠ -1 then rd_dfs H (rd_nd t A) f (rd_rm left i) (row ++ [i]) else [])) M → ab_wp d 39 20 [some (.inr (.inr g)), some (.inr (.inr t)), some (.inl (left : Int)), some (.inl (rd_sq H row)), some (.inl (rd_mn H row)), some (.inl ((row.length : Nat) : Int)), some (.inl (i : Int)), y7] [] M _) (rd_nd t A) ?_ ?_ 0 (by omega) _ _ a1 f1 i1
      · intro M y7 hM hf hi
        have r3 : M t 3 = A t 3 := at_r hM t 3 (by omega)
        exact b39_20 (by omega) hM.2.1 hg hM.2.1.2.2.1 ⟨fun _ => ⟨rfl, hM, hf, hi⟩, fun q => by unfold rd_nd at q; omega⟩
      · intro i hin ih2 M y7 hM hf hi
        have r3 : M t 3 = A t 3 := at_r hM t 3 (by omega)
        have hin' : (i : Int) < A t 3 := by unfold rd_nd at hin; omega
        have hsq := hs (by omega)
        rw [range_fm, Int.natCast_succ] at ih2
        have hb : ab_and (ab_shr (left : Int) (i : Int)) 1 = if left.testBit i then 1 else 0 := by
          have := pu_has (s := (left : Int)) (i := (i : Int)) (by omega) (by omega)
          rw [Int.toNat_natCast, Int.toNat_natCast] at this
          exact this
        have wE := s63 (d := d - 1) (by omega) hM i hin hsq hm
        refine b39_20 (by omega) hM.2.1 hg hM.2.1.2.2.1 ⟨fun q => by omega, fun _ => ⟨fun q => ?_, fun q => ⟨by omega, ?_⟩⟩⟩
        · rw [hb] at q
          have qb := has_t q
          refine ⟨_, _, wE, hM.2.1, fun z => ⟨by omega, ?_⟩, fun z => ⟨by omega, by omega, ?_⟩⟩
          · rw [if_neg (by rw [eE]; exact fun y => y.2 z), List.append_nil] at ih2
            exact ih2 _ _ hM hf hi
          · have er := end_rg hA hin hsq hm.1 z
            have c1 : left.testBit i = true ∧ H.2.1 i (rd_sq H row) (rd_mn H row) ≠ -1 := ⟨qb, by rw [eE]; exact z⟩
            rw [if_pos c1] at ih2
            have em : rd_mn H (row ++ [i]) = rd_end t A i (rd_sq H row) (rd_mn H row) := by rw [mn_snoc, eE]
            have es : rd_sq H (row ++ [i]) = rd_hm t A i := by rw [sq_snoc, eM]
            have hmr := hm_rg hA hin
            have a2 : pu_at t A (ab_w (ab_w M (g + 1) row.length (i : Int)) (g + 2) i (rd_end t A i (rd_sq H row) (rd_mn H row))) := at_w (at_w hM (str_a hM.2.1 na1) (by omega)) (str_a (str_a hM.2.1 na1) na2) (by omega)
            have f2 : rd_rf g H (row ++ [i]) (ab_w (ab_w M (g + 1) row.length (i : Int)) (g + 2) i (rd_end t A i (rd_sq H row) (rd_mn H row))) := by
              refine ⟨fun k hk => ?_, fun j hj => ?_⟩
              · rw [List.length_append, List.length_singleton] at hk
                unfold ab_w
                rw [if_neg (by omega)]
                by_cases ck : k = row.length
                · rw [if_pos ⟨rfl, ck⟩, ck, getD_e]
                · rw [if_neg (by omega), getD_l (by omega)]
                  exact hf.1 k (by omega)
              · rw [ea_snoc, eE]
                unfold ab_w pu_u
                by_cases cj : j = i
                · rw [if_pos ⟨rfl, cj⟩, if_pos cj]
                · rw [if_neg (by omega), if_neg (by omega), if_neg cj]
                  exact hf.2 j hj
            have i2 := hI _ _ (g + 2) i (rd_end t A i (rd_sq H row) (rd_mn H row)) (Or.inr rfl) (hI _ _ (g + 1) row.length (i : Int) (Or.inl rfl) hi)
            have hl2 : (row ++ [i]).length = row.length + 1 := by rw [List.length_append, List.length_singleton]
            have hN2 : (L ++ row :: (List.range i).flatMap (fun i => if left.testBit i = true ∧ H.2.1 i (rd_sq H row) (rd_mn H row) ≠ -1 then rd_dfs H (rd_nd t A) f (rd_rm left i) (row ++ [i]) else [])).length + (rd_dfs H (rd_nd t A) f (rd_rm left i) (row ++ [i])).length ≤ N := by
              have g := range_le (fun i => if left.testBit i = true ∧ H.2.1 i (rd_sq H row) (rd_mn H row) ≠ -1 then rd_dfs H (rd_nd t A) f (rd_rm left i) (row ++ [i]) else []) (n := rd_nd t A) (i + 1) (by omega)
              rw [range_fm, List.length_append, if_pos c1] at g
              rw [dfs_s, List.length_cons] at hN
              rw [List.length_append, List.length_cons]
              omega
            obtain ⟨M3, e3, a3, f3, i3⟩ := ih (d - 1) (rd_rm left i) _ (row ++ [i]) _ (by omega) hN2 (by omega) (rm_64 h64) a2 (fun j hj => by
              rcases List.mem_append.1 hj with y | y
              · exact hr j y
              · rw [List.mem_singleton.1 y]; exact hin) (by rw [em]; omega) (fun _ => by rw [es]; omega) f2 (fun j hj => by
              rw [rm_bit h64 (by omega)] at hj
              rw [Bool.and_eq_true, decide_eq_true_eq] at hj
              rw [ea_snoc]
              unfold pu_u
              rw [if_neg hj.2]
              exact hea j hj.1) i2
            rw [em, es, hl2, Int.natCast_succ] at e3
            rw [Int.toNat_natCast, Int.toNat_natCast, rm_all ⟨left, h64⟩ ⟨i, by omega⟩]
            refine ⟨_, _, s59a (by omega) a2 i hin, a2.2.1, by omega, M3, e3, a3.2.1, by omega, ih2 _ _ (at_w a3 (str_a a3.2.1 na2) (by omega)) ?_ ?_⟩
            · refine ⟨fun k hk => ?_, fun j hj => ?_⟩
              · have := f3.1 k (by omega)
                rw [getD_l hk] at this
                unfold ab_w
                rw [if_neg (by omega)]
                exact this
              · have := f3.2 j hj
                rw [ea_snoc] at this
                unfold pu_u at this
                unfold ab_w
                by_cases cj : j = i
                · rw [if_pos ⟨rfl, cj⟩, cj, hea i qb]
                · rw [if_neg cj] at this
                  rw [if_neg (by omega)]
                  exact this
            · rw [List.append_assoc, List.cons_append] at i3
              exact hI _ _ _ _ _ (Or.inr rfl) i3
        · rw [hb] at q
          have qb := has_f q
          rw [if_neg (fun y => qb y.1), List.append_nil] at ih2
          exact ih2 _ _ hM hf hi
    obtain ⟨r, M', e, rfl, h1, h2, h3⟩ := wp_ev w
    exact ⟨M', e, h1, h2, h3⟩
