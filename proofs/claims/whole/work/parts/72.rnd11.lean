/-- the minute behind a row; 1000000: it is not in time -/
noncomputable def rd_mm (H : rd_HH) (x : List Nat) : Int := @ite _ (rd_ok H x) (Classical.propDecidable _) (rd_mn H x) 1000000
theorem mm_ok {H : rd_HH} {x : List Nat} (h : rd_ok H x) : rd_mm H x = rd_mn H x := by
  unfold rd_mm
  rw [@if_pos _ (Classical.propDecidable _) h]
theorem mm_no {H : rd_HH} {x : List Nat} (h : ¬ rd_ok H x) : rd_mm H x = 1000000 := by
  unfold rd_mm
  rw [@if_neg _ (Classical.propDecidable _) h]
theorem sq_rg {t : Nat} {A : ab_M} (h : pu_inv t A) {sq0 mn0 : Int} (hs : 0 < rd_nd t A → 0 ≤ sq0 ∧ sq0 < A t 0) (x : List Nat) (hx : ∀ i, i ∈ x → i < rd_nd t A) (hn : 0 < rd_nd t A) : 0 ≤ rd_sq (rd_H t A sq0 mn0) x ∧ rd_sq (rd_H t A sq0 mn0) x < A t 0 := by
  rcases List.eq_nil_or_concat x with q | ⟨y, d, q⟩
  · rw [q]; exact hs hn
  · rw [List.concat_eq_append] at q
    rw [q, sq_snoc]
    exact hm_rg h (hx d (by rw [q]; simp))
/-- minutes along a row of deeds that are -/
theorem ok_rg {t : Nat} {A : ab_M} (h : pu_inv t A) {sq0 mn0 : Int} (hm : 0 ≤ mn0 ∧ mn0 ≤ 97000) (hs : 0 < rd_nd t A → 0 ≤ sq0 ∧ sq0 < A t 0) {x : List Nat} (hx : rd_gd (rd_nd t A) x) (ho : rd_ok (rd_H t A sq0 mn0) x) : 0 ≤ rd_mn (rd_H t A sq0 mn0) x ∧ rd_mn (rd_H t A sq0 mn0) x ≤ 97000 := by
  refine (v_rg h hm hs (o := 63) _ x rfl ⟨hx.1, fun i hi => ⟨hx.2 i hi, ?_⟩, ho⟩).1
  have t3 := h.2.1.2.2.1
  have hn : rd_nd t A ≤ 6 := by unfold rd_nd; omega
  have := hx.2 i hi
  have b : ∀ j : Fin 6, (63 : Nat).testBit j.val = true := by decide
  exact b ⟨i, by omega⟩
theorem gd_take {nd k : Nat} {x : List Nat} (h : rd_gd nd x) : rd_gd nd (x.take k) :=
  ⟨List.Pairwise.sublist (List.take_sublist k x) h.1, fun i hi => h.2 i (List.mem_of_mem_take hi)⟩
theorem mm_step {t : Nat} {A : ab_M} (h : pu_inv t A) {sq0 mn0 : Int} (hm : 0 ≤ mn0 ∧ mn0 ≤ 97000) (hs : 0 < rd_nd t A → 0 ≤ sq0 ∧ sq0 < A t 0) {x : List Nat} (hx : rd_gd (rd_nd t A) x) (i : Nat) : rd_me t A i (rd_sq (rd_H t A sq0 mn0) x) (rd_mm (rd_H t A sq0 mn0) x) = rd_mm (rd_H t A sq0 mn0) (x ++ [i]) := by
  by_cases c : rd_ok (rd_H t A sq0 mn0) x
  · have rg := ok_rg h hm hs hx c
    rw [mm_ok c]
    unfold rd_me
    rw [if_neg (by omega)]
    by_cases c2 : rd_end t A i (rd_sq (rd_H t A sq0 mn0) x) (rd_mn (rd_H t A sq0 mn0) x) = -1
    · rw [if_pos c2, mm_no (fun z => ((ok_snoc _ _ _).1 z).2 c2)]
    · rw [if_neg c2, mm_ok ((ok_snoc _ _ _).2 ⟨c, c2⟩), mn_snoc]
      rfl
  · rw [mm_no c]
    unfold rd_me
    rw [if_pos (by omega), mm_no (fun z => c ((ok_snoc _ _ _).1 z).1)]
theorem mm_rg {t : Nat} {A : ab_M} (h : pu_inv t A) {sq0 mn0 : Int} (hm : 0 ≤ mn0 ∧ mn0 ≤ 97000) (hs : 0 < rd_nd t A → 0 ≤ sq0 ∧ sq0 < A t 0) {x : List Nat} (hx : rd_gd (rd_nd t A) x) : 0 ≤ rd_mm (rd_H t A sq0 mn0) x ∧ rd_mm (rd_H t A sq0 mn0) x ≤ 1000000 := by
  by_cases c : rd_ok (rd_H t A sq0 mn0) x
  · have rg := ok_rg h hm hs hx c
    rw [mm_ok c]
    omega
  · rw [mm_no c]
    omega
theorem bit_cons {j g : Nat} {l : List Nat} (h : g ∉ l) : (decide (j ∈ g :: l) && decide (j ≠ g)) = decide (j ∈ l) := by
  by_cases c : j = g
  · subst c
    simp [h]
  · simp [c]
theorem s151 {d t : Nat} {A M : ab_M} (hd : 3 ≤ d) (h : pu_at t A M) (hs : 0 < rd_nd t A → 0 ≤ A 112 1 ∧ A 112 1 < A t 0) {x : List Nat} (hx : rd_gd (rd_nd t A) x) (hr : rd_mr 121 x M) (e : Int) :
    ∃ v, ab_ev d 151 [.inr (.inr 103), .inl ((x.length : Nat) : Int), .inl ((rd_set x : Nat) : Int), .inl e] M (some (.inl v)) M ∧ (v ≠ 0 ↔ rd_mm (rd_H t A (A 112 1) (A 69 0)) x = e) := by
  have t3 := h.1.2.1.2.2.1
  have hn : rd_nd t A ≤ 6 := by unfold rd_nd; omega
  obtain ⟨a1, a2, a3, a4, a5, a6⟩ := now_of h.1.2.2.2.2.2.1
  have len := row_len hx.1 hx.2
  have h6 : ∀ i, i ∈ x → i < 6 := fun i hi => by have := hx.2 i hi; omega
  have r0 : M 112 0 = A 69 0 := (at_r h 112 0 (by omega)).trans a1.1
  have r1 : M 112 1 = A 112 1 := at_r h 112 1 (by omega)
  have w : ab_wp d 151 0 (ab_ent [.inr (.inr 103), .inl ((x.length : Nat) : Int), .inl ((rd_set x : Nat) : Int), .inl e] (ab_mx 151)) [] M (fun r' M' => M' = M ∧ ∃ v, r' = some (.inl v) ∧ (v ≠ 0 ↔ rd_mm (rd_H t A (A 112 1) (A 69 0)) x = e)) := by
    refine b151_0 (by omega) h.2.1 ?_
    rw [r0, r1]
    have main := loop_up (P := fun k => ∀ left : Nat, left < 64 → (∀ j, left.testBit j = decide (j ∈ x.drop k)) → ab_wp d 151 22 [some (.inr (.inr 103)), some (.inl ((x.length : Nat) : Int)), some (.inl ((rd_set x : Nat) : Int)), some (.inl e), some (.inl (rd_mm (rd_H t A (A 112 1) (A 69 0)) (x.take k))), some (.inl (rd_sq (rd_H t A (A 112 1) (A 69 0)) (x.take k))), some (.inl (left : Int)), some (.inl (k : Int))] [] M (fun r' M' => M' = M ∧ ∃ v, r' = some (.inl v) ∧ (v ≠ 0 ↔ rd_mm (rd_H t A (A 112 1) (A 69 0)) x = e))) x.length ?_ ?_ 0 (by omega) (rd_set x) (set_64 h6) (fun j => by rw [set_bit, List.drop_zero])
    · rw [List.take_zero, mm_ok (ok_nil _)] at main
      exact main
    · intro left _ _
      rw [List.take_length]
      exact b151_22 (by omega) h.2.1 ⟨fun _ => ⟨fun q => ⟨rfl, 0, rfl, fun z => absurd rfl z, fun z => absurd z q⟩, fun q => ⟨rfl, 1, rfl, fun _ => q, fun _ => by decide⟩⟩, fun q => by omega⟩
    · intro k hk ih left hl hb
      rw [Int.natCast_succ, take_s hk] at ih
      have xk := hr k hk
      have xm := getD_mem hk
      have xn := hx.2 _ xm
      have gt := gd_take (k := k) hx
      have dk := drop_s hk
      have nd := hx.1
      have bk : left.testBit (x.getD k 0) = true := by
        rw [hb, dk]
        simp
      have wk := s108 (d := d - 1) (by omega) h.2.1 (s := (left : Int)) (i := ((x.getD k 0 : Nat) : Int)) (by omega) (by have := h6 _ xm; omega)
      rw [Int.toNat_natCast, Int.toNat_natCast, if_pos bk] at wk
      have sq := sq_rg h.1 (mn0 := A 69 0) hs (x.take k) gt.2 (by omega)
      have mr := mm_rg h.1 a1.2 hs gt
      refine b151_22 (by omega) h.2.1 ⟨fun q => by omega, fun _ => ⟨by omega, ?_⟩⟩
      rw [Int.toNat_natCast, xk]
      have rm : ab_and (left : Int) (ab_xor (ab_shl 1 ((x.getD k 0 : Nat) : Int)) (-1)) = ((rd_rm left (x.getD k 0) : Nat) : Int) := rm_all ⟨left, hl⟩ ⟨_, h6 _ xm⟩
      have w148 := s148 (d := d - 1) (by omega) h (x.getD k 0) xn sq mr
      rw [← xk] at w148
      refine ⟨(1 : Int), M, wk, h.2.1, fun q => absurd q (by decide), fun _ => ⟨_, _, w148, h.2.1, ?_⟩⟩
      rw [xk, rm, mm_step h.1 a1.2 hs gt]
      refine ⟨_, _, s139 (by omega) h _ xn, h.2.1, by omega, ?_⟩
      have es : rd_sq (rd_H t A (A 112 1) (A 69 0)) (x.take k ++ [x.getD k 0]) = rd_hm t A (x.getD k 0) := sq_snoc _ _ _
      rw [es] at ih
      refine ih (rd_rm left (x.getD k 0)) (rm_64 hl) (fun j => ?_)
      rw [rm_bit hl (h6 _ xm), hb, dk]
      have nodr : (x.drop k).Nodup := List.Pairwise.sublist (List.drop_sublist k x) nd
      rw [dk, List.nodup_cons] at nodr
      exact bit_cons nodr.1
  obtain ⟨r', M', e', rfl, v, rfl, hv⟩ := wp_ev w
  exact ⟨v, e', hv⟩
