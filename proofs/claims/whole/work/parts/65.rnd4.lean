/-! the least ends: the model -/
def rd_sub (s o : Nat) : Nat := s &&& (63 ^^^ o)
theorem sub_all : ∀ s o : Fin 64, ab_and ((s.val : Nat) : Int) (ab_xor ((o.val : Nat) : Int) (-1)) = ((rd_sub s.val o.val : Nat) : Int) := by decide +kernel
theorem sub_int {s o : Nat} (hs : s < 64) (ho : o < 64) : ab_and (s : Int) (ab_xor (o : Int) (-1)) = ((rd_sub s o : Nat) : Int) := sub_all ⟨s, hs⟩ ⟨o, ho⟩
theorem sub_64 {s o : Nat} (h : s < 64) : rd_sub s o < 64 := and_lt h
theorem sub_bit {s o : Nat} (h : s < 64) (j : Nat) : (rd_sub s o).testBit j = (s.testBit j && !o.testBit j) := by
  unfold rd_sub
  rw [Nat.testBit_and, Nat.testBit_xor, show (63 : Nat) = 2 ^ 6 - 1 from rfl, Nat.testBit_two_pow_sub_one]
  by_cases c : j < 6
  · simp [c]
  · rw [bit_hi h (by omega)]
    simp
theorem sub_zero {s o : Nat} (h : s < 64) : rd_sub s o = 0 ↔ ∀ j, s.testBit j = true → o.testBit j = true := by
  constructor
  · intro e j hj
    have := sub_bit (o := o) h j
    rw [e, Nat.zero_testBit, hj] at this
    simp at this
    exact this
  · intro q
    apply Nat.eq_of_testBit_eq
    intro j
    rw [sub_bit h, Nat.zero_testBit]
    by_cases c : s.testBit j = true
    · rw [q j c]; simp
    · simp [c]
def rd_me (t : Nat) (A : ab_M) (i : Nat) (sq mn : Int) : Int := if 1000000 ≤ mn then 1000000 else if rd_end t A i sq mn = -1 then 1000000 else rd_end t A i sq mn
theorem end_mono {t : Nat} {A : ab_M} {i : Nat} {sq mn mn' : Int} (h : mn ≤ mn') (he : rd_end t A i sq mn' ≠ -1) (hp : 0 ≤ mn) (h0 : 0 ≤ A (t + 20) i) (ha : -1 ≤ A (t + 10 + sq.toNat) (rd_hm t A i).toNat) : rd_end t A i sq mn ≠ -1 ∧ rd_end t A i sq mn ≤ rd_end t A i sq mn' := by
  unfold rd_end at he ⊢
  by_cases c : A (t + 10 + sq.toNat) (rd_hm t A i).toNat = -1
  · rw [if_pos c] at he; exact absurd rfl he
  · rw [if_neg c] at he
    rw [if_neg c, if_neg c]
    by_cases c2 : A (t + 21) i < mn' + A (t + 10 + sq.toNat) (rd_hm t A i).toNat + A (t + 20) i
    · rw [if_pos c2] at he; exact absurd rfl he
    · rw [if_neg c2, if_neg (by omega)]
      omega
theorem s139 {d t : Nat} {A M : ab_M} (hd : 1 ≤ d) (h : pu_at t A M) (i : Nat) (hi : i < rd_nd t A) : ab_ev d 139 [.inr (.inr 103), .inl (i : Int)] M (some (.inl (rd_hm t A i))) M := by
  obtain ⟨t1, t2, t3, _, _, _, t7, t8, _⟩ := h.1.2.1
  obtain ⟨m1, m2, m3, m4, m5, m6, m7, m8⟩ := h.1.2.2.1
  have hi' : (i : Int) < A t 3 := by unfold rd_nd at hi; omega
  have a := t8 i hi'
  have r1 : M 109 (5 * i) = A (t + 19) i := (at_r h 109 _ (by omega)).trans (m7 i hi').1
  have r2 : M 107 (A (t + 19) i).toNat = rd_hm t A i := (at_r h 107 _ (by omega)).trans (m6 _ (by omega)).1
  have e5 : (5 * (i : Int)).toNat = 5 * i := by omega
  refine ev_wp (b139_0 (by omega) h.2.1 ?_)
  rw [e5, r1, r2]
  exact ⟨by omega, by omega, by omega, rfl, rfl⟩
theorem s148 {d t : Nat} {A M : ab_M} (hd : 2 ≤ d) (h : pu_at t A M) (i : Nat) (hi : i < rd_nd t A) {sq mn : Int} (hs : 0 ≤ sq ∧ sq < A t 0) (hm : 0 ≤ mn ∧ mn ≤ 1000000) : ab_ev d 148 [.inr (.inr 103), .inl mn, .inl sq, .inl (i : Int)] M (some (.inl (rd_me t A i sq mn))) M := by
  obtain ⟨t1, t2, t3, _, _, _, t7, t8, _⟩ := h.1.2.1
  obtain ⟨m1, m2, m3, m4, m5, m6, m7, m8⟩ := h.1.2.2.1
  have hi' : (i : Int) < A t 3 := by unfold rd_nd at hi; omega
  have a := t8 i hi'
  have mi := m7 i hi'
  have b := hm_rg h.1 hi
  have gg := h.1.2.2.2.1 sq.toNat (rd_hm t A i).toNat (by omega) (by omega) (by omega) (by omega)
  have e7 : (7 * sq + rd_hm t A i).toNat = 7 * sq.toNat + (rd_hm t A i).toNat := by omega
  have e1 : (5 * (i : Int) + 1).toNat = 5 * i + 1 := by omega
  have e2 : (5 * (i : Int) + 2).toNat = 5 * i + 2 := by omega
  have r7 : M 105 (7 * sq.toNat + (rd_hm t A i).toNat) = if A (t + 10 + sq.toNat) (rd_hm t A i).toNat = -1 then 1000000 else A (t + 10 + sq.toNat) (rd_hm t A i).toNat := (at_r h 105 _ (by omega)).trans gg.2.2.2.2.2.2
  have r1 : M 109 (5 * i + 1) = A (t + 20) i := (at_r h 109 _ (by omega)).trans mi.2.1
  have r2 : M 109 (5 * i + 2) = A (t + 21) i := (at_r h 109 _ (by omega)).trans mi.2.2.1
  have last : ∀ (x4 v : Int), (if A (t + 21) i < v then 1000000 else v) = rd_me t A i sq mn → ab_wp d 148 50 [some (.inr (.inr 103)), some (.inl mn), some (.inl sq), some (.inl (i : Int)), some (.inl x4), none] [.inl v] M (fun r' M'' => r' = some (.inl (rd_me t A i sq mn)) ∧ M'' = M) := by
    intro x4 v ev
    refine b148_50 (by omega) h.2.1 ?_
    rw [e2, r2]
    refine ⟨by omega, by omega, by omega, fun q => ⟨?_, rfl⟩, fun q => ⟨?_, rfl⟩⟩
    · rw [← ev, if_neg (by omega)]
    · rw [← ev, if_pos q]
  refine ev_wp (b148_0 (by omega) h.2.1 ⟨by omega, _, _, s139 (by omega) h i hi, h.2.1, ?_⟩)
  rw [e7, r7, e1, r1]
  refine ⟨by omega, by omega, fun q => last _ _ ?_, fun q => ⟨fun z => ⟨?_, by omega, by omega, by omega, ?_, last _ _ ?_⟩, fun z => last _ _ ?_⟩⟩
  · unfold rd_me
    rw [if_pos (by omega), if_pos q]
  · by_cases c : A (t + 10 + sq.toNat) (rd_hm t A i).toNat = -1
    · rw [if_pos c] at z; omega
    · rw [if_neg c]; omega
  · by_cases c : A (t + 10 + sq.toNat) (rd_hm t A i).toNat = -1
    · rw [if_pos c] at z; omega
    · rw [if_neg c]; omega
  · by_cases c : A (t + 10 + sq.toNat) (rd_hm t A i).toNat = -1
    · rw [if_pos c] at z; omega
    · rw [if_neg c]
      by_cases c2 : A (t + 21) i < mn + A (t + 10 + sq.toNat) (rd_hm t A i).toNat + A (t + 20) i
      · rw [if_pos c2]
        unfold rd_me rd_end
        rw [if_neg (show ¬ (1000000 ≤ mn) by omega), if_neg c, if_pos c2, if_pos rfl]
      · rw [if_neg c2]
        unfold rd_me rd_end
        rw [if_neg (show ¬ (1000000 ≤ mn) by omega), if_neg c, if_neg c2, if_neg (by omega)]
  · by_cases c : A (t + 10 + sq.toNat) (rd_hm t A i).toNat = -1
    · unfold rd_me rd_end
      rw [if_pos (by omega), if_neg (by omega), if_pos c, if_pos rfl]
    · rw [if_neg c] at z
      omega
/-- E is the least end of a round of these deeds that ends in i; 1000000: there is none -/
def rd_E (H : rd_HH) (nd o set i : Nat) (E : Int) : Prop := (0 ≤ E ∧ E ≤ 1000000) ∧ (∀ r, rd_v H nd o (r ++ [i]) → rd_set (r ++ [i]) = set → E ≤ rd_mn H (r ++ [i])) ∧ (E < 1000000 → ∃ r, rd_v H nd o (r ++ [i]) ∧ rd_set (r ++ [i]) = set ∧ rd_mn H (r ++ [i]) = E)
theorem v_pre {H : rd_HH} {nd o : Nat} {r : List Nat} {i : Nat} (h : rd_v H nd o (r ++ [i])) : rd_v H nd o r ∧ i ∉ r ∧ i < nd ∧ o.testBit i = true := by
  obtain ⟨h1, h2, h3⟩ := h
  rw [List.nodup_append] at h1
  refine ⟨⟨h1.1, fun j hj => h2 j (List.mem_append.2 (Or.inl hj)), ok_pre H r [i] h3⟩, fun q => h1.2.2 i q i (List.mem_singleton.2 rfl) rfl, h2 i (List.mem_append.2 (Or.inr (List.mem_singleton.2 rfl)))⟩
theorem v_snoc {H : rd_HH} {nd o : Nat} {r : List Nat} {i : Nat} (h : rd_v H nd o r) (hi : i ∉ r) (hn : i < nd) (ho : o.testBit i = true) (he : H.2.1 i (rd_sq H r) (rd_mn H r) ≠ -1) : rd_v H nd o (r ++ [i]) := by
  obtain ⟨h1, h2, h3⟩ := h
  refine ⟨?_, fun j hj => ?_, (ok_snoc H r i).2 ⟨h3, he⟩⟩
  · rw [List.nodup_append]
    refine ⟨h1, by simp, fun a ha b hb e => ?_⟩
    rw [List.mem_singleton.1 hb] at e
    rw [e] at ha
    exact hi ha
  · rcases List.mem_append.1 hj with q | q
    · exact h2 j q
    · rw [List.mem_singleton.1 q]; exact ⟨hn, ho⟩
/-- the set of a row without its last -/
theorem set_rm {r : List Nat} {i set : Nat} (h6 : ∀ j, j ∈ r → j < 6) (hi6 : i < 6) (hs : set < 64) (hi : i ∉ r) (e : rd_set (r ++ [i]) = set) : rd_set r = rd_rm set i := by
  refine bits_ext (set_64 h6) (rm_64 hs) (fun j hj => ?_)
  rw [rm_bit hs hi6, set_bit, ← e, set_bit]
  by_cases c : j ∈ r
  · have : j ≠ i := fun q => hi (q ▸ c)
    simp [c, this]
  · by_cases c2 : j = i
    · simp [c, c2, hi]
    · simp [c, c2]
theorem set_add {r : List Nat} {i set : Nat} (hi6 : i < 6) (hs : set < 64) (hb : set.testBit i = true) (e : rd_set r = rd_rm set i) (h6 : ∀ j, j ∈ r → j < 6) : i ∉ r ∧ rd_set (r ++ [i]) = set := by
  have hi : i ∉ r := by
    intro q
    have := set_bit r i
    rw [e, rm_bit hs hi6] at this
    simp [q] at this
  refine ⟨hi, bits_ext (set_64 (fun j hj => ?_)) hs (fun j hj => ?_)⟩
  · rcases List.mem_append.1 hj with q | q
    · exact h6 j q
    · rw [List.mem_singleton.1 q]; exact hi6
  · have := set_bit r j
    rw [e, rm_bit hs hi6] at this
    rw [set_bit]
    by_cases c : j = i
    · rw [c, hb]; simp
    · by_cases c2 : j ∈ r
      · simp [c2, c] at this ⊢; exact this
      · simp [c2, c] at this ⊢; exact this
theorem E_none {H : rd_HH} {nd o set i : Nat} (h : ¬ (set.testBit i = true ∧ ∀ j, set.testBit j = true → o.testBit j = true)) : rd_E H nd o set i 1000000 := by
  refine ⟨by omega, fun r hv e => ?_, fun q => by omega⟩
  exfalso
  apply h
  refine ⟨?_, fun j hj => ?_⟩
  · rw [← e, set_bit]; simp
  · rw [← e, set_bit] at hj
    exact (hv.2.1 j (of_decide_eq_true hj)).2
/-- one deed more looked at as the last but one -/
def rd_B (H : rd_HH) (nd o set i k : Nat) (E : Int) : Prop := (0 ≤ E ∧ E ≤ 1000000) ∧ (∀ r, rd_v H nd o (r ++ [i]) → rd_set (r ++ [i]) = set → (∀ r' j, r = r' ++ [j] → j < k) → E ≤ rd_mn H (r ++ [i])) ∧ (E < 1000000 → ∃ r, rd_v H nd o (r ++ [i]) ∧ rd_set (r ++ [i]) = set ∧ rd_mn H (r ++ [i]) = E)
theorem B_E {H : rd_HH} {nd o set i : Nat} {E : Int} (h : rd_B H nd o set i nd E) : rd_E H nd o set i E := by
  refine ⟨h.1, fun r hv e => h.2.1 r hv e ?_, h.2.2⟩
  intro r' j q
  rw [q] at hv
  exact (v_pre (v_pre hv).1).2.2.1
theorem me_lt {t : Nat} {A : ab_M} {i : Nat} {sq mn : Int} (h : rd_me t A i sq mn < 1000000) : mn < 1000000 ∧ rd_end t A i sq mn ≠ -1 ∧ rd_me t A i sq mn = rd_end t A i sq mn := by
  unfold rd_me at h ⊢
  by_cases c : 1000000 ≤ mn
  · rw [if_pos c] at h; omega
  · rw [if_neg c] at h ⊢
    by_cases c2 : rd_end t A i sq mn = -1
    · rw [if_pos c2] at h; omega
    · rw [if_neg c2]
      exact ⟨by omega, c2, rfl⟩
theorem me_rg {t : Nat} {A : ab_M} (h : pu_inv t A) {i : Nat} (hi : i < rd_nd t A) {sq mn : Int} (hs : 0 ≤ sq ∧ sq < A t 0) (hm : 0 ≤ mn) : 0 ≤ rd_me t A i sq mn ∧ rd_me t A i sq mn ≤ 1000000 := by
  by_cases c : rd_me t A i sq mn < 1000000
  · obtain ⟨_, c2, c3⟩ := me_lt c
    have := end_rg h hi hs hm c2
    omega
  · have : rd_me t A i sq mn = 1000000 := by
      unfold rd_me at c ⊢
      by_cases c1 : 1000000 ≤ mn
      · rw [if_pos c1]
      · rw [if_neg c1] at c ⊢
        by_cases c2 : rd_end t A i sq mn = -1
        · rw [if_pos c2]
        · have := end_rg h hi hs hm c2
          rw [if_neg c2] at c
          omega
    omega
theorem me_le {t : Nat} {A : ab_M} (h : pu_inv t A) {i : Nat} (hi : i < rd_nd t A) {sq mn mn' : Int} (hs : 0 ≤ sq ∧ sq < A t 0) (hm : 0 ≤ mn) (hl : mn ≤ mn') (he : rd_end t A i sq mn' ≠ -1) (hb : mn' < 1000000) : rd_me t A i sq mn ≤ rd_end t A i sq mn' := by
  obtain ⟨t1, t2, t3, _, _, _, t7, t8, _⟩ := h.2.1
  have a := t8 i (by unfold rd_nd at hi; omega)
  have b := hm_rg h hi
  have gg := h.2.2.2.1 sq.toNat (rd_hm t A i).toNat (by omega) (by omega) (by omega) (by omega)
  have q := end_mono hl he hm (by omega) (by omega)
  unfold rd_me
  rw [if_neg (by omega), if_neg q.1]
  exact q.2
/-- minutes and places along a row -/
theorem v_rg {t : Nat} {A : ab_M} (h : pu_inv t A) {sq0 mn0 : Int} (hm : 0 ≤ mn0 ∧ mn0 ≤ 97000) (hs : 0 < rd_nd t A → 0 ≤ sq0 ∧ sq0 < A t 0) {o : Nat} : ∀ (n : Nat) (r : List Nat), r.length = n → rd_v (rd_H t A sq0 mn0) (rd_nd t A) o r → (0 ≤ rd_mn (rd_H t A sq0 mn0) r ∧ rd_mn (rd_H t A sq0 mn0) r ≤ 97000) ∧ (0 < rd_nd t A → 0 ≤ rd_sq (rd_H t A sq0 mn0) r ∧ rd_sq (rd_H t A sq0 mn0) r < A t 0) := by
  intro n
  induction n with
  | zero =>
    intro r e _
    rw [List.eq_nil_of_length_eq_zero e]
    exact ⟨hm, hs⟩
  | succ n ih =>
    intro r e hv
    rcases List.eq_nil_or_concat r with q | ⟨r', i, q⟩
    · rw [q] at e; cases e
    · rw [List.concat_eq_append] at q
      rw [q] at e hv ⊢
      rw [List.length_append, List.length_singleton] at e
      obtain ⟨v1, v2, v3, v4⟩ := v_pre hv
      have g := ih r' (by omega) v1
      have o2 := ((ok_snoc _ _ _).1 hv.2.2).2
      have er := end_rg h v3 (g.2 (by omega)) g.1.1 o2
      have hr := hm_rg h v3
      rw [mn_snoc, sq_snoc]
      exact ⟨by show 0 ≤ rd_end t A i _ _ ∧ rd_end t A i _ _ ≤ 97000; omega, fun _ => hr⟩
