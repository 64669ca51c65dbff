/-! rows by their number: the model -/
def rd_dg : Nat → Nat → List Nat
  | _, 0 => []
  | r, n + 1 => rd_dg (r / 6) n ++ [r % 6]
theorem dg_s (r n : Nat) : rd_dg r (n + 1) = rd_dg (r / 6) n ++ [r % 6] := rfl
theorem dg_len : ∀ n r, (rd_dg r n).length = n
  | 0, _ => rfl
  | n + 1, r => by rw [dg_s, List.length_append, List.length_singleton, dg_len n]
theorem dg_lt : ∀ n r i, i ∈ rd_dg r n → i < 6
  | 0, _, _, h => absurd h List.not_mem_nil
  | n + 1, r, i, h => by
    rw [dg_s, List.mem_append, List.mem_singleton] at h
    rcases h with h | h
    · exact dg_lt n _ i h
    · omega
theorem dg_code : ∀ (n : Nat) (x : List Nat), x.length = n → (∀ i, i ∈ x → i < 6) → ∃ r, r < 6 ^ n ∧ rd_dg r n = x
  | 0, x, h, _ => ⟨0, by decide, by rw [List.eq_nil_of_length_eq_zero h]; rfl⟩
  | n + 1, x, h, hx => by
    rcases List.eq_nil_or_concat x with q | ⟨y, d, q⟩
    · rw [q] at h; cases h
    · rw [List.concat_eq_append] at q
      rw [q] at h hx ⊢
      rw [List.length_append, List.length_singleton] at h
      obtain ⟨r, h1, h2⟩ := dg_code n y (by omega) (fun i hi => hx i (List.mem_append.2 (Or.inl hi)))
      have hd := hx d (List.mem_append.2 (Or.inr (List.mem_singleton.2 rfl)))
      refine ⟨6 * r + d, by rw [Nat.pow_succ]; omega, ?_⟩
      rw [dg_s, show (6 * r + d) / 6 = r from by omega, show (6 * r + d) % 6 = d from by omega, h2]
theorem dg_inj : ∀ (n r r' : Nat), r < 6 ^ n → r' < 6 ^ n → rd_dg r n = rd_dg r' n → r = r'
  | 0, r, r', h, h', _ => by
    rw [Nat.pow_zero] at h h'
    omega
  | n + 1, r, r', h, h', e => by
    rw [Nat.pow_succ] at h h'
    rw [dg_s, dg_s] at e
    obtain ⟨e1, e2⟩ := List.append_inj' e rfl
    have := dg_inj n (r / 6) (r' / 6) (by omega) (by omega) e1
    have e3 : r % 6 = r' % 6 := by simpa using e2
    omega
theorem set_cons {d : Nat} {s : List Nat} (hd : d < 6) (hs : ∀ i, i ∈ s → i < 6) : rd_set (d :: s) = rd_set s ||| 2 ^ d := by
  refine bits_ext (set_64 (fun i hi => ?_)) (or_all ⟨_, set_64 hs⟩ ⟨d, hd⟩).2 (fun j hj => ?_)
  · rcases List.mem_cons.1 hi with q | q
    · rw [q]; exact hd
    · exact hs i q
  · rw [Nat.testBit_or, set_bit, set_bit, Nat.testBit_two_pow]
    by_cases c : d = j
    · subst c; simp
    · have c' : ¬ j = d := fun h => c h.symm
      simp [c, c']
/-- the row that the model holds -/
def rd_mr (c : Nat) (x : List Nat) (M : ab_M) : Prop := ∀ k : Nat, k < x.length → M c k = ((x.getD k 0 : Nat) : Int)
def rd_gd (nd : Nat) (x : List Nat) : Prop := x.Nodup ∧ ∀ i, i ∈ x → i < nd
theorem s153 {d t : Nat} {A M : ab_M} (hd : 2 ≤ d) (h : pu_at t A M) {r n : Nat} (hn6 : n ≤ 6) (hr : r < 6 ^ n) : ∃ M' v, ab_ev d 153 [.inr (.inr 103), .inl (r : Int), .inl (n : Int)] M (some (.inl v)) M' ∧ pu_at t A M' ∧ (∀ k f : Nat, k ≠ 121 → M' k f = M k f) ∧ rd_mr 121 (rd_dg r n) M' ∧ ((v = -1 ∧ ¬ rd_gd (rd_nd t A) (rd_dg r n)) ∨ (v = ((rd_set (rd_dg r n) : Nat) : Int) ∧ rd_gd (rd_nd t A) (rd_dg r n))) := by
  have t3 := h.1.2.1.2.2.1
  have hn : rd_nd t A ≤ 6 := by unfold rd_nd; omega
  obtain ⟨m1, m2, m3, m4, m5, m6, m7, m8⟩ := h.1.2.2.1
  have h6n : (6 : Nat) ^ n ≤ 6 ^ 6 := Nat.pow_le_pow_right (by omega) hn6
  have w : ab_wp d 153 0 (ab_ent [.inr (.inr 103), .inl (r : Int), .inl (n : Int)] (ab_mx 153)) [] M (fun r' M' => ∃ v, r' = some (.inl v) ∧ pu_at t A M' ∧ (∀ k f : Nat, k ≠ 121 → M' k f = M k f) ∧ rd_mr 121 (rd_dg r n) M' ∧ ((v = -1 ∧ ¬ rd_gd (rd_nd t A) (rd_dg r n)) ∨ (v = ((rd_set (rd_dg r n) : Nat) : Int) ∧ rd_gd (rd_nd t A) (rd_dg r n)))) := by
    refine b153_0 (by omega) h.2.1 ⟨by omega, ?_⟩
    have key : ∀ (j : Nat) (R : Nat) (suf : List Nat) (M1 : ab_M) (g : Int), R < 46656 → rd_dg r n = rd_dg R j ++ suf → j + suf.length = n → pu_at t A M1 → (∀ k f : Nat, k ≠ 121 → M1 k f = M k f) → (∀ k : Nat, k < suf.length → M1 121 (j + k) = ((suf.getD k 0 : Nat) : Int)) → ((g = 0 ∧ ¬ rd_gd (rd_nd t A) suf) ∨ (g = 1 ∧ rd_gd (rd_nd t A) suf)) → (∀ i, i ∈ suf → i < 6) →
        ab_wp d 153 13 [some (.inr (.inr 103)), some (.inl (r : Int)), some (.inl (n : Int)), some (.inl ((rd_set suf : Nat) : Int)), some (.inl (R : Int)), some (.inl g), some (.inl ((j : Int) - 1))] [] M1 (fun r' M' => ∃ v, r' = some (.inl v) ∧ pu_at t A M' ∧ (∀ k f : Nat, k ≠ 121 → M' k f = M k f) ∧ rd_mr 121 (rd_dg r n) M' ∧ ((v = -1 ∧ ¬ rd_gd (rd_nd t A) (rd_dg r n)) ∨ (v = ((rd_set (rd_dg r n) : Nat) : Int) ∧ rd_gd (rd_nd t A) (rd_dg r n)))) := by
      intro j
      induction j with
      | zero =>
        intro R suf M1 g hR e hl a1 fr hrow hg h6
        have e : rd_dg r n = suf := e
        have mr : rd_mr 121 (rd_dg r n) M1 := by
          rw [e]
          intro k hk
          have := hrow k hk
          rw [Nat.zero_add] at this
          exact this
        refine b153_13 (by omega) a1.2.1 ⟨fun _ => ⟨fun q => ⟨_, rfl, a1, fr, mr, Or.inl ⟨rfl, ?_⟩⟩, fun q => ⟨_, rfl, a1, fr, mr, Or.inr ⟨by rw [e], ?_⟩⟩⟩, fun q => by omega⟩
        · rw [e]
          rcases hg with y | y
          · exact y.2
          · omega
        · rw [e]
          rcases hg with y | y
          · omega
          · exact y.2
      | succ j ih =>
        intro R suf M1 g hR e hl a1 fr hrow hg h6
        have e' : rd_dg r n = rd_dg (R / 6) j ++ (R % 6 :: suf) := by
          rw [e, dg_s, List.append_assoc]
          rfl
        have r3 : M1 103 11 = A t 3 := (at_r a1 103 11 (by omega)).trans m3
        have td : (R : Int).tdiv 6 = ((R / 6 : Nat) : Int) := by
          rw [Int.tdiv_eq_ediv_of_nonneg (by omega)]
          omega
        have tm : (R : Int).tmod 6 = ((R % 6 : Nat) : Int) := by
          rw [Int.tmod_eq_emod_of_nonneg (by omega)]
          omega
        have hd6 : R % 6 < 6 := by omega
        have s64 := set_64 h6
        have h6' : ∀ i, i ∈ R % 6 :: suf → i < 6 := fun i hi => by
          rcases List.mem_cons.1 hi with q | q
          · omega
          · exact h6 i q
        have a2 : pu_at t A (ab_w M1 121 j ((R % 6 : Nat) : Int)) := at_w a1 (str_a a1.2.1 rfl) (by omega)
        have fr2 : ∀ k f : Nat, k ≠ 121 → ab_w M1 121 j ((R % 6 : Nat) : Int) k f = M k f := fun k f hk => by
          unfold ab_w
          rw [if_neg (by omega)]
          exact fr k f hk
        have row2 : ∀ k : Nat, k < (R % 6 :: suf).length → ab_w M1 121 j ((R % 6 : Nat) : Int) 121 (j + k) = (((R % 6 :: suf).getD k 0 : Nat) : Int) := by
          intro k hk
          cases k with
          | zero =>
            rw [Nat.add_zero, ab_w_eq]
            rfl
          | succ k =>
            unfold ab_w
            rw [if_neg (by omega)]
            rw [List.length_cons] at hk
            have := hrow k (by omega)
            rw [show j + (k + 1) = j + 1 + k from by omega, this]
            rfl
        have len2 : j + (R % 6 :: suf).length = n := by rw [List.length_cons]; omega
        have or2 : ab_or ((rd_set suf : Nat) : Int) (ab_shl 1 ((R % 6 : Nat) : Int)) = ((rd_set (R % 6 :: suf) : Nat) : Int) := by
          rw [set_cons hd6 h6]
          exact (or_all ⟨_, s64⟩ ⟨_, hd6⟩).1
        have go : ∀ g, ((g = 0 ∧ ¬ rd_gd (rd_nd t A) (R % 6 :: suf)) ∨ (g = 1 ∧ rd_gd (rd_nd t A) (R % 6 :: suf))) → ab_wp d 153 13 [some (.inr (.inr 103)), some (.inl (r : Int)), some (.inl (n : Int)), some (.inl ((rd_set (R % 6 :: suf) : Nat) : Int)), some (.inl ((R / 6 : Nat) : Int)), some (.inl g), some (.inl ((j : Int) - 1))] [] (ab_w M1 121 j ((R % 6 : Nat) : Int)) _ := fun g hg => ih (R / 6) (R % 6 :: suf) _ g (by omega) e' len2 a2 fr2 row2 hg h6'
        have bad : ¬ rd_gd (rd_nd t A) (R % 6 :: suf) → ∀ g : Int, ab_wp d 153 74 [some (.inr (.inr 103)), some (.inl (r : Int)), some (.inl (n : Int)), some (.inl ((rd_set suf : Nat) : Int)), some (.inl ((R / 6 : Nat) : Int)), some (.inl g), some (.inl (j : Int))] [] (ab_w M1 121 j ((R % 6 : Nat) : Int)) (fun r' M' => ∃ v, r' = some (.inl v) ∧ pu_at t A M' ∧ (∀ k f : Nat, k ≠ 121 → M' k f = M k f) ∧ rd_mr 121 (rd_dg r n) M' ∧ ((v = -1 ∧ ¬ rd_gd (rd_nd t A) (rd_dg r n)) ∨ (v = ((rd_set (rd_dg r n) : Nat) : Int) ∧ rd_gd (rd_nd t A) (rd_dg r n)))) := by
          intro hb g
          refine b153_74 (by omega) a2.2.1 ⟨by omega, by omega, ?_⟩
          rw [Int.toNat_natCast, ab_w_eq, or2]
          exact go 0 (Or.inl ⟨rfl, hb⟩)
        rw [show (((j + 1 : Nat) : Int) - 1) = (j : Int) from by omega]
        refine b153_13 (by omega) a1.2.1 ⟨fun q => by omega, fun _ => ?_⟩
        rw [Int.toNat_natCast, td, tm, ab_w_eq]
        refine ⟨by omega, by omega, fun q => bad ?_ _, fun q => ⟨fun z => bad ?_ _, fun z => ?_⟩⟩
        · intro y
          rcases hg with u | u
          · exact u.2 ⟨(List.nodup_cons.1 y.1).2, fun i hi => y.2 i (List.mem_cons_of_mem _ hi)⟩
          · omega
        · intro y
          have := y.2 _ List.mem_cons_self
          unfold rd_nd at this
          omega
        · have wk := s108 (d := d - 1) (by omega) a2.2.1 (s := ((rd_set suf : Nat) : Int)) (i := ((R % 6 : Nat) : Int)) (by omega) (by omega)
          rw [Int.toNat_natCast, Int.toNat_natCast] at wk
          refine ⟨_, _, wk, a2.2.1, fun y => bad ?_ _, fun y => ⟨by omega, ?_⟩⟩
          · intro u
            have := has_t y
            rw [set_bit] at this
            exact (List.nodup_cons.1 u.1).1 (of_decide_eq_true this)
          · have yn := has_f y
            rw [set_bit] at yn
            rw [ab_w_eq, or2]
            refine go 1 (Or.inr ⟨rfl, List.nodup_cons.2 ⟨fun u => yn (decide_eq_true u), ?_⟩, fun i hi => ?_⟩)
            · rcases hg with u | u
              · omega
              · exact u.2.1
            · rcases List.mem_cons.1 hi with u | u
              · rw [u]; unfold rd_nd; omega
              · rcases hg with v | v
                · omega
                · exact v.2.2 i u
    exact key n r [] M 1 (by omega) (by rw [List.append_nil]) rfl h (fun _ _ _ => rfl) (fun k hk => absurd hk (by simp)) (Or.inr ⟨rfl, List.nodup_nil, fun i hi => absurd hi List.not_mem_nil⟩) (fun i hi => absurd hi List.not_mem_nil)
  obtain ⟨r', M', e, v, rfl, h1, h2, h3, h4⟩ := wp_ev w
  exact ⟨M', v, e, h1, h2, h3, h4⟩
theorem drop_s {x : List Nat} {k : Nat} (h : k < x.length) : x.drop k = x.getD k 0 :: x.drop (k + 1) := by
  rw [List.drop_eq_getElem_cons h]
  simp [List.getD_eq_getElem?_getD, List.getElem?_eq_getElem h]
theorem s154 {d t : Nat} {A M : ab_M} (hd : 1 ≤ d) (h : pu_at t A M) {x b : List Nat} (hx : rd_mr 121 x M) (hb : rd_mr 122 b M) (hx6 : x.length ≤ 6) (hb6 : b.length ≤ 6) : ∃ v, ab_ev d 154 [.inr (.inr 103), .inl ((x.length : Nat) : Int), .inl ((b.length : Nat) : Int)] M (some (.inl v)) M ∧ (v ≠ 0 ↔ rd_ah x b) := by
  have w : ab_wp d 154 0 (ab_ent [.inr (.inr 103), .inl ((x.length : Nat) : Int), .inl ((b.length : Nat) : Int)] (ab_mx 154)) [] M (fun r' M' => M' = M ∧ ∃ v, r' = some (.inl v) ∧ (v ≠ 0 ↔ rd_ah x b)) := by
    refine b154_0 (by omega) h.2.1 ?_
    refine loop_up (P := fun k => (rd_ah (x.drop k) (b.drop k) ↔ rd_ah x b) → ab_wp d 154 2 [some (.inr (.inr 103)), some (.inl ((x.length : Nat) : Int)), some (.inl ((b.length : Nat) : Int)), some (.inl (k : Int))] [] M _) x.length ?_ ?_ 0 (by omega) (by rw [List.drop_zero, List.drop_zero])
    · intro e
      rw [List.drop_length] at e
      refine b154_2 (by omega) h.2.1 ⟨fun _ => ⟨fun q => ⟨rfl, 0, rfl, ?_⟩, fun q => ⟨rfl, 1, rfl, ?_⟩⟩, fun q => by omega⟩
      · rw [← e, List.drop_eq_nil_of_le (by omega)]
        exact ⟨fun z => absurd rfl z, fun z => absurd z (ah_nil _)⟩
      · rw [← e, drop_s (x := b) (k := x.length) (by omega)]
        exact ⟨fun _ => trivial, fun _ => by decide⟩
    · intro k hk ih e
      rw [Int.natCast_succ] at ih
      have dx := drop_s hk
      by_cases c : k < b.length
      · have db := drop_s c
        have ex := hx k hk
        have eb := hb k c
        have e2 : rd_ah (x.drop k) (b.drop k) ↔ (x.getD k 0 < b.getD k 0 ∨ (x.getD k 0 = b.getD k 0 ∧ rd_ah (x.drop (k + 1)) (b.drop (k + 1)))) := by
          rw [dx, db]
          exact Iff.rfl
        refine b154_2 (by omega) h.2.1 ⟨fun q => by omega, fun _ => ⟨fun q => by omega, fun _ => ⟨by omega, fun q => ⟨by omega, ih ?_⟩, fun q => ⟨fun z => ⟨rfl, 0, rfl, ?_⟩, fun z => ⟨rfl, 1, rfl, ?_⟩⟩⟩⟩⟩
        · rw [Int.toNat_natCast, ex, eb] at q
          rw [← e, e2]
          exact ⟨fun y => Or.inr ⟨by omega, y⟩, fun y => y.elim (fun u => by omega) (fun u => u.2)⟩
        · rw [Int.toNat_natCast, ex, eb] at q z
          rw [← e, e2]
          exact ⟨fun y => absurd rfl y, fun y => y.elim (fun u => by omega) (fun u => by omega)⟩
        · rw [Int.toNat_natCast, ex, eb] at q z
          rw [← e, e2]
          exact ⟨fun _ => Or.inl (by omega), fun _ => by decide⟩
      · refine b154_2 (by omega) h.2.1 ⟨fun q => by omega, fun _ => ⟨fun _ => ⟨fun q => ⟨rfl, 0, rfl, ?_⟩, fun q => by omega⟩, fun q => by omega⟩⟩
        rw [← e, List.drop_eq_nil_of_le (show b.length ≤ k by omega)]
        exact ⟨fun z => absurd rfl z, fun z => absurd z (ah_nil _)⟩
  obtain ⟨r', M', e, rfl, v, rfl, hv⟩ := wp_ev w
  exact ⟨v, e, hv⟩
