/-! chains of trust: the class -/
def ch_en (t : Nat) (A : ab_M) (i : Nat) (sq mn : Int) : Int := if A (t + 25 + sq.toNat) i = -1 then -1 else (mn * A (t + 25 + sq.toNat) i).tdiv 10
def ch_H (t : Nat) (A : ab_M) (a : Nat) : rd_HH := ((fun i => (i : Int)), ch_en t A, (a : Int), 1000000000)
abbrev ch_np (t : Nat) (A : ab_M) : Nat := (A t 2).toNat
def ch_o (t : Nat) (A : ab_M) (a : Nat) : Nat := rd_rm (2 ^ ch_np t A - 1) a
theorem ch_np6 {t : Nat} {A : ab_M} (h : pu_inv t A) : ch_np t A ≤ 6 := by
  have := h.2.1.2.1
  unfold ch_np
  omega
theorem ch_o64 {t : Nat} {A : ab_M} (h : pu_inv t A) (a : Nat) : ch_o t A a < 64 := rm_64 (shl_all ⟨ch_np t A, by have := ch_np6 h; omega⟩).2
theorem ch_obit {t : Nat} {A : ab_M} (h : pu_inv t A) {a : Nat} (ha : a < 6) (j : Nat) : (ch_o t A a).testBit j = true ↔ (j < ch_np t A ∧ j ≠ a) := by
  unfold ch_o
  rw [rm_bit (shl_all ⟨ch_np t A, by have := ch_np6 h; omega⟩).2 ha, Nat.testBit_two_pow_sub_one]
  simp
theorem q_rg {t : Nat} {A : ab_M} (h : pu_inv t A) {a b : Nat} (ha : a < 6) (hb : b < 6) : -1 ≤ A (t + 25 + a) b ∧ A (t + 25 + a) b ≤ 10 := by
  have := h.2.2.2.2.1 a b ha hb
  exact ⟨this.1, this.2.1⟩
theorem ch_mul {m q : Int} (hm : 0 ≤ m ∧ m ≤ 1000000000) (hq : 0 ≤ q ∧ q ≤ 10) : (0 ≤ m * q ∧ m * q ≤ 10000000000) ∧ (0 ≤ (m * q).tdiv 10 ∧ (m * q).tdiv 10 ≤ 1000000000) := by
  have h1 : 0 ≤ m * q := Int.mul_nonneg hm.1 hq.1
  have h2 : m * q ≤ m * 10 := Int.mul_le_mul_of_nonneg_left hq.2 hm.1
  refine ⟨⟨h1, by omega⟩, ?_⟩
  rw [Int.tdiv_eq_ediv_of_nonneg h1]
  omega
/-- places and odds along a chain -/
theorem ch_rg {t : Nat} {A : ab_M} (h : pu_inv t A) {a : Nat} (ha : a < ch_np t A) {o : Nat} : ∀ (n : Nat) (r : List Nat), r.length = n → rd_v (ch_H t A a) (ch_np t A) o r → (0 ≤ rd_mn (ch_H t A a) r ∧ rd_mn (ch_H t A a) r ≤ 1000000000) ∧ (0 ≤ rd_sq (ch_H t A a) r ∧ rd_sq (ch_H t A a) r < ch_np t A) := by
  have n6 := ch_np6 h
  intro n
  induction n with
  | zero =>
    intro r e _
    rw [List.eq_nil_of_length_eq_zero e]
    refine ⟨?_, ?_⟩
    · show 0 ≤ (1000000000 : Int) ∧ (1000000000 : Int) ≤ 1000000000
      omega
    · show 0 ≤ (a : Int) ∧ (a : Int) < _
      omega
  | succ n ih =>
    intro r e hv
    rcases List.eq_nil_or_concat r with q | ⟨r', i, q⟩
    · rw [q] at e; cases e
    · rw [List.concat_eq_append] at q
      rw [q] at e hv ⊢
      rw [List.length_append, List.length_singleton] at e
      obtain ⟨v1, v2, v3, v4⟩ := v_pre hv
      have g := ih r' (by omega) v1
      have o2 : ch_en t A i (rd_sq (ch_H t A a) r') (rd_mn (ch_H t A a) r') ≠ -1 := ((ok_snoc _ _ _).1 hv.2.2).2
      have qr := q_rg h (a := (rd_sq (ch_H t A a) r').toNat) (b := i) (by omega) (by omega)
      rw [mn_snoc, sq_snoc]
      refine ⟨?_, ?_⟩
      · show 0 ≤ ch_en t A i _ _ ∧ ch_en t A i _ _ ≤ 1000000000
        unfold ch_en at o2 ⊢
        by_cases c : A (t + 25 + (rd_sq (ch_H t A a) r').toNat) i = -1
        · rw [if_pos c] at o2; exact absurd rfl o2
        · rw [if_neg c]
          exact (ch_mul g.1 (by omega)).2
      · show 0 ≤ (i : Int) ∧ (i : Int) < _
        omega
/-- the best of L's chains that end in b -/
def ch_b (H : rd_HH) (L : List (List Nat)) (b : Nat) (v f : Int) : Prop := (v = -1 ∧ f = -1 ∧ ∀ r, r ∈ L → rd_sq H r ≠ (b : Int)) ∨ (∃ r, r ∈ L ∧ rd_sq H r = (b : Int) ∧ rd_mn H r = v ∧ ((r.length : Nat) : Int) + 1 = f ∧ 0 ≤ v ∧ ∀ r', r' ∈ L → rd_sq H r' = (b : Int) → rd_mn H r' < v ∨ (rd_mn H r' = v ∧ f ≤ ((r'.length : Nat) : Int) + 1))
theorem chb_other {H : rd_HH} {L : List (List Nat)} {b : Nat} {v f : Int} {row : List Nat} (h : ch_b H L b v f) (q : rd_sq H row ≠ (b : Int)) : ch_b H (L ++ [row]) b v f := by
  rcases h with ⟨h1, h2, h3⟩ | ⟨r, h1, h2, h3, h4, h5, h6⟩
  · refine Or.inl ⟨h1, h2, fun r hr => ?_⟩
    rcases List.mem_append.1 hr with y | y
    · exact h3 r y
    · rw [List.mem_singleton.1 y]; exact q
  · refine Or.inr ⟨r, List.mem_append.2 (Or.inl h1), h2, h3, h4, h5, fun r' hr' e => ?_⟩
    rcases List.mem_append.1 hr' with y | y
    · exact h6 r' y e
    · rw [List.mem_singleton.1 y] at e; exact absurd e q
theorem chb_new {H : rd_HH} {L : List (List Nat)} {b : Nat} {v f : Int} {row : List Nat} (h : ch_b H L b v f) (e : rd_sq H row = (b : Int)) (hm : 0 ≤ rd_mn H row) (q : v < rd_mn H row ∨ (rd_mn H row = v ∧ ((row.length : Nat) : Int) + 1 < f)) : ch_b H (L ++ [row]) b (rd_mn H row) (((row.length : Nat) : Int) + 1) := by
  refine Or.inr ⟨row, List.mem_append.2 (Or.inr (List.mem_singleton.2 rfl)), e, rfl, rfl, hm, fun r' hr' e' => ?_⟩
  rcases List.mem_append.1 hr' with y | y
  · rcases h with ⟨h1, h2, h3⟩ | ⟨r, h1, h2, h3, h4, h5, h6⟩
    · exact absurd e' (h3 r' y)
    · have := h6 r' y e'
      clear h6
      omega
  · rw [List.mem_singleton.1 y]
    right
    exact ⟨rfl, Int.le_refl _⟩
theorem chb_keep {H : rd_HH} {L : List (List Nat)} {b : Nat} {v f : Int} {row : List Nat} (h : ch_b H L b v f) (hm : 0 ≤ rd_mn H row) (q : ¬ (v < rd_mn H row ∨ (rd_mn H row = v ∧ ((row.length : Nat) : Int) + 1 < f))) : ch_b H (L ++ [row]) b v f := by
  rcases h with ⟨h1, h2, h3⟩ | ⟨r, h1, h2, h3, h4, h5, h6⟩
  · omega
  · refine Or.inr ⟨r, List.mem_append.2 (Or.inl h1), h2, h3, h4, h5, fun r' hr' e => ?_⟩
    rcases List.mem_append.1 hr' with y | y
    · exact h6 r' y e
    · rw [List.mem_singleton.1 y]
      clear h6
      omega
def ch_I (H : rd_HH) (L : List (List Nat)) (M : ab_M) : Prop := ∀ b : Nat, b < 6 → ch_b H L b (M 96 b) (M 97 b)
theorem s6 {d t : Nat} {A M : ab_M} {H : rd_HH} {L : List (List Nat)} {row : List Nat} (hd : 1 ≤ d) (h : pu_at t A M) (hm : 0 ≤ rd_mn H row) {b : Nat} (hb : b < 6) (e : rd_sq H row = (b : Int)) (hi : ch_I H L M) : ∃ M', ab_ev d 6 [.inr (.inr 95), .inl (rd_sq H row), .inl (rd_mn H row), .inl (((row.length : Nat) : Int) + 1)] M none M' ∧ pu_at t A M' ∧ ch_I H (L ++ [row]) M' := by
  have new : (M 96 b < rd_mn H row ∨ (rd_mn H row = M 96 b ∧ ((row.length : Nat) : Int) + 1 < M 97 b)) → ch_I H (L ++ [row]) (ab_w (ab_w M 96 b (rd_mn H row)) 97 b (((row.length : Nat) : Int) + 1)) := by
    intro q b' hb'
    unfold ab_w
    by_cases c : b' = b
    · subst c
      rw [if_neg (by omega), if_pos ⟨rfl, rfl⟩, if_pos ⟨rfl, rfl⟩]
      exact chb_new (hi b' hb') e hm q
    · rw [if_neg (by omega), if_neg (by omega), if_neg (by omega), if_neg (by omega)]
      exact chb_other (hi b' hb') (by rw [e]; omega)
  have keep : ¬ (M 96 b < rd_mn H row ∨ (rd_mn H row = M 96 b ∧ ((row.length : Nat) : Int) + 1 < M 97 b)) → ch_I H (L ++ [row]) M := by
    intro q b' hb'
    by_cases c : b' = b
    · subst c
      exact chb_keep (hi b' hb') hm q
    · exact chb_other (hi b' hb') (by rw [e]; omega)
  have aN : pu_at t A (ab_w (ab_w M 96 b (rd_mn H row)) 97 b (((row.length : Nat) : Int) + 1)) := at_w (at_w h (str_a h.2.1 rfl) (by omega)) (str_a (str_a h.2.1 rfl) rfl) (by omega)
  have w : ab_wp d 6 0 (ab_ent [.inr (.inr 95), .inl (rd_sq H row), .inl (rd_mn H row), .inl (((row.length : Nat) : Int) + 1)] (ab_mx 6)) [] M (fun r M' => r = none ∧ pu_at t A M' ∧ ch_I H (L ++ [row]) M') := by
    refine b6_0 (by omega) h.2.1 ?_
    rw [e, Int.toNat_natCast]
    refine ⟨by omega, fun q => ⟨rfl, aN, new (Or.inl q)⟩, fun q => ⟨fun z => ⟨rfl, h, keep ?_⟩, fun z => ⟨fun y => ⟨rfl, h, keep ?_⟩, fun y => ⟨rfl, aN, new (Or.inr ⟨z, y⟩)⟩⟩⟩⟩
    · clear new keep
      omega
    · clear new keep
      omega
  obtain ⟨r, M', e', rfl, h1, h2⟩ := wp_ev w
  exact ⟨M', e', h1, h2⟩
theorem s5 {t : Nat} {A : ab_M} (hA : pu_inv t A) {a : Nat} (ha : a < ch_np t A) :
    ∀ (f d left before : Nat) L row M, 6 + f ≤ d → row.length + 1 + f = 6 → left < 64 → before < 64 → pu_at t A M → rd_v (ch_H t A a) (ch_np t A) (ch_o t A a) row → (∀ j : Nat, j < ch_np t A → (left.testBit j = true ↔ ¬ (before.testBit j = true ∨ (j : Int) = rd_sq (ch_H t A a) row))) → (∀ j : Nat, left.testBit j = true → (ch_o t A a).testBit j = true ∧ j ∉ row) → ch_I (ch_H t A a) L M →
      ∃ M', ab_ev d 5 [.inr (.inr 95), .inr (.inr t), .inl (rd_sq (ch_H t A a) row), .inl (rd_mn (ch_H t A a) row), .inl (before : Int), .inl (((row.length : Nat) : Int) + 1)] M none M' ∧ pu_at t A M' ∧ ch_I (ch_H t A a) (L ++ rd_dfs (ch_H t A a) (ch_np t A) f left row) M' := by
  have ht : t = 5 ∨ t = 37 := hA.1.2.2.1
  have n6 := ch_np6 hA
  have t2 := hA.2.1.2.1
  intro f
  induction f with
  | zero =>
    intro d left before L row M hd hl h64 hb64 hM hv hlb hlo hi
    have rg := ch_rg hA ha _ row rfl hv
    obtain ⟨b, eb⟩ : ∃ b : Nat, rd_sq (ch_H t A a) row = (b : Int) := ⟨(rd_sq (ch_H t A a) row).toNat, by omega⟩
    obtain ⟨M1, e1, a1, i1⟩ := s6 (d := d - 1) (by omega) hM rg.1.1 (b := b) (by omega) eb hi
    exact ⟨M1, ev_wp (b5_0 (by omega) hM.2.1 hM.2.1.2.2.1 ⟨M1, e1, a1.2.1, fun q => by omega, fun _ => ⟨rfl, rfl⟩⟩), a1, i1⟩
  | succ f ih =>
    intro d left before L row M hd hl h64 hb64 hM hv hlb hlo hi
    have rg := ch_rg hA ha _ row rfl hv
    obtain ⟨b, eb⟩ : ∃ b : Nat, rd_sq (ch_H t A a) row = (b : Int) := ⟨(rd_sq (ch_H t A a) row).toNat, by omega⟩
    have b6 : b < 6 := by omega
    obtain ⟨M1, e1, a1, i1⟩ := s6 (d := d - 1) (by omega) hM rg.1.1 (b := b) b6 eb hi
    have om := or_all ⟨before, hb64⟩ ⟨b, b6⟩
    have om1 : ab_or (before : Int) (ab_shl 1 (b : Int)) = ((before ||| 2 ^ b : Nat) : Int) := om.1
    have om2 : before ||| 2 ^ b < 64 := om.2
    have w : ab_wp d 5 0 (ab_ent [.inr (.inr 95), .inr (.inr t), .inl (rd_sq (ch_H t A a) row), .inl (rd_mn (ch_H t A a) row), .inl (before : Int), .inl (((row.length : Nat) : Int) + 1)] (ab_mx 5)) [] M (fun r M' => r = none ∧ pu_at t A M' ∧ ch_I (ch_H t A a) (L ++ rd_dfs (ch_H t A a) (ch_np t A) (f + 1) left row) M') := by
      refine b5_0 (by omega) hM.2.1 hM.2.1.2.2.1 ⟨M1, e1, a1.2.1, fun _ => ?_, fun q => by omega⟩
      rw [dfs_s, eb, om1]
      refine loop_up (P := fun i => ∀ M y8, pu_at t A M → ch_I (ch_H t A a) (L ++ row :: (List.range i).flatMap (fun i => if left.testBit i = true ∧ (ch_H t A a).2.1 i (b : Int) (rd_mn (ch_H t A a) row) ≠ -1 then rd_dfs (ch_H t A a) (ch_np t A) f (rd_rm left i) (row ++ [i]) else [])) M → ab_wp d 5 27 [some (.inr (.inr 95)), some (.inr (.inr t)), some (.inl (b : Int)), some (.inl (rd_mn (ch_H t A a) row)), some (.inl (before : Int)), some (.inl (((row.length : Nat) : Int) + 1)), some (.inl ((before ||| 2 ^ b : Nat) : Int)), some (.inl (i : Int)), y8] [] M _) (ch_np t A) ?_ ?_ 0 (by omega) _ _ a1 i1
      · intro M y8 hM hi
        have r2 : M t 2 = A t 2 := at_r hM t 2 (by omega)
        exact b5_27 (by omega) hM.2.1 hM.2.1.2.2.1 ⟨fun _ => ⟨rfl, hM, hi⟩, fun q => by clear hi; unfold ch_np at q; omega⟩
      · intro i hin ih2 M y8 hM hi
        have r2 : M t 2 = A t 2 := at_r hM t 2 (by omega)
        have hin' : (i : Int) < A t 2 := by unfold ch_np at hin; omega
        rw [range_fm, Int.natCast_succ] at ih2
        have hb : ab_and (ab_shr ((before ||| 2 ^ b : Nat) : Int) (i : Int)) 1 = if (before ||| 2 ^ b).testBit i then 1 else 0 := by
          have := pu_has (s := ((before ||| 2 ^ b : Nat) : Int)) (i := (i : Int)) (by omega) (by omega)
          rw [Int.toNat_natCast, Int.toNat_natCast] at this
          exact this
        have mb : (before ||| 2 ^ b).testBit i = true ↔ ¬ left.testBit i = true := by
          rw [hlb i hin, Nat.testBit_or, Nat.testBit_two_pow, Bool.or_eq_true, decide_eq_true_eq, eb, Classical.not_not]
          constructor
          · rintro (q | q)
            · exact Or.inl q
            · exact Or.inr (by omega)
          · rintro (q | q)
            · exact Or.inl q
            · exact Or.inr (by omega)
        have rgi : ab_rg ((i : Int) + 1) := by clear hi ih2 ih; omega
        have rq : M (t + 25 + b) i = A (t + 25 + b) i := by
          rw [show t + 25 + b = t + (25 + b) from by omega]
          exact at_t hM (25 + b) i (by omega)
        have qr := q_rg hA b6 (b := i) (by omega)
        refine b5_27 (by omega) hM.2.1 hM.2.1.2.2.1 ⟨fun q => by clear hi ih2 ih; omega, fun _ => ⟨fun q => ⟨rgi, ?_⟩, fun q => ?_⟩⟩
        · rw [hb] at q
          have qb := mb.1 (has_t q)
          rw [if_neg (fun y => qb y.1), List.append_nil] at ih2
          exact ih2 _ _ hM hi
        · rw [hb] at q
          have ql : left.testBit i = true := by
            apply Classical.byContradiction
            intro z
            exact has_f q (mb.2 z)
          rw [Int.toNat_natCast, Int.toNat_natCast, rq]
          refine ⟨by clear hi ih2 ih; omega, by clear hi ih2 ih; omega, fun z => ⟨rgi, ?_⟩, fun z => ?_⟩
          · have z2 : (ch_H t A a).2.1 i (b : Int) (rd_mn (ch_H t A a) row) = -1 := by
              show ch_en t A i (b : Int) _ = -1
              unfold ch_en
              rw [Int.toNat_natCast, if_pos z]
            rw [if_neg (fun y => y.2 z2), List.append_nil] at ih2
            exact ih2 _ _ hM hi
          · have en : (ch_H t A a).2.1 i (b : Int) (rd_mn (ch_H t A a) row) = (rd_mn (ch_H t A a) row * A (t + 25 + b) i).tdiv 10 := by
              show ch_en t A i (b : Int) _ = _
              unfold ch_en
              rw [Int.toNat_natCast, if_neg z]
            have mu := ch_mul rg.1 (q := A (t + 25 + b) i) (by clear hi ih2 ih; omega)
            have c1 : left.testBit i = true ∧ (ch_H t A a).2.1 i (b : Int) (rd_mn (ch_H t A a) row) ≠ -1 := ⟨ql, by rw [en]; clear hi ih2 ih; omega⟩
            rw [if_pos c1] at ih2
            have lo := hlo i ql
            have v2 : rd_v (ch_H t A a) (ch_np t A) (ch_o t A a) (row ++ [i]) := v_snoc hv lo.2 hin lo.1 (by rw [eb]; exact c1.2)
            have es : rd_sq (ch_H t A a) (row ++ [i]) = (i : Int) := sq_snoc _ _ _
            have em : rd_mn (ch_H t A a) (row ++ [i]) = (rd_mn (ch_H t A a) row * A (t + 25 + b) i).tdiv 10 := by rw [mn_snoc, eb, en]
            have hl2 : (row ++ [i]).length = row.length + 1 := by rw [List.length_append, List.length_singleton]
            obtain ⟨M3, e3, a3, i3⟩ := ih (d - 1) (rd_rm left i) (before ||| 2 ^ b) _ (row ++ [i]) _ (by clear hi ih2; omega) (by clear hi ih2; omega) (rm_64 h64) om2 hM v2 (fun j hj => by
              rw [rm_bit h64 (by clear hi ih2 ih; omega), Bool.and_eq_true, decide_eq_true_eq, hlb j hj, es, Nat.testBit_or, Nat.testBit_two_pow, Bool.or_eq_true, decide_eq_true_eq, eb]
              constructor
              · rintro ⟨y1, y2⟩ ((y | y) | y)
                · exact y1 (Or.inl y)
                · exact y1 (Or.inr (by clear hi ih2 ih; omega))
                · exact y2 (by clear hi ih2 ih; omega)
              · intro y
                refine ⟨fun u => y ?_, fun u => y (Or.inr (by clear hi ih2 ih; omega))⟩
                rcases u with u | u
                · exact Or.inl (Or.inl u)
                · exact Or.inl (Or.inr (by clear hi ih2 ih; omega))) (fun j hj => by
              rw [rm_bit h64 (by clear hi ih2 ih; omega), Bool.and_eq_true, decide_eq_true_eq] at hj
              refine ⟨(hlo j hj.1).1, fun y => ?_⟩
              rcases List.mem_append.1 y with u | u
              · exact (hlo j hj.1).2 u
              · exact hj.2 (List.mem_singleton.1 u)) hi
            rw [em, es, hl2, Int.natCast_succ] at e3
            have mr := mu.2
            refine ⟨by unfold ab_rl; clear hi ih2 ih i3; omega, by unfold ab_rl; clear hi ih2 ih i3; omega, by clear hi ih2 ih i3; omega, by clear hi ih2 ih i3; omega, M3, e3, a3.2.1, rgi, ih2 _ _ a3 ?_⟩
            rw [List.append_assoc, List.cons_append] at i3
            exact i3
    obtain ⟨r, M', e, rfl, h1, h2⟩ := wp_ev w
    exact ⟨M', e, h1, h2⟩
