/-! lost -/
def ch_P (t : Nat) (A : ab_M) (a : Nat) (r : List Nat) : Prop := rd_v (ch_H t A a) (ch_np t A) (ch_o t A a) r ∧ 0 < rd_mn (ch_H t A a) r
def ch_re (t : Nat) (A : ab_M) (a j : Nat) : Prop := ∃ r, ch_P t A a r ∧ rd_sq (ch_H t A a) r = (j : Int)
def ch_c : Nat → Int
  | 0 => 1000000000
  | k + 1 => ch_c k / 10
theorem c_pos : ∀ k : Fin 6, 0 < ch_c k.val := by decide
theorem P_nil (t : Nat) (A : ab_M) (a : Nat) : ch_P t A a [] := ⟨⟨List.nodup_nil, fun j hj => absurd hj List.not_mem_nil, ok_nil _⟩, (by decide : (0 : Int) < 1000000000)⟩
theorem P_pre {t : Nat} {A : ab_M} (h : pu_inv t A) {a : Nat} (ha : a < ch_np t A) {r : List Nat} {i : Nat} (hp : ch_P t A a (r ++ [i])) : ch_P t A a r ∧ 0 < A (t + 25 + (rd_sq (ch_H t A a) r).toNat) i ∧ rd_mn (ch_H t A a) (r ++ [i]) = (rd_mn (ch_H t A a) r * A (t + 25 + (rd_sq (ch_H t A a) r).toNat) i).tdiv 10 := by
  have n6 := ch_np6 h
  obtain ⟨hv, hm⟩ := hp
  obtain ⟨v1, v2, v3, v4⟩ := v_pre hv
  have rg := ch_rg h ha _ r rfl v1
  have o2 := ((ok_snoc _ _ _).1 hv.2.2).2
  have o2 : ch_en t A i (rd_sq (ch_H t A a) r) (rd_mn (ch_H t A a) r) ≠ -1 := o2
  have qr := q_rg h (a := (rd_sq (ch_H t A a) r).toNat) (b := i) (by omega) (by omega)
  have em : rd_mn (ch_H t A a) (r ++ [i]) = (rd_mn (ch_H t A a) r * A (t + 25 + (rd_sq (ch_H t A a) r).toNat) i).tdiv 10 := by
    rw [mn_snoc]
    show ch_en t A i _ _ = _
    unfold ch_en at o2 ⊢
    by_cases c : A (t + 25 + (rd_sq (ch_H t A a) r).toNat) i = -1
    · rw [if_pos c] at o2; exact absurd rfl o2
    · rw [if_neg c]
  have nz : A (t + 25 + (rd_sq (ch_H t A a) r).toNat) i ≠ -1 := by
    intro c
    unfold ch_en at o2
    rw [if_pos c] at o2
    exact o2 rfl
  rw [em] at hm
  refine ⟨⟨v1, ?_⟩, ?_, em⟩
  · by_cases c : rd_mn (ch_H t A a) r = 0
    · rw [c, Int.zero_mul] at hm
      exact absurd hm (by decide)
    · omega
  · by_cases c : A (t + 25 + (rd_sq (ch_H t A a) r).toNat) i = 0
    · rw [c, Int.mul_zero] at hm
      exact absurd hm (by decide)
    · omega
theorem P_lb {t : Nat} {A : ab_M} (h : pu_inv t A) {a : Nat} (ha : a < ch_np t A) : ∀ (n : Nat) (r : List Nat), r.length = n → ch_P t A a r → ch_c n ≤ rd_mn (ch_H t A a) r := by
  intro n
  induction n with
  | zero =>
    intro r e _
    rw [List.eq_nil_of_length_eq_zero e]
    exact Int.le_refl _
  | succ n ih =>
    intro r e hp
    rcases List.eq_nil_or_concat r with q | ⟨r', i, q⟩
    · rw [q] at e; cases e
    · rw [List.concat_eq_append] at q
      rw [q] at e hp ⊢
      rw [List.length_append, List.length_singleton] at e
      obtain ⟨p1, p2, p3⟩ := P_pre h ha hp
      have g := ih r' (by omega) p1
      have m0 := p1.2
      rw [p3]
      have le : rd_mn (ch_H t A a) r' * 1 ≤ rd_mn (ch_H t A a) r' * A (t + 25 + (rd_sq (ch_H t A a) r').toNat) i := Int.mul_le_mul_of_nonneg_left (by omega) (by omega)
      rw [Int.mul_one] at le
      rw [Int.tdiv_eq_ediv_of_nonneg (by omega)]
      show ch_c n / 10 ≤ _
      omega
theorem P_app {t : Nat} {A : ab_M} (h : pu_inv t A) {a : Nat} (ha : a < ch_np t A) : ∀ (s r : List Nat), ch_P t A a (r ++ s) → ch_P t A a r := by
  intro s
  generalize hn : s.length = n
  induction n generalizing s with
  | zero =>
    intro r hp
    rw [List.eq_nil_of_length_eq_zero hn, List.append_nil] at hp
    exact hp
  | succ n ih =>
    intro r hp
    rcases List.eq_nil_or_concat s with q | ⟨s', i, q⟩
    · rw [q] at hn; cases hn
    · rw [List.concat_eq_append] at q
      rw [q] at hn hp
      rw [List.length_append, List.length_singleton] at hn
      rw [← List.append_assoc] at hp
      exact ih s' (by omega) r (P_pre h ha hp).1
theorem re_step {t : Nat} {A : ab_M} (h : pu_inv t A) {a : Nat} (ha : a < ch_np t A) {i j : Nat} (hi : i < 6) (hj : j < 6) (hr : ch_re t A a i) (hq : 0 < A (t + 25 + i) j) : ch_re t A a j := by
  have n6 := ch_np6 h
  have t2 := h.2.1.2.1
  have od := h.2.2.2.2.1 i j hi hj
  have hj2 : j < ch_np t A := by
    apply Classical.byContradiction
    intro q
    have := od.2.2.2 (Or.inr (by unfold ch_np at q; omega))
    omega
  obtain ⟨r, hp, hs⟩ := hr
  by_cases ca : j = a
  · exact ⟨[], P_nil t A a, by rw [ca]; rfl⟩
  · by_cases cr : j ∈ r
    · obtain ⟨r1, r2, e⟩ := List.append_of_mem cr
      have e2 : r = (r1 ++ [j]) ++ r2 := by rw [e, List.append_assoc]; rfl
      rw [e2] at hp
      exact ⟨r1 ++ [j], P_app h ha r2 _ hp, sq_snoc _ _ _⟩
    · have en : (ch_H t A a).2.1 j (rd_sq (ch_H t A a) r) (rd_mn (ch_H t A a) r) = (rd_mn (ch_H t A a) r * A (t + 25 + i) j).tdiv 10 := by
        show ch_en t A j _ _ = _
        unfold ch_en
        rw [hs, Int.toNat_natCast, if_neg (by omega)]
      have rg := ch_rg h ha _ r rfl hp.1
      have mu := ch_mul rg.1 (q := A (t + 25 + i) j) (by omega)
      have hv : rd_v (ch_H t A a) (ch_np t A) (ch_o t A a) (r ++ [j]) := v_snoc hp.1 cr hj2 ((ch_obit h (by omega) j).2 ⟨hj2, ca⟩) (by rw [en]; omega)
      have hl := ch_len h ha hv
      rw [List.length_append, List.length_singleton] at hl
      have lb := P_lb h ha _ r rfl hp
      have m0 := hp.2
      have cp := c_pos ⟨r.length + 1, by omega⟩
      have cp : 0 < ch_c r.length / 10 := cp
      have le : rd_mn (ch_H t A a) r * 1 ≤ rd_mn (ch_H t A a) r * A (t + 25 + i) j := Int.mul_le_mul_of_nonneg_left (by omega) (by omega)
      rw [Int.mul_one] at le
      refine ⟨r ++ [j], ⟨hv, ?_⟩, sq_snoc _ _ _⟩
      rw [mn_snoc, en, Int.tdiv_eq_ediv_of_nonneg (by omega)]
      omega
def ch_ls (t : Nat) (A : ab_M) (a : Nat) (v : Int) : Prop := ∃ s : Nat, s < 64 ∧ v = (s : Int) ∧ ∀ j, s.testBit j = true ↔ (j < ch_np t A ∧ ¬ ch_re t A a j)
theorem ls_uq {t : Nat} {A : ab_M} {a : Nat} {v v' : Int} (h : ch_ls t A a v) (h' : ch_ls t A a v') : v = v' := by
  obtain ⟨s, h1, h2, h3⟩ := h
  obtain ⟨s', g1, g2, g3⟩ := h'
  have : s = s' := by
    apply Nat.eq_of_testBit_eq
    intro j
    have e := (h3 j).trans (g3 j).symm
    cases hs : s.testBit j with
    | true => rw [hs] at e; exact (e.1 rfl).symm
    | false =>
      cases hs' : s'.testBit j with
      | true => rw [hs, hs'] at e; exact absurd (e.2 rfl) (by decide)
      | false => rfl
  rw [h2, g2, this]
theorem lost_c {t : Nat} {A : ab_M} (h : pu_inv t A) {a : Nat} (ha : a < ch_np t A) : ab_wp 29 83 0 (ab_ent [.inr (.inr 0), .inl (a : Int)] (ab_mx 83)) [] A (fun r' M' => (∃ v, r' = some (.inl v) ∧ ch_ls t A a v) ∧ pu_at t A M') := by
  have ht : t = 5 ∨ t = 37 := h.1.2.2.1
  have hA := at_rfl h
  have n6 := ch_np6 h
  have t2 := h.2.1.2.1
  have w52 := s52 (d := 28) (by omega) h.1 h.1.2.2.1 (a : Int)
  rw [if_pos (by unfold ch_np at ha; omega)] at w52
  obtain ⟨M2, e2, p2, c2⟩ := s4 (d := 28) (by omega) hA ha
  have pos : ∀ b : Nat, b < 6 → (0 < M2 96 b ↔ ch_re t A a b) := by
    intro b hb
    rcases c2 b hb with ⟨g1, g2, g3⟩ | ⟨r, g1, g2, g3, g4, g5, g6⟩
    · constructor
      · intro q; omega
      · rintro ⟨r, p, e⟩
        exact absurd e (g3 r p.1)
    · constructor
      · intro q
        exact ⟨r, ⟨g1, by omega⟩, g2⟩
      · rintro ⟨r', p, e⟩
        have := g6 r' p.1 e
        have := p.2
        clear g6 c2
        omega
  refine b83_0 (by omega) h.1 ⟨(1 : Int), A, w52, h.1, fun _ => ⟨M2, e2, p2.2.1, ?_⟩, fun q => absurd q (by decide)⟩
  have r2 : M2 t 2 = A t 2 := at_r p2 t 2 (by omega)
  refine loop_up (P := fun i => ab_wp 29 83 30 [some (.inr (.inr 0)), some (.inl (a : Int)), some (.inl ((pu_mk (fun b => decide (M2 96 b ≤ 0)) i : Nat) : Int)), some (.inl (i : Int))] [] M2 _) (ch_np t A) ?_ ?_ 0 (by omega)
  · refine b83_30 (by omega) p2.2.1 ⟨fun _ => ⟨⟨_, rfl, _, pu_mk_64 n6, rfl, fun j => ?_⟩, p2⟩, fun q => by clear pos c2; unfold ch_np at q; omega⟩
    rw [pu_mk_bit, Bool.and_eq_true, decide_eq_true_eq, decide_eq_true_eq]
    constructor
    · rintro ⟨q1, q2⟩
      refine ⟨q1, fun z => ?_⟩
      have := (pos j (by omega)).2 z
      omega
    · rintro ⟨q1, q2⟩
      refine ⟨q1, ?_⟩
      apply Classical.byContradiction
      intro z
      exact q2 ((pos j (by omega)).1 (by omega))
  · intro i hi ih
    have hi' : (i : Int) < A t 2 := by unfold ch_np at hi; omega
    rw [pu_mk_s, Int.natCast_succ i] at ih
    have rgi : ab_rg ((i : Int) + 1) := by clear pos c2 ih; omega
    refine b83_30 (by omega) p2.2.1 ⟨fun q => by clear pos c2 ih; omega, fun _ => ⟨by clear pos c2 ih; omega, fun q => ⟨rgi, ?_⟩, fun q => ⟨rgi, ?_⟩⟩⟩
    · rw [Int.toNat_natCast] at q
      rw [if_neg (by rw [decide_eq_true_eq]; clear pos c2 ih; omega)] at ih
      exact ih
    · rw [Int.toNat_natCast] at q
      rw [if_pos (decide_eq_true q)] at ih
      rw [pu_or_shl (by omega)]
      exact ih
theorem lost_m {t : Nat} {A M : ab_M} (hM : pu_at t A M) {a : Nat} (ha : a < ch_np t A) : ab_wp 29 161 0 (ab_ent [.inr (.inr 103), .inl (a : Int)] (ab_mx 161)) [] M (fun r' M' => (∃ v, r' = some (.inl v) ∧ ch_ls t A a v) ∧ pu_at t A M') := by
  have h := hM.1
  have n6 := ch_np6 h
  have t2 := h.2.1.2.1
  obtain ⟨m1, m2, m3, m4, m5, m6, m7, m8⟩ := h.2.2.1
  have r9 : M 103 9 = A t 2 := (at_r hM 103 9 (by omega)).trans m2
  have w110 := s110 (d := 28) (by omega) hM.2.1 (by omega) (a : Int)
  rw [if_pos (by unfold ch_np at ha; omega)] at w110
  have sA : ∀ i : Fin 6, ab_shl 1 ((i.val : Nat) : Int) = ((2 ^ i.val : Nat) : Int) ∧ 2 ^ i.val < 64 := by decide +kernel
  have sA1 : ab_shl 1 (a : Int) = ((2 ^ a : Nat) : Int) := (sA ⟨a, by omega⟩).1
  have sA2 : 2 ^ a < 64 := (sA ⟨a, by omega⟩).2
  refine b161_0 (by omega) hM.2.1 ⟨(1 : Int), M, w110, hM.2.1, fun _ => ?_, fun q => absurd q (by decide)⟩
  rw [sA1]
  refine loop_up (P := fun k => ∀ (S : Nat) y4, S < 64 → (∀ j : Nat, S.testBit j = true → ch_re t A a j) → (∀ r, ch_P t A a r → r.length ≤ k → S.testBit (rd_sq (ch_H t A a) r).toNat = true) → ab_wp 29 161 17 [some (.inr (.inr 103)), some (.inl (a : Int)), some (.inl (S : Int)), some (.inl (k : Int)), y4] [] M _) 6 ?_ ?_ 0 (by omega) (2 ^ a) _ sA2 (fun j hj => ?_) (fun r hp hl => ?_)
  · intro S y4 hS64 hS hk
    have sh := shl_all ⟨ch_np t A, by omega⟩
    have sh1 : ab_shl 1 (A t 2) - 1 = ((2 ^ ch_np t A - 1 : Nat) : Int) := by
      have := sh.1
      rw [show (((⟨ch_np t A, by omega⟩ : Fin 7).val : Nat) : Int) = A t 2 from by show ((ch_np t A : Nat) : Int) = A t 2; unfold ch_np; omega] at this
      exact this
    have sh2 : 2 ^ ch_np t A - 1 < 64 := sh.2
    refine b161_17 (by omega) hM.2.1 ⟨fun _ => ?_, fun q => by omega⟩
    rw [r9, sh1, sub_int sh2 hS64]
    refine ⟨by omega, ⟨_, rfl, _, sub_64 sh2, rfl, fun j => ?_⟩, hM⟩
    rw [sub_bit sh2, Nat.testBit_two_pow_sub_one, Bool.and_eq_true, decide_eq_true_eq]
    constructor
    · rintro ⟨q1, q2⟩
      refine ⟨q1, ?_⟩
      rintro ⟨r, p, e⟩
      have hl := ch_len h ha p.1
      have := hk r p (by omega)
      rw [e, Int.toNat_natCast] at this
      rw [this] at q2
      cases q2
    · rintro ⟨q1, q2⟩
      refine ⟨q1, ?_⟩
      cases hs : S.testBit j with
      | true => exact absurd (hS j hs) q2
      | false => rfl
  · intro k hk6 ih S y4 hS64 hS hk
    rw [Int.natCast_succ] at ih
    refine b161_17 (by omega) hM.2.1 ⟨fun q => by omega, fun _ => ?_⟩
    refine loop_up (P := fun x => ∀ (S' : Nat), S' < 64 → (∀ j : Nat, S'.testBit j = true → ch_re t A a j) → (∀ j : Nat, S.testBit j = true → S'.testBit j = true) → (∀ i j : Nat, i < 6 → j < 6 → 6 * i + j < x → S.testBit i = true → 0 < A (t + 25 + i) j → S'.testBit j = true) → ab_wp 29 161 26 [some (.inr (.inr 103)), some (.inl (a : Int)), some (.inl (S' : Int)), some (.inl (k : Int)), some (.inl (x : Int))] [] M _) 36 ?_ ?_ 0 (by omega) S hS64 hS (fun j hj => hj) (fun i j _ _ q => by omega)
    · intro S' h64 hS' hsub hall
      refine b161_26 (by omega) hM.2.1 ⟨fun _ => ⟨by omega, ih S' _ h64 hS' (fun r hp hl => ?_)⟩, fun q => by omega⟩
      by_cases c : r.length ≤ k
      · exact hsub _ (hk r hp c)
      · rcases List.eq_nil_or_concat r with q | ⟨r', i, q⟩
        · rw [q] at c; exact absurd (Nat.zero_le _) c
        · rw [List.concat_eq_append] at q
          rw [q] at hp hl ⊢
          rw [List.length_append, List.length_singleton] at hl
          obtain ⟨p1, p2, p3⟩ := P_pre h ha hp
          have rg := ch_rg h ha _ r' rfl p1.1
          have vi := (v_pre hp.1).2.2.1
          have es : rd_sq (ch_H t A a) (r' ++ [i]) = (i : Int) := sq_snoc _ _ _
          rw [es, Int.toNat_natCast]
          exact hall (rd_sq (ch_H t A a) r').toNat i (by omega) (by omega) (by omega) (hk r' p1 (by omega)) p2
    · intro x hx ihx S' h64 hS' hsub hall
      rw [Int.natCast_succ] at ihx
      have td : (x : Int).tdiv 6 = ((x / 6 : Nat) : Int) := by
        rw [Int.tdiv_eq_ediv_of_nonneg (by omega)]
        omega
      have tm : (x : Int).tmod 6 = ((x % 6 : Nat) : Int) := by
        rw [Int.tmod_eq_emod_of_nonneg (by omega)]
        omega
      have i6 : x / 6 < 6 := by omega
      have j6 : x % 6 < 6 := by omega
      have wk := s108 (d := 28) (by omega) hM.2.1 (s := (S' : Int)) (i := ((x / 6 : Nat) : Int)) (by omega) (by omega)
      rw [Int.toNat_natCast, Int.toNat_natCast] at wk
      have q110 : M 110 x = A (t + 25 + x / 6) (x % 6) := by
        have := (at_r hM 110 (6 * (x / 6) + x % 6) (by omega)).trans ((h.2.2.2.2.1 (x / 6) (x % 6) i6 j6).2.2.1 (by unfold ch_np at ha; omega))
        rw [show 6 * (x / 6) + x % 6 = x from by omega] at this
        exact this
      have same : (S'.testBit (x / 6) = true → ¬ 0 < A (t + 25 + x / 6) (x % 6)) → ab_wp 29 161 26 [some (.inr (.inr 103)), some (.inl (a : Int)), some (.inl (S' : Int)), some (.inl (k : Int)), some (.inl ((x : Int) + 1))] [] M (fun r' M' => (∃ v, r' = some (.inl v) ∧ ch_ls t A a v) ∧ pu_at t A M') := by
        intro hno
        refine ihx S' h64 hS' hsub (fun i j hi hj hl hs hq => ?_)
        by_cases c : 6 * i + j = x
        · have e1 : x / 6 = i := by omega
          have e2 : x % 6 = j := by omega
          rw [e1, e2] at hno
          exact absurd hq (hno (hsub i hs))
        · exact hall i j hi hj (by omega) hs hq
      have rgx : ab_rg ((x : Int) + 1) := by omega
      refine b161_26 (by omega) hM.2.1 ⟨fun q => by omega, fun _ => ?_⟩
      rw [td, tm]
      refine ⟨by omega, _, _, wk, hM.2.1, fun q => ⟨rgx, ?_⟩, fun q => ⟨by omega, fun z => ⟨rgx, ?_⟩, fun z => ⟨rgx, ?_⟩⟩⟩
      · rw [pu_or_zero h64]
        exact same (fun y => absurd y (has_f q))
      · rw [Int.toNat_natCast, q110] at z
        rw [pu_or_zero h64]
        exact same (fun _ => by omega)
      · rw [Int.toNat_natCast, q110] at z
        have o := or_all ⟨S', h64⟩ ⟨x % 6, j6⟩
        have o1 : ab_or (S' : Int) (ab_shl 1 ((x % 6 : Nat) : Int)) = ((S' ||| 2 ^ (x % 6) : Nat) : Int) := o.1
        rw [o1]
        refine ihx _ o.2 (fun j hj => ?_) (fun j hj => ?_) (fun i j hi hj hl hs hq => ?_)
        · rw [Nat.testBit_or, Nat.testBit_two_pow, Bool.or_eq_true, decide_eq_true_eq] at hj
          rcases hj with y | y
          · exact hS' j y
          · rw [← y]
            exact re_step h ha i6 j6 (hS' _ (has_t q)) z
        · rw [Nat.testBit_or, hsub j hj]
          rfl
        · rw [Nat.testBit_or, Nat.testBit_two_pow, Bool.or_eq_true, decide_eq_true_eq]
          by_cases c : 6 * i + j = x
          · right; omega
          · left; exact hall i j hi hj (by omega) hs hq
  · rw [Nat.testBit_two_pow, decide_eq_true_eq] at hj
    rw [← hj]
    exact ⟨[], P_nil t A a, rfl⟩
  · have : r = [] := List.eq_nil_of_length_eq_zero (by omega)
    rw [this]
    have es : rd_sq (ch_H t A a) [] = (a : Int) := rfl
    rw [es, Int.toNat_natCast, Nat.testBit_two_pow]
    simp
theorem c_lost {t : Nat} {A : ab_M} (h : pu_inv t A) (x : Int) : pu_both 83 161 [.inl x] t A := by
  have hA := at_rfl h
  have t2 := h.2.1.2.1
  obtain ⟨m1, m2, m3, m4, m5, m6, m7, m8⟩ := h.2.2.1
  by_cases c : 0 ≤ x ∧ x < A t 2
  · obtain ⟨a, rfl⟩ : ∃ a : Nat, x = (a : Int) := ⟨x.toNat, by omega⟩
    have ha : a < ch_np t A := by unfold ch_np; omega
    exact both_rel (ch_ls t A a) (fun _ _ p q => ls_uq p q) (lost_c h ha) (fun _ hM => lost_m hM ha)
  · refine both_at (-1000000001) ?_ (fun M hM => ?_)
    · have w52 := s52 (d := 28) (by omega) h.1 h.1.2.2.1 x
      rw [if_neg c] at w52
      exact b83_0 (by omega) h.1 ⟨(0 : Int), A, w52, h.1, fun q => absurd rfl q, fun _ => ⟨rfl, hA⟩⟩
    · have r9 : M 103 9 = A t 2 := (at_r hM 103 9 (by omega)).trans m2
      have w110 := s110 (d := 28) (by omega) hM.2.1 (by omega) x
      rw [if_neg (by omega)] at w110
      exact b161_0 (by omega) hM.2.1 ⟨(0 : Int), M, w110, hM.2.1, fun q => absurd rfl q, fun _ => ⟨rfl, hM⟩⟩
