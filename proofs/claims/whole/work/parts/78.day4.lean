theorem nodup_le : ∀ (l1 l2 : List (List Nat)), l1.Nodup → (∀ x, x ∈ l1 → x ∈ l2) → l1.length ≤ l2.length
  | [], _, _, _ => Nat.zero_le _
  | x :: l1, l2, h, hs => by
    rw [List.nodup_cons] at h
    obtain ⟨a, b, e⟩ := List.append_of_mem (hs x List.mem_cons_self)
    have := nodup_le l1 (a ++ b) h.2 (fun y hy => by
      have hy2 := hs y (List.mem_cons_of_mem _ hy)
      rw [e, List.mem_append, List.mem_cons] at hy2
      rw [List.mem_append]
      rcases hy2 with q | q | q
      · exact Or.inl q
      · rw [q] at hy; exact absurd hy h.1
      · exact Or.inr q)
    rw [e]
    simp only [List.length_append, List.length_cons] at this ⊢
    omega
theorem Hm_eq {t : Nat} {A : ab_M} (h : pu_inv t A) (hq : 0 < A t 0) : dy_Hm t A = dy_H t A := by
  obtain ⟨m1, m2, m3, m4, m5, m6, m7, m8⟩ := h.2.2.1
  unfold dy_Hm dy_H
  rw [m5 hq]
theorem o_64 {t : Nat} {A : ab_M} (h : pu_inv t A) : dy_o t A < 64 := by
  have t3 := h.2.1.2.2.1
  have hn : rd_nd t A ≤ 6 := by unfold rd_nd; omega
  exact (shl_all ⟨rd_nd t A, by omega⟩).2
theorem E_all {t : Nat} {A : ab_M} (h : pu_inv t A) {H : rd_HH} {x : List Nat} (hv : rd_v H (rd_nd t A) (dy_o t A) x) : x ∈ dy_E (rd_nd t A + 1) 0 := by
  have t3 := h.2.1.2.2.1
  have hn : rd_nd t A ≤ 6 := by unfold rd_nd; omega
  have hl := row_len hv.1 (fun i hi => (hv.2.1 i hi).1)
  obtain ⟨r, h1, h2⟩ := dg_code x.length x rfl (fun i hi => by have := (hv.2.1 i hi).1; omega)
  exact E_mem.2 ⟨x.length, r, h2.symm, Or.inl ⟨by omega, h1⟩⟩
/-- the same rows on both sides -/
theorem dy_same {t : Nat} {A : ab_M} (h : pu_inv t A) (hq : 0 < A t 0) (x : List Nat) : (x ∈ rd_dfs (dy_H t A) (rd_nd t A) 6 (dy_o t A) [] ∧ dy_ag t A x = true) ↔ (x ∈ dy_E (rd_nd t A + 1) 0 ∧ dy_ac t A x = true) := by
  have t3 := h.2.1.2.2.1
  have hn : rd_nd t A ≤ 6 := by unfold rd_nd; omega
  rw [ac_iff, dfs_v _ hn (o_64 h), Hm_eq h hq]
  constructor
  · rintro ⟨a, b⟩
    exact ⟨E_all h a, a, b⟩
  · rintro ⟨_, a, b⟩
    exact ⟨a, b⟩
theorem dy_count {t : Nat} {A : ab_M} (h : pu_inv t A) (hq : 0 < A t 0) : ((rd_dfs (dy_H t A) (rd_nd t A) 6 (dy_o t A) []).filter (dy_ag t A)).length = ((dy_E (rd_nd t A + 1) 0).filter (dy_ac t A)).length := by
  have n1 : ((rd_dfs (dy_H t A) (rd_nd t A) 6 (dy_o t A) []).filter (dy_ag t A)).Nodup := by
    refine List.Pairwise.sublist List.filter_sublist ?_
    exact List.Pairwise.imp (fun {a b} hab e => by rw [e] at hab; exact ah_irr _ hab) (dfs_ord (dy_H t A) (rd_nd t A) 6 (dy_o t A) [])
  have n2 : ((dy_E (rd_nd t A + 1) 0).filter (dy_ac t A)).Nodup := List.Pairwise.sublist List.filter_sublist (E_nodup _)
  refine Nat.le_antisymm (nodup_le _ _ n1 (fun x hx => ?_)) (nodup_le _ _ n2 (fun x hx => ?_))
  · rw [List.mem_filter] at hx ⊢
    exact (dy_same h hq x).1 hx
  · rw [List.mem_filter] at hx ⊢
    exact (dy_same h hq x).2 hx
theorem ea_take {H : rd_HH} {x : List Nat} (hx : x.Nodup) {k : Nat} (hk : k < x.length) : rd_ea H x (x.getD k 0) = rd_mn H (x.take (k + 1)) := by
  have key : ∀ j, k + 1 + j ≤ x.length → rd_ea H (x.take (k + 1 + j)) (x.getD k 0) = rd_mn H (x.take (k + 1)) := by
    intro j
    induction j with
    | zero =>
      intro _
      rw [Nat.add_zero, take_s hk, ea_snoc, mn_snoc]
      unfold pu_u
      rw [if_pos rfl]
    | succ j ih =>
      intro hj
      have hj2 : k + 1 + j < x.length := by omega
      rw [show k + 1 + (j + 1) = (k + 1 + j) + 1 from by omega, take_s hj2, ea_snoc]
      unfold pu_u
      rw [if_neg, ih (by omega)]
      intro e
      have dk := drop_s hk
      have nodr : (x.drop k).Nodup := List.Pairwise.sublist (List.drop_sublist k x) hx
      rw [dk, List.nodup_cons] at nodr
      apply nodr.1
      rw [e]
      rw [List.getD_eq_getElem?_getD, List.getElem?_eq_getElem hj2]
      have hd : j < (x.drop (k + 1)).length := by rw [List.length_drop]; omega
      have : (x.drop (k + 1))[j] = x[k + 1 + j] := List.getElem_drop
      rw [Option.getD_some, ← this]
      exact List.getElem_mem hd
  have := key (x.length - (k + 1)) (by omega)
  rw [show k + 1 + (x.length - (k + 1)) = x.length from by omega, List.take_length] at this
  exact this
theorem mn_up {t : Nat} {A : ab_M} (h : pu_inv t A) {sq0 mn0 : Int} (hm : 0 ≤ mn0 ∧ mn0 ≤ 97000) (hs : 0 < rd_nd t A → 0 ≤ sq0 ∧ sq0 < A t 0) {x : List Nat} (hx : rd_gd (rd_nd t A) x) (ho : rd_ok (rd_H t A sq0 mn0) x) {k : Nat} : ∀ j, k + j ≤ x.length → rd_mn (rd_H t A sq0 mn0) (x.take k) ≤ rd_mn (rd_H t A sq0 mn0) (x.take (k + j)) := by
  intro j
  induction j with
  | zero => intro _; exact Int.le_refl _
  | succ j ih =>
    intro hj
    have hj2 : k + j < x.length := by omega
    have ih := ih (by omega)
    have gt := gd_take (k := k + j) hx
    have zz : x = x.take (k + j + 1) ++ x.drop (k + j + 1) := (List.take_append_drop (k + j + 1) x).symm
    have o1 : rd_ok (rd_H t A sq0 mn0) (x.take (k + j + 1)) := by
      rw [zz] at ho
      exact ok_pre _ _ _ ho
    rw [take_s hj2] at o1
    obtain ⟨o2, o3⟩ := (ok_snoc _ _ _).1 o1
    have xn := hx.2 _ (getD_mem hj2)
    have sq := sq_rg h (mn0 := mn0) hs (x.take (k + j)) gt.2 (by omega)
    have mr := ok_rg h hm hs gt o2
    have er := end_rg h xn sq mr.1 o3
    rw [show k + (j + 1) = k + j + 1 from by omega, take_s hj2, mn_snoc]
    have er1 : rd_mn (rd_H t A sq0 mn0) (x.take (k + j)) < (rd_H t A sq0 mn0).2.1 (x.getD (k + j) 0) (rd_sq (rd_H t A sq0 mn0) (x.take (k + j))) (rd_mn (rd_H t A sq0 mn0) (x.take (k + j))) := er.1
    omega
theorem pc_pk {t : Nat} {A : ab_M} (h : pu_inv t A) (hq : 0 < A t 0) (X : Int) {x : List Nat} (hv : rd_v (dy_H t A) (rd_nd t A) (dy_o t A) x) : dy_pc t A (rd_ea (dy_H t A) x) X (A t 1) 0 x = dy_pk t A X x x.length := by
  obtain ⟨t1, t2, t3, t4, t5, t6, _⟩ := id h.2.1
  have t6 := t6 hq
  obtain ⟨gd, ok⟩ := dy_v.1 hv
  have hm := Hm_eq h hq
  obtain ⟨m1, m2, m3, m4, m5, m6, m7, m8⟩ := h.2.2.1
  have key := loop_up (P := fun k => dy_pc t A (rd_ea (dy_H t A) x) X (dy_pk t A X x k) (rd_mn (dy_H t A) (x.take k)) (x.drop k) = dy_pk t A X x x.length) x.length ?_ ?_ 0 (by omega)
  · rw [List.drop_zero, List.take_zero] at key
    have e : dy_pk t A X x 0 = A t 1 := m5 hq
    rw [e] at key
    exact key
  · rw [List.drop_length]
    rfl
  · intro k hk ih
    rw [drop_s hk]
    show (if rd_mn (dy_H t A) (x.take k) ≤ X then dy_pc t A (rd_ea (dy_H t A) x) X (rd_hm t A (x.getD k 0)) (rd_ea (dy_H t A) x (x.getD k 0)) (x.drop (k + 1)) else dy_pk t A X x k) = _
    by_cases c : rd_mn (dy_H t A) (x.take k) ≤ X
    · rw [if_pos c, ea_take gd.1 hk]
      rw [pk_s, hm, if_pos c] at ih
      exact ih
    · rw [if_neg c]
      have st : ∀ j, k + j ≤ x.length → dy_pk t A X x (k + j) = dy_pk t A X x k := by
        intro j
        induction j with
        | zero => intro _; rfl
        | succ j ihj =>
          intro hj
          have up := mn_up h (show (0 : Int) ≤ 0 ∧ (0 : Int) ≤ 97000 by omega) (fun _ => t6) gd ok (k := k) j (by omega)
          have up : rd_mn (dy_H t A) (x.take k) ≤ rd_mn (dy_H t A) (x.take (k + j)) := up
          rw [show k + (j + 1) = (k + j) + 1 from by omega, pk_s, hm, if_neg (by omega)]
          exact ihj (by omega)
      have := st (x.length - k) (by omega)
      rw [show k + (x.length - k) = x.length from by omega] at this
      exact this.symm
theorem sq_uq {P P' : List Nat → Int → Prop} {L L' : List (List Nat)} {v v' : Int} (h : dy_sq P L v) (h' : dy_sq P' L' v') (e : ∀ j : Nat, (∃ r, r ∈ L ∧ P r (j : Int)) ↔ (∃ r, r ∈ L' ∧ P' r (j : Int))) : v = v' := by
  obtain ⟨s, h1, h2, h3⟩ := h
  obtain ⟨s', g1, g2, g3⟩ := h'
  have : s = s' := by
    apply Nat.eq_of_testBit_eq
    intro j
    have a := h3 j
    have b := g3 j
    rw [e] at a
    rw [← b] at a
    cases hs : s.testBit j with
    | true => rw [hs] at a; exact (a.1 rfl).symm
    | false =>
      cases hs' : s'.testBit j with
      | true => rw [hs, hs'] at a; exact absurd (a.2 rfl) (by decide)
      | false => rfl
  rw [h2, g2, this]
theorem dy_squares {t : Nat} {A : ab_M} (h : pu_inv t A) (hq : 0 < A t 0) {x v v' : Int} (a : dy_sq (dy_P t A x) (rd_dfs (dy_H t A) (rd_nd t A) 6 (dy_o t A) []) v) (b : dy_sq (dy_P' t A x) (dy_E (rd_nd t A + 1) 0) v') : v = v' := by
  have t3 := h.2.1.2.2.1
  have hn : rd_nd t A ≤ 6 := by unfold rd_nd; omega
  refine sq_uq a b (fun j => ?_)
  constructor
  · rintro ⟨r, m, p1, p2⟩
    have s := (dy_same h hq r).1 ⟨m, p1⟩
    refine ⟨r, s.1, s.2, ?_⟩
    rw [← pc_pk h hq x ((dfs_v _ hn (o_64 h) r).1 m)]
    exact p2
  · rintro ⟨r, m, p1, p2⟩
    have s := (dy_same h hq r).2 ⟨m, p1⟩
    refine ⟨r, s.1, s.2, ?_⟩
    rw [pc_pk h hq x ((dfs_v _ hn (o_64 h) r).1 s.1)]
    exact p2
/-! no town yet -/
theorem s14z {d t : Nat} {A M : ab_M} (hd : 1 ≤ d) (h : pu_at t A M) (hq : A t 0 = 0) (x : Int) : ∃ M', ab_ev d 14 [.inr (.inr 90), .inr (.inr t), .inl x] M none M' ∧ pu_at t A M' ∧ M' 90 3 = 0 ∧ M' 90 4 = 0 := by
  have ht : t = 5 ∨ t = 37 := h.2.1.2.2.1
  have a0 : pu_at t A (ab_w (ab_w (ab_w M 90 3 0) 90 4 0) 90 5 x) := at_w (at_w (at_w h (str_w h.2.1 rfl) (by omega)) (str_w (str_w h.2.1 rfl) rfl) (by omega)) (str_w (str_w (str_w h.2.1 rfl) rfl) rfl) (by omega)
  have r0 : (ab_w (ab_w (ab_w M 90 3 0) 90 4 0) 90 5 x) t 0 = A t 0 := at_r a0 t 0 (by omega)
  refine ⟨_, ev_wp (b14_0 (by omega) h.2.1 h.2.1.2.2.1 ⟨fun _ => ⟨rfl, rfl⟩, fun q => ?_⟩), a0, rfl, rfl⟩
  rw [r0] at q
  omega
theorem s176z {d t : Nat} {A M : ab_M} (hd : 6 ≤ d) (h : pu_at t A M) (hq : A t 0 = 0) (x : Int) : ∃ M' v, ab_ev d 176 [.inr (.inr 103), .inl x] M (some (.inl v)) M' ∧ pu_at t A M' := by
  obtain ⟨t1, t2, t3, t4, t5, t6, _⟩ := id h.1.2.1
  have n0 : A t 3 = 0 := (t5 hq).2.2.1
  obtain ⟨m1, m2, m3, m4, m5, m6, m7, m8⟩ := h.1.2.2.1
  have w : ab_wp d 176 0 (ab_ent [.inr (.inr 103), .inl x] (ab_mx 176)) [] M (fun r' M' => ∃ v, r' = some (.inl v) ∧ pu_at t A M') := by
    refine b176_0 (by omega) h.2.1 ?_
    have a0 : pu_at t A (ab_w M 103 47 0) := at_w h (str_w h.2.1 rfl) (by omega)
    have r3 : (ab_w M 103 47 0) 103 11 = A t 3 := (at_r a0 103 11 (by omega)).trans m3
    refine b176_12 (by omega) a0.2.1 ⟨fun q => by omega, fun _ => ?_⟩
    have last : ∀ M3 (v : Int) y6 y7, pu_at t A M3 → ab_wp d 176 24 [some (.inr (.inr 103)), some (.inl x), some (.inl v), some (.inl 1), some (.inl 0), some (.inl (0 + 1)), y6, y7] [] M3 (fun r' M' => ∃ v, r' = some (.inl v) ∧ pu_at t A M') := by
      intro M3 v y6 y7 a3
      have r3 : M3 103 11 = A t 3 := (at_r a3 103 11 (by omega)).trans m3
      exact b176_24 (by omega) a3.2.1 ⟨fun _ => ⟨by omega, by omega, b176_12 (by omega) a3.2.1 ⟨fun _ => ⟨v, rfl, a3⟩, fun q => by omega⟩⟩, fun q => by omega⟩
    obtain ⟨M2, v, e2, a2, fr2, mr2, hv⟩ := s153 (d := d - 1) (by omega) a0 (r := 0) (n := 0) (by omega) (by decide)
    obtain ⟨M3, v3, e3, a3, fr3, h3⟩ := s175 (d := d - 1) (by omega) a2 (fun q => by unfold rd_nd at q; omega) (x := []) ⟨List.nodup_nil, fun i hi => absurd hi List.not_mem_nil⟩ (fun k hk => absurd hk (by simp))
    refine b176_24 (by omega) a0.2.1 ⟨fun q => by omega, fun _ => ⟨v, M2, e2, a2.2.1, fun q => ⟨by omega, last _ _ _ _ a2⟩, fun q => ⟨v3, M3, e3, a3.2.1, fun z => ⟨by omega, last _ _ _ _ a3⟩, fun z => ⟨by omega, b176_62 (by omega) a3.2.1 ⟨fun _ => ⟨by omega, last _ _ _ _ (at_w a3 (str_w a3.2.1 rfl) (by omega))⟩, fun y => by omega⟩⟩⟩⟩⟩
  obtain ⟨r', M', e, v, rfl, h1⟩ := wp_ev w
  exact ⟨M', v, e, h1⟩
theorem c_days {t : Nat} {A : ab_M} (h : pu_inv t A) : pu_both 89 177 [] t A := by
  have hA := at_rfl h
  obtain ⟨t1, _⟩ := id h.2.1
  obtain ⟨m1, m2, m3, m4, m5, m6, m7, m8⟩ := h.2.2.1
  by_cases c : 0 < A t 0
  · refine both_at ((((dy_E (rd_nd t A + 1) 0).filter (dy_ac t A)).length : Nat) : Int) ?_ (fun M hM => ?_)
    · obtain ⟨M1, e1, p1, i1⟩ := s14 (d := 28) (by omega) hA c 0
      refine b89_0 (by omega) h.1 ⟨M1, e1, p1.2.1, ?_, p1⟩
      rw [i1.2.1, dy_count h c]
    · have r3 : M 103 3 = A t 0 := (at_r hM 103 3 (by omega)).trans m1
      obtain ⟨M1, e1, p1, i1⟩ := s176 (d := 28) (by omega) hM c 0
      exact b177_0 (by omega) hM.2.1 ⟨fun _ => ⟨_, M1, e1, p1.2.1, rfl, p1⟩, fun q => by omega⟩
  · refine both_at 0 ?_ (fun M hM => ?_)
    · obtain ⟨M1, e1, p1, i1, i2⟩ := s14z (d := 28) (by omega) hA (by omega) 0
      exact b89_0 (by omega) h.1 ⟨M1, e1, p1.2.1, by rw [i1], p1⟩
    · have r3 : M 103 3 = A t 0 := (at_r hM 103 3 (by omega)).trans m1
      exact b177_0 (by omega) hM.2.1 ⟨fun q => by omega, fun _ => ⟨rfl, hM⟩⟩
theorem c_where {t : Nat} {A : ab_M} (h : pu_inv t A) (x : Int) : pu_both 90 178 [.inl x] t A := by
  have hA := at_rfl h
  obtain ⟨t1, _⟩ := id h.2.1
  obtain ⟨m1, m2, m3, m4, m5, m6, m7, m8⟩ := h.2.2.1
  by_cases cx : 0 ≤ x ∧ x ≤ 999
  · have w107 : ∀ M, pu_at t A M → ab_ev 28 107 [.inr (.inl x), .inr (.inl 0), .inr (.inl 999)] M (some (.inl 1)) M := by
      intro M hM
      have := s107 (d := 28) (by omega) hM.2.1 x 0 999
      rw [if_pos cx] at this
      exact this
    by_cases c : 0 < A t 0
    · obtain ⟨M1, e1, p1, i1⟩ := s14 (d := 28) (by omega) hA c x
      refine both_at (M1 90 4) ?_ (fun M hM => ?_)
      · exact b90_0 (by omega) h.1 ⟨fun q => by omega, fun _ => ⟨fun _ => ⟨M1, e1, p1.2.1, rfl, p1⟩, fun q => by omega⟩⟩
      · obtain ⟨M2, e2, p2, i2⟩ := s176 (d := 28) (by omega) hM c x
        have r3 : M2 103 3 = A t 0 := (at_r p2 103 3 (by omega)).trans m1
        refine b178_0 (by omega) hM.2.1 ⟨_, _, w107 M hM, hM.2.1, fun _ => ⟨_, M2, e2, p2.2.1, fun _ => ⟨?_, p2⟩, fun q => by clear i1 i2; omega⟩, fun q => absurd q (by decide)⟩
        rw [dy_squares h c i1.2.2 i2]
    · refine both_at 0 ?_ (fun M hM => ?_)
      · obtain ⟨M1, e1, p1, i1, i2⟩ := s14z (d := 28) (by omega) hA (by omega) x
        exact b90_0 (by omega) h.1 ⟨fun q => by omega, fun _ => ⟨fun _ => ⟨M1, e1, p1.2.1, by rw [i2], p1⟩, fun q => by omega⟩⟩
      · obtain ⟨M2, v, e2, p2⟩ := s176z (d := 28) (by omega) hM (by omega) x
        have r3 : M2 103 3 = A t 0 := (at_r p2 103 3 (by omega)).trans m1
        exact b178_0 (by omega) hM.2.1 ⟨_, _, w107 M hM, hM.2.1, fun _ => ⟨v, M2, e2, p2.2.1, fun q => by omega, fun _ => ⟨rfl, p2⟩⟩, fun q => absurd q (by decide)⟩
  · refine both_at (-1000000002) ?_ (fun M hM => ?_)
    · exact b90_0 (by omega) h.1 ⟨fun _ => ⟨rfl, hA⟩, fun _ => ⟨fun q => by omega, fun _ => ⟨rfl, hA⟩⟩⟩
    · have w107 := s107 (d := 28) (by omega) hM.2.1 x 0 999
      rw [if_neg cx] at w107
      exact b178_0 (by omega) hM.2.1 ⟨_, _, w107, hM.2.1, fun q => absurd rfl q, fun _ => ⟨rfl, hM⟩⟩
