def dy_E (n r : Nat) : List (List Nat) := (List.range n).flatMap (fun n' => (List.range (6 ^ n')).map (fun r' => rd_dg r' n')) ++ (List.range r).map (fun r' => rd_dg r' n)
theorem E_zero : dy_E 0 0 = [] := rfl
theorem E_r (n r : Nat) : dy_E n (r + 1) = dy_E n r ++ [rd_dg r n] := by
  unfold dy_E
  rw [List.range_succ (n := r), List.map_append, List.append_assoc]
  rfl
theorem E_n (n : Nat) : dy_E (n + 1) 0 = dy_E n (6 ^ n) := by
  unfold dy_E
  rw [range_fm]
  simp
def dy_es : Nat → Nat
  | 0 => 0
  | n + 1 => dy_es n + 6 ^ n
theorem E_len : ∀ n r, (dy_E n r).length = dy_es n + r
  | 0, r => by unfold dy_E dy_es; simp
  | n + 1, 0 => by rw [E_n, E_len n]; rfl
  | n + 1, r + 1 => by
    rw [E_r, List.length_append, List.length_singleton, E_len (n + 1) r]
    omega
theorem es_le : ∀ n : Fin 7, dy_es n.val + 6 ^ n.val ≤ 55987 := by decide
theorem E_mem {n r : Nat} {x : List Nat} : x ∈ dy_E n r ↔ ∃ n' r', x = rd_dg r' n' ∧ (n' < n ∧ r' < 6 ^ n' ∨ n' = n ∧ r' < r) := by
  unfold dy_E
  rw [List.mem_append, List.mem_flatMap, List.mem_map]
  constructor
  · rintro (⟨n', h1, h2⟩ | ⟨r', h1, h2⟩)
    · rw [List.mem_map] at h2
      obtain ⟨r', h3, h4⟩ := h2
      exact ⟨n', r', h4.symm, Or.inl ⟨List.mem_range.1 h1, List.mem_range.1 h3⟩⟩
    · exact ⟨n, r', h2.symm, Or.inr ⟨rfl, List.mem_range.1 h1⟩⟩
  · rintro ⟨n', r', e, ⟨h1, h2⟩ | ⟨h1, h2⟩⟩
    · exact Or.inl ⟨n', List.mem_range.2 h1, List.mem_map.2 ⟨r', List.mem_range.2 h2, e.symm⟩⟩
    · subst h1
      exact Or.inr ⟨r', List.mem_range.2 h2, e.symm⟩
theorem E_nodup (n : Nat) : (dy_E n 0).Nodup := by
  unfold dy_E
  rw [List.range_zero, List.map_nil, List.append_nil]
  unfold List.Nodup
  rw [List.pairwise_flatMap]
  refine ⟨fun m _ => ?_, ?_⟩
  · rw [List.pairwise_map]
    refine List.Pairwise.imp_of_mem ?_ List.pairwise_lt_range
    intro a b ha hb hlt e
    have := dg_inj m a b (List.mem_range.1 ha) (List.mem_range.1 hb) e
    omega
  · refine List.Pairwise.imp ?_ List.pairwise_lt_range
    intro a b hlt x hx y hy e
    rw [List.mem_map] at hx hy
    obtain ⟨r1, _, e1⟩ := hx
    obtain ⟨r2, _, e2⟩ := hy
    have l1 := dg_len a r1
    have l2 := dg_len b r2
    rw [e1, e, ← e2, l2] at l1
    omega
noncomputable def dy_ac (t : Nat) (A : ab_M) (x : List Nat) : Bool := @decide (rd_v (dy_Hm t A) (rd_nd t A) (dy_o t A) x ∧ dy_agk A (rd_ea (dy_Hm t A) x) (A 90 2).toNat = true) (Classical.propDecidable _)
theorem ac_iff (t : Nat) (A : ab_M) (x : List Nat) : dy_ac t A x = true ↔ (rd_v (dy_Hm t A) (rd_nd t A) (dy_o t A) x ∧ dy_agk A (rd_ea (dy_Hm t A) x) (A 90 2).toNat = true) := by
  unfold dy_ac
  exact @decide_eq_true_iff _ (Classical.propDecidable _)
theorem dy_v {t : Nat} {A : ab_M} {H : rd_HH} {x : List Nat} : rd_v H (rd_nd t A) (dy_o t A) x ↔ (rd_gd (rd_nd t A) x ∧ rd_ok H x) := by
  constructor
  · rintro ⟨h1, h2, h3⟩
    exact ⟨⟨h1, fun i hi => (h2 i hi).1⟩, h3⟩
  · rintro ⟨⟨h1, h2⟩, h3⟩
    refine ⟨h1, fun i hi => ⟨h2 i hi, ?_⟩, h3⟩
    unfold dy_o
    rw [Nat.testBit_two_pow_sub_one]
    exact decide_eq_true (h2 i hi)
def dy_pk (t : Nat) (A : ab_M) (x : Int) (r : List Nat) : Nat → Int
  | 0 => A 103 4
  | k + 1 => if rd_mn (dy_Hm t A) (r.take k) ≤ x then rd_hm t A (r.getD k 0) else dy_pk t A x r k
theorem pk_s (t : Nat) (A : ab_M) (x : Int) (r : List Nat) (k : Nat) : dy_pk t A x r (k + 1) = if rd_mn (dy_Hm t A) (r.take k) ≤ x then rd_hm t A (r.getD k 0) else dy_pk t A x r k := rfl
theorem pk_rg {t : Nat} {A : ab_M} (h : pu_inv t A) (x : Int) {r : List Nat} (hr : ∀ i, i ∈ r → i < rd_nd t A) (hs : 0 ≤ A 103 4 ∧ A 103 4 < A t 0) : ∀ k, k ≤ r.length → 0 ≤ dy_pk t A x r k ∧ dy_pk t A x r k < A t 0
  | 0, _ => hs
  | k + 1, hk => by
    rw [pk_s]
    by_cases c : rd_mn (dy_Hm t A) (r.take k) ≤ x
    · rw [if_pos c]; exact hm_rg h (hr _ (getD_mem (by omega)))
    · rw [if_neg c]; exact pk_rg h x hr hs k (by omega)
def dy_P' (t : Nat) (A : ab_M) (x : Int) (r : List Nat) (j : Int) : Prop := dy_ac t A r = true ∧ dy_pk t A x r r.length = j
theorem s176 {d t : Nat} {A M : ab_M} (hd : 6 ≤ d) (h : pu_at t A M) (hq : 0 < A t 0) (x : Int) :
    ∃ M', ab_ev d 176 [.inr (.inr 103), .inl x] M (some (.inl ((((dy_E (rd_nd t A + 1) 0).filter (dy_ac t A)).length : Nat) : Int))) M' ∧ pu_at t A M' ∧ dy_sq (dy_P' t A x) (dy_E (rd_nd t A + 1) 0) (M' 103 47) := by
  obtain ⟨t1, t2, t3, t4, t5, t6, _⟩ := id h.1.2.1
  have t6 := t6 hq
  have hn : rd_nd t A ≤ 6 := by unfold rd_nd; omega
  obtain ⟨m1, m2, m3, m4, m5, m6, m7, m8⟩ := h.1.2.2.1
  have m5 := m5 hq
  have hs : 0 ≤ A 103 4 ∧ A 103 4 < A t 0 := by omega
  have w : ab_wp d 176 0 (ab_ent [.inr (.inr 103), .inl x] (ab_mx 176)) [] M (fun r' M' => r' = some (.inl ((((dy_E (rd_nd t A + 1) 0).filter (dy_ac t A)).length : Nat) : Int)) ∧ pu_at t A M' ∧ dy_sq (dy_P' t A x) (dy_E (rd_nd t A + 1) 0) (M' 103 47)) := by
    refine b176_0 (by omega) h.2.1 ?_
    have a0 : pu_at t A (ab_w M 103 47 0) := at_w h (str_w h.2.1 rfl) (by omega)
    refine loop_up (P := fun n => ∀ M1 y5 y6 y7, pu_at t A M1 → dy_sq (dy_P' t A x) (dy_E n 0) (M1 103 47) → ab_wp d 176 12 [some (.inr (.inr 103)), some (.inl x), some (.inl ((((dy_E n 0).filter (dy_ac t A)).length : Nat) : Int)), some (.inl ((6 ^ n : Nat) : Int)), some (.inl (n : Int)), y5, y6, y7] [] M1 _) (rd_nd t A + 1) ?_ ?_ 0 (by omega) _ _ _ _ a0 ⟨0, by omega, rfl, fun j => ⟨fun z => (by rw [Nat.zero_testBit] at z; cases z), fun ⟨r, a, _⟩ => absurd a List.not_mem_nil⟩⟩
    · intro M1 y5 y6 y7 a1 s1
      have r3 : M1 103 11 = A t 3 := (at_r a1 103 11 (by omega)).trans m3
      exact b176_12 (by omega) a1.2.1 ⟨fun _ => ⟨rfl, a1, s1⟩, fun q => by unfold rd_nd at q; omega⟩
    · intro n hnn ih M1 y5 y6 y7 a1 s1
      have r3 : M1 103 11 = A t 3 := (at_r a1 103 11 (by omega)).trans m3
      rw [Int.natCast_succ] at ih
      have hn6 : n ≤ 6 := by omega
      have es := es_le ⟨n, by omega⟩
      have h6n : (6 : Nat) ^ n ≤ 6 ^ 6 := Nat.pow_le_pow_right (by omega) hn6
      have es : dy_es n + 6 ^ n ≤ 55987 := es
      refine b176_12 (by omega) a1.2.1 ⟨fun q => by unfold rd_nd at hnn; omega, fun _ => ?_⟩
      refine loop_up (P := fun r => ∀ M1 y6 y7, pu_at t A M1 → dy_sq (dy_P' t A x) (dy_E n r) (M1 103 47) → ab_wp d 176 24 [some (.inr (.inr 103)), some (.inl x), some (.inl ((((dy_E n r).filter (dy_ac t A)).length : Nat) : Int)), some (.inl ((6 ^ n : Nat) : Int)), some (.inl (n : Int)), some (.inl (r : Int)), y6, y7] [] M1 _) (6 ^ n) ?_ ?_ 0 (Nat.zero_le _) M1 _ _ a1 s1
      · intro M1 y6 y7 a1 s1
        rw [E_n, Nat.pow_succ] at ih
        obtain ⟨N, eN⟩ : ∃ N : Nat, 6 ^ n = N := ⟨_, rfl⟩
        rw [eN] at h6n ih s1 ⊢
        refine b176_24 (by omega) a1.2.1 ⟨fun _ => ⟨by omega, by omega, ?_⟩, fun q => by omega⟩
        rw [show (N : Int) * 6 = ((N * 6 : Nat) : Int) from by omega]
        exact ih _ _ _ _ a1 s1
      · intro r hr ihr M1 y6 y7 a1 s1
        rw [Int.natCast_succ, E_r, List.filter_append] at ihr
        have fl := List.length_filter_le (dy_ac t A) (dy_E n r)
        rw [E_len] at fl
        have rgr : ab_rg ((r : Int) + 1) := by clear s1 ihr ih; omega
        obtain ⟨M2, v, e2, a2, fr2, mr2, hv⟩ := s153 (d := d - 1) (by omega) a1 hn6 hr
        have l2 := dg_len n r
        have s2 : M2 103 47 = M1 103 47 := fr2 103 47 (by omega)
        have no : ¬ (rd_v (dy_Hm t A) (rd_nd t A) (dy_o t A) (rd_dg r n) ∧ dy_agk A (rd_ea (dy_Hm t A) (rd_dg r n)) (A 90 2).toNat = true) → ∀ M3 y6 y7, pu_at t A M3 → M3 103 47 = M1 103 47 → ab_wp d 176 24 [some (.inr (.inr 103)), some (.inl x), some (.inl ((((dy_E n r).filter (dy_ac t A)).length : Nat) : Int)), some (.inl ((6 ^ n : Nat) : Int)), some (.inl (n : Int)), some (.inl ((r : Int) + 1)), y6, y7] [] M3 (fun r' M' => r' = some (.inl ((((dy_E (rd_nd t A + 1) 0).filter (dy_ac t A)).length : Nat) : Int)) ∧ pu_at t A M' ∧ dy_sq (dy_P' t A x) (dy_E (rd_nd t A + 1) 0) (M' 103 47)) := by
          intro hno M3 y6 y7 a3 e3
          have hf : dy_ac t A (rd_dg r n) ≠ true := fun z => hno ((ac_iff t A _).1 z)
          have hl : (List.filter (dy_ac t A) [rd_dg r n]) = [] := by simp [hf]
          rw [hl, List.append_nil] at ihr
          refine ihr M3 y6 y7 a3 ?_
          rw [e3]
          exact sq_keep s1 (fun j z => hf z.1)
        refine b176_24 (by omega) a1.2.1 ⟨fun q => by clear s1 ihr ih no; omega, fun _ => ⟨v, M2, e2, a2.2.1, fun q => ⟨rgr, no ?_ _ _ _ a2 s2⟩, fun q => ?_⟩⟩
        · intro z
          rcases hv with y | y
          · exact y.2 (dy_v.1 z.1).1
          · omega
        · have hv := hv.resolve_left (fun y => by omega)
          obtain ⟨ev, gd⟩ := hv
          obtain ⟨M3, v3, e3, a3, fr3, h3⟩ := s175 (d := d - 1) (by omega) a2 (fun _ => hs) gd mr2
          rw [l2] at e3
          have s3 : M3 103 47 = M1 103 47 := (fr3 103 47 (by omega) (by omega)).trans s2
          refine ⟨v3, M3, e3, a3.2.1, fun z => ⟨rgr, no ?_ _ _ _ a3 s3⟩, fun z => ⟨by clear s1 ihr ih no; omega, ?_⟩⟩
          · intro y
            rcases h3 with u | u
            · exact u.2 ⟨(dy_v.1 y.1).2, y.2⟩
            · omega
          · have h3 := h3.resolve_left (fun y => z y.1)
            obtain ⟨_, ok3, ag3, bg3⟩ := h3
            have hac : dy_ac t A (rd_dg r n) = true := (ac_iff t A _).2 ⟨dy_v.2 ⟨gd, ok3⟩, ag3⟩
            have hl : (List.filter (dy_ac t A) [rd_dg r n]) = [rd_dg r n] := by simp [hac]
            rw [hl, List.length_append, List.length_singleton] at ihr
            have r4 : M3 103 4 = A 103 4 := at_r a3 103 4 (by omega)
            have mr3 : rd_mr 121 (rd_dg r n) M3 := fun k hk => by rw [fr3 121 k (by omega) (by omega)]; exact mr2 k hk
            rw [r4]
            have pk := pk_rg h.1 x gd.2 hs
            refine loop_up (P := fun k => ab_wp d 176 62 [some (.inr (.inr 103)), some (.inl x), some (.inl ((((dy_E n r).filter (dy_ac t A)).length : Nat) + 1 : Int)), some (.inl ((6 ^ n : Nat) : Int)), some (.inl (n : Int)), some (.inl (r : Int)), some (.inl (dy_pk t A x (rd_dg r n) k)), some (.inl (k : Int))] [] M3 _) n ?_ ?_ 0 (by omega)
            · have pn := pk n (by omega)
              refine b176_62 (by omega) a3.2.1 ⟨fun _ => ⟨rgr, ?_⟩, fun q => by omega⟩
              refine ihr _ _ _ (at_w a3 (str_w a3.2.1 rfl) (by omega)) ?_
              rw [ab_w_eq, s3]
              refine sq_add s1 (by clear s1 ihr ih no; omega) (fun j => ⟨fun y => ?_, fun y => ⟨hac, ?_⟩⟩)
              · have := y.2
                rw [l2] at this
                exact this.symm
              · rw [l2]; exact y.symm
            · intro k hk ihk
              rw [Int.natCast_succ, pk_s] at ihk
              have hk' : k < (rd_dg r n).length := by omega
              have bk := bg3 k hk'
              have xk := mr3 k hk'
              have xn := gd.2 _ (getD_mem hk')
              have w139 := s139 (d := d - 1) (by omega) a3 _ xn
              rw [← xk] at w139
              refine b176_62 (by omega) a3.2.1 ⟨fun q => by omega, fun _ => ⟨by omega, fun q => ⟨by omega, ?_⟩, fun q => ?_⟩⟩
              · rw [Int.toNat_natCast, bk] at q
                rw [if_neg (by clear s1 ihr ih no; omega)] at ihk
                exact ihk
              · rw [Int.toNat_natCast, bk] at q
                rw [if_pos q] at ihk
                rw [Int.toNat_natCast]
                exact ⟨_, _, w139, a3.2.1, by omega, ihk⟩
  obtain ⟨r', M', e, rfl, h1, h2⟩ := wp_ev w
  exact ⟨M', e, h1, h2⟩
