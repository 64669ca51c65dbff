/-! two, reword -/
theorem both_rel {mc mm : Nat} {as : List ab_V} {t : Nat} {A : ab_M} (P : Int → Prop) (uq : ∀ v v', P v → P v' → v = v')
    (hc : ab_wp 29 mc 0 (ab_ent (.inr (.inr 0) :: as) (ab_mx mc)) [] A (fun r' M' => (∃ v, r' = some (.inl v) ∧ P v) ∧ pu_at t A M'))
    (hm : ∀ M, pu_at t A M → ab_wp 29 mm 0 (ab_ent (.inr (.inr 103) :: as) (ab_mx mm)) [] M (fun r' M' => (∃ v, r' = some (.inl v) ∧ P v) ∧ pu_at t A M')) : pu_both mc mm as t A := by
  obtain ⟨r1, M1, e1, ⟨v1, rfl, q1⟩, p1⟩ := wp_ev hc
  obtain ⟨r2, M2, e2, ⟨v2, rfl, q2⟩, p2⟩ := wp_ev (hm M1 p1)
  rw [uq v2 v1 q2 q1] at e2
  exact ⟨v1, t, M1, M2, e1, p1.2.1, e2, at_inv p2⟩
theorem set_bit_lt {t : Nat} {A : ab_M} {x : Int} {j : Nat} (h : (pu_set t A x).testBit j = true) : j < rd_nd t A := by
  unfold pu_set at h
  rw [pu_mk_bit, Bool.and_eq_true] at h
  exact of_decide_eq_true h.1
theorem sub_le : ∀ s o : Fin 64, rd_sub s.val o.val = 0 → s.val ≤ o.val := by decide +kernel
/-- a set that a round can do -/
def rd_cs (t : Nat) (A : ab_M) (sq : Int) (s : Nat) : Prop := ∃ r, rd_v (rd_H t A sq (A 69 0)) (rd_nd t A) (pu_set t A 0) r ∧ rd_set r = s
theorem cs_zero (t : Nat) (A : ab_M) (sq : Int) : rd_cs t A sq 0 := ⟨[], ⟨List.nodup_nil, fun j hj => absurd hj List.not_mem_nil, ok_nil _⟩, rfl⟩
theorem cs_sub {t : Nat} {A : ab_M} (h : pu_inv t A) {sq : Int} {s : Nat} (hc : rd_cs t A sq s) : s < 64 ∧ rd_sub s (pu_set t A 0) = 0 ∧ s ≤ pu_set t A 0 := by
  obtain ⟨r, hv, e⟩ := hc
  have t3 := h.2.1.2.2.1
  have h64 : s < 64 := by
    rw [← e]
    exact set_64 (fun i hi => by have := (hv.2.1 i hi).1; unfold rd_nd at this; omega)
  have hz : rd_sub s (pu_set t A 0) = 0 := by
    rw [sub_zero h64]
    intro j hj
    rw [← e, set_bit] at hj
    exact (hv.2.1 j (of_decide_eq_true hj)).2
  exact ⟨h64, hz, sub_le ⟨s, h64⟩ ⟨_, pu_set_64 h 0⟩ hz⟩
theorem L_cs {t : Nat} {A : ab_M} {sq : Int} {s : Nat} {V : Int} (h0 : s = 0 → V = 0) (h1 : s ≠ 0 → rd_L (rd_H t A sq (A 69 0)) (rd_nd t A) (pu_set t A 0) s V) (hb : ∀ r, rd_v (rd_H t A sq (A 69 0)) (rd_nd t A) (pu_set t A 0) r → rd_mn (rd_H t A sq (A 69 0)) r < 1000000) : V < 1000000 ↔ rd_cs t A sq s := by
  by_cases c : s = 0
  · rw [h0 c, c]
    exact ⟨fun _ => cs_zero t A sq, fun _ => by decide⟩
  · have hL := h1 c
    constructor
    · intro q
      obtain ⟨r, a, b, _⟩ := hL.2.2 q
      exact ⟨r, a, b⟩
    · rintro ⟨r, a, b⟩
      have := hL.2.1 r a b
      have := hb r a
      clear hL h1
      omega
theorem wth_or {t : Nat} {A : ab_M} {a b : Nat} (h : a &&& b = 0) : pu_wth t A (a ||| b) = pu_wth t A a + pu_wth t A b := by
  unfold pu_wth
  generalize (A t 3).toNat = n
  induction n with
  | zero => rfl
  | succ n ih =>
    rw [pu_sum_s, pu_sum_s, pu_sum_s, ih, Nat.testBit_or]
    have hd : ¬ (a.testBit n = true ∧ b.testBit n = true) := by
      intro q
      have : (a &&& b).testBit n = true := by rw [Nat.testBit_and, q.1, q.2]; rfl
      rw [h, Nat.zero_testBit] at this
      cases this
    by_cases ca : a.testBit n = true
    · have cb : ¬ b.testBit n = true := fun q => hd ⟨ca, q⟩
      simp only [ca, cb, Bool.true_or, if_true, if_false]
      simp only [Bool.false_eq_true, if_false]
      omega
    · by_cases cb : b.testBit n = true
      · simp only [ca, cb, Bool.or_true, if_true, Bool.false_eq_true, if_false]
        omega
      · simp only [ca, cb, Bool.or_false, Bool.false_eq_true, if_false]
        omega
def rd_tw (t : Nat) (A : ab_M) (x : Int) (v : Int) : Prop := (∃ s1 s2, rd_cs t A (A 69 1) s1 ∧ rd_cs t A x s2 ∧ s1 &&& s2 = 0 ∧ v = pu_wth t A s1 + pu_wth t A s2) ∧ (∀ s1 s2, rd_cs t A (A 69 1) s1 → rd_cs t A x s2 → s1 &&& s2 = 0 → pu_wth t A s1 + pu_wth t A s2 ≤ v)
theorem tw_uq {t : Nat} {A : ab_M} {x v v' : Int} (h : rd_tw t A x v) (h' : rd_tw t A x v') : v = v' := by
  obtain ⟨⟨s1, s2, a, b, c, d⟩, e⟩ := h
  obtain ⟨⟨s1', s2', a', b', c', d'⟩, e'⟩ := h'
  have q1 := e s1' s2' a' b' c'
  have q2 := e' s1 s2 a b c
  omega
theorem wth_zero (t : Nat) (A : ab_M) : pu_wth t A 0 = 0 := by
  unfold pu_wth
  generalize (A t 3).toNat = n
  induction n with
  | zero => rfl
  | succ n ih => rw [pu_sum_s, ih, Nat.zero_testBit]; rfl
/-- the most beside -/
def rd_mb (t : Nat) (A : ab_M) (x : Int) (s1 k : Nat) (v : Int) : Prop := (∃ s2, rd_cs t A x s2 ∧ s2 &&& s1 = 0 ∧ v = pu_wth t A s2) ∧ (∀ s2, s2 < k → rd_cs t A x s2 → s2 &&& s1 = 0 → pu_wth t A s2 ≤ v)
theorem and_zero {a b : Nat} (ha : a < 64) (hb : b < 64) : (ab_and (a : Int) (b : Int) = 0 ↔ a &&& b = 0) := by
  rw [and_nat ha hb]
  omega
theorem s100 {d t : Nat} {A M : ab_M} (hd : 2 ≤ d) (h : pu_at t A M) {x : Int} (hc : ∀ s : Nat, s < 64 → (M 89 s = 0 ∨ M 89 s = 1) ∧ (M 89 s = 1 ↔ rd_cs t A x s)) {s1 : Nat} (hs1 : s1 < 64) :
    ∃ v, ab_ev d 100 [.inr (.inr 0), .inl (s1 : Int), .inl ((pu_set t A 0 : Nat) : Int)] M (some (.inl v)) M ∧ rd_mb t A x s1 64 v := by
  have q0 := pu_set_64 h.1 0
  have w : ab_wp d 100 0 (ab_ent [.inr (.inr 0), .inl (s1 : Int), .inl ((pu_set t A 0 : Nat) : Int)] (ab_mx 100)) [] M (fun r M' => M' = M ∧ ∃ v, r = some (.inl v) ∧ rd_mb t A x s1 64 v) := by
    refine b100_0 (by omega) h.2.1 ?_
    refine loop_up (P := fun k => ∀ v, rd_mb t A x s1 k v → ab_wp d 100 5 [some (.inr (.inr 0)), some (.inl (s1 : Int)), some (.inl ((pu_set t A 0 : Nat) : Int)), some (.inl v), some (.inl (k : Int))] [] M _) (pu_set t A 0 + 1) ?_ ?_ 0 (by omega) 0 ⟨⟨0, cs_zero t A x, Nat.zero_and s1, (wth_zero t A).symm⟩, fun s2 q => by omega⟩
    · intro v hv
      refine b100_5 (by omega) h.2.1 ⟨fun _ => ⟨rfl, v, rfl, hv.1, fun s2 _ c2 d2 => hv.2 s2 ?_ c2 d2⟩, fun q => by omega⟩
      have := (cs_sub h.1 c2).2.2
      omega
    · intro k hk ih v hv
      rw [Int.natCast_succ] at ih
      have hk64 : k < 64 := by omega
      have ck := hc k hk64
      refine b100_5 (by omega) h.2.1 ⟨fun q => by omega, fun _ => ⟨fun q => ⟨by omega, ih v ⟨hv.1, fun s2 l c2 d2 => ?_⟩⟩, fun q => ⟨by omega, fun z => ⟨by omega, ih v ⟨hv.1, fun s2 l c2 d2 => ?_⟩⟩, fun z => ⟨_, _, s60a (by omega) h hk64, h.2.1, by omega, ih _ ?_⟩⟩⟩⟩
      · by_cases e : s2 = k
        · subst e
          exact absurd ((and_zero hk64 hs1).2 d2) q
        · exact hv.2 s2 (by omega) c2 d2
      · by_cases e : s2 = k
        · subst e
          rw [Int.toNat_natCast, ck.2.2 c2] at z
          omega
        · exact hv.2 s2 (by omega) c2 d2
      · rw [Int.toNat_natCast] at z
        have cs := ck.2.1 (by omega)
        have dz := (and_zero hk64 hs1).1 q
        by_cases y : v < pu_wth t A k
        · rw [if_pos y]
          refine ⟨⟨k, cs, dz, rfl⟩, fun s2 l c2 d2 => ?_⟩
          by_cases e : s2 = k
          · rw [e]; omega
          · have := hv.2 s2 (by omega) c2 d2
            omega
        · rw [if_neg y]
          refine ⟨hv.1, fun s2 l c2 d2 => ?_⟩
          by_cases e : s2 = k
          · rw [e]; omega
          · exact hv.2 s2 (by omega) c2 d2
  obtain ⟨r, M', e, rfl, v, rfl, hv⟩ := wp_ev w
  exact ⟨v, e, hv⟩
def rd_tk (t : Nat) (A : ab_M) (x : Int) (k : Nat) (v : Int) : Prop := (∃ s1 s2, rd_cs t A (A 69 1) s1 ∧ rd_cs t A x s2 ∧ s1 &&& s2 = 0 ∧ v = pu_wth t A s1 + pu_wth t A s2) ∧ (∀ s1 s2, s1 < k → rd_cs t A (A 69 1) s1 → rd_cs t A x s2 → s1 &&& s2 = 0 → pu_wth t A s1 + pu_wth t A s2 ≤ v)
theorem tk_zero (t : Nat) (A : ab_M) (x : Int) : rd_tk t A x 0 0 := ⟨⟨0, 0, cs_zero t A _, cs_zero t A _, rfl, by rw [wth_zero]; rfl⟩, fun s1 s2 q => by omega⟩
theorem tk_skip {t : Nat} {A : ab_M} {x v : Int} {k : Nat} (h : rd_tk t A x k v) (q : ¬ rd_cs t A (A 69 1) k) : rd_tk t A x (k + 1) v := by
  refine ⟨h.1, fun s1 s2 l c1 c2 d => ?_⟩
  by_cases e : s1 = k
  · subst e; exact absurd c1 q
  · exact h.2 s1 s2 (by omega) c1 c2 d
theorem tk_tw {t : Nat} {A : ab_M} (hA : pu_inv t A) {x v : Int} {k : Nat} (hk : pu_set t A 0 < k) (h : rd_tk t A x k v) : rd_tw t A x v := by
  refine ⟨h.1, fun s1 s2 c1 c2 d => h.2 s1 s2 ?_ c1 c2 d⟩
  have := (cs_sub hA c1).2.2
  omega
theorem two_c {t : Nat} {A : ab_M} (h : pu_inv t A) (x : Int) (hx : 0 ≤ x ∧ x < A t 0) : ab_wp 29 80 0 (ab_ent [.inr (.inr 0), .inl x] (ab_mx 80)) [] A (fun r' M' => (∃ v, r' = some (.inl v) ∧ rd_tw t A x v) ∧ pu_at t A M') := by
  have ht : t = 5 ∨ t = 37 := h.1.2.2.1
  have hA := at_rfl h
  have q0 := pu_set_64 h 0
  obtain ⟨a1, a2, a3, a4, a5, a6⟩ := now_of h.2.2.2.2.2.1
  have a2 := a2 (by omega)
  have w51 := s51 (d := 28) (by omega) h.1 h.1.2.2.1 x
  rw [if_pos hx] at w51
  obtain ⟨M3, e3, p3, c3, f3⟩ := s22 (d := 28) (by omega) (Or.inl rfl) q0 hA (sq0 := A 69 1) (mn0 := A 69 0) a1.2 (fun _ => a2.2)
  have r69 : M3 69 0 = A 69 0 := f3 69 0 (by omega)
  obtain ⟨M4, e4, p4, c4, f4⟩ := s22 (d := 28) (by omega) (Or.inr rfl) q0 p3 (sq0 := x) (mn0 := A 69 0) a1.2 (fun _ => hx)
  have o85 : ∀ s : Nat, s < 64 → (M4 85 s = 0 ∨ M4 85 s = 1) ∧ (M4 85 s = 1 ↔ rd_cs t A (A 69 1) s) := fun s hs => by
    rw [f4 85 s (by omega)]
    exact c3 s hs
  have o89 : ∀ s : Nat, s < 64 → (M4 89 s = 0 ∨ M4 89 s = 1) ∧ (M4 89 s = 1 ↔ rd_cs t A x s) := fun s hs => c4 s hs
  refine b80_0 (by omega) h.1 ⟨_, _, w51, h.1, fun _ => ⟨_, _, s97a (by omega) hA 0, h.1, M3, e3, p3.2.1, M4, by rw [r69]; exact e4, p4.2.1, ?_⟩, fun q => by omega⟩
  refine loop_up (P := fun k => ∀ v, rd_tk t A x k v → ab_wp 29 80 71 [some (.inr (.inr 0)), some (.inl x), some (.inl ((pu_set t A 0 : Nat) : Int)), some (.inl v), some (.inl (k : Int))] [] M4 _) (pu_set t A 0 + 1) ?_ ?_ 0 (by omega) 0 (tk_zero t A x)
  · intro v hv
    exact b80_71 (by omega) p4.2.1 ⟨fun _ => ⟨⟨v, rfl, tk_tw h (Nat.lt_succ_self _) hv⟩, p4⟩, fun q => by omega⟩
  · intro k hk ih v hv
    rw [Int.natCast_succ] at ih
    have hk64 : k < 64 := by omega
    have ck := o85 k hk64
    obtain ⟨v2, e2, hb⟩ := s100 (d := 28) (by omega) p4 o89 hk64
    have wp := wth_pos h k
    have wb : 0 ≤ v2 ∧ v2 ≤ 594 := by
      obtain ⟨⟨s2, _, _, q⟩, _⟩ := hb
      have := wth_pos h s2
      omega
    refine b80_71 (by omega) p4.2.1 ⟨fun q => by omega, fun _ => ⟨by omega, fun q => ⟨by omega, ih v (tk_skip hv ?_)⟩, fun q => ⟨_, _, s60a (by omega) p4 hk64, p4.2.1, v2, _, e2, p4.2.1, by omega, by omega, ih _ ?_⟩⟩⟩
    · intro z
      rw [Int.toNat_natCast, ck.2.2 z] at q
      omega
    · rw [Int.toNat_natCast] at q
      have cs := ck.2.1 (by omega)
      obtain ⟨⟨s2, m1, m2, m3⟩, m4⟩ := hb
      have m2' : k &&& s2 = 0 := by rw [Nat.and_comm]; exact m2
      by_cases y : v < pu_wth t A k + v2
      · rw [if_pos y]
        refine ⟨⟨k, s2, cs, m1, m2', by rw [m3]⟩, fun s1 s2 l c1 c2 d => ?_⟩
        by_cases e : s1 = k
        · subst e
          have := m4 s2 (cs_sub h c2).1 c2 (by rw [Nat.and_comm]; exact d)
          omega
        · have := hv.2 s1 s2 (by omega) c1 c2 d
          omega
      · rw [if_neg y]
        refine ⟨hv.1, fun s1 s2 l c1 c2 d => ?_⟩
        by_cases e : s1 = k
        · subst e
          have := m4 s2 (cs_sub h c2).1 c2 (by rw [Nat.and_comm]; exact d)
          omega
        · exact hv.2 s1 s2 (by omega) c1 c2 d
