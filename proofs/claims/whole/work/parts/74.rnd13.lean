/-! round -/
theorem v_sq {t : Nat} {A : ab_M} (h : pu_inv t A) {sq sq' mn : Int} (hq : 0 < A t 0 → sq = sq') {o : Nat} {r : List Nat} (hv : rd_v (rd_H t A sq mn) (rd_nd t A) o r) : rd_v (rd_H t A sq' mn) (rd_nd t A) o r ∧ rd_mn (rd_H t A sq' mn) r = rd_mn (rd_H t A sq mn) r := by
  obtain ⟨t1, t2, t3, t4, t5, _⟩ := h.2.1
  by_cases c : 0 < A t 0
  · rw [hq c] at hv ⊢; exact ⟨hv, rfl⟩
  · have n0 : rd_nd t A = 0 := by
      unfold rd_nd
      rw [(t5 (by omega)).2.2.1]
      rfl
    rw [n0] at hv ⊢
    rw [v_nil hv]
    exact ⟨⟨List.nodup_nil, fun j hj => absurd hj List.not_mem_nil, ok_nil _⟩, rfl⟩
def rd_mx (t : Nat) (A : ab_M) (H : rd_HH) (k : Nat) (m e : Int) : Prop := (∃ r, rd_v H (rd_nd t A) (pu_set t A 0) r ∧ rd_W t A r = m ∧ rd_mn H r = e) ∧ (∀ r, rd_v H (rd_nd t A) (pu_set t A 0) r → rd_set r < k → rd_W t A r < m ∨ (rd_W t A r = m ∧ e ≤ rd_mn H r))
theorem mx_uq {t : Nat} {A : ab_M} (h : pu_inv t A) {H : rd_HH} {m e m' e' : Int} (a : rd_mx t A H 64 m e) (b : rd_mx t A H 64 m' e') : m = m' ∧ e = e' := by
  have t3 := h.2.1.2.2.1
  have hn : rd_nd t A ≤ 6 := by unfold rd_nd; omega
  have l64 : ∀ r, rd_v H (rd_nd t A) (pu_set t A 0) r → rd_set r < 64 := fun r hv => set_64 (fun i hi => by have := (hv.2.1 i hi).1; omega)
  obtain ⟨⟨r, a1, a2, a3⟩, a4⟩ := a
  obtain ⟨⟨r', b1, b2, b3⟩, b4⟩ := b
  have q1 := a4 r' b1 (l64 r' b1)
  have q2 := b4 r a1 (l64 r a1)
  clear a4 b4
  omega
theorem best_mx {t : Nat} {A : ab_M} {H : rd_HH} {r0 : List Nat} (h : rd_best t A H (rd_nd t A) (pu_set t A 0) r0) : rd_mx t A H 64 (rd_W t A r0) (rd_mn H r0) :=
  ⟨⟨r0, h.1, rfl, rfl⟩, fun r hv _ => h.2.1 r hv⟩
def rd_vx (r0 : List Nat) (x : Int) : Int := if 0 ≤ x ∧ x < ((r0.length : Nat) : Int) then ((r0.getD x.toNat 0 : Nat) : Int) else -1
def rd_P (t : Nat) (A : ab_M) (x v : Int) : Prop := (x = -1 ∧ ∃ e, rd_mx t A (rd_H t A (A 69 1) (A 69 0)) 64 v e) ∨ (x = -2 ∧ ∃ m, rd_mx t A (rd_H t A (A 69 1) (A 69 0)) 64 m v) ∨ (x ≠ -1 ∧ x ≠ -2 ∧ ∃ r0, rd_best t A (rd_H t A (A 69 1) (A 69 0)) (rd_nd t A) (pu_set t A 0) r0 ∧ v = rd_vx r0 x)
theorem P_uq {t : Nat} {A : ab_M} (h : pu_inv t A) {x v v' : Int} (a : rd_P t A x v) (b : rd_P t A x v') : v = v' := by
  rcases a with ⟨a1, e, a2⟩ | ⟨a1, e, a2⟩ | ⟨a1, a2, r, a3, a4⟩ <;> rcases b with ⟨b1, e', b2⟩ | ⟨b1, e', b2⟩ | ⟨b1, b2, r', b3, b4⟩
  · exact (mx_uq h a2 b2).1
  · omega
  · exact absurd a1 b1
  · omega
  · exact (mx_uq h a2 b2).2
  · exact absurd a1 b2
  · exact absurd b1 a1
  · exact absurd b1 a2
  · rw [a4, b4, best_uq a3 b3]
theorem round_c {t : Nat} {A : ab_M} (h : pu_inv t A) (x : Int) : ab_wp 29 79 0 (ab_ent [.inr (.inr 0), .inl x] (ab_mx 79)) [] A (fun r' M' => (∃ v, r' = some (.inl v) ∧ rd_P t A x v) ∧ pu_at t A M') := by
  have hA := at_rfl h
  have q0 := pu_set_64 h 0
  obtain ⟨a1, a2, a3, a4, a5, a6⟩ := now_of h.2.2.2.2.2.1
  obtain ⟨t1, t2, t3, t4, t5, t6, _⟩ := id h.2.1
  have hpos : 0 < rd_nd t A → 0 < A t 0 := by
    intro q
    by_cases c : 0 < A t 0
    · exact c
    · have := (t5 (by omega)).2.2.1
      unfold rd_nd at q
      omega
  obtain ⟨M2, r0, e2, p2, hb, h2, h3, h4, h5⟩ := s1 (d := 28) (by omega) q0 hA (sq0 := A 69 1) (mn0 := A 69 0) a1.2 (fun q => (a2 (hpos q)).2)
  have l6 : r0.length ≤ 6 := by
    have := row_len hb.1.1 (fun i hi => (hb.1.2.1 i hi).1)
    unfold rd_nd at this
    omega
  refine b79_0 (by omega) h.1 ⟨_, _, s97a (by omega) hA 0, h.1, M2, e2, p2.2.1, fun q => ⟨fun z => ⟨fun y => ⟨⟨_, rfl, Or.inr (Or.inr ⟨q, z, r0, hb, ?_⟩)⟩, p2⟩, fun y => ⟨fun u => ⟨⟨_, rfl, Or.inr (Or.inr ⟨q, z, r0, hb, ?_⟩)⟩, p2⟩, fun u => ⟨by clear hb h5; omega, ⟨_, rfl, Or.inr (Or.inr ⟨q, z, r0, hb, ?_⟩)⟩, p2⟩⟩⟩, fun z => ⟨⟨_, rfl, Or.inr (Or.inl ⟨z, _, by rw [h3]; exact best_mx hb⟩)⟩, p2⟩⟩, fun q => ⟨⟨_, rfl, Or.inl ⟨q, _, by rw [h2]; exact best_mx hb⟩⟩, p2⟩⟩
  · unfold rd_vx
    rw [if_neg (by clear hb h5; omega)]
  · unfold rd_vx
    rw [if_neg (by clear hb h5; omega)]
  · unfold rd_vx
    rw [if_pos (by clear hb h5; omega)]
    rw [h4] at u
    exact h5 x.toNat (by clear hb h5; omega)
theorem round_m {t : Nat} {A M : ab_M} (h : pu_at t A M) (x : Int) : ab_wp 29 155 0 (ab_ent [.inr (.inr 103), .inl x] (ab_mx 155)) [] M (fun r' M' => (∃ v, r' = some (.inl v) ∧ rd_P t A x v) ∧ pu_at t A M') := by
  have q0 := pu_set_64 h.1 0
  obtain ⟨a1, a2, a3, a4, a5, a6⟩ := now_of h.1.2.2.2.2.2.1
  obtain ⟨t1, t2, t3, t4, t5, t6, _⟩ := id h.1.2.1
  have hn : rd_nd t A ≤ 6 := by unfold rd_nd; omega
  have hpos : 0 < rd_nd t A → 0 < A t 0 := by
    intro q
    by_cases c : 0 < A t 0
    · exact c
    · have := (t5 (by omega)).2.2.1
      unfold rd_nd at q
      omega
  have hsq : 0 < rd_nd t A → 0 ≤ A 112 1 ∧ A 112 1 < A t 0 := by
    intro q
    have := a2 (hpos q)
    omega
  have l64 : ∀ r, rd_v (rd_H t A (A 112 1) (A 69 0)) (rd_nd t A) (pu_set t A 0) r → rd_set r < 64 := fun r hv => set_64 (fun i hi => by have := (hv.2.1 i hi).1; omega)
  have back : ∀ r, rd_v (rd_H t A (A 69 1) (A 69 0)) (rd_nd t A) (pu_set t A 0) r → rd_v (rd_H t A (A 112 1) (A 69 0)) (rd_nd t A) (pu_set t A 0) r ∧ rd_mn (rd_H t A (A 112 1) (A 69 0)) r = rd_mn (rd_H t A (A 69 1) (A 69 0)) r := fun r hv => v_sq h.1 (fun q => (a2 q).1.symm) hv
  have forth : ∀ r, rd_v (rd_H t A (A 112 1) (A 69 0)) (rd_nd t A) (pu_set t A 0) r → rd_v (rd_H t A (A 69 1) (A 69 0)) (rd_nd t A) (pu_set t A 0) r ∧ rd_mn (rd_H t A (A 69 1) (A 69 0)) r = rd_mn (rd_H t A (A 112 1) (A 69 0)) r := fun r hv => v_sq h.1 (fun q => (a2 q).1) hv
  have mxf : ∀ m e, rd_mx t A (rd_H t A (A 112 1) (A 69 0)) 64 m e → rd_mx t A (rd_H t A (A 69 1) (A 69 0)) 64 m e := by
    rintro m e ⟨⟨r, b1, b2, b3⟩, b4⟩
    refine ⟨⟨r, (forth r b1).1, b2, by rw [(forth r b1).2]; exact b3⟩, fun r' hv l => ?_⟩
    have := b4 r' (back r' hv).1 l
    rw [(back r' hv).2] at this
    exact this
  have r112 : M 112 0 = A 69 0 := (at_r h 112 0 (by omega)).trans a1.1
  have r112p : M 112 1 = A 112 1 := at_r h 112 1 (by omega)
  obtain ⟨M2, e2, p2, c2, f2⟩ := s149 (d := 28) (by omega) h (sq0 := A 112 1) (mn0 := A 69 0) a1.2 hsq q0 (fun j hj => set_bit_lt hj)
  have r2 : M2 112 0 = A 69 0 := (f2 112 0 (by omega)).trans r112
  refine b155_0 (by omega) h.2.1 ⟨_, _, s129a (by omega) h 0, h.2.1, M2, by rw [r112, r112p]; exact e2, p2.2.1, ?_⟩
  rw [r2]
  refine loop_up (P := fun k => 1 ≤ k → ∀ (m e : Int) y6, rd_mx t A (rd_H t A (A 112 1) (A 69 0)) k m e → ab_wp 29 155 36 [some (.inr (.inr 103)), some (.inl x), some (.inl ((pu_set t A 0 : Nat) : Int)), some (.inl m), some (.inl e), some (.inl (k : Int)), y6] [] M2 _) 64 ?_ ?_ 1 (by omega) (by omega) 0 (A 69 0) _ ⟨⟨[], ⟨List.nodup_nil, fun j hj => absurd hj List.not_mem_nil, ok_nil _⟩, wth_zero t A, rfl⟩, fun r hv hk => ?_⟩
  · intro _ m e y6 hmx
    have hmx' := mxf m e hmx
    refine b155_36 (by omega) p2.2.1 ⟨fun _ => ⟨fun q => ⟨fun z => absurd q z, fun _ => ⟨⟨m, rfl, Or.inl ⟨q, e, hmx'⟩⟩, p2⟩⟩, fun q => ⟨fun z => ?_, fun z => ⟨fun _ => ⟨⟨e, rfl, Or.inr (Or.inl ⟨z, m, hmx'⟩)⟩, p2⟩, fun y => absurd y q⟩⟩⟩, fun q => by clear hmx; omega⟩
    obtain ⟨⟨r, b1, b2, b3⟩, b4⟩ := id hmx
    have eb : e < 1000000 := by
      have := (v_rg h.1 a1.2 hsq _ _ rfl b1).1
      clear b4 hmx
      omega
    obtain ⟨M3, b, e3, p3, mr3, hS, hmin⟩ := s152 (d := 28) (by omega) p2 hsq m e eb ⟨r, b1, b2, b3⟩
    have l6 : b.length ≤ 6 := by
      have := row_len hS.1.1 (fun i hi => (hS.1.2.1 i hi).1)
      omega
    have hbest : rd_best t A (rd_H t A (A 69 1) (A 69 0)) (rd_nd t A) (pu_set t A 0) b := by
      have fb := forth b hS.1
      refine ⟨fb.1, fun r' hv => ?_, fun r' hv w1 w2 => ?_⟩
      · have := hmx'.2 r' hv (l64 r' (back r' hv).1)
        unfold rd_le
        rw [fb.2, hS.2.1, hS.2.2]
        exact this
      · refine hmin r' ⟨(back r' hv).1, by rw [w1]; exact hS.2.1, ?_⟩
        rw [(back r' hv).2, w2, fb.2]
        exact hS.2.2
    have w107 := s107 (d := 28) (by omega) p3.2.1 x 0 (((b.length : Nat) : Int) - 1)
    refine ⟨_, M3, e3, p3.2.1, by clear hmx b4; omega, _, _, w107, p3.2.1, fun y => ⟨⟨_, rfl, Or.inr (Or.inr ⟨q, z, b, hbest, ?_⟩)⟩, p3⟩, fun y => ⟨?_, ⟨_, rfl, Or.inr (Or.inr ⟨q, z, b, hbest, ?_⟩)⟩, p3⟩⟩
    · unfold rd_vx
      rw [if_neg]
      intro u
      rw [if_pos (by clear hmx b4; omega)] at y
      exact absurd y (by decide)
    · by_cases u : 0 ≤ x ∧ x ≤ ((b.length : Nat) : Int) - 1
      · clear hmx b4; omega
      · rw [if_neg u] at y
        exact absurd rfl y
    · by_cases u : 0 ≤ x ∧ x ≤ ((b.length : Nat) : Int) - 1
      · unfold rd_vx
        rw [if_pos (by clear hmx b4; omega)]
        exact mr3 x.toNat (by clear hmx b4; omega)
      · rw [if_neg u] at y
        exact absurd rfl y
  · intro k hk ih hk1 m e y6 hmx
    have ih := ih (by omega)
    rw [Int.natCast_succ] at ih
    have skip : (∀ r, rd_v (rd_H t A (A 112 1) (A 69 0)) (rd_nd t A) (pu_set t A 0) r → rd_set r = k → rd_W t A r < m ∨ (rd_W t A r = m ∧ e ≤ rd_mn (rd_H t A (A 112 1) (A 69 0)) r)) → rd_mx t A (rd_H t A (A 112 1) (A 69 0)) (k + 1) m e := by
      intro q
      refine ⟨hmx.1, fun r hv l => ?_⟩
      by_cases c : rd_set r = k
      · exact q r hv c
      · exact hmx.2 r hv (by clear hmx; omega)
    obtain ⟨V, eV, _, hV⟩ := s150 (d := 28) (by omega) p2 c2 hk (A 69 0)
    have hV := hV (by omega)
    have rg : ab_rg ((k : Int) + 1) := by clear hmx hV; omega
    have w130 := s130a (d := 28) (by omega) p2 hk
    have new : V < 1000000 → (m < pu_wth t A k ∨ (pu_wth t A k = m ∧ V < e)) → rd_mx t A (rd_H t A (A 112 1) (A 69 0)) (k + 1) (pu_wth t A k) V := by
      intro hlt q
      obtain ⟨r, b1, b2, b3⟩ := hV.2.2 hlt
      refine ⟨⟨r, b1, by unfold rd_W; rw [b2], b3⟩, fun r' hv l => ?_⟩
      by_cases c : rd_set r' = k
      · right
        refine ⟨by unfold rd_W; rw [c], hV.2.1 r' hv c⟩
      · have := hmx.2 r' hv (by clear hmx hV; omega)
        clear hmx hV
        omega
    refine b155_36 (by omega) p2.2.1 ⟨fun q => by clear hmx hV; omega, fun _ => ⟨fun q => ⟨rg, ih _ _ _ (skip (fun r hv c => ?_))⟩, fun q => ?_⟩⟩
    · exfalso
      apply q
      rw [sub_int hk q0]
      have : rd_sub k (pu_set t A 0) = 0 := (sub_zero hk).2 (fun j hj => by
        rw [← c, set_bit] at hj
        exact (hv.2.1 j (of_decide_eq_true hj)).2)
      rw [this]
      rfl
    · rw [r2]
      refine ⟨V, _, eV, p2.2.1, fun z => ⟨rg, ih _ _ _ (skip (fun r hv c => ?_))⟩, fun z => ⟨_, _, w130, p2.2.1, fun y => ⟨_, _, w130, p2.2.1, rg, ih _ _ _ (new z (Or.inl y))⟩, fun y => ⟨_, _, w130, p2.2.1, fun u => ⟨rg, ih _ _ _ (skip (fun r hv c => ?_))⟩, fun u => ⟨fun s => ⟨rg, ih _ _ _ (skip (fun r hv c => ?_))⟩, fun s => ⟨_, _, w130, p2.2.1, rg, ih _ _ _ (new z (Or.inr ⟨u, s⟩))⟩⟩⟩⟩⟩
      · have b1 := hV.2.1 r hv c
        have b2 := (v_rg h.1 a1.2 hsq _ _ rfl hv).1
        clear hmx hV
        omega
      · left
        have e1 : rd_W t A r = pu_wth t A k := by unfold rd_W; rw [c]
        clear hmx hV
        omega
      · right
        have e1 : rd_W t A r = pu_wth t A k := by unfold rd_W; rw [c]
        have b1 := hV.2.1 r hv c
        clear hmx hV
        omega
  · have := set_nil (show rd_set r = 0 by omega)
    rw [this]
    right
    exact ⟨wth_zero t A, Int.le_refl _⟩
theorem c_round {t : Nat} {A : ab_M} (h : pu_inv t A) (x : Int) : pu_both 79 155 [.inl x] t A :=
  both_rel (rd_P t A x) (fun _ _ a b => P_uq h a b) (round_c h x) (fun _ hM => round_m hM x)
