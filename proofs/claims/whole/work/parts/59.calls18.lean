/-! rows filled -/
def pu_fil (M : ab_M) (k n : Nat) (v : Int) : ab_M := fun a b => if a = k ∧ b < n then v else M a b
theorem fil_zero (M : ab_M) (k : Nat) (v : Int) : pu_fil M k 0 v = M := by
  funext a b
  unfold pu_fil
  rw [if_neg (by omega)]
theorem fil_succ (M : ab_M) (k n : Nat) (v : Int) : ab_w (pu_fil M k n v) k n v = pu_fil M k (n + 1) v := by
  funext a b
  unfold ab_w pu_fil
  by_cases q : a = k ∧ b = n
  · rw [if_pos q, if_pos (by omega)]
  · rw [if_neg q]
    by_cases z : a = k ∧ b < n
    · rw [if_pos z, if_pos (by omega)]
    · rw [if_neg z, if_neg (by omega)]
theorem fil_r {M : ab_M} {k n : Nat} {v : Int} {a b : Nat} (h : a ≠ k) : pu_fil M k n v a b = M a b := by
  unfold pu_fil
  rw [if_neg (by omega)]
theorem fil_s {M : ab_M} {k n : Nat} {v : Int} {b : Nat} (h : b < n) : pu_fil M k n v k b = v := by
  unfold pu_fil
  rw [if_pos ⟨rfl, h⟩]
theorem str_fil {t : Nat} {M : ab_M} {k : Nat} (n : Nat) (v : Int) (h : pu_str t M) (hk : pu_na k = true) : pu_str t (pu_fil M k n v) := by
  induction n with
  | zero => rw [fil_zero]; exact h
  | succ n ih => rw [← fil_succ]; exact str_a ih hk
theorem s193 {d t : Nat} {M : ab_M} (hd : 1 ≤ d) (hS : pu_str t M) (k n : Nat) (v : Int) (ha : ab_arB 20 k n = true) (hk : pu_na k = true) (hn : n ≤ 1000) : ab_ev d 193 [.inr (.inr k), .inl v] M none (pu_fil M k n v) := by
  refine ev_wp (b193_0 (by omega) hS ha hk ?_)
  have main := loop_up (P := fun i => ab_wp d 193 5 [some (.inr (.inr k)), some (.inl v), some (.inl (i : Int)), some (.inl (n : Int))] [] (pu_fil M k i v) (fun r' M'' => r' = none ∧ M'' = pu_fil M k n v)) n ?_ ?_ 0 (by omega)
  · rw [fil_zero] at main
    exact main
  · exact b193_5 (by omega) (str_fil _ _ hS hk) ha hk ⟨fun _ => ⟨rfl, rfl⟩, fun q => by omega⟩
  · intro i hi ih
    rw [← fil_succ, Int.natCast_succ] at ih
    refine b193_5 (by omega) (str_fil _ _ hS hk) ha hk ⟨fun q => by omega, fun _ => ⟨by omega, by omega, ?_⟩⟩
    rw [Int.toNat_natCast]
    exact ih
theorem at_fil {t : Nat} {A M : ab_M} (h : pu_at t A M) {k n : Nat} {v : Int} (hk : pu_na k = true) (q : ∀ f, f < n → pu_sc k f) : pu_at t A (pu_fil M k n v) := by
  refine ⟨h.1, str_fil _ _ h.2.1 hk, pu_fr_trans h.2.2 ?_⟩
  intro a b z
  unfold pu_fil
  rw [if_neg]
  rintro ⟨rfl, y⟩
  exact z (q b y)
/-! votes -/
def pu_cnt (f : Nat → Int) (o : Int) : Nat → Int
  | 0 => 0
  | n + 1 => pu_cnt f o n + (if f n = o then 1 else 0)
theorem cnt_s (f : Nat → Int) (o : Int) (n : Nat) : pu_cnt f o (n + 1) = pu_cnt f o n + (if f n = o then 1 else 0) := rfl
theorem cnt_rg (f : Nat → Int) (o : Int) : ∀ n, 0 ≤ pu_cnt f o n ∧ pu_cnt f o n ≤ n
  | 0 => by unfold pu_cnt; omega
  | n + 1 => by
    have := cnt_rg f o n
    rw [cnt_s]
    by_cases c : f n = o
    · rw [if_pos c]; omega
    · rw [if_neg c]; omega
def pu_his (t : Nat) (A : ab_M) (p : Nat) : Nat := pu_set t A 0 &&& pu_dof t A (p : Int)
def pu_vf (t : Nat) (A : ab_M) (p : Nat) : Int := (pu_am (pu_wf t A (pu_his t A p)) 0 (A t 4).toNat).1
theorem s105 {d t : Nat} {A M : ab_M} (hd : 1 ≤ d) (h : pu_at t A M) {f : Nat → Int} (hf : ∀ o : Nat, o < 4 → M 101 o = f o) : ab_ev d 105 [.inr (.inr 0)] M (some (.inl (pu_am f 0 (A t 4).toNat).1)) M := by
  have ht : t = 5 ∨ t = 37 := h.2.1.2.2.1
  obtain ⟨_, _, _, t4, _⟩ := h.1.2.1
  have r4 : M t 4 = A t 4 := at_r h t 4 (by omega)
  refine ev_wp (b105_0 (by omega) h.2.1 ?_)
  refine loop_up (P := fun o => ab_wp d 105 6 [some (.inr (.inr 0)), some (.inl (pu_am f 0 o).1), some (.inl (pu_am f 0 o).2), some (.inl (o : Int))] [] M _) (A t 4).toNat ?_ ?_ 0 (by omega)
  · exact b105_6 (by omega) h.2.1 ⟨fun _ => ⟨rfl, rfl⟩, fun q => by omega⟩
  · intro o ho ih
    have fo := hf o (by omega)
    rw [am_s, Int.natCast_succ] at ih
    refine b105_6 (by omega) h.2.1 ⟨fun q => by omega, fun _ => ⟨by omega, fun q => ⟨by omega, ?_⟩, fun q => ⟨by omega, ?_⟩⟩⟩
    · rw [Int.toNat_natCast, fo] at q
      rw [if_neg (by omega)] at ih
      exact ih
    · rw [Int.toNat_natCast, fo] at q
      rw [if_pos q] at ih
      rw [Int.toNat_natCast, fo]
      exact ih
theorem s170 {d t : Nat} {A M : ab_M} (hd : 3 ≤ d) (h : pu_at t A M) (p : Nat) : ab_ev d 170 [.inr (.inr 103), .inl (p : Int)] M (some (.inl (pu_vf t A p))) M := by
  have ht : t = 5 ∨ t = 37 := h.2.1.2.2.1
  have q0 := pu_set_64 h.1 0
  have q1 := dof_64 h.1 (p : Int)
  obtain ⟨_, _, _, t4, _, _, _, _, t9⟩ := h.1.2.1
  obtain ⟨m1, m2, m3, m4, m5, m6, m7, m8⟩ := h.1.2.2.1
  have r4 : M 103 14 = A t 4 := (at_r h 103 14 (by omega)).trans m4
  have q2 : pu_his t A p < 64 := and_lt q0
  refine ev_wp (b170_0 (by omega) h.2.1 ⟨_, _, s169 (by omega) h (p : Int), h.2.1, _, _, s129a (by omega) h 0, h.2.1, ?_⟩)
  rw [and_nat q1 q0, Nat.and_comm]
  refine loop_up (P := fun o => ∀ y6, ab_wp d 170 20 [some (.inr (.inr 103)), some (.inl (p : Int)), some (.inl ((pu_his t A p : Nat) : Int)), some (.inl (pu_am (pu_wf t A (pu_his t A p)) 0 o).1), some (.inl (pu_am (pu_wf t A (pu_his t A p)) 0 o).2), some (.inl (o : Int)), y6] [] M _) (A t 4).toNat ?_ ?_ 0 (by omega) _
  · intro y6
    exact b170_20 (by omega) h.2.1 ⟨fun _ => ⟨rfl, rfl⟩, fun q => by omega⟩
  · intro o ho ih y6
    have to := t9 o (by omega)
    have r5 : M 111 o = A (t + 31) o := (at_r h 111 o (by omega)).trans (m8 o (by omega))
    rw [am_s, Int.natCast_succ] at ih
    refine b170_20 (by omega) h.2.1 ⟨fun q => by omega, fun _ => ⟨by omega, ?_⟩⟩
    rw [Int.toNat_natCast, r5, and_int q2 (by omega)]
    refine ⟨_, _, s130a (by omega) h (and_lt q2), h.2.1, fun q => ⟨fun _ => ⟨by omega, ?_⟩, fun z => by omega⟩, fun q => ⟨fun z => by omega, fun _ => ⟨by omega, ?_⟩⟩⟩
    · have q' : ¬ (pu_am (pu_wf t A (pu_his t A p)) 0 o).2 < pu_wf t A (pu_his t A p) o := by unfold pu_wf at q ⊢; omega
      rw [if_neg q'] at ih
      exact ih _
    · have q' : (pu_am (pu_wf t A (pu_his t A p)) 0 o).2 < pu_wf t A (pu_his t A p) o := q
      rw [if_pos q'] at ih
      exact ih _
theorem s171 {d t : Nat} {A M : ab_M} (hd : 4 ≤ d) (h : pu_at t A M) (o : Int) : ab_ev d 171 [.inr (.inr 103), .inl o] M (some (.inl (pu_cnt (pu_vf t A) o (A t 2).toNat))) M := by
  obtain ⟨_, t2, _⟩ := h.1.2.1
  obtain ⟨m1, m2, m3, m4, m5, m6, m7, m8⟩ := h.1.2.2.1
  have r2 : M 103 9 = A t 2 := (at_r h 103 9 (by omega)).trans m2
  refine ev_wp (b171_0 (by omega) h.2.1 ?_)
  refine loop_up (P := fun p => ab_wp d 171 4 [some (.inr (.inr 103)), some (.inl o), some (.inl (pu_cnt (pu_vf t A) o p)), some (.inl (p : Int))] [] M _) (A t 2).toNat ?_ ?_ 0 (by omega)
  · exact b171_4 (by omega) h.2.1 ⟨fun _ => ⟨rfl, rfl⟩, fun q => by omega⟩
  · intro p hp ih
    have rg := cnt_rg (pu_vf t A) o p
    rw [cnt_s, Int.natCast_succ] at ih
    refine b171_4 (by omega) h.2.1 ⟨fun q => by omega, fun _ => ⟨_, _, s170 (by omega) h p, h.2.1, fun q => ⟨by omega, by omega, ?_⟩, fun q => ⟨by omega, by omega, ?_⟩⟩⟩
    · rw [if_neg q] at ih
      exact ih
    · rw [if_pos q] at ih
      exact ih
theorem wf_pos {t : Nat} {A : ab_M} (h : pu_inv t A) (s o : Nat) : 0 ≤ pu_wf t A s o := (wth_pos h _).1
theorem c_vote_c {t : Nat} {A : ab_M} (h : pu_inv t A) (x : Int) (hx : x = -1 ∨ (0 ≤ x ∧ x < A t 4)) : ∀ M, pu_at t A M → (∀ o : Nat, o < 6 → M 101 o = 0) → ab_wp 29 86 35 [some (.inr (.inr 0)), some (.inl x), some (.inl ((pu_set t A 0 : Nat) : Int)), some (.inl 0), none, none] [] M (fun r' M' => r' = some (.inl (if x = -1 then (pu_am (fun o => pu_cnt (pu_vf t A) (o : Int) (A t 2).toNat) 0 (A t 4).toNat).1 else pu_cnt (pu_vf t A) x (A t 2).toNat)) ∧ pu_at t A M') := by
  intro M hM h0
  have ht : t = 5 ∨ t = 37 := h.1.2.2.1
  have q0 := pu_set_64 h 0
  obtain ⟨_, t2, _, t4, _, _, _, _, t9⟩ := h.2.1
  refine loop_up (P := fun p => ∀ M y4 y5, pu_at t A M → (∀ o : Nat, o < 6 → M 101 o = pu_cnt (pu_vf t A) (o : Int) p) → ab_wp 29 86 35 [some (.inr (.inr 0)), some (.inl x), some (.inl ((pu_set t A 0 : Nat) : Int)), some (.inl (p : Int)), y4, y5] [] M (fun r' M' => r' = some (.inl (if x = -1 then (pu_am (fun o => pu_cnt (pu_vf t A) (o : Int) (A t 2).toNat) 0 (A t 4).toNat).1 else pu_cnt (pu_vf t A) x (A t 2).toNat)) ∧ pu_at t A M')) (A t 2).toNat ?_ ?_ 0 (by omega) M _ _ hM h0
  · intro M y4 y5 hM hc
    have r2 : M t 2 = A t 2 := at_r hM t 2 (by omega)
    refine b86_35 (by omega) hM.2.1 ⟨fun _ => ⟨fun q => ⟨by omega, ?_, hM⟩, fun q => ⟨_, _, s105 (by omega) hM (f := fun o => pu_cnt (pu_vf t A) (o : Int) (A t 2).toNat) (fun o ho => hc o (by omega)), hM.2.1, ?_, hM⟩⟩, fun q => by omega⟩
    · rw [if_neg q, hc x.toNat (by omega), show ((x.toNat : Nat) : Int) = x from by omega]
    · rw [if_pos q]
  · intro p hp ih M y4 y5 hM hc
    have r2 : M t 2 = A t 2 := at_r hM t 2 (by omega)
    have q1 := dof_64 h (p : Int)
    have q2 : pu_his t A p < 64 := and_lt q0
    have z := am_zero (wf_pos h (pu_his t A p)) (A t 4).toNat
    have rg := am_rg (pu_wf t A (pu_his t A p)) (-1) (A t 4).toNat
    rw [Int.natCast_succ] at ih
    refine b86_35 (by omega) hM.2.1 ⟨fun q => by omega, fun _ => ⟨_, _, s62 (by omega) hM (p : Int), hM.2.1, ?_⟩⟩
    rw [and_nat q0 q1]
    refine ⟨_, _, s104 (by omega) hM q2, hM.2.1, fun q => ⟨by omega, ih _ _ _ hM ?_⟩, fun q => ?_⟩
    · intro o ho
      rw [cnt_s, hc o ho, if_neg]
      · omega
      · have q : (pu_am (pu_wf t A (pu_his t A p)) (-1) (A t 4).toNat).1 = -1 := q
        have := z.2.1 (by have := z.2.2 q; omega)
        unfold pu_vf
        rw [this]
        dsimp only
        omega
    · have q : (pu_am (pu_wf t A (pu_his t A p)) (-1) (A t 4).toNat).1 ≠ -1 := q
      have rg := rg.resolve_left q
      obtain ⟨b, eb⟩ : ∃ b : Nat, (pu_am (pu_wf t A (pu_his t A p)) (-1) (A t 4).toNat).1 = (b : Int) := ⟨(pu_am (pu_wf t A (pu_his t A p)) (-1) (A t 4).toNat).1.toNat, by omega⟩
      have eb' : (pu_am (pu_wf t A (pu_set t A 0 &&& pu_dof t A (p : Int))) (-1) (A t 4).toNat).1 = (b : Int) := eb
      rw [eb] at rg
      rw [eb', Int.toNat_natCast]
      rw [Int.toNat_natCast] at rg
      have r5 : M (t + 31) b = A (t + 31) b := at_t hM 31 b (by omega)
      have tb := t9 b (by omega)
      refine ⟨by omega, ?_⟩
      rw [r5, and_int (a := pu_set t A 0 &&& pu_dof t A (p : Int)) (b := A (t + 31) b) q2 (by omega)]
      refine ⟨_, _, s60a (by omega) hM (and_lt q2), hM.2.1, fun y => ⟨by omega, ih _ _ _ hM ?_⟩, fun y => ⟨by omega, ?_, by omega, ih _ _ _ ?_ ?_⟩⟩
      · intro o ho
        rw [cnt_s, hc o ho, if_neg]
        · omega
        · have y : pu_wf t A (pu_his t A p) b ≤ 0 := y
          have := z.2.1 (by omega)
          unfold pu_vf
          rw [this]
          dsimp only
          omega
      · have := hc b (by omega)
        have := cnt_rg (pu_vf t A) (b : Int) p
        omega
      · exact at_w hM (str_a hM.2.1 rfl) (by omega)
      · intro o ho
        have y : 0 < pu_wf t A (pu_his t A p) b := y
        have e := z.1 (by omega)
        have ev : pu_vf t A p = (b : Int) := by
          unfold pu_vf
          rw [e, eb]
        rw [cnt_s, ev]
        unfold ab_w
        by_cases c : o = b
        · rw [c, if_pos ⟨rfl, rfl⟩, if_pos rfl, hc b (by omega)]
        · rw [if_neg (by omega), if_neg (by omega), hc o ho]
          omega
theorem c_vote {t : Nat} {A : ab_M} (h : pu_inv t A) (x : Int) : pu_both 86 172 [.inl x] t A := by
  have ht : t = 5 ∨ t = 37 := h.1.2.2.1
  obtain ⟨_, t2, _, t4, _, _, _, _, t9⟩ := id h.2.1
  obtain ⟨m1, m2, m3, m4, m5, m6, m7, m8⟩ := h.2.2.1
  have hA := at_rfl h
  have hF : pu_at t A (pu_fil A 101 6 0) := at_fil hA rfl (fun f _ => by omega)
  have w193 := s193 (d := 28) (by omega) h.1 101 6 0 rfl rfl (by omega)
  have w55 := s55 (d := 28) (by omega) h.1 h.1.2.2.1 x
  by_cases c : x = -1 ∨ (0 ≤ x ∧ x < A t 4)
  · refine both_at (if x = -1 then (pu_am (fun o => pu_cnt (pu_vf t A) (o : Int) (A t 2).toNat) 0 (A t 4).toNat).1 else pu_cnt (pu_vf t A) x (A t 2).toNat) ?_ (fun M hM => ?_)
    · refine b86_0 (by omega) h.1 ⟨fun q => ⟨_, w193, hF.2.1, _, _, s97a (by omega) hF 0, hF.2.1, c_vote_c h x c _ hF (fun o ho => fil_s ho)⟩, fun q => ?_⟩
      rw [if_pos (by omega)] at w55
      exact ⟨_, _, w55, h.1, fun _ => ⟨_, w193, hF.2.1, _, _, s97a (by omega) hF 0, hF.2.1, c_vote_c h x c _ hF (fun o ho => fil_s ho)⟩, fun z => by omega⟩
    · have r4 : M 103 14 = A t 4 := (at_r hM 103 14 (by omega)).trans m4
      have w107 := s107 (d := 28) (by omega) hM.2.1 x (-1) (M 103 14 - 1)
      rw [if_pos (by omega)] at w107
      refine b172_0 (by omega) hM.2.1 ⟨by omega, _, _, w107, hM.2.1, fun _ => ⟨fun q => ?_, fun q => ⟨_, _, s171 (by omega) hM x, hM.2.1, ?_, hM⟩⟩, fun q => by omega⟩
      · have ex : x = -1 := by omega
        rw [if_pos ex]
        refine loop_up (P := fun o => ∀ y5, ab_wp 29 172 38 [some (.inr (.inr 103)), some (.inl x), some (.inl (pu_am (fun o => pu_cnt (pu_vf t A) (o : Int) (A t 2).toNat) 0 o).1), some (.inl (pu_am (fun o => pu_cnt (pu_vf t A) (o : Int) (A t 2).toNat) 0 o).2), some (.inl (o : Int)), y5] [] M _) (A t 4).toNat ?_ ?_ 0 (by omega) _
        · intro y5
          exact b172_38 (by omega) hM.2.1 ⟨fun _ => ⟨rfl, hM⟩, fun q => by omega⟩
        · intro o ho ih y5
          rw [am_s, Int.natCast_succ] at ih
          refine b172_38 (by omega) hM.2.1 ⟨fun q => by omega, fun _ => ⟨_, _, s171 (by omega) hM (o : Int), hM.2.1, fun q => ⟨fun _ => ⟨by omega, ?_⟩, fun z => by omega⟩, fun q => ⟨fun z => by omega, fun _ => ⟨by omega, ?_⟩⟩⟩⟩
          · rw [if_neg (by omega)] at ih
            exact ih _
          · rw [if_pos q] at ih
            exact ih _
      · rw [if_neg (by omega)]
  · refine both_at (-1000000001) ?_ (fun M hM => ?_)
    · refine b86_0 (by omega) h.1 ⟨fun q => by omega, fun q => ?_⟩
      rw [if_neg (by omega)] at w55
      exact ⟨_, _, w55, h.1, fun z => by omega, fun _ => ⟨rfl, hA⟩⟩
    · have r4 : M 103 14 = A t 4 := (at_r hM 103 14 (by omega)).trans m4
      have w107 := s107 (d := 28) (by omega) hM.2.1 x (-1) (M 103 14 - 1)
      rw [if_neg (by omega)] at w107
      exact b172_0 (by omega) hM.2.1 ⟨by omega, _, _, w107, hM.2.1, fun z => by omega, fun _ => ⟨rfl, hM⟩⟩
