/-! calls that change scratch alone: A the memory before, M one that differs in scratch -/
def pu_at (t : Nat) (A M : ab_M) : Prop := pu_inv t A ∧ pu_str t M ∧ pu_fr A M
theorem at_inv {t : Nat} {A M : ab_M} (h : pu_at t A M) : pu_inv t M := inv_fr h.1 h.2.1 h.2.2
theorem at_rfl {t : Nat} {A : ab_M} (h : pu_inv t A) : pu_at t A A := ⟨h, h.1, pu_fr_refl A⟩
theorem at_r {t : Nat} {A M : ab_M} (h : pu_at t A M) (k f : Nat) (q : ¬ pu_sc k f) : M k f = A k f := h.2.2 k f q
theorem at_t {t : Nat} {A M : ab_M} (h : pu_at t A M) (k f : Nat) (q : k < 32) : M (t + k) f = A (t + k) f := by
  have ht : t = 5 ∨ t = 37 := h.2.1.2.2.1
  exact at_r h _ _ (by omega)
theorem at_w {t : Nat} {A M : ab_M} (h : pu_at t A M) {k f : Nat} {v : Int} (hs : pu_str t (ab_w M k f v)) (q : pu_sc k f) : pu_at t A (ab_w M k f v) := ⟨h.1, hs, pu_fr_trans h.2.2 (pu_fr_w q)⟩
theorem both_at {mc mm : Nat} {as : List ab_V} {t : Nat} {A : ab_M} (r : Int)
    (hc : ab_wp 29 mc 0 (ab_ent (.inr (.inr 0) :: as) (ab_mx mc)) [] A (fun r' M' => r' = some (.inl r) ∧ pu_at t A M'))
    (hm : ∀ M, pu_at t A M → ab_wp 29 mm 0 (ab_ent (.inr (.inr 103) :: as) (ab_mx mm)) [] M (fun r' M' => r' = some (.inl r) ∧ pu_at t A M')) : pu_both mc mm as t A := by
  obtain ⟨r1, M1, e1, rfl, p1⟩ := wp_ev hc
  obtain ⟨r2, M2, e2, rfl, p2⟩ := wp_ev (hm M1 p1)
  exact ⟨r, t, M1, M2, e1, p1.2.1, e2, at_inv p2⟩
theorem at_dset {t : Nat} {A M : ab_M} (h : pu_at t A M) (x : Int) : pu_set t M x = pu_set t A x := by
  unfold pu_set
  rw [at_r h t 3 (by have ht : t = 5 ∨ t = 37 := h.2.1.2.2.1; omega), at_r h 69 0 (by omega)]
  refine pu_mk_c _ (fun i _ => ?_)
  rw [at_r h 70 i (by omega), at_t h 21 i (by omega), at_t h 20 i (by omega)]
theorem at_wth {t : Nat} {A M : ab_M} (h : pu_at t A M) (s : Nat) : pu_wth t M s = pu_wth t A s := by
  unfold pu_wth
  rw [at_r h t 3 (by have ht : t = 5 ∨ t = 37 := h.2.1.2.2.1; omega)]
  exact pu_sum_c _ (fun i _ => at_t h 22 i (by omega))
theorem s97a {d t : Nat} {A M : ab_M} (hd : 2 ≤ d) (h : pu_at t A M) (x : Int) : ab_ev d 97 [.inr (.inr 0), .inl x] M (some (.inl ((pu_set t A x : Nat) : Int))) M := by
  rw [← at_dset h]; exact s97' hd (at_inv h) x
theorem s129a {d t : Nat} {A M : ab_M} (hd : 2 ≤ d) (h : pu_at t A M) (x : Int) : ab_ev d 129 [.inr (.inr 103), .inl x] M (some (.inl ((pu_set t A x : Nat) : Int))) M := by
  rw [← at_dset h]; exact s129' hd (at_inv h) x
theorem s60a {d t : Nat} {A M : ab_M} (hd : 1 ≤ d) (h : pu_at t A M) {s : Nat} (hs : s < 64) : ab_ev d 60 [.inr (.inr t), .inl (s : Int)] M (some (.inl (pu_wth t A s))) M := by
  rw [← at_wth h]; exact s60' hd (at_inv h) hs
theorem s130a {d t : Nat} {A M : ab_M} (hd : 2 ≤ d) (h : pu_at t A M) {s : Nat} (hs : s < 64) : ab_ev d 130 [.inr (.inr 103), .inl (s : Int)] M (some (.inl (pu_wth t A s))) M := by
  rw [← at_wth h]; exact s130' hd (at_inv h) hs
theorem and_64 : ∀ a b : Fin 64, ab_and ((a.val : Nat) : Int) ((b.val : Nat) : Int) = ((a.val &&& b.val : Nat) : Int) := by decide +kernel
theorem and_nat {a b : Nat} (ha : a < 64) (hb : b < 64) : ab_and (a : Int) (b : Int) = ((a &&& b : Nat) : Int) := and_64 ⟨a, ha⟩ ⟨b, hb⟩
theorem and_int {a : Nat} {b : Int} (ha : a < 64) (hb : 0 ≤ b ∧ b < 64) : ab_and (a : Int) b = ((a &&& b.toNat : Nat) : Int) := by
  have := and_nat (a := a) (b := b.toNat) ha (by omega)
  rw [show ((b.toNat : Nat) : Int) = b from by omega] at this
  exact this
theorem and_int' {a : Nat} {b : Int} (ha : a < 64) (hb : 0 ≤ b ∧ b < 64) : ab_and b (a : Int) = ((a &&& b.toNat : Nat) : Int) := by
  have := and_nat (a := b.toNat) (b := a) (by omega) ha
  rw [show ((b.toNat : Nat) : Int) = b from by omega, Nat.and_comm] at this
  exact this
theorem and_lt {a b : Nat} (ha : a < 64) : a &&& b < 64 := Nat.lt_of_le_of_lt Nat.and_le_left ha
theorem wth_pos {t : Nat} {A : ab_M} (h : pu_inv t A) (s : Nat) : 0 ≤ pu_wth t A s ∧ pu_wth t A s ≤ 594 := by
  obtain ⟨_, _, t3, _, _, _, _, t8, _⟩ := h.2.1
  have := pu_sum_b (f := A (t + 22)) (s := s) (B := 99) (by omega) (A t 3).toNat (fun i hi => by have := t8 i (by omega); omega)
  unfold pu_wth
  omega
/-! the first greatest -/
def pu_am (f : Nat → Int) (m : Int) : Nat → Int × Int
  | 0 => (-1, m)
  | n + 1 => if (pu_am f m n).2 < f n then ((n : Int), f n) else pu_am f m n
theorem am_s (f : Nat → Int) (m : Int) (n : Nat) : pu_am f m (n + 1) = if (pu_am f m n).2 < f n then ((n : Int), f n) else pu_am f m n := rfl
theorem am_c {f f' : Nat → Int} {m : Int} : ∀ n, (∀ i, i < n → f i = f' i) → pu_am f m n = pu_am f' m n
  | 0, _ => rfl
  | n + 1, h => by rw [am_s, am_s, am_c n (fun i hi => h i (by omega)), h n (by omega)]
theorem am_rg (f : Nat → Int) (m : Int) : ∀ n, (pu_am f m n).1 = -1 ∨ (0 ≤ (pu_am f m n).1 ∧ (pu_am f m n).1 < n ∧ f (pu_am f m n).1.toNat = (pu_am f m n).2)
  | 0 => Or.inl rfl
  | n + 1 => by
    have ih := am_rg f m n
    rw [am_s]
    by_cases c : (pu_am f m n).2 < f n
    · rw [if_pos c]; right; exact ⟨by dsimp only; omega, by dsimp only; omega, by dsimp only; rw [Int.toNat_natCast]⟩
    · rw [if_neg c]
      rcases ih with q | q
      · exact Or.inl q
      · exact Or.inr ⟨q.1, by omega, q.2.2⟩
theorem am_zero {f : Nat → Int} (h : ∀ i, 0 ≤ f i) : ∀ n, (0 < (pu_am f (-1) n).2 → pu_am f 0 n = pu_am f (-1) n) ∧ ((pu_am f (-1) n).2 ≤ 0 → pu_am f 0 n = (-1, 0)) ∧ ((pu_am f (-1) n).1 = -1 → (pu_am f (-1) n).2 = -1)
  | 0 => ⟨fun q => absurd q (by show ¬ (0 : Int) < -1; omega), fun _ => rfl, fun _ => rfl⟩
  | n + 1 => by
    obtain ⟨h1, h2, h3⟩ := am_zero h n
    have hn := h n
    rw [am_s, am_s]
    by_cases c : (pu_am f (-1) n).2 < f n
    · rw [if_pos c]
      refine ⟨fun q => ?_, fun q => ?_, fun q => ?_⟩
      · dsimp only at q
        rw [if_pos]
        by_cases z : 0 < (pu_am f (-1) n).2
        · rw [h1 z]; exact c
        · rw [h2 (by omega)]; exact q
      · dsimp only at q
        rw [h2 (by omega), if_neg (by dsimp only; omega)]
      · dsimp only at q
        omega
    · rw [if_neg c]
      refine ⟨fun q => ?_, fun q => ?_, h3⟩
      · rw [h1 q, if_neg c]
      · rw [h2 q, if_neg (by dsimp only; omega)]
/-! which word lets most of a set -/
def pu_wf (t : Nat) (A : ab_M) (s : Nat) (o : Nat) : Int := pu_wth t A (s &&& (A (t + 31) o).toNat)
def pu_dof (t : Nat) (A : ab_M) (p : Int) : Nat := pu_mk (fun i => decide (A (t + 19) i = p)) (A t 3).toNat
theorem s104 {d t : Nat} {A M : ab_M} (hd : 2 ≤ d) (h : pu_at t A M) {s : Nat} (hs : s < 64) : ab_ev d 104 [.inr (.inr 0), .inl (s : Int)] M (some (.inl (pu_am (pu_wf t A s) (-1) (A t 4).toNat).1)) M := by
  have ht : t = 5 ∨ t = 37 := h.2.1.2.2.1
  obtain ⟨_, _, _, t4, _, _, _, _, t9⟩ := h.1.2.1
  have r4 : M t 4 = A t 4 := at_r h t 4 (by omega)
  refine ev_wp (b104_0 (by omega) h.2.1 ?_)
  refine loop_up (P := fun o => ∀ y5, ab_wp d 104 7 [some (.inr (.inr 0)), some (.inl (s : Int)), some (.inl (pu_am (pu_wf t A s) (-1) o).1), some (.inl (pu_am (pu_wf t A s) (-1) o).2), some (.inl (o : Int)), y5] [] M _) (A t 4).toNat ?_ ?_ 0 (by omega) _
  · intro y5
    exact b104_7 (by omega) h.2.1 ⟨fun _ => ⟨rfl, rfl⟩, fun q => by omega⟩
  · intro o ho ih y5
    have to := t9 o (by omega)
    have r5 : M (t + 31) o = A (t + 31) o := at_t h 31 o (by omega)
    rw [am_s, Int.natCast_succ] at ih
    refine b104_7 (by omega) h.2.1 ⟨fun q => by omega, fun _ => ⟨by omega, ?_⟩⟩
    rw [Int.toNat_natCast, r5, and_int hs (by omega)]
    refine ⟨_, _, s60a (by omega) h (and_lt hs), h.2.1, fun q => ⟨by omega, ?_⟩, fun q => ⟨by omega, ?_⟩⟩
    · have q' : ¬ (pu_am (pu_wf t A s) (-1) o).2 < pu_wf t A s o := by unfold pu_wf at q ⊢; omega
      rw [if_neg q'] at ih
      exact ih _
    · have q' : (pu_am (pu_wf t A s) (-1) o).2 < pu_wf t A s o := q
      rw [if_pos q'] at ih
      exact ih _
theorem s62 {d t : Nat} {A M : ab_M} (hd : 1 ≤ d) (h : pu_at t A M) (p : Int) : ab_ev d 62 [.inr (.inr t), .inl p] M (some (.inl ((pu_dof t A p : Nat) : Int))) M := by
  have ht : t = 5 ∨ t = 37 := h.2.1.2.2.1
  obtain ⟨_, _, t3, _⟩ := h.1.2.1
  have r3 : M t 3 = A t 3 := at_r h t 3 (by omega)
  refine ev_wp (b62_0 (by omega) h.2.1 h.2.1.2.2.1 ?_)
  refine loop_up (P := fun i => ab_wp d 62 4 [some (.inr (.inr t)), some (.inl p), some (.inl ((pu_mk (fun i => decide (A (t + 19) i = p)) i : Nat) : Int)), some (.inl (i : Int))] [] M _) (A t 3).toNat ?_ ?_ 0 (by omega)
  · exact b62_4 (by omega) h.2.1 h.2.1.2.2.1 ⟨fun _ => ⟨rfl, rfl⟩, fun q => by omega⟩
  · intro i hi ih
    have r5 : M (t + 19) i = A (t + 19) i := at_t h 19 i (by omega)
    rw [pu_mk_s, Int.natCast_succ i] at ih
    refine b62_4 (by omega) h.2.1 h.2.1.2.2.1 ⟨fun q => by omega, fun _ => ⟨by omega, fun q => ⟨by omega, ?_⟩, fun q => ⟨by omega, ?_⟩⟩⟩
    · rw [Int.toNat_natCast, r5] at q
      rw [if_neg (by simp [q])] at ih
      exact ih
    · rw [Int.toNat_natCast, r5] at q
      rw [if_pos (by simp [q])] at ih
      rw [pu_or_shl (by omega)]
      exact ih
theorem s169 {d t : Nat} {A M : ab_M} (hd : 1 ≤ d) (h : pu_at t A M) (p : Int) : ab_ev d 169 [.inr (.inr 103), .inl p] M (some (.inl ((pu_dof t A p : Nat) : Int))) M := by
  have ht : t = 5 ∨ t = 37 := h.2.1.2.2.1
  obtain ⟨_, _, t3, _⟩ := h.1.2.1
  obtain ⟨m1, m2, m3, m4, m5, m6, m7, m8⟩ := h.1.2.2.1
  have r3 : M 103 11 = A t 3 := (at_r h 103 11 (by omega)).trans m3
  refine ev_wp (b169_0 (by omega) h.2.1 ?_)
  refine loop_up (P := fun i => ab_wp d 169 4 [some (.inr (.inr 103)), some (.inl p), some (.inl ((pu_mk (fun i => decide (A (t + 19) i = p)) i : Nat) : Int)), some (.inl (i : Int))] [] M _) (A t 3).toNat ?_ ?_ 0 (by omega)
  · exact b169_4 (by omega) h.2.1 ⟨fun _ => ⟨rfl, rfl⟩, fun q => by omega⟩
  · intro i hi ih
    have r5 : M 109 (5 * i) = A (t + 19) i := (at_r h 109 _ (by omega)).trans (m7 i (by omega)).1
    have e5 : (5 * (i : Int)).toNat = 5 * i := by omega
    rw [pu_mk_s, Int.natCast_succ i] at ih
    refine b169_4 (by omega) h.2.1 ⟨fun q => by omega, fun _ => ⟨by omega, by omega, fun q => ⟨by omega, ?_⟩, fun q => ⟨by omega, ?_⟩⟩⟩
    · rw [e5, r5] at q
      rw [if_neg (by simp [q])] at ih
      rw [pu_or_zero (pu_mk_64 (by omega))]
      exact ih
    · rw [e5, r5] at q
      rw [if_pos (by simp [q])] at ih
      rw [pu_or_shl (by omega)]
      exact ih
theorem at_set_64 {t : Nat} {A : ab_M} (h : pu_inv t A) (x : Int) : pu_set t A x < 64 := pu_set_64 h x
theorem dof_64 {t : Nat} {A : ab_M} (h : pu_inv t A) (p : Int) : pu_dof t A p < 64 := by
  have := h.2.1.2.2.1
  exact pu_mk_64 (by omega)
theorem c_bestWord {t : Nat} {A : ab_M} (h : pu_inv t A) : pu_both 87 173 [] t A := by
  have q0 := pu_set_64 h 0
  refine both_at (pu_am (pu_wf t A (pu_set t A 0)) (-1) (A t 4).toNat).1 ?_ (fun M hM => ?_)
  · exact b87_0 (by omega) h.1 ⟨_, _, s97a (by omega) (at_rfl h) 0, h.1, _, _, s104 (by omega) (at_rfl h) q0, h.1, rfl, at_rfl h⟩
  · obtain ⟨_, _, _, t4, _, _, _, _, t9⟩ := h.2.1
    obtain ⟨m1, m2, m3, m4, m5, m6, m7, m8⟩ := h.2.2.1
    have ht : t = 5 ∨ t = 37 := h.1.2.2.1
    have r4 : M 103 14 = A t 4 := (at_r hM 103 14 (by omega)).trans m4
    refine b173_0 (by omega) hM.2.1 ?_
    refine loop_up (P := fun o => ∀ y4, ab_wp 29 173 6 [some (.inr (.inr 103)), some (.inl (pu_am (pu_wf t A (pu_set t A 0)) (-1) o).1), some (.inl (pu_am (pu_wf t A (pu_set t A 0)) (-1) o).2), some (.inl (o : Int)), y4] [] M _) (A t 4).toNat ?_ ?_ 0 (by omega) _
    · intro y4
      exact b173_6 (by omega) hM.2.1 ⟨fun _ => ⟨rfl, hM⟩, fun q => by omega⟩
    · intro o ho ih y4
      have to := t9 o (by omega)
      have r5 : M 111 o = A (t + 31) o := (at_r hM 111 o (by omega)).trans (m8 o (by omega))
      rw [am_s, Int.natCast_succ] at ih
      refine b173_6 (by omega) hM.2.1 ⟨fun q => by omega, fun _ => ⟨by omega, _, _, s129a (by omega) hM 0, hM.2.1, ?_⟩⟩
      rw [Int.toNat_natCast, r5, and_int' q0 (by omega)]
      refine ⟨_, _, s130a (by omega) hM (and_lt q0), hM.2.1, fun q => ⟨fun _ => ⟨by omega, ?_⟩, fun z => by omega⟩, fun q => ⟨fun z => by omega, fun _ => ⟨by omega, ?_⟩⟩⟩
      · have q' : ¬ (pu_am (pu_wf t A (pu_set t A 0)) (-1) o).2 < pu_wf t A (pu_set t A 0) o := by unfold pu_wf at q ⊢; omega
        rw [if_neg q'] at ih
        exact ih _
      · have q' : (pu_am (pu_wf t A (pu_set t A 0)) (-1) o).2 < pu_wf t A (pu_set t A 0) o := q
        rw [if_pos q'] at ih
        exact ih _
