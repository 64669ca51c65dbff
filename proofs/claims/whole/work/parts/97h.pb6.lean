theorem s121 {d t n i : Nat} {T : Nat → Int} {S M : ab_M} (hd : 5 ≤ d) (hS : pu_str t M) (ht : pb_tx T n M) (hrm : pb_rm S M) (ho : pa_ok S) (hi : i < n) (hl : pb_la T n i M) (hnd : ¬ pb_dig T i) :
    ∃ M' r, ab_ev d 121 [.inr (.inr 103)] M (some (.inl r)) M' ∧ pu_str t M' ∧ pb_fm M M' ∧ (r = 0 ∨ r = 1) ∧ pb_o T n (pa_cl T n S 4 i) r M' := by
  obtain ⟨o0, o2, o3, o4, o5, o6, o7, o8, o9, o10, o11, o12, _⟩ := ho
  have nf : ¬ pa_fl S 4 = true := by
    show ¬ false = true
    decide
  refine z_ev (b121_0 (by omega) hS (z_next (by omega) hS ht hrm hi hl hnd fun M1 z1 => ?_))
  rw [z1.2.2.1.1.2.2.2.2.1]
  refine ⟨by omega, z_numB (by omega) z1 (by omega) (fun v0 e0 a1 a2 a3 a4 a5 a6 a7 a8 => ?_) (fun M2 c s2 f2 x1 x2 x3 => z_bad s2 f2 x1 x2 (cl_l nf (nums_l (x3 _))))⟩
  have ag : pa_ag S 4 0 0 v0 = (true && decide (S 4 (5 * v0.toNat + 4) ≠ -1)) := rfl
  have ei : (5 * v0 + 4).toNat = 5 * v0.toNat + 4 := by omega
  have lk := (o12 v0.toNat (by omega)).2.2.2.2.2.2.2.2
  have g3 := (z1.2.2.1.2.2.2.1 v0.toNat (by omega)).2.2.2.2
  rw [a1, ei]
  refine ⟨by omega, by omega, by omega, fun q3 => ?_, fun q3 => z_flt (by omega) z1 (cl_l nf (nums_l (a8 _ ?_)))⟩
  · have em : S 4 (5 * v0.toNat + 4) = -1 := by omega
    have agf : pa_ag S 4 0 0 v0 = false := by
      rw [ag, em]; rfl
    have n0 : pa_n1 T n (pa_lo 4 0) (pa_hi S 4 0 0) (pa_ag S 4 0 0) (i + 1) = .inr (v0, e0) := a7 _ agf
    refine z_take (by omega) z1 a1 a2 a5 fun M3 z3 _ => ?_
    refine z_numA (by omega) z3 (by omega) (fun v1 e1 b1 b2 b3 b4 b5 b6 b7 b8 => ?_) (fun M2 c s2 f2 x1 x2 x3 => z_bad s2 f2 x1 x2 (cl_l nf ((nums_r (a := fun _ => (0 : Int)) n0).trans (nums_l (x3 _)))))
    have n1 : pa_n1 T n (pa_lo 4 1) (pa_hi S 4 1 v0) (pa_ag S 4 1 v0) e0 = .inr (v1, e1) := b7 _ rfl
    have nums : pa_nums T n S 4 (pa_nn 4) 0 (fun _ => 0) (i + 1) = .inr (pu_u (pu_u (fun _ => 0) 0 v0) 1 v1, e1) := (nums_r (a := fun _ => (0 : Int)) n0).trans (nums_r (r := 0) n1)
    rw [ei]
    refine ⟨by omega, by omega, z_take (by omega) z3 b1 b2 b5 fun M5 z5 _ => ?_⟩
    have z9 : pb_z t n T (pa_tk S 4 (pu_u (pu_u (fun _ => 0) 0 v0) 1 v1)) M e1 (ab_w M5 117 (5 * v0.toNat + 4) v1) := by
      refine z_set z5 (Or.inr (by omega)) (str_a z5.1 rfl) ?_
      rw [tk_4]
      show pb_rm (ab_w S 4 (5 * v0.toNat + 4) v1) _
      obtain ⟨g0, g1, g2, g3, g4, g5⟩ := z5.2.2.1
      unfold pb_rm
      simp (discharger := omega) only [w_ne]
      refine ⟨g0, g1, g2, fun k hk => ?_, g4, g5⟩
      have g := g3 k hk
      by_cases c : k = v0.toNat
      · subst c
        simp (discharger := omega) only [w_ne, ab_w_eq]
        exact ⟨g.1, g.2.1, g.2.2.1, g.2.2.2.1, trivial⟩
      · simp (discharger := omega) only [w_ne]
        exact g
    exact ⟨by omega, z_end (by omega) z9 (cl_r nf nums)⟩
  · have em : S 4 (5 * v0.toNat + 4) ≠ -1 := by omega
    rw [ag, decide_eq_true em]; rfl
theorem n1_lo {T : Nat → Int} {n : Nat} {lo hi hi' : Int} {p : Nat} {f : Int × Nat} (h : pa_n1 T n lo hi (fun _ => false) p = .inl f) (hh : hi' ≤ hi) : pa_n1 T n lo hi' (fun _ => false) p = .inl f := by
  unfold pa_n1 at *
  by_cases c1 : pa_dg T n (pa_sk T n p) = pa_sk T n p
  · rw [if_pos c1] at h ⊢; exact h
  · rw [if_neg c1] at h ⊢
    by_cases c2 : 3 < pa_dg T n (pa_sk T n p) - pa_sk T n p ∨ pa_pv T (pa_sk T n p) (pa_dg T n (pa_sk T n p) - pa_sk T n p) < lo ∨ hi < pa_pv T (pa_sk T n p) (pa_dg T n (pa_sk T n p) - pa_sk T n p)
    · rw [if_pos c2] at h
      rw [if_pos (by omega)]; exact h
    · rw [if_neg c2, if_neg Bool.false_ne_true] at h
      cases h
theorem n1_hi {T : Nat → Int} {n : Nat} {lo hi hi' : Int} {p : Nat} {v : Int} {e : Nat} (h : pa_n1 T n lo hi (fun _ => false) p = .inr (v, e)) : pa_n1 T n lo hi' (fun _ => false) p = if hi' < v then .inl (2, pa_sk T n p) else .inr (v, e) := by
  unfold pa_n1 at *
  by_cases c1 : pa_dg T n (pa_sk T n p) = pa_sk T n p
  · rw [if_pos c1] at h; cases h
  · rw [if_neg c1] at h ⊢
    by_cases c2 : 3 < pa_dg T n (pa_sk T n p) - pa_sk T n p ∨ pa_pv T (pa_sk T n p) (pa_dg T n (pa_sk T n p) - pa_sk T n p) < lo ∨ hi < pa_pv T (pa_sk T n p) (pa_dg T n (pa_sk T n p) - pa_sk T n p)
    · rw [if_pos c2] at h; cases h
    · rw [if_neg c2, if_neg Bool.false_ne_true] at h
      cases h
      by_cases c3 : hi' < pa_pv T (pa_sk T n p) (pa_dg T n (pa_sk T n p) - pa_sk T n p)
      · rw [if_pos (by omega), if_pos c3]
      · rw [if_neg (by omega), if_neg c3, if_neg Bool.false_ne_true]
theorem shr_lt : ∀ s : Fin 64, ∀ i : Fin 7, (ab_shr ((s.val : Nat) : Int) ((i.val : Nat) : Int) = 0) = (s.val < 2 ^ i.val) := by
  have : ∀ s : Fin 64, ∀ i : Fin 7, (ab_shr ((s.val : Nat) : Int) ((i.val : Nat) : Int) = 0) ↔ (s.val < 2 ^ i.val) := by decide +kernel
  exact fun s i => propext (this s i)
theorem shr_lt' {v D : Int} (hv : 0 ≤ v ∧ v ≤ 63) (hD : 0 ≤ D ∧ D ≤ 6) : (ab_shr v D = 0) ↔ v ≤ 2 ^ D.toNat - 1 := by
  have h := shr_lt ⟨v.toNat, by omega⟩ ⟨D.toNat, by omega⟩
  dsimp only at h
  rw [show ((v.toNat : Nat) : Int) = v from by omega, show ((D.toNat : Nat) : Int) = D from by omega] at h
  rw [h]
  have e : ((2 ^ D.toNat : Nat) : Int) = 2 ^ D.toNat := by
    rw [Int.natCast_pow]; rfl
  rw [← e]
  generalize 2 ^ D.toNat = N
  omega
theorem two_le (D : Int) (hD : 0 ≤ D ∧ D ≤ 6) : (1 : Int) ≤ 2 ^ D.toNat ∧ (2 : Int) ^ D.toNat ≤ 64 := by
  have h : ∀ i : Fin 7, (1 : Int) ≤ 2 ^ i.val ∧ (2 : Int) ^ i.val ≤ 64 := by decide +kernel
  exact h ⟨D.toNat, by omega⟩
theorem s123 {d t n i : Nat} {T : Nat → Int} {S M : ab_M} (hd : 5 ≤ d) (hS : pu_str t M) (ht : pb_tx T n M) (hrm : pb_rm S M) (ho : pa_ok S) (hi : i < n) (hl : pb_la T n i M) (hnd : ¬ pb_dig T i) :
    ∃ M' r, ab_ev d 123 [.inr (.inr 103)] M (some (.inl r)) M' ∧ pu_str t M' ∧ pb_fm M M' ∧ (r = 0 ∨ r = 1) ∧ pb_o T n (pa_cl T n S 6 i) r M' := by
  have m6 := hrm.1.2.2.2.2.2.2
  obtain ⟨o0, o2, o3, o4, o5, o6, o7, o8, o9, _⟩ := ho
  refine z_ev (b123_0 (by omega) hS ⟨fun q => ?_, fun q => z_full (by omega) hS hl ?_⟩)
  · have nf : ¬ pa_fl S 6 = true := by
      show ¬ decide (4 ≤ S 0 4) = true
      rw [decide_eq_true_eq]; omega
    have tw := two_le (S 0 3) o3
    refine z_next (by omega) hS ht hrm hi hl hnd fun M1 z1 => ?_
    refine z_numB (by omega) z1 (by omega) (fun v0 e0 a1 a2 a3 a4 a5 a6 a7 _ => ?_) (fun M2 c s2 f2 x1 x2 x3 => z_bad s2 f2 x1 x2 (cl_l nf (nums_l (n1_lo (x3 _) (show 2 ^ (S 0 3).toNat - 1 ≤ (63 : Int) by omega)))))
    have nn : pa_n1 T n (pa_lo 6 0) (pa_hi S 6 0 0) (pa_ag S 6 0 0) (i + 1) = if 2 ^ (S 0 3).toNat - 1 < v0 then .inl (2, pa_sk T n (i + 1)) else .inr (v0, e0) := n1_hi (hi' := 2 ^ (S 0 3).toNat - 1) (a7 (fun _ => false) rfl)
    have sh := shr_lt' (v := v0) (D := S 0 3) (by omega) o3
    rw [a1, z1.2.2.1.1.2.2.2.2.1, z1.2.2.1.1.2.2.2.2.2.2]
    refine ⟨fun q2 => ?_, fun q2 => z_flt (by omega) z1 (cl_l nf (nums_l ?_))⟩
    · have n0 : pa_n1 T n (pa_lo 6 0) (pa_hi S 6 0 0) (pa_ag S 6 0 0) (i + 1) = .inr (v0, e0) := by
        rw [nn, if_neg]
        have := sh.1 q2
        omega
      have nums : pa_nums T n S 6 (pa_nn 6) 0 (fun _ => 0) (i + 1) = .inr (pu_u (fun _ => 0) 0 v0, e0) := nums_r (a := fun _ => (0 : Int)) n0
      refine z_take (by omega) z1 a1 a2 a5 fun M3 z3 _ => ?_
      have z8 : pb_z t n T S M e0 (ab_w M3 119 (S 0 4).toNat v0) := by
        refine z_set z3 (Or.inr (by omega)) (str_a z3.1 rfl) ?_
        obtain ⟨g0, g1, g2, g3, g4, g5⟩ := z3.2.2.1
        unfold pb_rm
        simp (discharger := omega) only [w_ne]
        refine ⟨g0, g1, g2, g3, g4, fun k hk => ?_⟩
        rw [w_ne (by omega)]
        exact g5 k hk
      have z9 : pb_z t n T (pa_tk S 6 (pu_u (fun _ => 0) 0 v0)) M e0 (ab_w (ab_w M3 119 (S 0 4).toNat v0) 103 36 (S 0 4 + 1)) := by
        refine z_set z8 (Or.inl (by omega)) (str_w z8.1 rfl) ?_
        rw [tk_6]
        show pb_rm (ab_w (ab_w S 6 (S 0 4).toNat v0) 0 4 (S 0 4 + 1)) _
        obtain ⟨g0, g1, g2, g3, g4, g5⟩ := z3.2.2.1
        unfold pb_rm
        simp (discharger := omega) only [w_ne, ab_w_eq]
        refine ⟨⟨g0.1, g0.2.1, g0.2.2.1, g0.2.2.2.1, g0.2.2.2.2.1, g0.2.2.2.2.2.1, trivial⟩, g1, g2, g3, g4, fun k hk => ?_⟩
        by_cases c : k = (S 0 4).toNat
        · rw [c, ab_w_eq, ab_w_eq]
        · rw [w_ne (by omega), w_ne (by omega)]
          exact g5 k (by omega)
      rw [z3.2.2.1.1.2.2.2.2.2.2]
      exact ⟨by omega, by omega, z_end (by omega) z9 (cl_r nf nums)⟩
    · rw [nn, if_pos]
      apply Classical.byContradiction
      intro y
      exact q2 (sh.2 (by omega))
  · show decide (4 ≤ S 0 4) = true
    rw [decide_eq_true_eq]; omega
theorem ag3 (S : ab_M) (k : Nat) (a v : Int) : pa_ag S 3 k a v = false := by
  unfold pa_ag
  rw [if_neg (by decide)]
  by_cases c : k ≠ 1
  · rw [if_pos c]
  · rw [if_neg c, if_neg (by decide), if_neg (by decide)]
theorem s120 {d t n i : Nat} {T : Nat → Int} {S M : ab_M} (hd : 5 ≤ d) (hS : pu_str t M) (ht : pb_tx T n M) (hrm : pb_rm S M) (ho : pa_ok S) (hi : i < n) (hl : pb_la T n i M) (hnd : ¬ pb_dig T i) :
    ∃ M' r, ab_ev d 120 [.inr (.inr 103)] M (some (.inl r)) M' ∧ pu_str t M' ∧ pb_fm M M' ∧ (r = 0 ∨ r = 1) ∧ pb_o T n (pa_cl T n S 3 i) r M' := by
  have m4 := hrm.1.2.2.2.2.1
  obtain ⟨o0, o2, o3, o4, o5, o6, o7, o8, o9, _⟩ := ho
  refine z_ev (b120_0 (by omega) hS ⟨fun q => ?_, fun q => z_full (by omega) hS hl ?_⟩)
  · have nf : ¬ pa_fl S 3 = true := by
      show ¬ decide (6 ≤ S 0 3) = true
      rw [decide_eq_true_eq]; omega
    have loop : ∀ (r k : Nat) (a : Nat → Int) (p : Nat) (M1 : ab_M) (y2 y3 : Option ab_V), k + r = 4 → pb_z t n T S M p M1 → (∀ j, j < k → M1 117 (5 * (S 0 3).toNat + j) = a j) → pa_nums T n S 3 (pa_nn 3) 0 (fun _ => 0) (i + 1) = pa_nums T n S 3 r k a p →
        ab_wp d 120 21 [some (.inr (.inr 103)), some (.inl (k : Int)), y2, y3] [] M1 (pb_Q t T n (pa_cl T n S 3 i) M) := by
      intro r
      induction r with
      | zero =>
        intro k a p M1 y2 y3 hk z hv hn
        have nums : pa_nums T n S 3 (pa_nn 3) 0 (fun _ => 0) (i + 1) = .inr (a, p) := hn
        refine b120_21 (by omega) z.1 ⟨fun _ => ?_, fun q => by omega⟩
        obtain ⟨g0, g1, g2, g3, g4, g5⟩ := z.2.2.1
        have e4 : (5 * S 0 3 + 4).toNat = 5 * (S 0 3).toNat + 4 := by omega
        rw [g0.2.2.2.2.1, e4]
        have z8 : pb_z t n T S M p (ab_w M1 117 (5 * (S 0 3).toNat + 4) (-1)) := by
          refine z_set z (Or.inr (by omega)) (str_a z.1 rfl) ?_
          unfold pb_rm
          simp (discharger := omega) only [w_ne]
          refine ⟨g0, g1, g2, fun k hk => ?_, g4, g5⟩
          simp (discharger := omega) only [w_ne]
          exact g3 k hk
        have z9 : pb_z t n T (pa_tk S 3 a) M p (ab_w (ab_w M1 117 (5 * (S 0 3).toNat + 4) (-1)) 103 32 (S 0 3 + 1)) := by
          refine z_set z8 (Or.inl (by omega)) (str_w z8.1 rfl) ?_
          rw [tk_3]
          unfold pb_rm
          simp (discharger := omega) only [w_ne, ab_w_eq]
          refine ⟨⟨g0.1, g0.2.1, g0.2.2.1, g0.2.2.2.1, trivial, g0.2.2.2.2.2.1, g0.2.2.2.2.2.2⟩, g1, g2, fun k hk => ?_, g4, g5⟩
          by_cases c : k = (S 0 3).toNat
          · subst c
            simp (discharger := omega) only [w_ne, ab_w_eq]
            exact ⟨hv 0 (by omega), hv 1 (by omega), hv 2 (by omega), hv 3 (by omega), trivial⟩
          · simp (discharger := omega) only [w_ne]
            exact g3 k (by omega)
        exact ⟨by omega, by omega, by omega, by omega, z_end (by omega) z9 (cl_r nf nums)⟩
      | succ r ih =>
        intro k a p M1 y2 y3 hk z hv hn
        have step : ∀ (x2 hh : Int) (y : Option ab_V), x2 = pa_lo 3 k → hh = pa_hi S 3 k (a 0) → hh < 1000000 → ab_wp d 120 78 [some (.inr (.inr 103)), some (.inl (k : Int)), some (.inl x2), y] [.inl hh] M1 (pb_Q t T n (pa_cl T n S 3 i) M) := by
          intro x2 hh y e1 e2 hh2
          refine b120_78 (by omega) z.1 (z_numA (by omega) z hh2 (fun v e a1 a2 a3 a4 a5 a6 a7 _ => ?_) (fun M2 c s2 f2 x1 x2 x3 => z_bad s2 f2 x1 x2 (cl_l nf (hn.trans (nums_l (by rw [← e1, ← e2]; exact x3 _))))))
          have n0 : pa_n1 T n (pa_lo 3 k) (pa_hi S 3 k (a 0)) (pa_ag S 3 k (a 0)) p = .inr (v, e) := by
            rw [← e1, ← e2]; exact a7 _ (ag3 _ _ _ _)
          rw [z.2.2.1.1.2.2.2.2.1, show (5 * S 0 3 + (k : Int)).toNat = 5 * (S 0 3).toNat + k from by omega]
          refine ⟨by omega, by omega, z_take (by omega) z a1 a2 a5 fun M3 z3 k3 => ⟨by omega, by omega, ?_⟩⟩
          have h := ih (k + 1) (pu_u a k v) e (ab_w M3 117 (5 * (S 0 3).toNat + k) v) (some (.inl x2)) (some (.inl hh)) (by omega) ?_ ?_ (hn.trans (nums_r n0))
          · rw [Int.natCast_succ] at h; exact h
          · refine z_set z3 (Or.inr (by omega)) (str_a z3.1 rfl) ?_
            obtain ⟨g0, g1, g2, g3, g4, g5⟩ := z3.2.2.1
            unfold pb_rm
            simp (discharger := omega) only [w_ne]
            refine ⟨g0, g1, g2, fun k hk => ?_, g4, g5⟩
            simp (discharger := omega) only [w_ne]
            exact g3 k hk
          · intro j hj
            by_cases c : j = k
            · rw [c, ab_w_eq, pu_u, if_pos rfl]
            · rw [w_ne (by omega), pu_u, if_neg c, k3 _ _ (by omega)]
              exact hv j (by omega)
        have lo1 : k = 1 ∨ k = 2 → (1 : Int) = pa_lo 3 k := fun q => by
          unfold pa_lo
          rw [if_neg (by decide), if_neg (by decide), if_pos rfl, if_pos q]
        have lo0 : ¬ (k = 1 ∨ k = 2) → (0 : Int) = pa_lo 3 k := fun q => by
          unfold pa_lo
          rw [if_neg (by decide), if_neg (by decide), if_pos rfl, if_neg q]
        have mid : ∀ x : Int, x = pa_lo 3 k → ab_wp d 120 41 [some (.inr (.inr 103)), some (.inl (k : Int)), y2, y3] [.inl x] M1 (pb_Q t T n (pa_cl T n S 3 i) M) := by
          intro x e1
          have hi3 : pa_hi S 3 k (a 0) = if k = 0 then S 0 2 - 1 else if k = 1 then 30 else if k = 2 then 999 else 99 := rfl
          refine b120_41 (by omega) z.1 ⟨fun c0 => ⟨fun c1 => ⟨fun c2 => step _ _ _ e1 ?_ (by omega), fun c2 => step _ _ _ e1 ?_ (by omega)⟩, fun c1 => step _ _ _ e1 ?_ (by omega)⟩, fun c0 => ?_⟩
          · rw [hi3, if_neg (by omega), if_neg (by omega), if_neg (by omega)]
          · rw [hi3, if_neg (by omega), if_neg (by omega), if_pos (by omega)]
          · rw [hi3, if_neg (by omega), if_pos (by omega)]
          · rw [z.2.2.1.1.2.2.2.1]
            exact ⟨by omega, step _ _ _ e1 (by rw [hi3, if_pos (by omega)]) (by omega)⟩
        exact b120_21 (by omega) z.1 ⟨fun q => by omega, fun _ => ⟨fun c => mid 1 (lo1 (by omega)), fun c => ⟨fun c2 => mid 0 (lo0 (by omega)), fun c2 => mid 1 (lo1 (by omega))⟩⟩⟩
    exact z_next (by omega) hS ht hrm hi hl hnd fun M1 z1 => loop 4 0 (fun _ => 0) (i + 1) M1 _ _ rfl z1 (fun j hj => by omega) rfl
  · show decide (6 ≤ S 0 3) = true
    rw [decide_eq_true_eq]; omega
