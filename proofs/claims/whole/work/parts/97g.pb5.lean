theorem s122 {d t n i : Nat} {T : Nat → Int} {S M : ab_M} (hd : 5 ≤ d) (hS : pu_str t M) (ht : pb_tx T n M) (hrm : pb_rm S M) (ho : pa_ok S) (hi : i < n) (hl : pb_la T n i M) (hnd : ¬ pb_dig T i) :
    ∃ M' r, ab_ev d 122 [.inr (.inr 103)] M (some (.inl r)) M' ∧ pu_str t M' ∧ pb_fm M M' ∧ (r = 0 ∨ r = 1) ∧ pb_o T n (pa_cl T n S 5 i) r M' := by
  have m3 := hrm.1.2.2.2.2.2.1
  obtain ⟨o0, o2, o3, o4, o5, o6, o7, o8, o9, o10, o11, o12, o13, o14, _⟩ := ho
  refine z_ev (b122_0 (by omega) hS ⟨fun q => ?_, fun q => z_full (by omega) hS hl ?_⟩)
  · have nf : ¬ pa_fl S 5 = true := by
      show ¬ decide (12 ≤ S 0 6) = true
      rw [decide_eq_true_eq]; omega
    refine z_next (by omega) hS ht hrm hi hl hnd fun M1 z1 => ?_
    rw [z1.2.2.1.1.2.2.2.1]
    refine ⟨by omega, z_numA (by omega) z1 (by omega) (fun v0 e0 a1 a2 a3 a4 a5 a6 a7 _ => ?_) (fun M2 c s2 f2 x1 x2 x3 => z_bad s2 f2 x1 x2 (cl_l nf (nums_l (x3 _))))⟩
    have n0 : pa_n1 T n (pa_lo 5 0) (pa_hi S 5 0 0) (pa_ag S 5 0 0) (i + 1) = .inr (v0, e0) := a7 _ rfl
    refine z_take (by omega) z1 a1 a2 a5 fun M3 z3 _ => ?_
    rw [z3.2.2.1.1.2.2.2.1]
    refine ⟨by omega, z_numB (by omega) z3 (by omega) (fun v1 e1 b1 b2 b3 b4 b5 b6 b7 b8 => ?_) (fun M2 c s2 f2 x1 x2 x3 => z_bad s2 f2 x1 x2 (cl_l nf ((nums_r (a := fun _ => (0 : Int)) n0).trans (nums_l (x3 _)))))⟩
    have ag : pa_ag S 5 1 v0 v1 = (decide (v1 = v0) || decide (S 5 (6 * v0.toNat + v1.toNat) ≠ -1)) := rfl
    have again : pa_ag S 5 1 v0 v1 = true → pa_cl T n S 5 i = .inl (4, pa_sk T n e0) := fun h => cl_l nf ((nums_r (a := fun _ => (0 : Int)) n0).trans (nums_l (b8 _ h)))
    rw [b1]
    refine ⟨fun q2 => z_flt (by omega) z3 (again (by rw [ag, q2, decide_eq_true rfl]; rfl)), fun q2 => ⟨by omega, by omega, by omega, ?_⟩⟩
    have ei : (6 * v0 + v1).toNat = 6 * v0.toNat + v1.toNat := by omega
    have lk := o14 v0.toNat v1.toNat (by omega) (by omega)
    have g1 := z3.2.2.1.2.2.2.2.1 (6 * v0.toNat + v1.toNat) (by omega)
    rw [ei]
    refine ⟨fun q3 => ?_, fun q3 => z_flt (by omega) z3 (again ?_)⟩
    · have em : S 5 (6 * v0.toNat + v1.toNat) = -1 := by omega
      have agf : pa_ag S 5 1 v0 v1 = false := by
        rw [ag, em, decide_eq_false (by omega)]; rfl
      have n1 : pa_n1 T n (pa_lo 5 1) (pa_hi S 5 1 v0) (pa_ag S 5 1 v0) e0 = .inr (v1, e1) := b7 _ agf
      have r2 : pa_nums T n S 5 3 0 (fun _ => 0) (i + 1) = pa_nums T n S 5 1 2 (pu_u (pu_u (fun _ => 0) 0 v0) 1 v1) e1 := (nums_r (r := 2) (a := fun _ => (0 : Int)) n0).trans (nums_r (r := 1) (k := 1) (a := pu_u (fun _ => (0 : Int)) 0 v0) n1)
      refine b122_89 (by omega) z3.1 (z_take (by omega) z3 b1 b2 b5 fun M5 z5 _ => ?_)
      refine z_numA (by omega) z5 (by omega) (fun v2 e2 c1 c2 c3 c4 c5 c6 c7 _ => ?_) (fun M2 c s2 f2 x1 x2 x3 => z_bad s2 f2 x1 x2 (cl_l nf (r2.trans (nums_l (x3 _)))))
      have n2 : pa_n1 T n (pa_lo 5 2) (pa_hi S 5 2 v0) (pa_ag S 5 2 v0) e1 = .inr (v2, e2) := c7 _ rfl
      have nums : pa_nums T n S 5 (pa_nn 5) 0 (fun _ => 0) (i + 1) = .inr (pu_u (pu_u (pu_u (fun _ => 0) 0 v0) 1 v1) 2 v2, e2) := r2.trans (nums_r (r := 0) n2)
      rw [ei]
      refine ⟨by omega, by omega, z_take (by omega) z5 c1 c2 c5 fun M7 z7 _ => ?_⟩
      have z8 : pb_z t n T (ab_w S 5 (6 * v0.toNat + v1.toNat) v2) M e2 (ab_w M7 118 (6 * v0.toNat + v1.toNat) v2) := by
        refine z_set z7 (Or.inr (by omega)) (str_a z7.1 rfl) ?_
        obtain ⟨g0, g1, g2, g3, g4, g5⟩ := z7.2.2.1
        unfold pb_rm
        simp (discharger := omega) only [w_ne] at *
        refine ⟨g0, g1, g2, g3, fun k hk => ?_, g5⟩
        by_cases c : k = 6 * v0.toNat + v1.toNat
        · rw [c, ab_w_eq, ab_w_eq]
        · rw [w_ne (by omega), w_ne (by omega)]
          exact g4 k hk
      have z9 : pb_z t n T (pa_tk S 5 (pu_u (pu_u (pu_u (fun _ => 0) 0 v0) 1 v1) 2 v2)) M e2 (ab_w (ab_w M7 118 (6 * v0.toNat + v1.toNat) v2) 103 34 (S 0 6 + 1)) := by
        refine z_set z8 (Or.inl (by omega)) (str_w z8.1 rfl) ?_
        rw [tk_5]
        show pb_rm (ab_w (ab_w S 5 (6 * v0.toNat + v1.toNat) v2) 0 6 (S 0 6 + 1)) _
        obtain ⟨g0, g1, g2, g3, g4, g5⟩ := z8.2.2.1
        generalize ab_w M7 118 (6 * v0.toNat + v1.toNat) v2 = A at *
        generalize ab_w S 5 (6 * v0.toNat + v1.toNat) v2 = B at *
        unfold pb_rm
        simp (discharger := omega) only [w_ne, ab_w_eq]
        exact ⟨⟨g0.1, g0.2.1, g0.2.2.1, g0.2.2.2.1, g0.2.2.2.2.1, trivial, g0.2.2.2.2.2.2⟩, g1, g2, g3, g4, g5⟩
      rw [z7.2.2.1.1.2.2.2.2.2.1]
      exact ⟨by omega, by omega, z_end (by omega) z9 (cl_r nf nums)⟩
    · have em : S 5 (6 * v0.toNat + v1.toNat) ≠ -1 := by omega
      rw [ag, decide_eq_true em, Bool.or_true]
  · show decide (12 ≤ S 0 6) = true
    rw [decide_eq_true_eq]; omega
