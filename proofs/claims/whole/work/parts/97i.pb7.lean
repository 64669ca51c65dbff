def pb_W (t : Nat) (R : (Int × Nat) ⊕ ab_M) (M0 : ab_M) (r' : Option ab_V) (M' : ab_M) : Prop := ∃ r, r' = some (.inl r) ∧ pu_str t M' ∧ pb_fm M0 M' ∧ (match R with
  | .inl e => r = 0 ∧ M' 103 24 = e.1 ∧ M' 103 23 = ((e.2 : Nat) : Int)
  | .inr S => r = 1 ∧ pb_rm S M')
theorem W_bad {t b : Nat} {R : (Int × Nat) ⊕ ab_M} {M0 M1 : ab_M} {c : Int} (s : pu_str t M1) (f : pb_fm M0 M1) (h1 : M1 103 24 = c) (h2 : M1 103 23 = (b : Int)) (hR : R = .inl (c, b)) : pb_W t R M0 (some (.inl 0)) M1 := ⟨0, rfl, s, f, by rw [hR]; exact ⟨rfl, h1, h2⟩⟩
theorem W_good {t : Nat} {R : (Int × Nat) ⊕ ab_M} {M0 M1 S : ab_M} (s : pu_str t M1) (f : pb_fm M0 M1) (h1 : pb_rm S M1) (hR : R = .inr S) : pb_W t R M0 (some (.inl 1)) M1 := ⟨1, rfl, s, f, by rw [hR]; exact ⟨rfl, h1⟩⟩
theorem run_l {T : Nat → Int} {n f i : Nat} {S : ab_M} {e : Int × Nat} (hi : i < n) (h : pa_stp T n S i = .inl e) : pa_run T n (f + 1) S i = .inl e := by
  rw [run_s, if_neg (by omega), h]
theorem run_r {T : Nat → Int} {n f i : Nat} {S : ab_M} {y : ab_M × Nat} (hi : i < n) (h : pa_stp T n S i = .inr y) : pa_run T n (f + 1) S i = pa_run T n f y.1 y.2 := by
  rw [run_s, if_neg (by omega), h]
theorem run_e {T : Nat → Int} {n f i : Nat} {S : ab_M} (hi : n ≤ i) : pa_run T n f S i = .inr S := by
  cases f with
  | zero => rfl
  | succ f => rw [run_s, if_pos hi]
theorem stp_c {T : Nat → Int} {n i : Nat} {S : ab_M} {k : Nat} {c : Int} (hc : T i = c) (hk : pa_ix c = (k : Int)) (h7 : S 0 7 = 1) : pa_stp T n S i = pa_cl T n S k i := by
  unfold pa_stp
  rw [hc, hk, if_neg (by omega), Int.toNat_natCast]
theorem ix_no {x : Int} (h : ¬ (x = 116 ∨ x = 119 ∨ x = 112 ∨ x = 100 ∨ x = 114 ∨ x = 113 ∨ x = 111)) : pa_ix x = -1 := by
  unfold pa_ix
  rw [if_neg (by omega), if_neg (by omega), if_neg (by omega), if_neg (by omega), if_neg (by omega), if_neg (by omega), if_neg (by omega)]
theorem s124_b {d t n : Nat} {T : Nat → Int} {R : (Int × Nat) ⊕ ab_M} {M0 : ab_M} (hd : 6 ≤ d) : ∀ (f i : Nat) (S M1 : ab_M) (y2 : Option ab_V), n ≤ i + f → i ≤ n → pu_str t M1 → pb_fm M0 M1 → pb_tx T n M1 → pb_rm S M1 → pa_ok S → S 0 7 = 1 → pb_la T n i M1 → pa_run T n f S i = R → ab_wp d 124 162 [some (.inr (.inr 103)), some (.inl 1), y2] [] M1 (pb_W t R M0) := by
  intro f
  induction f with
  | zero =>
    intro i S M1 y2 hf hi s1 fr tx rm ok h7 la er
    have r21 := la.2.2.1 (by omega)
    exact b124_162 (by omega) s1 ⟨fun q => absurd q (by decide), fun _ => ⟨fun _ => ⟨Or.inr rfl, W_good s1 fr rm (er.symm.trans (run_e (by omega)))⟩, fun q => absurd r21 q⟩⟩
  | succ f ih =>
    intro i S M1 y2 hf hi s1 fr tx rm ok h7 la er
    by_cases cn : i = n
    · have r21 := la.2.2.1 (by omega)
      exact b124_162 (by omega) s1 ⟨fun q => absurd q (by decide), fun _ => ⟨fun _ => ⟨Or.inr rfl, W_good s1 fr rm (er.symm.trans (run_e (by omega)))⟩, fun q => absurd r21 q⟩⟩
    · have out : ∀ (M2 : ab_M) (y : Option ab_V), pu_str t M2 → pb_W t R M0 (some (.inl 0)) M2 → ab_wp d 124 162 [some (.inr (.inr 103)), some (.inl 0), y] [] M2 (pb_W t R M0) := fun M2 y s2 w => b124_162 (by omega) s2 ⟨fun _ => ⟨Or.inl rfl, w⟩, fun q => absurd rfl q⟩
      have bad : ∀ (c : Int) (x2 : Int), R = .inl (c, i) → ab_wp d 124 281 [some (.inr (.inr 103)), some (.inl 1), some (.inl x2)] [.inl c, .inr (.inr 103)] M1 (pb_W t R M0) := by
        intro c x2 hR
        obtain ⟨e1, e2⟩ := s114 (d := d - 1) (by omega) s1 c
        refine b124_281 (by omega) s1 ⟨_, _, e1, e2, out _ _ e2 (W_bad e2 (fm_tr fr (fm_w (Or.inl (by omega)))) (ab_w_eq _ _ _ _) ?_ hR)⟩
        rw [w_ne (by omega)]; exact la.1
      by_cases cd : pb_dig T i
      · have r21 := (la.2.2.2.1 (by omega) cd).1
        have st : pa_stp T n S i = .inl (1, i) := by
          unfold pa_stp
          rw [if_pos (Or.inl (ix_no (by have := cd.1; have := cd.2; omega)))]
        exact b124_162 (by omega) s1 ⟨fun q => absurd q (by decide), fun _ => ⟨fun q => by omega, fun _ => ⟨fun _ => bad 1 0 (er.symm.trans (run_l (by omega) st)), fun q => by omega⟩⟩⟩
      · obtain ⟨r21, r22, _⟩ := la.2.2.2.2 (by omega) cd
        have cont : ∀ (k : Nat) (c : Int) (y : Option ab_V) (m : Nat), T i = c → pa_ix c = (k : Int) → (∃ M' r, ab_ev (d - 1) m [.inr (.inr 103)] M1 (some (.inl r)) M' ∧ pu_str t M' ∧ pb_fm M1 M' ∧ (r = 0 ∨ r = 1) ∧ pb_o T n (pa_cl T n S k i) r M') → ∃ r1 M2, ab_ev (d - 1) m [.inr (.inr 103)] M1 (some (.inl r1)) M2 ∧ pu_str t M2 ∧ ab_wp d 124 162 [some (.inr (.inr 103)), some (.inl r1), y] [] M2 (pb_W t R M0) := by
          intro k c y m hc hk h
          obtain ⟨M2, r, e2, s2, f2, _, o2⟩ := h
          have st := stp_c (n := n) (S := S) hc hk h7
          refine ⟨r, M2, e2, s2, ?_⟩
          cases q : pa_cl T n S k i with
          | inl e =>
            rw [q] at o2 st
            obtain ⟨x1, x2, x3⟩ := o2
            rw [x1]
            exact out _ _ s2 (W_bad s2 (fm_tr fr f2) x2 x3 (er.symm.trans (run_l (by omega) st)))
          | inr z =>
            rw [q] at o2 st
            obtain ⟨x1, x2, x3⟩ := o2
            have iv := stp_inr st (by omega) ok
            rw [x1]
            exact ih z.2 z.1 M2 _ (by omega) iv.2.1 s2 (fm_tr fr f2) (tx_fm tx f2) x2 iv.2.2.1 iv.2.2.2 x3 ((run_r (by omega) st).symm.trans er)
        refine b124_162 (by omega) s1 ⟨fun q => absurd q (by decide), fun _ => ⟨fun q => by omega, fun _ => ⟨fun q => absurd r21 q, fun _ => ?_⟩⟩⟩
        rw [r22]
        refine ⟨fun c1 => ⟨fun c2 => ⟨fun c3 => ⟨fun c4 => ⟨fun c5 => ⟨fun c6 => ⟨fun c7 => ?_, fun c7 => ?_⟩, fun c6 => ?_⟩, fun c5 => ?_⟩, fun c4 => ?_⟩, fun c3 => ?_⟩, fun c2 => ?_⟩, fun c1 => ?_⟩
        · have st : pa_stp T n S i = .inl (1, i) := by
            unfold pa_stp
            rw [if_pos (Or.inl (ix_no (by omega)))]
          exact bad 1 _ (er.symm.trans (run_l (by omega) st))
        · have st : pa_stp T n S i = .inl (3, i) := by
            rw [stp_c (k := 0) c7 rfl h7]
            refine cl_f ?_
            show decide (S 0 7 ≠ 0) = true
            rw [decide_eq_true_eq]; omega
          exact bad 3 _ (er.symm.trans (run_l (by omega) st))
        · exact cont 6 _ _ _ c6 rfl (s123 (by omega) s1 tx rm ok (by omega) la cd)
        · exact cont 5 _ _ _ c5 rfl (s122 (by omega) s1 tx rm ok (by omega) la cd)
        · exact cont 4 _ _ _ c4 rfl (s121 (by omega) s1 tx rm ok (by omega) la cd)
        · exact cont 3 _ _ _ c3 rfl (s120 (by omega) s1 tx rm ok (by omega) la cd)
        · exact cont 2 _ _ _ c2 rfl (s119 (by omega) s1 tx rm ok (by omega) la cd)
        · exact cont 1 _ _ _ c1 rfl (s118 (by omega) s1 tx rm ok (by omega) la cd)
theorem s124 {d t n : Nat} {T : Nat → Int} {M : ab_M} (hd : 6 ≤ d) (hS : pu_str t M) (ht : pb_tx T n M) : ∃ M' r, ab_ev d 124 [.inr (.inr 103)] M (some (.inl r)) M' ∧ pb_W t (pa_run T n 250 pa_S0 (pa_sk T n 0)) M (some (.inl r)) M' := by
  have n5 := ht.1
  obtain ⟨R, hR⟩ : ∃ R, pa_run T n 250 pa_S0 (pa_sk T n 0) = R := ⟨_, rfl⟩
  rw [hR]
  have first : ∀ M1 : ab_M, pu_str t M1 → pb_fm M M1 → pb_rm pa_S0 M1 → M1 103 20 = 0 → ab_wp d 124 63 [some (.inr (.inr 103)), some (.inl 36), none] [] M1 (pb_W t R M) := by
    intro M1 s1 f1 rm1 m20
    have tx1 := tx_fm ht f1
    obtain ⟨M2, e2, s2, f2, l2⟩ := s113 (d := d - 1) (p := 0) (by omega) s1 tx1 (by rw [m20]; rfl) (Nat.zero_le _)
    obtain ⟨b, eb⟩ : ∃ b, pa_sk T n 0 = b := ⟨_, rfl⟩
    have sg := (sk_rg T n 0).2 (Nat.zero_le _)
    rw [eb] at hR l2 sg
    have fm2 := fm_tr f1 (fm_fr f2)
    have rm2 := rm_fr rm1 (fun f hf => f2 103 f (by omega)) (fun c f a b => f2 c f (by omega))
    have tx2 := tx_fm ht fm2
    refine b124_63 (by omega) s1 ⟨fun _ => ⟨M2, e2, s2, fun q => ?_, fun q => ?_⟩, fun q => by omega⟩
    · have bn : b < n := by
        apply Classical.byContradiction
        intro y
        exact q (l2.2.2.1 (by omega))
      obtain ⟨M3, r3, e3, s3, f3, o3⟩ := s115 (d := d - 1) (by omega) s2 tx2 l2 116 (Or.inr rfl)
      have fm3 : pb_fm M M3 := fm_tr fm2 (fun c f a b => f3 c f (by omega))
      refine ⟨r3, M3, e3, s3, fun q3 => ?_, fun q3 => ?_⟩
      · obtain ⟨_, nb, x1, x2⟩ := o3.resolve_left (fun y => by have := y.1; omega)
        refine W_bad s3 fm3 x1 x2 (hR.symm.trans (run_l bn ?_))
        unfold pa_stp
        refine if_pos ?_
        by_cases c : pa_ix (T b) = -1
        · exact Or.inl c
        · refine Or.inr ⟨fun y => nb ⟨bn, ?_⟩, rfl⟩
          unfold pa_ix at y
          apply Classical.byContradiction
          intro y2
          rw [if_neg y2] at y
          split at y
          · omega
          · split at y
            · omega
            · split at y
              · omega
              · split at y
                · omega
                · split at y
                  · omega
                  · split at y <;> omega
      · obtain ⟨_, _, Tb, la3⟩ := o3.resolve_right (fun y => q3 y.1)
        have st : pa_stp T n pa_S0 b = pa_cl T n pa_S0 0 b := by
          unfold pa_stp
          rw [Tb]
          rfl
        have nf : ¬ pa_fl pa_S0 0 = true := by
          show ¬ decide (pa_S0 0 7 ≠ 0) = true
          decide
        have z3 : pb_z t n T pa_S0 M (b + 1) M3 := ⟨s3, tx_fm ht fm3, rm_fr rm2 (fun f hf => f3 103 f (by omega)) (fun c f a b => f3 c f (by omega)), fm3, la3, by omega⟩
        refine z_numA (by omega) z3 (by omega) (fun v0 e0 a1 a2 a3 a4 a5 a6 a7 _ => ?_) (fun M2 c s2 f2 x1 x2 x3 => W_bad s2 f2 x1 x2 (hR.symm.trans (run_l bn (st.trans (cl_l nf (nums_l (x3 _)))))))
        have n0 : pa_n1 T n (pa_lo 0 0) (pa_hi pa_S0 0 0 0) (pa_ag pa_S0 0 0 0) (b + 1) = .inr (v0, e0) := a7 _ rfl
        refine z_take (by omega) z3 a1 a2 a5 fun M4 z4 _ => ?_
        have z5 : pb_z t n T (ab_w pa_S0 0 0 v0) M e0 (ab_w M4 103 25 v0) := by
          refine z_set z4 (Or.inl (by omega)) (str_w z4.1 rfl) ?_
          obtain ⟨g0, g1, g2, g3, g4, g5⟩ := z4.2.2.1
          unfold pb_rm
          simp (discharger := omega) only [w_ne, ab_w_eq]
          exact ⟨⟨trivial, g0.2⟩, g1, g2, g3, g4, g5⟩
        refine ⟨by omega, z_numA (by omega) z5 (by omega) (fun v1 e1 b1 b2 b3 b4 b5 b6 b7 _ => ?_) (fun M2 c s2 f2 x1 x2 x3 => W_bad s2 f2 x1 x2 (hR.symm.trans (run_l bn (st.trans (cl_l nf ((nums_r (a := fun _ => (0 : Int)) n0).trans (nums_l (x3 _))))))))⟩
        have n1 : pa_n1 T n (pa_lo 0 1) (pa_hi pa_S0 0 1 v0) (pa_ag pa_S0 0 1 v0) e0 = .inr (v1, e1) := b7 _ rfl
        have nums : pa_nums T n pa_S0 0 (pa_nn 0) 0 (fun _ => 0) (b + 1) = .inr (pu_u (pu_u (fun _ => 0) 0 v0) 1 v1, e1) := (nums_r (r := 1) (a := fun _ => (0 : Int)) n0).trans (nums_r (r := 0) (k := 1) (a := pu_u (fun _ => (0 : Int)) 0 v0) n1)
        refine z_take (by omega) z5 b1 b2 b5 fun M6 z6 _ => ?_
        have z7 : pb_z t n T (pa_tk pa_S0 0 (pu_u (pu_u (fun _ => 0) 0 v0) 1 v1)) M e1 (ab_w M6 103 26 v1) := by
          refine z_set z6 (Or.inl (by omega)) (str_w z6.1 rfl) ?_
          rw [tk_0]
          show pb_rm (ab_w (ab_w (ab_w pa_S0 0 0 v0) 0 1 v1) 0 7 1) _
          obtain ⟨g0, g1, g2, g3, g4, g5⟩ := z6.2.2.1
          generalize ab_w pa_S0 0 0 v0 = S at *
          unfold pb_rm
          simp (discharger := omega) only [w_ne, ab_w_eq]
          exact ⟨⟨g0.1, fun _ => trivial, g0.2.2⟩, g1, g2, g3, g4, g5⟩
        obtain ⟨r8, M8, e8, s8, _, r9, eq9, s9, f9, _, o9⟩ := z_end (d := d - 1) (by omega) z7 (cl_r nf nums)
        cases eq9
        refine ⟨r8, M8, e8, s8, fun q8 => ?_, fun q8 => ?_⟩
        · cases qc : pa_cl T n pa_S0 0 b with
          | inl e => rw [qc] at o9; exact absurd o9.1 q8
          | inr z =>
            rw [qc] at o9 st
            have iv := stp_inr st bn S0_ok
            exact s124_b (by omega) 249 z.2 z.1 M8 _ (by omega) iv.2.1 s8 f9 (tx_fm ht f9) o9.2.1 iv.2.2.1 iv.2.2.2 o9.2.2 ((run_r bn st).symm.trans hR)
        · cases qc : pa_cl T n pa_S0 0 b with
          | inl e =>
            rw [qc] at o9 st
            exact W_bad s8 f9 o9.2.1 o9.2.2 (hR.symm.trans (run_l bn st))
          | inr z => rw [qc] at o9; exact absurd (o9.1.symm.trans q8) (by decide)
    · have bn : b = n := by
        apply Classical.byContradiction
        intro y
        by_cases c : pb_dig T b
        · have := (l2.2.2.2.1 (by omega) c).1
          omega
        · have := (l2.2.2.2.2 (by omega) c).1
          omega
      exact W_good s2 fm2 rm2 (hR.symm.trans (run_e (by omega)))
  obtain ⟨A, hA⟩ : ∃ A, A = ab_w (ab_w (ab_w (ab_w (ab_w (ab_w (ab_w (ab_w M 103 20 0) 103 25 0) 103 26 0) 103 28 0) 103 30 0) 103 32 0) 103 34 0) 103 36 0 := ⟨_, rfl⟩
  have sA : pu_str t A := by
    rw [hA]
    exact str_w (str_w (str_w (str_w (str_w (str_w (str_w (str_w hS rfl) rfl) rfl) rfl) rfl) rfl) rfl) rfl
  have fA : pb_fm M A := by
    intro c f a b
    rw [hA]
    simp (discharger := omega) only [w_ne]
  have cA : A 103 20 = 0 ∧ A 103 25 = 0 ∧ A 103 28 = 0 ∧ A 103 30 = 0 ∧ A 103 32 = 0 ∧ A 103 34 = 0 ∧ A 103 36 = 0 := by
    rw [hA]
    simp (discharger := omega) only [w_ne, ab_w_eq]
    simp only [and_self]
  have w : ab_wp d 124 0 (ab_ent [.inr (.inr 103)] (ab_mx 124)) [] M (pb_W t R M) := by
    refine b124_0 (by omega) hS ?_
    rw [← hA]
    have l1 := loop_up (P := fun i => ab_wp d 124 42 [some (.inr (.inr 103)), some (.inl (i : Int)), none] [] (pu_fil A 115 i 0) (pb_W t R M)) 49 ?_ ?_ 0 (by omega)
    · rw [fil_zero] at l1
      exact l1
    · have sB : pu_str t (pu_fil A 115 49 0) := str_fil _ _ sA rfl
      refine b124_42 (by omega) sB ⟨fun _ => ?_, fun q => by omega⟩
      have l2 := loop_up (P := fun i => ab_wp d 124 63 [some (.inr (.inr 103)), some (.inl (i : Int)), none] [] (pu_fil (pu_fil A 115 49 0) 118 i (-1)) (pb_W t R M)) 36 ?_ ?_ 0 (by omega)
      · rw [fil_zero] at l2
        exact l2
      · refine first _ (str_fil _ _ sB rfl) (fun c f a b => ?_) ?_ ?_
        · rw [fil_r (by omega), fil_r (by omega)]
          exact fA c f a b
        · have r103 : ∀ f, pu_fil (pu_fil A 115 49 0) 118 36 (-1) 103 f = A 103 f := fun f => by rw [fil_r (by omega), fil_r (by omega)]
          unfold pb_rm
          rw [r103, r103, r103, r103, r103, r103, r103]
          refine ⟨⟨cA.2.1, fun y => absurd y (by decide), cA.2.2.1, cA.2.2.2.1, cA.2.2.2.2.1, cA.2.2.2.2.2.1, cA.2.2.2.2.2.2⟩, fun k hk => ?_, fun p hp => ?_, fun p hp => ?_, fun k hk => fil_s hk, fun o ho => ?_⟩
          · rw [fil_r (by omega), fil_s hk]
            rfl
          · have : pa_S0 0 2 = 0 := rfl
            omega
          · have : pa_S0 0 3 = 0 := rfl
            omega
          · have : pa_S0 0 4 = 0 := rfl
            omega
        · rw [fil_r (by omega), fil_r (by omega)]
          exact cA.1
      · intro i hi ih
        rw [← fil_succ, Int.natCast_succ] at ih
        refine b124_63 (by omega) (str_fil _ _ sB rfl) ⟨fun q => by omega, fun _ => ⟨by omega, by omega, ?_⟩⟩
        rw [Int.toNat_natCast]
        exact ih
    · intro i hi ih
      rw [← fil_succ, Int.natCast_succ] at ih
      refine b124_42 (by omega) (str_fil _ _ sA rfl) ⟨fun q => by omega, fun _ => ⟨by omega, by omega, ?_⟩⟩
      rw [Int.toNat_natCast]
      exact ih
  obtain ⟨r', M', e, r, rfl, h1⟩ := wp_ev w
  exact ⟨M', r, e, r, rfl, h1⟩
