theorem fm_tr {A B C : ab_M} (h : pb_fm A B) (g : pb_fm B C) : pb_fm A C := fun c f a b => (g c f a b).trans (h c f a b)
theorem fm_fr {A B : ab_M} (h : pb_fr A B) : pb_fm A B := fun c f a _ => h c f (by omega)
theorem fm_24 {A B : ab_M} (h : ∀ c f : Nat, ¬ (c = 103 ∧ f = 24) → B c f = A c f) : pb_fm A B := fun c f a _ => h c f (by omega)
theorem fm_w {A : ab_M} {c f : Nat} {v : Int} (h : (c = 103 ∧ 20 ≤ f ∧ f ≤ 36) ∨ (115 ≤ c ∧ c ≤ 119)) : pb_fm A (ab_w A c f v) := fun c' f' a b => w_ne (by omega)
theorem tx_fm {T : Nat → Int} {n : Nat} {M M' : ab_M} (h : pb_tx T n M) (g : pb_fm M M') : pb_tx T n M' := tx_f h (g 103 1 (by omega) (by omega)) (fun i => g 104 i (by omega) (by omega))
theorem la_w {T : Nat → Int} {n b : Nat} {M M' : ab_M} (h : pb_la T n b M) (e : ∀ f : Nat, f < 24 → M' 103 f = M 103 f) : pb_la T n b M' := by
  unfold pb_la at h ⊢
  rw [e 20 (by omega), e 21 (by omega), e 22 (by omega), e 23 (by omega)]
  exact h
theorem pb_end {d t n e : Nat} {T : Nat → Int} {M S' : ab_M} (hd : 3 ≤ d) (hS : pu_str t M) (ht : pb_tx T n M) (hl : pb_la T n (pa_sk T n e) M) (hrm : pb_rm S' M) : ∃ M' r, ab_ev d 115 [.inr (.inr 103), .inl 59] M (some (.inl r)) M' ∧ pu_str t M' ∧ (r = 0 ∨ r = 1) ∧ pb_fm M M' ∧ pb_o T n (if pa_sk T n e < n ∧ T (pa_sk T n e) = 59 then .inr (S', pa_sk T n (pa_sk T n e + 1)) else .inl (1, pa_sk T n e)) r M' := by
  obtain ⟨M', r, e1, s1, f1, o1⟩ := s115 hd hS ht hl 59 (Or.inl rfl)
  refine ⟨M', r, e1, s1, ?_, fun c f a b => f1 c f (by omega), ?_⟩
  · rcases o1 with o | o
    · exact Or.inr o.1
    · exact Or.inl o.1
  · rcases o1 with ⟨a1, a2, a3, a4⟩ | ⟨a1, a2, a3, a4⟩
    · rw [if_pos ⟨a2, a3⟩]
      exact ⟨a1, rm_fr hrm (fun f hf => f1 103 f (by omega)) (fun c f a b => f1 c f (by omega)), a4⟩
    · rw [if_neg a2]
      exact ⟨a1, a3, a4⟩
theorem cl_l {T : Nat → Int} {n : Nat} {S : ab_M} {cl i : Nat} {f : Int × Nat} (hf : ¬ pa_fl S cl = true) (h : pa_nums T n S cl (pa_nn cl) 0 (fun _ => 0) (i + 1) = .inl f) : pa_cl T n S cl i = .inl f := by
  unfold pa_cl
  rw [if_neg hf, h]
theorem cl_r {T : Nat → Int} {n : Nat} {S : ab_M} {cl i : Nat} {z : (Nat → Int) × Nat} (hf : ¬ pa_fl S cl = true) (h : pa_nums T n S cl (pa_nn cl) 0 (fun _ => 0) (i + 1) = .inr z) : pa_cl T n S cl i = if pa_sk T n z.2 < n ∧ T (pa_sk T n z.2) = 59 then .inr (pa_tk S cl z.1, pa_sk T n (pa_sk T n z.2 + 1)) else .inl (1, pa_sk T n z.2) := by
  unfold pa_cl
  rw [if_neg hf, h]
theorem cl_f {T : Nat → Int} {n : Nat} {S : ab_M} {cl i : Nat} (hf : pa_fl S cl = true) : pa_cl T n S cl i = .inl (3, i) := by
  unfold pa_cl
  rw [if_pos hf]
theorem pb_full {d t n i : Nat} {T : Nat → Int} {S M : ab_M} {cl : Nat} (hd : 1 ≤ d) (hS : pu_str t M) (hl : pb_la T n i M) (hf : pa_fl S cl = true) : ab_ev d 114 [.inr (.inr 103), .inl 3] M (some (.inl 0)) (ab_w M 103 24 3) ∧ pu_str t (ab_w M 103 24 3) ∧ pb_fm M (ab_w M 103 24 3) ∧ pb_o T n (pa_cl T n S cl i) 0 (ab_w M 103 24 3) := by
  obtain ⟨e1, e2⟩ := s114 (d := d) hd hS 3
  refine ⟨e1, e2, fm_w (Or.inl (by omega)), ?_⟩
  rw [cl_f hf]
  exact ⟨rfl, ab_w_eq _ _ _ _, by rw [w_ne (by omega)]; exact hl.1⟩
theorem pb_bad {n p : Nat} {T : Nat → Int} {S M M' : ab_M} {cl i : Nat} {c : Int} (hl : pb_la T n (pa_sk T n p) M) (fr : ∀ c f : Nat, ¬ (c = 103 ∧ f = 24) → M' c f = M c f) (h24 : M' 103 24 = c) (h : pa_cl T n S cl i = .inl (c, pa_sk T n p)) : pb_o T n (pa_cl T n S cl i) 0 M' := by
  rw [h]
  exact ⟨rfl, h24, by rw [fr 103 23 (by omega)]; exact hl.1⟩
theorem s119 {d t n i : Nat} {T : Nat → Int} {S M : ab_M} (hd : 5 ≤ d) (hS : pu_str t M) (ht : pb_tx T n M) (hrm : pb_rm S M) (ho : pa_ok S) (hi : i < n) (hl : pb_la T n i M) (hnd : ¬ pb_dig T i) :
    ∃ M' r, ab_ev d 119 [.inr (.inr 103)] M (some (.inl r)) M' ∧ pu_str t M' ∧ pb_fm M M' ∧ (r = 0 ∨ r = 1) ∧ pb_o T n (pa_cl T n S 2 i) r M' := by
  have h20 := (hl.2.2.2.2 hi hnd).2.2
  obtain ⟨⟨m0, m1, m2, m3, m4, m5, m6⟩, _⟩ := id hrm
  obtain ⟨o0, o2, o3, o4, o5, o6, o7, _⟩ := ho
  have w : ab_wp d 119 0 (ab_ent [.inr (.inr 103)] (ab_mx 119)) [] M (fun r' M' => ∃ r, r' = some (.inl r) ∧ pu_str t M' ∧ pb_fm M M' ∧ (r = 0 ∨ r = 1) ∧ pb_o T n (pa_cl T n S 2 i) r M') := by
    refine b119_0 (by omega) hS ⟨fun q => ?_, fun q => ?_⟩
    · have nf : ¬ pa_fl S 2 = true := by
        show ¬ decide (6 ≤ S 0 2) = true
        rw [decide_eq_true_eq]; omega
      obtain ⟨M1, e1, s1, f1, l1⟩ := s113 (d := d - 1) (by omega) hS ht (p := i + 1) (by rw [h20, Int.natCast_succ]) (by omega)
      have rm1 := rm_fr hrm (fun f hf => f1 103 f (by omega)) (fun c f a b => f1 c f (by omega))
      have t1 := tx_fm ht (fm_fr f1)
      obtain ⟨M2, r2, e2, s2, f2, x2⟩ := s116 (d := d - 1) (by omega) s1 (by omega) l1 (pa_lo 2 0) (pa_hi S 2 0 0) (by show S 0 0 - 1 < 1000000; omega)
      have e2 : ab_ev (d - 1) 116 [.inr (.inr 103), .inl 0, .inl (S 0 0 - 1)] M1 (some (.inl r2)) M2 := e2
      refine ⟨M1, e1, s1, by rw [rm1.1.1]; omega, r2, M2, by rw [rm1.1.1]; exact e2, s2, fun z => ?_, fun z => ?_⟩
      · obtain ⟨_, rfl, v0, e0, a1, a2, a3, a4, a5, a6⟩ := x2.resolve_left (fun y => z y.1)
        have n0 : pa_n1 T n (pa_lo 2 0) (pa_hi S 2 0 0) (pa_ag S 2 0 0) (i + 1) = .inr (v0, e0) := by
          rw [a6, if_neg (by decide)]
        obtain ⟨M3, e3, s3, f3, l3⟩ := s117 (d := d - 1) (by omega) s1 t1 a2 a4
        rw [a1] at e3
        have e116 : (2 * M2 103 30).toNat = 2 * (S 0 2).toNat := by rw [rm1.1.2.2.2.1]; omega
        have s4 : pu_str t (ab_w M3 116 (2 * (S 0 2).toNat) v0) := str_a s3 rfl
        have l4 : pb_la T n (pa_sk T n e0) (ab_w M3 116 (2 * (S 0 2).toNat) v0) := la_w l3 (fun f _ => w_ne (by omega))
        have rm3 : pb_rm S (ab_w M3 116 (2 * (S 0 2).toNat) v0) := by
          obtain ⟨g0, g1, g2, g3, g4, g5⟩ := rm_fr rm1 (fun f hf => f3 103 f (by omega)) (fun c f a b => f3 c f (by omega))
          unfold pb_rm
          simp (discharger := omega) only [w_ne]
          refine ⟨g0, g1, fun p hp => ?_, g3, g4, g5⟩
          rw [w_ne (by omega)]
          exact g2 p hp
        have t4 := tx_fm t1 (fm_tr (fm_fr f3) (fm_w (v := v0) (c := 116) (f := 2 * (S 0 2).toNat) (Or.inr (by omega))))
        obtain ⟨M5, r5, e5, s5, f5, x5⟩ := s116 (d := d - 1) (by omega) s4 a4 l4 (pa_lo 2 1) (pa_hi S 2 1 v0) (by show (99 : Int) < 1000000; omega)
        have e5 : ab_ev (d - 1) 116 [.inr (.inr 103), .inl 0, .inl 99] (ab_w M3 116 (2 * (S 0 2).toNat) v0) (some (.inl r5)) M5 := e5
        have fm5 : pb_fm M M5 := fm_tr (fm_fr f1) (fm_tr (fm_fr f3) (fm_tr (fm_w (Or.inr (by omega))) (fm_24 f5)))
        rw [rm1.1.2.2.2.1]
        refine ⟨by omega, v0, M3, e3, s3, by omega, r5, M5, ?_, s5, fun y => ?_, fun y => ?_⟩
        · rw [show (2 * S 0 2).toNat = 2 * (S 0 2).toNat from by omega]; exact e5
        · obtain ⟨_, rfl, v1, e1', b1, b2, b3, b4, b5, b6⟩ := x5.resolve_left (fun x => y x.1)
          have n1 : pa_n1 T n (pa_lo 2 1) (pa_hi S 2 1 v0) (pa_ag S 2 1 v0) e0 = .inr (v1, e1') := by
            rw [b6, if_neg (by decide)]
          obtain ⟨M6, e6, s6, f6, l6⟩ := s117 (d := d - 1) (by omega) s4 t4 b2 b4
          rw [b1] at e6
          obtain ⟨g0, g1, g2, g3, g4, g5⟩ := rm_fr rm3 (fun f hf => f6 103 f (by omega)) (fun c f a b => f6 c f (by omega))
          have r30 : ab_w M3 116 (2 * (S 0 2).toNat) v0 103 30 = S 0 2 := rm3.1.2.2.2.1
          have s7 : pu_str t (ab_w (ab_w M6 116 (2 * (S 0 2).toNat + 1) v1) 103 30 (S 0 2 + 1)) := str_w (str_a s6 rfl) rfl
          have l7 : pb_la T n (pa_sk T n e1') (ab_w (ab_w M6 116 (2 * (S 0 2).toNat + 1) v1) 103 30 (S 0 2 + 1)) := la_w l6 (fun f _ => by rw [w_ne (by omega), w_ne (by omega)])
          have t7 := tx_fm t4 (fm_tr (fm_fr f6) (fm_tr (fm_w (v := v1) (c := 116) (f := 2 * (S 0 2).toNat + 1) (Or.inr (by omega))) (fm_w (v := S 0 2 + 1) (c := 103) (f := 30) (Or.inl (by omega)))))
          have v116 : M6 116 (2 * (S 0 2).toNat) = v0 := by rw [f6 116 _ (by omega), ab_w_eq]
          have rm7 : pb_rm (pa_tk S 2 (pu_u (pu_u (fun _ => 0) 0 v0) 1 v1)) (ab_w (ab_w M6 116 (2 * (S 0 2).toNat + 1) v1) 103 30 (S 0 2 + 1)) := by
            rw [tk_2]
            show pb_rm (ab_w (ab_w (ab_w S 2 (S 0 2).toNat v0) 3 (S 0 2).toNat v1) 0 2 (S 0 2 + 1)) _
            unfold pb_rm
            simp (discharger := omega) only [w_ne, ab_w_eq]
            refine ⟨⟨g0.1, g0.2.1, g0.2.2.1, trivial, g0.2.2.2.2.1, g0.2.2.2.2.2.1, g0.2.2.2.2.2.2⟩, g1, fun p hp => ?_, g3, g4, g5⟩
            by_cases c : p = (S 0 2).toNat
            · subst c
              simp (discharger := omega) only [w_ne, ab_w_eq]
              exact ⟨v116, trivial⟩
            · simp (discharger := omega) only [w_ne]
              exact g2 p (by omega)
          obtain ⟨M8, r8, e8, s8, k8, f8, o8⟩ := pb_end (d := d - 1) (by omega) s7 t7 l7 rm7
          rw [r30]
          have nums : pa_nums T n S 2 (pa_nn 2) 0 (fun _ => 0) (i + 1) = .inr (pu_u (pu_u (fun _ => 0) 0 v0) 1 v1, e1') := (nums_r n0).trans (nums_r n1)
          have clr := cl_r (cl := 2) nf nums
          refine ⟨by omega, by omega, v1, M6, e6, s6, by omega, by rw [g0.2.2.2.1]; omega, r8, M8, ?_, s8, k8, r8, rfl, s8, fm_tr fm5 (fm_tr (fm_fr f6) (fm_tr (fm_w (Or.inr (by omega))) (fm_tr (fm_w (Or.inl (by omega))) f8))), k8, ?_⟩
          · rw [g0.2.2.2.1, show (2 * S 0 2 + 1).toNat = 2 * (S 0 2).toNat + 1 from by omega]; exact e8
          · rw [clr]; exact o8
        · obtain ⟨_, c, h24, hn⟩ := x5.resolve_right (fun x => by omega)
          exact ⟨0, rfl, s5, fm5, Or.inl rfl, pb_bad l4 f5 h24 (cl_l nf ((nums_r n0).trans (nums_l (hn _))))⟩
      · obtain ⟨_, c, h24, hn⟩ := x2.resolve_right (fun x => by omega)
        exact ⟨0, rfl, s2, fm_tr (fm_fr f1) (fm_24 f2), Or.inl rfl, pb_bad l1 f2 h24 (cl_l nf (nums_l (hn _)))⟩
    · have ff : pa_fl S 2 = true := by
        show decide (6 ≤ S 0 2) = true
        rw [decide_eq_true_eq]; omega
      obtain ⟨e1, s1, f1, x1⟩ := pb_full (d := d - 1) (S := S) (cl := 2) (by omega) hS hl ff
      exact ⟨_, _, e1, s1, Or.inl rfl, 0, rfl, s1, f1, Or.inl rfl, x1⟩
  obtain ⟨r', M', e, r, rfl, h1, h2, h3, h4⟩ := wp_ev w
  exact ⟨M', r, e, h1, h2, h3, h4⟩
