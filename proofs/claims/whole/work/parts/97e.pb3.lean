theorem fm_tr {A B C : ab_M} (h : pb_fm A B) (g : pb_fm B C) : pb_fm A C := fun c f a b => (g c f a b).trans (h c f a b)
theorem fm_fr {A B : ab_M} (h : pb_fr A B) : pb_fm A B := fun c f a _ => h c f (by omega)
theorem fm_24 {A B : ab_M} (h : ∀ c f : Nat, ¬ (c = 103 ∧ f = 24) → B c f = A c f) : pb_fm A B := fun c f a _ => h c f (by omega)
theorem fm_w {A : ab_M} {c f : Nat} {v : Int} (h : (c = 103 ∧ 20 ≤ f ∧ f ≤ 36) ∨ (115 ≤ c ∧ c ≤ 119)) : pb_fm A (ab_w A c f v) := fun c' f' a b => w_ne (by omega)
theorem tx_fm {T : Nat → Int} {n : Nat} {M M' : ab_M} (h : pb_tx T n M) (g : pb_fm M M') : pb_tx T n M' := tx_f h (g 103 1 (by omega) (by omega)) (fun i => g 104 i (by omega) (by omega))
theorem la_w {T : Nat → Int} {n b : Nat} {M M' : ab_M} (h : pb_la T n b M) (e : ∀ f : Nat, f < 24 → M' 103 f = M 103 f) : pb_la T n b M' := by
  unfold pb_la at h ⊢
  rw [e 20 (by omega), e 21 (by omega), e 22 (by omega), e 23 (by omega)]
  exact h
theorem pb_end {d t n e : Nat} {T : Nat → Int} {M S' : ab_M} (hd : 3 ≤ d) (hS : pu_str t M) (ht : pb_tx T n M) (hl : pb_la T n (pa_sk T n e) M) (hrm : pb_rm S' M) : ∃ M' r, ab_ev d 115 [.inr (.inr 103), .inl 59] M (some (.inl r)) M' ∧ pu_str t M' ∧ (r = 0 ∨ r = 1) ∧ pb_fm M M' ∧ pb_o T n (if pa_sk T n e < n ∧ T (pa_sk T n e) = 59 then .inr (S', pa_sk T n (pa_sk T n e + 1)) else .inl (1, pa_sk T n e)) r M' := by
  obtain ⟨M', r, e1, s1, f1, o1⟩ := s115 hd hS ht hl 59 (Or.inl rfl)
  refine ⟨M', r, e1, s1, ?_, fun c f a b => f1 c f (by omega), ?_⟩
  · rcases o1 with o | o
    · exact Or.inr o.1
    · exact Or.inl o.1
  · rcases o1 with ⟨a1, a2, a3, a4⟩ | ⟨a1, a2, a3, a4⟩
    · rw [if_pos ⟨a2, a3⟩]
      exact ⟨a1, rm_fr hrm (fun f hf => f1 103 f (by omega)) (fun c f a b => f1 c f (by omega)), a4⟩
    · rw [if_neg a2]
      exact ⟨a1, a3, a4⟩
theorem cl_l {T : Nat → Int} {n : Nat} {S : ab_M} {cl i : Nat} {f : Int × Nat} (hf : ¬ pa_fl S cl = true) (h : pa_nums T n S cl (pa_nn cl) 0 (fun _ => 0) (i + 1) = .inl f) : pa_cl T n S cl i = .inl f := by
  unfold pa_cl
  rw [if_neg hf, h]
theorem cl_r {T : Nat → Int} {n : Nat} {S : ab_M} {cl i : Nat} {z : (Nat → Int) × Nat} (hf : ¬ pa_fl S cl = true) (h : pa_nums T n S cl (pa_nn cl) 0 (fun _ => 0) (i + 1) = .inr z) : pa_cl T n S cl i = if pa_sk T n z.2 < n ∧ T (pa_sk T n z.2) = 59 then .inr (pa_tk S cl z.1, pa_sk T n (pa_sk T n z.2 + 1)) else .inl (1, pa_sk T n z.2) := by
  unfold pa_cl
  rw [if_neg hf, h]
theorem cl_f {T : Nat → Int} {n : Nat} {S : ab_M} {cl i : Nat} (hf : pa_fl S cl = true) : pa_cl T n S cl i = .inl (3, i) := by
  unfold pa_cl
  rw [if_pos hf]
theorem pb_full {d t n i : Nat} {T : Nat → Int} {S M : ab_M} {cl : Nat} (hd : 1 ≤ d) (hS : pu_str t M) (hl : pb_la T n i M) (hf : pa_fl S cl = true) : ab_ev d 114 [.inr (.inr 103), .inl 3] M (some (.inl 0)) (ab_w M 103 24 3) ∧ pu_str t (ab_w M 103 24 3) ∧ pb_fm M (ab_w M 103 24 3) ∧ pb_o T n (pa_cl T n S cl i) 0 (ab_w M 103 24 3) := by
  obtain ⟨e1, e2⟩ := s114 (d := d) hd hS 3
  refine ⟨e1, e2, fm_w (Or.inl (by omega)), ?_⟩
  rw [cl_f hf]
  exact ⟨rfl, ab_w_eq _ _ _ _, by rw [w_ne (by omega)]; exact hl.1⟩
theorem pb_bad {n p : Nat} {T : Nat → Int} {S M M' : ab_M} {cl i : Nat} {c : Int} (hl : pb_la T n (pa_sk T n p) M) (fr : ∀ c f : Nat, ¬ (c = 103 ∧ f = 24) → M' c f = M c f) (h24 : M' 103 24 = c) (h : pa_cl T n S cl i = .inl (c, pa_sk T n p)) : pb_o T n (pa_cl T n S cl i) 0 M' := by
  rw [h]
  exact ⟨rfl, h24, by rw [fr 103 23 (by omega)]; exact hl.1⟩

/-- between two signs: S read so far, p the place after the last sign -/
def pb_z (t n : Nat) (T : Nat → Int) (S M0 : ab_M) (p : Nat) (M : ab_M) : Prop := pu_str t M ∧ pb_tx T n M ∧ pb_rm S M ∧ pb_fm M0 M ∧ pb_la T n (pa_sk T n p) M ∧ p ≤ n
def pb_Q (t : Nat) (T : Nat → Int) (n : Nat) (z : (Int × Nat) ⊕ (ab_M × Nat)) (M0 : ab_M) (r' : Option ab_V) (M' : ab_M) : Prop := ∃ r, r' = some (.inl r) ∧ pu_str t M' ∧ pb_fm M0 M' ∧ (r = 0 ∨ r = 1) ∧ pb_o T n z r M'
theorem z_next {d t n i : Nat} {T : Nat → Int} {S M : ab_M} {P : ab_M → Prop} (hd : 2 ≤ d) (hS : pu_str t M) (ht : pb_tx T n M) (hrm : pb_rm S M) (hi : i < n) (hl : pb_la T n i M) (hnd : ¬ pb_dig T i) (go : ∀ M1, pb_z t n T S M (i + 1) M1 → P M1) : ∃ M1, ab_ev d 113 [.inr (.inr 103)] M none M1 ∧ pu_str t M1 ∧ P M1 := by
  have h20 := (hl.2.2.2.2 hi hnd).2.2
  obtain ⟨M1, e1, s1, f1, l1⟩ := s113 hd hS ht (p := i + 1) (by rw [h20, Int.natCast_succ]) (by omega)
  exact ⟨M1, e1, s1, go M1 ⟨s1, tx_fm ht (fm_fr f1), rm_fr hrm (fun f hf => f1 103 f (by omega)) (fun c f a b => f1 c f (by omega)), fm_fr f1, l1, by omega⟩⟩
theorem z_numA {d t n p : Nat} {T : Nat → Int} {S M0 M : ab_M} {P : Int → ab_M → Prop} {B : ab_M → Prop} {lo hi : Int} (hd : 2 ≤ d) (z : pb_z t n T S M0 p M) (hh : hi < 1000000)
    (good : ∀ (v : Int) (e : Nat), M 103 22 = v → M 103 20 = (e : Int) → lo ≤ v → v ≤ hi → e ≤ n → p < e → (∀ ag : Int → Bool, ag v = false → pa_n1 T n lo hi ag p = .inr (v, e)) → (∀ ag : Int → Bool, ag v = true → pa_n1 T n lo hi ag p = .inl (4, pa_sk T n p)) → P 1 M)
    (bad : ∀ (M1 : ab_M) (c : Int), pu_str t M1 → pb_fm M0 M1 → M1 103 24 = c → M1 103 23 = ((pa_sk T n p : Nat) : Int) → (∀ ag : Int → Bool, pa_n1 T n lo hi ag p = .inl (c, pa_sk T n p)) → B M1) : ∃ r M', ab_ev d 116 [.inr (.inr 103), .inl lo, .inl hi] M (some (.inl r)) M' ∧ pu_str t M' ∧ (r ≠ 0 → P r M') ∧ (r = 0 → B M') := by
  obtain ⟨s1, t1, rm1, f1, l1, pn⟩ := z
  obtain ⟨M2, r2, e2, s2, f2, x2⟩ := s116 hd s1 pn l1 lo hi hh
  refine ⟨r2, M2, e2, s2, fun q => ?_, fun q => ?_⟩
  · obtain ⟨q1, q2, v, e, a1, a2, a3, a4, a5, a6⟩ := x2.resolve_left (fun y => q y.1)
    rw [q1, q2]
    exact good v e a1 a2 a3.1 a3.2 a4 a5 (fun ag h => by rw [a6, h]; rfl) (fun ag h => by rw [a6, h]; rfl)
  · obtain ⟨_, c, h24, hn⟩ := x2.resolve_right (fun x => by have := x.1; omega)
    exact bad M2 c s2 (fm_tr f1 (fm_24 f2)) h24 (by rw [f2 103 23 (by omega)]; exact l1.1) hn
theorem z_numB {d t n p : Nat} {T : Nat → Int} {S M0 M : ab_M} {P : Int → ab_M → Prop} {B : ab_M → Prop} {lo hi : Int} (hd : 2 ≤ d) (z : pb_z t n T S M0 p M) (hh : hi < 1000000)
    (good : ∀ (v : Int) (e : Nat), M 103 22 = v → M 103 20 = (e : Int) → lo ≤ v → v ≤ hi → e ≤ n → p < e → (∀ ag : Int → Bool, ag v = false → pa_n1 T n lo hi ag p = .inr (v, e)) → (∀ ag : Int → Bool, ag v = true → pa_n1 T n lo hi ag p = .inl (4, pa_sk T n p)) → P 1 M)
    (bad : ∀ (M1 : ab_M) (c : Int), pu_str t M1 → pb_fm M0 M1 → M1 103 24 = c → M1 103 23 = ((pa_sk T n p : Nat) : Int) → (∀ ag : Int → Bool, pa_n1 T n lo hi ag p = .inl (c, pa_sk T n p)) → B M1) : ∃ r M', ab_ev d 116 [.inr (.inr 103), .inl lo, .inl hi] M (some (.inl r)) M' ∧ pu_str t M' ∧ (r = 0 → B M') ∧ (r ≠ 0 → P r M') := by
  obtain ⟨r, M', a, b, c, e⟩ := z_numA hd z hh good bad
  exact ⟨r, M', a, b, e, c⟩
theorem z_take {d t n p e : Nat} {T : Nat → Int} {S M0 M : ab_M} {P : Int → ab_M → Prop} {v : Int} (hd : 3 ≤ d) (z : pb_z t n T S M0 p M) (hv : M 103 22 = v) (he : M 103 20 = (e : Int)) (hn : e ≤ n) (go : ∀ M1, pb_z t n T S M0 e M1 → (∀ c f : Nat, 115 ≤ c → M1 c f = M c f) → P v M1) : ∃ r M', ab_ev d 117 [.inr (.inr 103)] M (some (.inl r)) M' ∧ pu_str t M' ∧ P r M' := by
  obtain ⟨s1, t1, rm1, f1, l1, pn⟩ := z
  obtain ⟨M3, e3, s3, f3, l3⟩ := s117 hd s1 t1 he hn
  rw [hv] at e3
  exact ⟨v, M3, e3, s3, go M3 ⟨s3, tx_fm t1 (fm_fr f3), rm_fr rm1 (fun f hf => f3 103 f (by omega)) (fun c f a b => f3 c f (by omega)), fm_tr f1 (fm_fr f3), l3, hn⟩ (fun c f a => f3 c f (by omega))⟩
theorem z_set {t n p : Nat} {T : Nat → Int} {S S' M0 M : ab_M} {c f : Nat} {v : Int} (z : pb_z t n T S M0 p M) (h : (c = 103 ∧ 25 ≤ f ∧ f ≤ 36) ∨ (115 ≤ c ∧ c ≤ 119)) (hs : pu_str t (ab_w M c f v)) (hr : pb_rm S' (ab_w M c f v)) : pb_z t n T S' M0 p (ab_w M c f v) := by
  obtain ⟨s1, t1, rm1, f1, l1, pn⟩ := z
  have f2 : pb_fm M (ab_w M c f v) := fm_w (by omega)
  exact ⟨hs, tx_fm t1 f2, hr, fm_tr f1 f2, la_w l1 (fun f' _ => w_ne (by omega)), pn⟩
theorem z_end {d t n e : Nat} {T : Nat → Int} {S' M0 M : ab_M} {w : (Int × Nat) ⊕ (ab_M × Nat)} (hd : 3 ≤ d) (z : pb_z t n T S' M0 e M) (hw : w = if pa_sk T n e < n ∧ T (pa_sk T n e) = 59 then .inr (S', pa_sk T n (pa_sk T n e + 1)) else .inl (1, pa_sk T n e)) : ∃ r M', ab_ev d 115 [.inr (.inr 103), .inl 59] M (some (.inl r)) M' ∧ pu_str t M' ∧ (r = 0 ∨ r = 1) ∧ pb_Q t T n w M0 (some (.inl r)) M' := by
  obtain ⟨s1, t1, rm1, f1, l1, pn⟩ := z
  obtain ⟨M8, r8, e8, s8, k8, f8, o8⟩ := pb_end hd s1 t1 l1 rm1
  exact ⟨r8, M8, e8, s8, k8, r8, rfl, s8, fm_tr f1 f8, k8, by rw [hw]; exact o8⟩
theorem z_bad {t n b : Nat} {T : Nat → Int} {M0 M1 : ab_M} {c : Int} {w : (Int × Nat) ⊕ (ab_M × Nat)} (s : pu_str t M1) (f : pb_fm M0 M1) (h1 : M1 103 24 = c) (h2 : M1 103 23 = (b : Int)) (hw : w = .inl (c, b)) : pb_Q t T n w M0 (some (.inl 0)) M1 := ⟨0, rfl, s, f, Or.inl rfl, by rw [hw]; exact ⟨rfl, h1, h2⟩⟩
theorem z_flt {d t n p : Nat} {T : Nat → Int} {S M0 M : ab_M} {c : Int} {X : Int → ab_M → Prop} {w : (Int × Nat) ⊕ (ab_M × Nat)} (hd : 1 ≤ d) (z : pb_z t n T S M0 p M) (hw : w = .inl (c, pa_sk T n p)) : ∃ r M', ab_ev d 114 [.inr (.inr 103), .inl c] M (some (.inl r)) M' ∧ pu_str t M' ∧ (r ≠ 0 → X r M') ∧ (r = 0 → pb_Q t T n w M0 (some (.inl 0)) M') := by
  obtain ⟨s1, t1, rm1, f1, l1, pn⟩ := z
  obtain ⟨e1, e2⟩ := s114 (d := d) hd s1 c
  exact ⟨_, _, e1, e2, fun q => absurd rfl q, fun _ => z_bad e2 (fm_tr f1 (fm_w (Or.inl (by omega)))) (ab_w_eq _ _ _ _) (by rw [w_ne (by omega)]; exact l1.1) hw⟩
theorem z_full {d t n i : Nat} {T : Nat → Int} {S M : ab_M} {cl : Nat} (hd : 1 ≤ d) (hS : pu_str t M) (hl : pb_la T n i M) (hf : pa_fl S cl = true) : ∃ r M', ab_ev d 114 [.inr (.inr 103), .inl 3] M (some (.inl r)) M' ∧ pu_str t M' ∧ (r = 0 ∨ r = 1) ∧ pb_Q t T n (pa_cl T n S cl i) M (some (.inl r)) M' := by
  obtain ⟨e1, s1, f1, x1⟩ := pb_full (d := d) (S := S) (cl := cl) hd hS hl hf
  exact ⟨_, _, e1, s1, Or.inl rfl, 0, rfl, s1, f1, Or.inl rfl, x1⟩
theorem z_ev {d m t n : Nat} {T : Nat → Int} {M : ab_M} {w : (Int × Nat) ⊕ (ab_M × Nat)} (h : ab_wp d m 0 (ab_ent [.inr (.inr 103)] (ab_mx m)) [] M (pb_Q t T n w M)) : ∃ M' r, ab_ev d m [.inr (.inr 103)] M (some (.inl r)) M' ∧ pu_str t M' ∧ pb_fm M M' ∧ (r = 0 ∨ r = 1) ∧ pb_o T n w r M' := by
  obtain ⟨r', M', e, r, rfl, h1, h2, h3, h4⟩ := wp_ev h
  exact ⟨M', r, e, h1, h2, h3, h4⟩
theorem s119 {d t n i : Nat} {T : Nat → Int} {S M : ab_M} (hd : 5 ≤ d) (hS : pu_str t M) (ht : pb_tx T n M) (hrm : pb_rm S M) (ho : pa_ok S) (hi : i < n) (hl : pb_la T n i M) (hnd : ¬ pb_dig T i) :
    ∃ M' r, ab_ev d 119 [.inr (.inr 103)] M (some (.inl r)) M' ∧ pu_str t M' ∧ pb_fm M M' ∧ (r = 0 ∨ r = 1) ∧ pb_o T n (pa_cl T n S 2 i) r M' := by
  have m3 := hrm.1.2.2.2.1
  obtain ⟨o0, o2, o3, o4, o5, o6, o7, _⟩ := ho
  refine z_ev (b119_0 (by omega) hS ⟨fun q => ?_, fun q => z_full (by omega) hS hl ?_⟩)
  · have nf : ¬ pa_fl S 2 = true := by
      show ¬ decide (6 ≤ S 0 2) = true
      rw [decide_eq_true_eq]; omega
    refine z_next (by omega) hS ht hrm hi hl hnd fun M1 z1 => ?_
    rw [z1.2.2.1.1.1]
    refine ⟨by omega, z_numA (by omega) z1 (by omega) (fun v0 e0 a1 a2 a3 a4 a5 a6 a7 _ => ?_) (fun M2 c s2 f2 x1 x2 x3 => z_bad s2 f2 x1 x2 (cl_l nf (nums_l (x3 _))))⟩
    have n0 : pa_n1 T n (pa_lo 2 0) (pa_hi S 2 0 0) (pa_ag S 2 0 0) (i + 1) = .inr (v0, e0) := a7 _ rfl
    rw [z1.2.2.1.1.2.2.2.1]
    refine ⟨by omega, z_take (by omega) z1 a1 a2 a5 fun M3 z3 _ => ?_⟩
    have e116 : (2 * S 0 2).toNat = 2 * (S 0 2).toNat := by omega
    have e117 : (2 * S 0 2 + 1).toNat = 2 * (S 0 2).toNat + 1 := by omega
    rw [e116]
    have z4 : pb_z t n T S M e0 (ab_w M3 116 (2 * (S 0 2).toNat) v0) := by
      refine z_set z3 (Or.inr (by omega)) (str_a z3.1 rfl) ?_
      obtain ⟨g0, g1, g2, g3, g4, g5⟩ := z3.2.2.1
      unfold pb_rm
      simp (discharger := omega) only [w_ne]
      refine ⟨g0, g1, fun p hp => ?_, g3, g4, g5⟩
      rw [w_ne (by omega)]
      exact g2 p hp
    have v116 : ab_w M3 116 (2 * (S 0 2).toNat) v0 116 (2 * (S 0 2).toNat) = v0 := ab_w_eq _ _ _ _
    generalize ab_w M3 116 (2 * (S 0 2).toNat) v0 = M4 at *
    refine ⟨by omega, z_numA (by omega) z4 (by omega) (fun v1 e1 b1 b2 b3 b4 b5 b6 b7 _ => ?_) (fun M2 c s2 f2 x1 x2 x3 => z_bad s2 f2 x1 x2 (cl_l nf ((nums_r (a := fun _ => (0 : Int)) n0).trans (nums_l (x3 _)))))⟩
    have n1 : pa_n1 T n (pa_lo 2 1) (pa_hi S 2 1 v0) (pa_ag S 2 1 v0) e0 = .inr (v1, e1) := b7 _ rfl
    rw [z4.2.2.1.1.2.2.2.1, e117]
    have nums : pa_nums T n S 2 (pa_nn 2) 0 (fun _ => 0) (i + 1) = .inr (pu_u (pu_u (fun _ => 0) 0 v0) 1 v1, e1) := (nums_r (a := fun _ => (0 : Int)) n0).trans (nums_r (r := 0) n1)
    refine ⟨by omega, by omega, z_take (by omega) z4 b1 b2 b5 fun M5 z5 k5 => ?_⟩
    have v5 : M5 116 (2 * (S 0 2).toNat) = v0 := (k5 _ _ (by omega)).trans v116
    obtain ⟨g0, g1, g2, g3, g4, g5⟩ := z5.2.2.1
    have z6 : pb_z t n T S M e1 (ab_w M5 116 (2 * (S 0 2).toNat + 1) v1) := by
      refine z_set z5 (Or.inr (by omega)) (str_a z5.1 rfl) ?_
      unfold pb_rm
      simp (discharger := omega) only [w_ne]
      refine ⟨g0, g1, fun p hp => ?_, g3, g4, g5⟩
      simp (discharger := omega) only [w_ne]
      exact g2 p hp
    have z7 : pb_z t n T (pa_tk S 2 (pu_u (pu_u (fun _ => 0) 0 v0) 1 v1)) M e1 (ab_w (ab_w M5 116 (2 * (S 0 2).toNat + 1) v1) 103 30 (S 0 2 + 1)) := by
      refine z_set z6 (Or.inl (by omega)) (str_w z6.1 rfl) ?_
      rw [tk_2]
      show pb_rm (ab_w (ab_w (ab_w S 2 (S 0 2).toNat v0) 3 (S 0 2).toNat v1) 0 2 (S 0 2 + 1)) _
      unfold pb_rm
      simp (discharger := omega) only [w_ne, ab_w_eq]
      refine ⟨⟨g0.1, g0.2.1, g0.2.2.1, trivial, g0.2.2.2.2.1, g0.2.2.2.2.2.1, g0.2.2.2.2.2.2⟩, g1, fun p hp => ?_, g3, g4, g5⟩
      by_cases c : p = (S 0 2).toNat
      · subst c
        simp (discharger := omega) only [w_ne, ab_w_eq]
        exact ⟨v5, trivial⟩
      · simp (discharger := omega) only [w_ne]
        exact g2 p (by omega)
    rw [z5.2.2.1.1.2.2.2.1]
    exact ⟨by omega, by omega, z_end (by omega) z7 (cl_r nf nums)⟩
  · show decide (6 ≤ S 0 2) = true
    rw [decide_eq_true_eq]; omega
