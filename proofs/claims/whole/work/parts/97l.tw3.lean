theorem c_town {t : Nat} {M : ab_M} (h : pu_inv t M) : pu_both 66 126 [] t M := by
  obtain ⟨hS, h1, h2, h3, h4, h5, h6, h7, h8, h9, h10⟩ := id h
  obtain ⟨k1, k2, k3, k4, k5⟩ := h10
  have hT : t = 5 ∨ t = 37 := hS.2.2.1
  have hn : ((M 1 0).toNat : Int) = M 1 0 := by omega
  have tx : pa_tx (fun i => M 2 i) (M 1 0).toNat M := ⟨by omega, by omega, fun i hi => ⟨rfl, (k4 i (by omega)).2⟩⟩
  obtain ⟨M1, r, e1, o1⟩ := s66 (d := 29) (by omega) hS tx
  have sg := (sk_rg (fun i => M 2 i) (M 1 0).toNat 0).2 (Nat.zero_le _)
  cases q : pa_run (fun i => M 2 i) (M 1 0).toNat 250 pa_S0 (pa_sk (fun i => M 2 i) (M 1 0).toNat 0) with
  | inl e =>
    rw [q] at o1
    obtain ⟨x1, s1, x2, x3, f1⟩ := o1
    have tb : pb_tx (fun i => M 2 i) (M 1 0).toNat M1 := by
      refine ⟨by omega, ?_, fun i hi => ⟨?_, (k4 i (by omega)).2⟩⟩
      · rw [f1 103 1 (by omega) (by omega) (by omega) (by omega) (by omega)]; omega
      · rw [f1 104 i (by omega) (by omega) (by omega) (by omega) (by omega)]; exact (k4 i (by omega)).1
    obtain ⟨M2, r2, e2, s2, o2⟩ := s126 (d := 29) (by omega) s1 tb
    rw [q] at o2
    obtain ⟨y1, y2, y3, f2⟩ := o2
    have er : r2 = r := by rw [x1, y1]
    rw [er] at e2
    refine ⟨r, t, M1, M2, e1, s1, e2, ?_⟩
    have g2 : ∀ c f : Nat, ¬ (c = 1 ∧ f ≤ 2) → ¬ (c = 0 ∧ f = 1) → c ≠ 3 → c ≠ 4 → ¬ (42 - t ≤ c ∧ c ≤ 42 - t + 31) → ¬ (c = 103 ∧ (f = 1 ∨ f = 2 ∨ (20 ≤ f ∧ f ≤ 36))) → ¬ (115 ≤ c ∧ c ≤ 119) → M2 c f = M c f := fun c f a1 a2 a3 a4 a5 a6 a7 => (f2 c f a6 a7).trans (f1 c f a1 a2 a3 a4 a5)
    have sta : ∀ s c o : Nat, (s = 69 ∨ s = 71 ∨ s = 73) → (c = 112 ∨ c = 131) → pu_sta t M s c o → pu_sta t M2 s c o := by
      intro s c o hs hc hh
      unfold pu_sta at hh ⊢
      simp (discharger := omega) only [g2]
      exact hh
    refine ⟨s2, ?_, ?_, ?_, ?_, sta _ _ _ (by omega) (by omega) h5, ?_, ?_, ?_, ?_, ?_⟩
    · unfold pu_town at h1 ⊢
      simp (discharger := omega) only [g2]
      exact h1
    · unfold pu_mod at h2 ⊢
      simp (discharger := omega) only [g2]
      exact h2
    · intro a b ha hb
      have := h3 a b ha hb
      simp (discharger := omega) only [g2]
      exact this
    · intro a b ha hb
      have := h4 a b ha hb
      simp (discharger := omega) only [g2]
      exact this
    · obtain ⟨a1, a2, a3⟩ := h6
      refine ⟨?_, ?_, fun q => sta _ _ _ (by omega) (by omega) (a3 ?_)⟩
      · simp (discharger := omega) only [g2]; exact a1
      · simp (discharger := omega) only [g2]; exact a2
      · rw [← g2 _ _ (by omega) (by omega) (by omega) (by omega) (by omega) (by omega) (by omega)]; exact q
    · obtain ⟨a1, a2, a3⟩ := h7
      refine ⟨?_, ?_, fun q => sta _ _ _ (by omega) (by omega) (a3 ?_)⟩
      · simp (discharger := omega) only [g2]; exact a1
      · simp (discharger := omega) only [g2]; exact a2
      · rw [← g2 _ _ (by omega) (by omega) (by omega) (by omega) (by omega) (by omega) (by omega)]; exact q
    · unfold pu_dia at h8 ⊢
      simp (discharger := omega) only [g2]
      exact h8
    · unfold pu_tel at h9 ⊢
      simp (discharger := omega) only [g2]
      exact h9
    · have a0 : M2 1 0 = 0 := (f2 1 0 (by omega) (by omega)).trans x2
      have a1 : M2 0 1 = ((e.2 : Nat) : Int) := (f2 0 1 (by omega) (by omega)).trans x3
      unfold pu_txt
      rw [a0, a1, y2, y3]
      exact ⟨rfl, by omega, by omega, fun i hi => by omega, rfl⟩
  | inr S =>
    rw [q] at o1
    obtain ⟨x1, s1, rc, far, vals, v70, f1⟩ := o1
    have ok := run_ok _ _ _ _ S0_ok sg q
    have hu : 42 - t = 5 ∨ 42 - t = 37 := by omega
    have tb : pb_tx (fun i => M 2 i) (M 1 0).toNat M1 := by
      refine ⟨by omega, ?_, fun i hi => ⟨?_, (k4 i (by omega)).2⟩⟩
      · rw [f1 103 1 (by omega)]; omega
      · rw [f1 104 i (by omega)]; exact (k4 i (by omega)).1
    obtain ⟨M2, r2, e2, s2, o2⟩ := s126 (d := 29) (by omega) s1 tb
    rw [q] at o2
    obtain ⟨y1, m1, m2, m3, m4, m5, m6, m7, m8, f2⟩ := o2
    have er : r2 = r := by rw [x1, y1]
    rw [er] at e2
    refine ⟨r, 42 - t, M1, M2, e1, s1, e2, ?_⟩
    generalize 42 - t = u at *
    obtain ⟨o0, o2, o3, o4, o5, o6, o7, o8, o9, o10, o11, o12, o13, o14, o15⟩ := id ok
    obtain ⟨c0, c1, c2, c3, c4, c5, c6⟩ := rc_fr (M' := M2) rc (fun k f a b => f2 k f (by omega))
    have farr : ∀ a b : Nat, (a : Int) < S 0 0 → (b : Int) < S 0 0 → M2 (u + 10 + a) b = fw_c (fw (tw_W S) (S 0 0).toNat a b) := fun a b ha hb => by
      rw [f2 _ _ (by omega)]; exact far a b ha hb
    have lo : ∀ c f : Nat, c < 103 → M2 c f = M1 c f := f2
    have p7 : 0 < S 0 0 → S 0 7 = 1 := fun z => by
      rcases o7 with z7 | z7
      · have := o8 z7
        omega
      · exact z7
    have fwo := tw_ok ok
    obtain ⟨w0, w1, w2, w3, w4, w5, w6, w7, w8, w9⟩ := vals
    refine ⟨s2, ?_, ?_, ?_, ?_, ?_, ?_, ?_, ?_, ?_, ?_⟩
    · unfold pu_town
      rw [c0.1, c0.2.1, c0.2.2.1, c0.2.2.2.1, c0.2.2.2.2]
      refine ⟨o0, o2, o3, o4, fun z => ?_, fun z => ?_, fun p hp => ?_, fun i hi => ?_, fun o ho => ?_⟩
      · rcases o7 with z7 | z7
        · have := o8 z7
          omega
        · have := o9 z7
          omega
      · have := o9 (p7 z)
        omega
      · rw [(c2 p hp).1, (c2 p hp).2]
        exact o11 p hp
      · have cc := c3 i hi
        rw [cc.1, cc.2.1, cc.2.2.1, cc.2.2.2, c4 i (by omega)]
        exact o12 i hi
      · rw [c6 o ho]
        exact o15 o ho
    · unfold pu_mod
      rw [c0.1, c0.2.1, c0.2.2.1, c0.2.2.2.1, c0.2.2.2.2]
      refine ⟨m1.2.2.1, m1.2.2.2.2.1, m1.2.2.2.2.2.1, m1.2.2.2.2.2.2.1, fun z => m1.2.2.2.1 (p7 z), fun p hp => ?_, fun i hi => ?_, fun o ho => ?_⟩
      · rw [(c2 p hp).1, (c2 p hp).2]
        exact m3 p hp
      · have cc := c3 i hi
        rw [cc.1, cc.2.1, cc.2.2.1, cc.2.2.2, c4 i (by omega)]
        exact m4 i hi
      · rw [c6 o ho]
        exact m6 o ho
    · intro a b ha hb ha2 hb2
      rw [c0.1] at ha2 hb2
      have l := o10 a b ha hb
      have fr := farr a b ha2 hb2
      have f180 := fw_180 fwo (by omega) (a := a) (b := b) (by omega)
      have late := fw_late fwo (a := a) (b := b) (by omega) (by omega) (7 - (S 0 0).toNat)
      rw [show (S 0 0).toNat + (7 - (S 0 0).toNat) = 7 from by omega] at late
      rw [c1 a b ha hb, m7 _ (by omega), m8 a b ha hb, late, fr]
      generalize fw (tw_W S) (S 0 0).toNat a b = x at *
      by_cases cx : x = 1000000
      · rw [cx, c_inf]
        exact ⟨by omega, by omega, by omega, by omega, by omega, rfl, by rw [if_pos rfl]⟩
      · rw [c_fin cx]
        exact ⟨by omega, by omega, by omega, by omega, by omega, rfl, by rw [if_neg (by omega)]⟩
    · intro a b ha hb
      rw [c5 a b ha hb, m5 _ (by omega), c0.2.2.1]
      have := o14 a b ha hb
      exact ⟨this.1, this.2.1, fun _ => rfl, this.2.2⟩
    · unfold pu_sta
      rw [c0.1, c0.2.2.1, lo 69 0 (by omega), lo 69 1 (by omega), lo 69 2 (by omega), lo 69 3 (by omega), w2, w3, w4, w5]
      obtain ⟨n0, n1, n2, n3, n4⟩ := m2
      refine ⟨⟨n0, by omega, by omega⟩, fun z => ⟨?_, ?_⟩, fun z => ?_, Or.inr ⟨n2, rfl⟩, ⟨?_, h5.2.2.2.2.1.2⟩, fun i hi => ?_⟩
      · show M2 112 1 = S 0 1
        rw [n1]; exact m1.2.2.2.1 (p7 z)
      · have := o9 (p7 z)
        omega
      · rcases o7 with z7 | z7
        · exact (o8 z7).2.1
        · have := o9 z7
          omega
      · show M2 112 3 = M 69 3
        rw [n3, f1 112 3 (by omega)]
        exact h5.2.2.2.2.1.1
      · show M2 112 (4 + i) = M2 70 i ∧ -1 ≤ M2 70 i ∧ M2 70 i ≤ 97000
        rw [n4 i hi, lo 70 i (by omega), v70 i hi]
        omega
    · refine ⟨?_, ?_, fun z => ?_⟩
      · rw [lo _ _ (by omega), w6, m1.2.2.2.2.2.2.2.2.2.1]
      · rw [lo _ _ (by omega), w6]; exact Or.inl rfl
      · rw [lo _ _ (by omega), w6] at z; exact absurd z (by decide)
    · refine ⟨?_, ?_, fun z => ?_⟩
      · rw [lo _ _ (by omega), w7, m1.2.2.2.2.2.2.2.2.2.2]
      · rw [lo _ _ (by omega), w7]; exact Or.inl rfl
      · rw [lo _ _ (by omega), w7] at z; exact absurd z (by decide)
    · unfold pu_dia
      rw [lo 75 0 (by omega), w9, m1.2.2.2.2.2.2.2.2.1]
      exact ⟨rfl, by omega, by omega, fun k hk => by omega⟩
    · unfold pu_tel
      rw [lo 90 2 (by omega), w8, m1.2.2.2.2.2.2.2.1]
      exact ⟨rfl, by omega, by omega, fun k hk => by omega⟩
    · unfold pu_txt
      rw [lo 1 0 (by omega), lo 0 1 (by omega), w0, w1, m1.1, m1.2.1]
      exact ⟨rfl, by omega, by omega, fun i hi => by omega, rfl⟩
