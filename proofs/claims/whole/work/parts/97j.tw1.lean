/-! a town is read: class and model -/
theorem run_ok {T : Nat → Int} {n : Nat} : ∀ (f i : Nat) (S S' : ab_M), pa_ok S → i ≤ n → pa_run T n f S i = .inr S' → pa_ok S' := by
  intro f
  induction f with
  | zero => intro i S S' ok hi h; cases h; exact ok
  | succ f ih =>
    intro i S S' ok hi h
    by_cases c : n ≤ i
    · rw [run_e c] at h; cases h; exact ok
    · cases q : pa_stp T n S i with
      | inl e => rw [run_l (by omega) q] at h; cases h
      | inr z =>
        rw [run_r (by omega) q] at h
        have iv := stp_inr q (by omega) ok
        exact ih z.2 z.1 S' iv.2.2.1 iv.2.1 h
theorem run_er {T : Nat → Int} {n : Nat} : ∀ (f i : Nat) (S : ab_M) (e : Int × Nat), pa_ok S → i ≤ n → pa_run T n f S i = .inl e → 1 ≤ e.1 ∧ e.1 ≤ 4 := by
  intro f
  induction f with
  | zero => intro i S e ok hi h; cases h
  | succ f ih =>
    intro i S e ok hi h
    by_cases c : n ≤ i
    · rw [run_e c] at h; cases h
    · cases q : pa_stp T n S i with
      | inl e' =>
        rw [run_l (by omega) q] at h
        cases h
        have := stp_inl q (by omega)
        exact ⟨this.1, this.2.1⟩
      | inr z =>
        rw [run_r (by omega) q] at h
        have iv := stp_inr q (by omega) ok
        exact ih z.2 z.1 e iv.2.2.1 iv.2.1 h
def tw_W (S : ab_M) (a b : Nat) : Int := if a = b then 0 else if a < 7 ∧ b < 7 ∧ S 1 (7 * a + b) ≠ -1 then S 1 (7 * a + b) else 1000000
theorem tw_ok {S : ab_M} (h : pa_ok S) : fw_ok (S 0 0).toNat (tw_W S) := by
  obtain ⟨o0, o2, o3, o4, o5, o6, o7, o8, o9, o10, _⟩ := h
  intro a b
  unfold tw_W
  refine ⟨fun q => by rw [if_pos q], fun q => ?_⟩
  rw [if_neg q]
  by_cases c : a < 7 ∧ b < 7 ∧ S 1 (7 * a + b) ≠ -1
  · rw [if_pos c]
    have := o10 a b c.1 c.2.1
    right
    omega
  · rw [if_neg c]
    exact Or.inl rfl
/-- the class after a good text -/
def tw_c (u : Nat) (S M M' : ab_M) : Prop := pu_str u M' ∧ pa_rc u S M' ∧ (∀ a b : Nat, (a : Int) < S 0 0 → (b : Int) < S 0 0 → M' (u + 10 + a) b = fw_c (fw (tw_W S) (S 0 0).toNat a b))
  ∧ (M' 1 0 = 0 ∧ M' 0 1 = -1 ∧ M' 69 0 = 0 ∧ M' 69 1 = S 0 1 ∧ M' 69 2 = -1 ∧ M' 69 3 = M 69 3 ∧ M' 71 4 = 0 ∧ M' 73 4 = 0 ∧ M' 90 2 = 0 ∧ M' 75 0 = 0)
  ∧ (∀ i : Nat, i < 6 → M' 70 i = -1) ∧ (∀ c f : Nat, 103 ≤ c → M' c f = M c f)
theorem rc_fr2 {u : Nat} {S M M' : ab_M} (h : pa_rc u S M) (e : ∀ k f : Nat, u ≤ k → k ≤ u + 31 → ¬ (u + 10 ≤ k ∧ k < u + 17) → M' k f = M k f) : pa_rc u S M' := by
  obtain ⟨h0, h1, h2, h3, h4, h5, h6⟩ := h
  unfold pa_rc
  refine ⟨?_, fun a b ha hb => ?_, fun p hp => ?_, fun i hi => ?_, fun i hi => ?_, fun a b ha hb => ?_, fun o ho => ?_⟩
  · simp (discharger := omega) only [e]; exact h0
  · rw [e _ _ (by omega) (by omega) (by omega)]; exact h1 a b ha hb
  · rw [e _ _ (by omega) (by omega) (by omega), e _ _ (by omega) (by omega) (by omega)]; exact h2 p hp
  · rw [e _ _ (by omega) (by omega) (by omega), e _ _ (by omega) (by omega) (by omega), e _ _ (by omega) (by omega) (by omega), e _ _ (by omega) (by omega) (by omega)]; exact h3 i hi
  · rw [e _ _ (by omega) (by omega) (by omega)]; exact h4 i hi
  · rw [e _ _ (by omega) (by omega) (by omega)]; exact h5 a b ha hb
  · rw [e _ _ (by omega) (by omega) (by omega)]; exact h6 o ho
/-- the class: both ends -/
theorem s66 {d t n : Nat} {T : Nat → Int} {M : ab_M} (hd : 12 ≤ d) (hS : pu_str t M) (ht : pa_tx T n M) : ∃ M' r, ab_ev d 66 [.inr (.inr 0)] M (some (.inl r)) M' ∧
    (match pa_run T n 250 pa_S0 (pa_sk T n 0) with
      | .inl e => r = -10 - e.1 ∧ pu_str t M' ∧ M' 1 0 = 0 ∧ M' 0 1 = ((e.2 : Nat) : Int) ∧ (∀ c f : Nat, ¬ (c = 1 ∧ f ≤ 2) → ¬ (c = 0 ∧ f = 1) → c ≠ 3 → c ≠ 4 → ¬ (42 - t ≤ c ∧ c ≤ 42 - t + 31) → M' c f = M c f)
      | .inr S => r = S 0 3 ∧ tw_c (42 - t) S M M') := by
  have hT : t = 5 ∨ t = 37 := hS.2.2.1
  have hu : pu_T (42 - t) := T_other hS.2.2.1
  obtain ⟨M1, r1, e1, s1, fr1, o1⟩ := s26 (d := d - 1) (by omega) hS hu ht
  have sg := (sk_rg T n 0).2 (Nat.zero_le _)
  cases q : pa_run T n 250 pa_S0 (pa_sk T n 0) with
  | inl e =>
    rw [q] at o1
    obtain ⟨x1, x2⟩ := o1
    have er := run_er _ _ _ _ S0_ok sg q
    refine ⟨ab_w (ab_w M1 1 0 0) 0 1 (M1 1 1), -10 - r1, ev_wp (b66_0 (by omega) hS ⟨r1, M1, e1, s1, fun y => by omega, fun _ => ⟨by omega, rfl, rfl⟩⟩), by rw [x1], str_w (str_w s1 rfl) rfl, ?_, ?_, fun c f a1 a2 a3 a4 a5 => ?_⟩
    · rw [w_ne (by omega), ab_w_eq]
    · rw [ab_w_eq]; exact x2
    · rw [w_ne (by omega), w_ne (by omega)]
      exact fr1 c f (by omega) a3 a4 a5
  | inr S =>
    rw [q] at o1
    obtain ⟨x1, x2⟩ := o1
    have ok := run_ok _ _ _ _ S0_ok sg q
    have o0 := ok.1
    obtain ⟨u, eu⟩ : ∃ u, 42 - t = u := ⟨_, rfl⟩
    have hu2 : u = 5 ∨ u = 37 := by omega
    have b66 := @b66_0 d t M
    rw [eu] at hu x2 e1 b66 fr1 ⊢
    obtain ⟨A, hA⟩ : ∃ A, A = ab_w (ab_w (ab_w (ab_w M1 1 0 0) 0 1 (-1)) 0 2 ((u : Nat) : Int)) 0 3 ((t : Nat) : Int) := ⟨_, rfl⟩
    have sA : pu_str u A := by
      have := str_swap (str_w (k := 0) (f := 1) (v := -1) (str_w (k := 1) (f := 0) (v := 0) s1 rfl) rfl)
      rw [eu, ← hA] at this
      exact this
    have fA : ∀ c f : Nat, ¬ (c = 1 ∧ f = 0) → ¬ (c = 0 ∧ 1 ≤ f ∧ f ≤ 3) → A c f = M1 c f := fun c f a b => by rw [hA, w_ne (by omega), w_ne (by omega), w_ne (by omega), w_ne (by omega)]
    have rcA : pa_rc u S A := rc_fr x2 (fun k f a b => fA k f (by omega) (by omega))
    have n0 : A u 0 = (((S 0 0).toNat : Nat) : Int) := by rw [rcA.1.1]; omega
    obtain ⟨M2, e2, s2, f2, v2⟩ := s56 (d := d - 1) (W := tw_W S) (by omega) sA (n := (S 0 0).toNat) (by omega) (tw_ok ok) n0 (fun a b ha hb hab => by
      rw [rcA.2.1 a b (by omega) (by omega)]
      unfold tw_W
      rw [if_neg hab]
      have l := ok.2.2.2.2.2.2.2.2.2.1 a b (by omega) (by omega)
      by_cases c : S 1 (7 * a + b) = -1
      · rw [if_neg (by omega), c]; rfl
      · rw [if_pos (by omega), c_fin (by omega)])
    have rc2 : pa_rc u S M2 := rc_fr2 rcA (fun k f a b c => f2 k f c)
    obtain ⟨B, hB⟩ : ∃ B, B = ab_w (ab_w (ab_w M2 69 0 0) 69 1 ((ab_w M2 69 0 0) u 1)) 69 2 (-1) := ⟨_, rfl⟩
    have sB : pu_str u B := by rw [hB]; exact str_w (str_w (str_w s2 rfl) rfl) rfl
    have sC : pu_str u (pu_fil B 70 6 (-1)) := str_fil _ _ sB rfl
    have w42 : ab_ev (d - 1) 42 [.inr (.inr 69), .inr (.inr u)] M2 none (pu_fil B 70 6 (-1)) := by
      refine ev_wp (b42_0 (by omega) s2 hu ⟨_, ?_, sC, rfl, rfl⟩)
      rw [← hB]
      exact s193 (by omega) sB 70 6 (-1) rfl rfl (by omega)
    obtain ⟨D, hD⟩ : ∃ D, D = ab_w (ab_w (ab_w (ab_w (pu_fil B 70 6 (-1)) 71 4 0) 73 4 0) 90 2 0) 75 0 0 := ⟨_, rfl⟩
    have sD : pu_str u D := by rw [hD]; exact str_w (str_w (str_w (str_w sC rfl) rfl) rfl) rfl
    have fD : ∀ c f : Nat, c ≠ 69 → c ≠ 70 → c ≠ 71 → c ≠ 73 → c ≠ 75 → c ≠ 90 → D c f = M2 c f := fun c f a1 a2 a3 a4 a5 a6 => by
      rw [hD, w_ne (by omega), w_ne (by omega), w_ne (by omega), w_ne (by omega), fil_r (by omega), hB, w_ne (by omega), w_ne (by omega), w_ne (by omega)]
    have fDl : ∀ c f : Nat, c ≤ 68 → D c f = M2 c f := fun c f a => fD c f (by omega) (by omega) (by omega) (by omega) (by omega) (by omega)
    have rcD : pa_rc u S D := rc_fr rc2 (fun k f a b => fDl k f (by omega))
    have evc : ab_ev d 66 [.inr (.inr 0)] M (some (.inl (D u 3))) D := by
      refine ev_wp (b66 (by omega) hS ⟨r1, M1, e1, s1, fun _ => ⟨M2, ?_, s2, _, w42, sC, ?_⟩, fun y => absurd x1 y⟩)
      · rw [← hA]; exact e2
      · rw [← hD]; exact ⟨rfl, rfl⟩
    refine ⟨D, _, evc, rcD.1.2.2.2.1, sD, rcD, fun a b ha hb => ?_, ⟨?_, ?_, ?_, ?_, ?_, ?_, ?_, ?_, ?_, ?_⟩, fun i hi => ?_, fun c f hc => ?_⟩
    · rw [fDl _ _ (by omega)]
      exact v2 a b (by omega) (by omega)
    · rw [fDl _ _ (by omega), f2 _ _ (by omega), hA, w_ne (by omega), w_ne (by omega), w_ne (by omega), ab_w_eq]
    · rw [fDl _ _ (by omega), f2 _ _ (by omega), hA, w_ne (by omega), w_ne (by omega), ab_w_eq]
    · rw [hD, w_ne (by omega), w_ne (by omega), w_ne (by omega), w_ne (by omega), fil_r (by omega), hB, w_ne (by omega), w_ne (by omega), ab_w_eq]
    · rw [hD, w_ne (by omega), w_ne (by omega), w_ne (by omega), w_ne (by omega), fil_r (by omega), hB, w_ne (by omega), ab_w_eq, w_ne (by omega)]
      exact rc2.1.2.1
    · rw [hD, w_ne (by omega), w_ne (by omega), w_ne (by omega), w_ne (by omega), fil_r (by omega), hB, ab_w_eq]
    · rw [hD, w_ne (by omega), w_ne (by omega), w_ne (by omega), w_ne (by omega), fil_r (by omega), hB, w_ne (by omega), w_ne (by omega), w_ne (by omega), f2 _ _ (by omega), fA _ _ (by omega) (by omega)]
      exact fr1 69 3 (by omega) (by omega) (by omega) (by omega)
    · rw [hD, w_ne (by omega), w_ne (by omega), w_ne (by omega), ab_w_eq]
    · rw [hD, w_ne (by omega), w_ne (by omega), ab_w_eq]
    · rw [hD, w_ne (by omega), ab_w_eq]
    · rw [hD, ab_w_eq]
    · rw [hD, w_ne (by omega), w_ne (by omega), w_ne (by omega), w_ne (by omega), fil_s hi]
    · rw [fD c f (by omega) (by omega) (by omega) (by omega) (by omega) (by omega), f2 _ _ (by omega), fA _ _ (by omega) (by omega)]
      exact fr1 c f (by omega) (by omega) (by omega) (by omega)
