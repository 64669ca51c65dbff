theorem s147_turn {d t : Nat} {M : ab_M} (hd : 5 ≤ d) (h : pu_dat t M) {B : Int} {g : Nat → Int} (v : pu_vs t M B g) (hB : B ≤ 900000) (hn : 0 < M t 2) {Q : Option ab_V → ab_M → Prop} (x1 x2 : Int) (hx : x2 < x1) (hx2 : 0 ≤ x2 ∧ x2 ≤ 100) (y3 y4 y5 y6 : Option ab_V)
    (hQ : ∀ y3 y4 y5 y6, ab_wp d 147 41 [some (.inr (.inr 103)), some (.inl x1), some (.inl (x2 + 1)), y3, y4, y5, y6] [] (pu_putm M (st_turn t M g)) Q) :
    ab_wp d 147 41 [some (.inr (.inr 103)), some (.inl x1), some (.inl x2), y3, y4, y5, y6] [] (pu_putm M g) Q := by
  have hp := st_dp_rg hn g
  have ht : t = 5 ∨ t = 37 := h.1.2.2.1
  obtain ⟨t1, t2, t3, _, _, _, t7, _⟩ := h.2.1
  obtain ⟨m1, m2, m3, m4, m5, m6, m7, _⟩ := h.2.2.1
  have r0 : pu_putm M g 103 9 = M t 2 := (putm_r (by omega)).trans m2
  have r3 : ∀ g', pu_putm M g' 103 11 = M t 3 := fun g' => (putm_r (by omega)).trans m3
  obtain ⟨p, ep⟩ : ∃ p : Nat, st_dp (M t 2) g = (p : Int) := ⟨(st_dp (M t 2) g).toNat, by omega⟩
  have tp := t7 p (by omega)
  have w1 := s146 (d := d - 1) (by omega) h.1 v.2.2.2.1 (M t 2) hn
  rw [ep] at w1
  have vd := vs_draw v
  have rA : pu_putm M (st_draw g) 112 1 = g 1 := putm_s (by omega)
  have rB : pu_putm M (st_draw g) 107 p = M (t + 17) p := (putm_r (by omega)).trans (m6 p (by omega)).1
  have v1 := v.2.1
  have rC : ∀ a b : Nat, pu_putm M (st_draw g) (t + 10 + a) b = M (t + 10 + a) b ∨ 112 = t + 10 + a := fun a b => by
    by_cases c : 112 = t + 10 + a
    · exact Or.inr c
    · exact Or.inl (putm_r (by omega))
  have rC' : pu_putm M (st_draw g) (t + 10 + (g 1).toNat) (M (t + 17) p).toNat = M (t + 10 + (g 1).toNat) (M (t + 17) p).toNat := by
    rcases rC (g 1).toNat (M (t + 17) p).toNat with c | c
    · exact c
    · omega
  have rD : pu_putm M (st_draw g) t 0 = M t 0 := putm_r (by omega)
  have w2 := s132d (d := d - 1) (by omega) (dat_putm h (st_draw g)) (g 1) (M (t + 17) p) (by rw [rD]; omega) (by rw [rD]; omega)
  rw [rC'] at w2
  have main : ∀ g2, pu_vs t M (B + 180) g2 → st_turn t M g = st_do t M p g2 → ∀ x4 : Int, ab_wp d 147 96 [some (.inr (.inr 103)), some (.inl x1), some (.inl x2), some (.inl (p : Int)), some (.inl x4), some (.inl (-1)), some (.inl (M t 3 - 1))] [] (pu_putm M g2) Q := by
    intro g2 v2 e x4
    have q0 : pu_putm M g2 112 0 = g2 0 := putm_s (by omega)
    have q2 : pu_putm M g2 112 2 = g2 2 := putm_s (by omega)
    have S2 := str_putm h.1 g2
    have v0 := v2.1
    have key : ∀ k : Nat, k ≤ (M t 3).toNat → ab_wp d 147 96 [some (.inr (.inr 103)), some (.inl x1), some (.inl x2), some (.inl (p : Int)), some (.inl x4), some (.inl (if g2 2 = p then st_fo t M g2 p ((M t 3).toNat - k) k else -1)), some (.inl ((k : Int) - 1))] [] (pu_putm M g2) Q := by
      intro k
      induction k with
      | zero =>
        intro _
        have fo := st_fo_rg t M g2 p (M t 3).toNat 0
        rw [Nat.sub_zero]
        refine b147_96 (by omega) S2 ⟨fun _ => ⟨fun q => ?_, fun q => ?_⟩, fun q => by omega⟩
        · rw [q0]
          refine ⟨by omega, by omega, ?_⟩
          rw [putm_w M g2 (by omega)]
          have e2 : st_do t M p g2 = pu_u g2 0 (g2 0 + 1) := by
            unfold st_do
            rw [if_neg]
            intro z
            rw [if_pos z.2] at q
            omega
          rw [← e2, ← e]
          exact hQ _ _ _ _
        · have c : g2 2 = p := by
            by_cases c : g2 2 = p
            · exact c
            · rw [if_neg c] at q; omega
          rw [if_pos c] at q ⊢
          have w := s142 (d := d - 1) (by omega) h v2 (by omega) (st_fo t M g2 p (M t 3).toNat 0).toNat (by omega)
          rw [show ((st_fo t M g2 p (M t 3).toNat 0).toNat : Int) = st_fo t M g2 p (M t 3).toNat 0 from by omega] at w
          refine ⟨_, w, str_putm h.1 _, by omega, ?_⟩
          have e2 : st_do t M p g2 = st_fin t M (st_fo t M g2 p (M t 3).toNat 0).toNat g2 := by
            unfold st_do
            rw [if_pos ⟨by omega, c⟩]
          rw [← e2, ← e]
          exact hQ _ _ _ _
      | succ k ih =>
        intro hk
        have hk' : (k : Int) < M t 3 := by omega
        have mk := m7 k hk'
        have ih := ih (by omega)
        rw [show (M t 3).toNat - k = ((M t 3).toNat - (k + 1)) + 1 from by omega, fo_s] at ih
        rw [show (((k + 1 : Nat) : Int) - 1) = (k : Int) from by omega]
        have e5 : (5 * (k : Int)).toNat = 5 * k := by omega
        have r9 : pu_putm M g2 109 (5 * k) = M (t + 19) k := (putm_r (by omega)).trans mk.1
        refine b147_96 (by omega) S2 ⟨fun q => by omega, fun _ => ⟨fun q => ⟨by omega, ?_⟩, fun q => ⟨by omega, by omega, fun z => ⟨by omega, ?_⟩, fun z => ⟨_, _, s128p (by omega) h v2 k hk', S2, fun y => ⟨by omega, ?_⟩, fun y => ⟨by omega, ?_⟩⟩⟩⟩⟩
        · rw [q2] at q
          rw [if_neg q] at ih ⊢
          exact ih
        · rw [q2] at q
          rw [e5, r9] at z
          rw [if_pos q, if_neg (fun y => z y.1)] at ih
          rw [if_pos q]
          exact ih
        · rw [q2] at q
          rw [if_pos q, if_neg (fun x => y x.2)] at ih
          rw [if_pos q]
          exact ih
        · rw [q2] at q
          rw [e5, r9] at z
          rw [if_pos q, if_pos ⟨z, y⟩] at ih
          exact ih
    have k := key (M t 3).toNat (Nat.le_refl _)
    rw [Nat.sub_self, show (if g2 2 = (p : Int) then st_fo t M g2 p 0 (M t 3).toNat else -1) = -1 from by
      by_cases c : g2 2 = (p : Int)
      · rw [if_pos c]; rfl
      · rw [if_neg c], show ((M t 3).toNat : Int) = M t 3 from by omega] at k
    exact k
  refine b147_41 (by omega) (str_putm h.1 g) ⟨fun q => by omega, fun _ => ?_⟩
  rw [r0]
  refine ⟨_, _, w1, str_putm h.1 _, by omega, ?_⟩
  rw [Int.toNat_natCast, rA, rB]
  refine ⟨_, _, w2, str_putm h.1 _, fun q => ?_, fun q => ?_⟩
  · rw [r3]
    refine ⟨by omega, main (st_draw g) (vs_mono (by omega) vd) ?_ _⟩
    have gg := h.2.2.2.1 (g 1).toNat (M (t + 17) p).toNat (by omega) (by omega) (by omega) (by omega)
    unfold st_turn st_go
    rw [ep, Int.toNat_natCast, if_pos (by omega)]
  · have c : M (t + 10 + (g 1).toNat) (M (t + 17) p).toNat ≠ -1 := by omega
    refine ⟨_, s141 (by omega) h vd (by omega) p (by omega), str_putm h.1 _, ?_, ?_⟩
    · rw [r3]; omega
    · rw [r3]
      refine main _ (vs_hand h vd p (by omega) c) ?_ _
      unfold st_turn st_go
      rw [ep, Int.toNat_natCast, if_neg c]
