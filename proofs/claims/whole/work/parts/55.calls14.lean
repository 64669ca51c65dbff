theorem vs_mono {t : Nat} {M : ab_M} {B B' : Int} {g : Nat → Int} (h : B ≤ B') (v : pu_vs t M B g) : pu_vs t M B' g := by
  obtain ⟨v1, v2, v3, v4, v5⟩ := v
  exact ⟨by omega, v2, v3, v4, v5⟩
theorem vs_draw {t : Nat} {M : ab_M} {B : Int} {g : Nat → Int} (v : pu_vs t M B g) : pu_vs t M B (st_draw g) := by
  obtain ⟨v1, v2, v3, v4, v5⟩ := v
  refine ⟨v1, v2, v3, land_rg _, fun i hi => ?_⟩
  have := v5 i hi
  unfold st_draw pu_u
  rw [if_neg (by omega)]
  exact this
theorem vs_hand {t : Nat} {M : ab_M} {B : Int} {g : Nat → Int} (h : pu_dat t M) (v : pu_vs t M B g) (p : Nat) (hp : (p : Int) < M t 2) (hf : M (t + 10 + (g 1).toNat) (M (t + 17) p).toNat ≠ -1) : pu_vs t M (B + 180) (st_hand t M p g) := by
  obtain ⟨v1, v2, v3, v4, v5⟩ := v
  obtain ⟨t1, t2, _, _, _, _, t7, _⟩ := h.2.1
  have tp := t7 p hp
  have gg := h.2.2.2.1 (g 1).toNat (M (t + 17) p).toNat (by omega) (by omega) (by omega) (by omega)
  refine ⟨?_, ?_, ?_, v4, fun i hi => ?_⟩
  · show 0 ≤ g 0 + M (t + 10 + (g 1).toNat) (M (t + 17) p).toNat ∧ g 0 + M (t + 10 + (g 1).toNat) (M (t + 17) p).toNat ≤ B + 180
    omega
  · show 0 ≤ M (t + 17) p ∧ M (t + 17) p < M t 0
    omega
  · show -1 ≤ (p : Int) ∧ (p : Int) < M t 2
    omega
  · have := v5 i hi
    unfold st_hand pu_u
    rw [if_neg (by omega), if_neg (by omega), if_neg (by omega)]
    omega
theorem vs_fin {t : Nat} {M : ab_M} {B : Int} {g : Nat → Int} (h : pu_dat t M) (v : pu_vs t M B g) (hB : B + 30 ≤ 97000) (i : Nat) (hi : (i : Int) < M t 3) : pu_vs t M (B + 30) (st_fin t M i g) := by
  obtain ⟨v1, v2, v3, v4, v5⟩ := v
  obtain ⟨_, _, t3, _, _, _, _, t8, _⟩ := h.2.1
  have tp := t8 i hi
  refine ⟨?_, ?_, ?_, ?_, fun j hj => ?_⟩
  · unfold st_fin pu_u
    rw [if_neg (by omega), if_pos rfl]
    omega
  · unfold st_fin pu_u
    rw [if_neg (by omega), if_neg (by omega)]
    exact v2
  · unfold st_fin pu_u
    rw [if_neg (by omega), if_neg (by omega)]
    exact v3
  · unfold st_fin pu_u
    rw [if_neg (by omega), if_neg (by omega)]
    exact v4
  · have := v5 j hj
    unfold st_fin pu_u
    by_cases q : 4 + j = 4 + i
    · rw [if_pos q]; omega
    · rw [if_neg q, if_neg (by omega)]; omega
theorem vs_inc {t : Nat} {M : ab_M} {B : Int} {g : Nat → Int} (v : pu_vs t M B g) : pu_vs t M (B + 30) (pu_u g 0 (g 0 + 1)) := by
  obtain ⟨v1, v2, v3, v4, v5⟩ := v
  refine ⟨?_, v2, v3, v4, fun j hj => ?_⟩
  · show 0 ≤ g 0 + 1 ∧ g 0 + 1 ≤ B + 30
    omega
  · have := v5 j hj
    unfold pu_u
    rw [if_neg (by omega)]
    omega
theorem s141 {d t : Nat} {M : ab_M} (hd : 1 ≤ d) (h : pu_dat t M) {B : Int} {g : Nat → Int} (v : pu_vs t M B g) (hB : B ≤ 1000000) (p : Nat) (hp : (p : Int) < M t 2) : ab_ev d 141 [.inr (.inr 103), .inl (p : Int), .inl (M (t + 10 + (g 1).toNat) (M (t + 17) p).toNat)] (pu_putm M g) none (pu_putm M (st_hand t M p g)) := by
  have hS := str_putm h.1 g
  obtain ⟨v1, v2, v3, v4, v5⟩ := v
  obtain ⟨t1, t2, _, _, _, _, t7, _⟩ := h.2.1
  have tp := t7 p hp
  obtain ⟨_, _, _, _, _, m6, _⟩ := h.2.2.1
  have mp := m6 p hp
  have gg := h.2.2.2.1 (g 1).toNat (M (t + 17) p).toNat (by omega) (by omega) (by omega) (by omega)
  have r1 : pu_putm M g 112 0 = g 0 := putm_s (by omega)
  have r2 : pu_putm M g 107 p = M (t + 17) p := (putm_r (by omega)).trans mp.1
  refine ev_wp (b141_0 (by omega) hS ?_)
  rw [Int.toNat_natCast, r1, r2]
  refine ⟨by omega, by omega, rfl, ?_⟩
  rw [putm_w M g (by omega), putm_w M _ (by omega), putm_w M _ (by omega)]
  rfl
theorem s142 {d t : Nat} {M : ab_M} (hd : 1 ≤ d) (h : pu_dat t M) {B : Int} {g : Nat → Int} (v : pu_vs t M B g) (hB : B ≤ 1000000) (i : Nat) (hi : (i : Int) < M t 3) : ab_ev d 142 [.inr (.inr 103), .inl (i : Int)] (pu_putm M g) none (pu_putm M (st_fin t M i g)) := by
  have hS := str_putm h.1 g
  obtain ⟨v1, v2, v3, v4, v5⟩ := v
  obtain ⟨_, _, t3, _, _, _, _, t8, _⟩ := h.2.1
  have tp := t8 i hi
  obtain ⟨_, _, _, _, _, _, m7, _⟩ := h.2.2.1
  have mp := m7 i hi
  have r1 : pu_putm M g 112 0 = g 0 := putm_s (by omega)
  have e1 : (5 * (i : Int) + 1).toNat = 5 * i + 1 := by omega
  have e3 : (4 + (i : Int)).toNat = 4 + i := by omega
  have r2 : pu_putm M g 109 (5 * i + 1) = M (t + 20) i := (putm_r (by omega)).trans mp.2.1
  refine ev_wp (b142_0 (by omega) hS ?_)
  rw [e1, e3, r1, r2]
  refine ⟨by omega, by omega, by omega, by omega, by omega, by omega, rfl, ?_⟩
  rw [putm_w M g (by omega), putm_w M _ (by omega)]
  rfl
def st_go (t : Nat) (M : ab_M) (g : Nat → Int) : Nat → Int := if M (t + 10 + (g 1).toNat) (M (t + 17) (st_dp (M t 2) g).toNat).toNat = -1 then st_draw g else st_hand t M (st_dp (M t 2) g).toNat (st_draw g)
def st_do (t : Nat) (M : ab_M) (p : Int) (g : Nat → Int) : Nat → Int := if st_fo t M g p (M t 3).toNat 0 ≠ -1 ∧ g 2 = p then st_fin t M (st_fo t M g p (M t 3).toNat 0).toNat g else pu_u g 0 (g 0 + 1)
def st_turn (t : Nat) (M : ab_M) (g : Nat → Int) : Nat → Int := st_do t M (st_dp (M t 2) g) (st_go t M g)
def st_it (t : Nat) (M : ab_M) (g : Nat → Int) : Nat → (Nat → Int)
  | 0 => g
  | n + 1 => st_turn t M (st_it t M g n)
theorem vs_go {t : Nat} {M : ab_M} {B : Int} {g : Nat → Int} (h : pu_dat t M) (v : pu_vs t M B g) (hn : 0 < M t 2) : pu_vs t M (B + 180) (st_go t M g) := by
  have hp := st_dp_rg hn g
  unfold st_go
  by_cases c : M (t + 10 + (g 1).toNat) (M (t + 17) (st_dp (M t 2) g).toNat).toNat = -1
  · rw [if_pos c]; exact vs_mono (by omega) (vs_draw v)
  · rw [if_neg c]; exact vs_hand h (vs_draw v) _ (by omega) c
theorem vs_do {t : Nat} {M : ab_M} {B : Int} {g : Nat → Int} (h : pu_dat t M) (v : pu_vs t M B g) (hB : B + 30 ≤ 97000) (p : Int) : pu_vs t M (B + 30) (st_do t M p g) := by
  have r := st_fo_rg t M g p (M t 3).toNat 0
  unfold st_do
  by_cases c : st_fo t M g p (M t 3).toNat 0 ≠ -1 ∧ g 2 = p
  · rw [if_pos c]; exact vs_fin h v hB _ (by omega)
  · rw [if_neg c]; exact vs_inc v
theorem vs_turn {t : Nat} {M : ab_M} {B : Int} {g : Nat → Int} (h : pu_dat t M) (v : pu_vs t M B g) (hB : B + 210 ≤ 97000) (hn : 0 < M t 2) : pu_vs t M (B + 210) (st_turn t M g) :=
  vs_mono (by omega) (vs_do h (vs_go h v hn) (by omega) _)
theorem vs_it {t : Nat} {M : ab_M} {B : Int} {g : Nat → Int} (h : pu_dat t M) (v : pu_vs t M B g) (hB : B ≤ 90000) (hn : 0 < M t 2) : ∀ n : Nat, n ≤ 30 → pu_vs t M (B + 210 * n) (st_it t M g n) := by
  intro n
  induction n with
  | zero => intro _; exact vs_mono (by omega) v
  | succ n ih => intro q; exact vs_mono (by omega) (vs_turn h (ih (by omega)) (by omega) hn)
theorem s98 {d t : Nat} {M : ab_M} (hd : 5 ≤ d) (h : pu_dat t M) {B : Int} {g : Nat → Int} (v : pu_vs t M B g) (hB : B ≤ 900000) (hn : 0 < M t 2) : ab_ev d 98 [.inr (.inr 0)] (pu_put M g) none (pu_put M (st_turn t M g)) := by
  have hp := st_dp_rg hn g
  have ht : t = 5 ∨ t = 37 := h.1.2.2.1
  have r0 : ∀ g', pu_put M g' t 2 = M t 2 := fun g' => put_r (by omega)
  obtain ⟨p, ep⟩ : ∃ p : Nat, st_dp (M t 2) g = (p : Int) := ⟨(st_dp (M t 2) g).toNat, by omega⟩
  have w1 := s48 (d := d - 1) (by omega) h.1 v.2.2.2.1 (M t 2) hn
  have w2 := s45 (d := d - 1) (by omega) h (vs_draw v) p (by omega)
  rw [ep] at w1
  have main : ∀ g2, pu_vs t M (B + 180) g2 → ∀ Q : Option ab_V → ab_M → Prop, Q none (pu_put M (st_do t M p g2)) → ∃ r3 M3, ab_ev (d - 1) 99 [.inr (.inr 0), .inl (p : Int)] (pu_put M g2) (some (.inl r3)) M3 ∧ pu_str t M3 ∧ (r3 = (-1) → ab_wp d 98 79 [some (.inr (.inr 0)), some (.inl (p : Int)), some (.inl r3)] [] M3 Q) ∧ (r3 ≠ (-1) → (M3 69 2 ≠ (p : Int) → ab_wp d 98 79 [some (.inr (.inr 0)), some (.inl (p : Int)), some (.inl r3)] [] M3 Q) ∧ (M3 69 2 = (p : Int) → ∃ M4, ab_ev (d - 1) 47 [.inr (.inr 69), .inr (.inr t), .inl r3] M3 none M4 ∧ pu_str t M4 ∧ Q none M4)) := by
    intro g2 v2 Q hQ
    have fo := st_fo_rg t M g2 p (M t 3).toNat 0
    have q0 : pu_put M g2 69 0 = g2 0 := put_s (by omega)
    have q2 : pu_put M g2 69 2 = g2 2 := put_s (by omega)
    have S2 := str_put h.1 g2
    have v0 := v2.1
    refine ⟨_, _, s99 (by omega) h g2 p, S2, fun q => ?_, fun q => ⟨fun z => ?_, fun z => ?_⟩⟩
    · refine b98_79 (by omega) S2 ?_
      rw [q0, put_w M g2 (by omega)]
      unfold st_do at hQ
      rw [if_neg (fun z => z.1 q)] at hQ
      exact ⟨by omega, hQ⟩
    · refine b98_79 (by omega) S2 ?_
      rw [q2] at z
      rw [q0, put_w M g2 (by omega)]
      unfold st_do at hQ
      rw [if_neg (fun y => z y.2)] at hQ
      exact ⟨by omega, hQ⟩
    · rw [q2] at z
      unfold st_do at hQ
      rw [if_pos ⟨q, z⟩] at hQ
      have w := s47 (d := d - 1) (by omega) h v2 (by omega) (st_fo t M g2 p (M t 3).toNat 0).toNat (by omega)
      rw [show ((st_fo t M g2 p (M t 3).toNat 0).toNat : Int) = st_fo t M g2 p (M t 3).toNat 0 from by omega] at w
      exact ⟨_, w, str_put h.1 _, hQ⟩
  refine ev_wp (b98_0 (by omega) (str_put h.1 g) ?_)
  rw [r0]
  refine ⟨_, _, w1, str_put h.1 _, _, _, w2, str_put h.1 _, fun q => ?_, fun q => ?_⟩
  · refine main (st_draw g) (vs_mono (by omega) (vs_draw v)) _ ⟨rfl, ?_⟩
    unfold st_turn st_go
    rw [ep, Int.toNat_natCast, if_pos]
    by_cases c : M (t + 10 + (g 1).toNat) (M (t + 17) p).toNat = -1
    · exact c
    · rw [show (st_draw g 1) = g 1 from rfl, if_neg c] at q
      omega
  · have c : M (t + 10 + (g 1).toNat) (M (t + 17) p).toNat ≠ -1 := by
      intro c
      rw [show (st_draw g 1) = g 1 from rfl, if_pos c] at q
      exact q rfl
    refine ⟨_, s46 (by omega) h (vs_draw v) (by omega) p (by omega), str_put h.1 _, main _ (vs_hand h (vs_draw v) p (by omega) c) _ ⟨rfl, ?_⟩⟩
    unfold st_turn st_go
    rw [ep, Int.toNat_natCast, if_neg c]
