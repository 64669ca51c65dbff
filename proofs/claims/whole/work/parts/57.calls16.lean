/-- both states after a call: what both hold is g -/
theorem inv_put {t : Nat} {M : ab_M} (h : pu_inv t M) {g : Nat → Int} (v : pu_vs t M 97000 g) : pu_inv t (pu_putm (pu_put M g) g) := by
  obtain ⟨v1, v2, v3, v4, v5⟩ := v
  have ht : t = 5 ∨ t = 37 := h.1.2.2.1
  refine inv_now h (str_putm (str_put h.1 g) g) ?_ (of_now ?_)
  · intro k f hk
    rw [putm_r (by omega), put_r (by omega)]
  · have e0 : pu_putm (pu_put M g) g t 0 = M t 0 := by rw [putm_r (by omega), put_r (by omega)]
    have e2 : pu_putm (pu_put M g) g t 2 = M t 2 := by rw [putm_r (by omega), put_r (by omega)]
    have a : ∀ b, b < 4 → pu_putm (pu_put M g) g 69 b = g b := fun b hb => by rw [putm_r (by omega), put_s hb]
    have c : ∀ b, b < 10 → pu_putm (pu_put M g) g 112 b = g b := fun b hb => putm_s hb
    rw [e0, e2, a 0 (by omega), a 1 (by omega), a 2 (by omega), a 3 (by omega), c 0 (by omega), c 1 (by omega), c 2 (by omega), c 3 (by omega)]
    refine ⟨⟨rfl, v1⟩, fun _ => ⟨rfl, v2⟩, fun q => by omega, Or.inl ⟨rfl, v3⟩, ⟨rfl, v4⟩, fun i hi => ?_⟩
    rw [c _ (by omega), putm_r (by omega), put_d hi]
    exact ⟨rfl, v5 i hi⟩
/-- where there are people, both states are one -/
theorem now_sg {t : Nat} {M : ab_M} (h : pu_inv t M) (hn : 0 < M t 2) : pu_vs t M 97000 (pu_sg M) ∧ ∀ i, i < 10 → M 112 i = pu_sg M i := by
  obtain ⟨hS, h1, h2, h3, h4, h5, hr⟩ := id h
  obtain ⟨a1, a2, a3, a4, a5, a6⟩ := now_of h5
  obtain ⟨t1, t2, t3, t4, t5, _⟩ := h1
  have hs : 0 < M t 0 := by omega
  have a2 := a2 hs
  have a4 : M 112 2 = M 69 2 ∧ -1 ≤ M 69 2 ∧ M 69 2 < M t 2 := by omega
  refine ⟨⟨a1.2, a2.2, a4.2, a5.2, fun i hi => ?_⟩, fun i hi => ?_⟩
  · unfold pu_sg
    rw [if_neg (by omega), show 4 + i - 4 = i from by omega]
    exact (a6 i hi).2
  · unfold pu_sg
    by_cases c : i < 4
    · rw [if_pos c]
      obtain rfl | rfl | rfl | rfl : i = 0 ∨ i = 1 ∨ i = 2 ∨ i = 3 := by omega
      · exact a1.1
      · exact a2.1
      · exact a4.1
      · exact a5.1
    · rw [if_neg c]
      have := (a6 (i - 4) (by omega)).1
      rw [show 4 + (i - 4) = i from by omega] at this
      exact this
theorem putm_ext (M : ab_M) {g g' : Nat → Int} (h : ∀ i, i < 10 → g i = g' i) : pu_putm M g = pu_putm M g' := by
  funext a b
  unfold pu_putm
  by_cases q : a = 112 ∧ b < 10
  · rw [if_pos q, if_pos q]; exact h b q.2
  · rw [if_neg q, if_neg q]
/-- what the class did to M's state, seen by the model -/
theorem put_back {t : Nat} {M : ab_M} (h : pu_inv t M) (hn : 0 < M t 2) (g : Nat → Int) : pu_put M g = pu_putm (pu_put M g) (pu_sg M) := by
  have e := (now_sg h hn).2
  funext a b
  unfold pu_putm
  by_cases q : a = 112 ∧ b < 10
  · rw [if_pos q, put_r (by omega), q.1, e b q.2]
  · rw [if_neg q]
theorem fo_ext {t : Nat} {M M' : ab_M} (ht : pu_T t) (e : ∀ k f : Nat, k ≠ 69 → k ≠ 70 → M' k f = M k f) (g : Nat → Int) (p : Int) : ∀ n i, st_fo t M' g p n i = st_fo t M g p n i := by
  have ht' : t = 5 ∨ t = 37 := ht
  intro n
  induction n with
  | zero => intro i; rfl
  | succ n ih =>
    intro i
    rw [fo_s, fo_s]
    unfold st_how
    rw [e (t + 19) i (by omega) (by omega), e (t + 20) i (by omega) (by omega), e (t + 21) i (by omega) (by omega), ih]
theorem hand_ext {t : Nat} {M M' : ab_M} (ht : pu_T t) (e : ∀ k f : Nat, k ≠ 69 → k ≠ 70 → M' k f = M k f) {g : Nat → Int} (h1 : 0 ≤ g 1 ∧ g 1 < 7) (p : Nat) : st_hand t M' p g = st_hand t M p g := by
  have ht' : t = 5 ∨ t = 37 := ht
  unfold st_hand
  rw [e (t + 17) p (by omega) (by omega), e (t + 10 + (g 1).toNat) _ (by omega) (by omega)]
theorem fin_ext {t : Nat} {M M' : ab_M} (ht : pu_T t) (e : ∀ k f : Nat, k ≠ 69 → k ≠ 70 → M' k f = M k f) {g : Nat → Int} (i : Nat) : st_fin t M' i g = st_fin t M i g := by
  have ht' : t = 5 ∨ t = 37 := ht
  unfold st_fin
  rw [e (t + 20) i (by omega) (by omega)]
theorem turn_ext {t : Nat} {M M' : ab_M} (ht : pu_T t) (e : ∀ k f : Nat, k ≠ 69 → k ≠ 70 → M' k f = M k f) {g : Nat → Int} (h1 : 0 ≤ g 1 ∧ g 1 < 7) : st_turn t M' g = st_turn t M g := by
  have ht' : t = 5 ∨ t = 37 := ht
  unfold st_turn
  have e1 : st_go t M' g = st_go t M g := by
    unfold st_go st_hand
    rw [show (st_draw g 1) = g 1 from rfl, e t 2 (by omega) (by omega), e (t + 17) _ (by omega) (by omega), e (t + 10 + (g 1).toNat) _ (by omega) (by omega)]
  rw [e1, e t 2 (by omega) (by omega)]
  unfold st_do st_fin
  rw [fo_ext ht e, e t 3 (by omega) (by omega), e (t + 20) _ (by omega) (by omega)]
theorem it_ext {t : Nat} {M M' : ab_M} (h : pu_dat t M) (hn : 0 < M t 2) (e : ∀ k f : Nat, k ≠ 69 → k ≠ 70 → M' k f = M k f) {B : Int} (hB : B ≤ 90000) {g : Nat → Int} (v : pu_vs t M B g) : ∀ n, n ≤ 30 → st_it t M' g n = st_it t M g n := by
  intro n
  induction n with
  | zero => intro _; rfl
  | succ n ih =>
    intro q
    have := (vs_it h v hB hn n (by omega)).2.1
    have t1 := h.2.1.1
    unfold st_it
    rw [ih (by omega)]
    exact turn_ext h.1.2.2.1 e (by omega)
theorem vs_ext {t : Nat} {M M' : ab_M} (ht : pu_T t) (e : ∀ k f : Nat, k ≠ 69 → k ≠ 70 → M' k f = M k f) {B : Int} {g : Nat → Int} (v : pu_vs t M B g) : pu_vs t M' B g := by
  have ht' : t = 5 ∨ t = 37 := ht
  unfold pu_vs
  rw [e t 0 (by omega) (by omega), e t 2 (by omega) (by omega)]
  exact v
theorem c_drift {t : Nat} {M : ab_M} (h : pu_inv t M) (x : Int) : pu_both 78 147 [.inl x] t M := by
  obtain ⟨hS, h1, h2, h3, h4, h5, hr⟩ := id h
  obtain ⟨a1, a2, a3, a4, a5, a6⟩ := now_of h5
  obtain ⟨t1, t2, t3, t4, t5, _⟩ := id h1
  obtain ⟨m1, m2, m3, _⟩ := id h2
  have ht : t = 5 ∨ t = 37 := hS.2.2.1
  by_cases c : 1 ≤ x ∧ x ≤ 30
  · by_cases c1 : M t 2 = 0
    · refine ⟨-1000000003, t, M, M, ev_wp (b78_0 (by omega) hS ⟨fun q => by omega, fun _ => ⟨fun _ => ⟨fun q => by omega, fun _ => ⟨rfl, rfl⟩⟩, fun q => by omega⟩⟩), hS, ev_wp (b147_0 (by omega) hS ⟨_, _, s107 (by omega) hS x 1 30, hS, fun _ => ⟨fun q => by omega, fun _ => ⟨rfl, rfl⟩⟩, fun q => ?_⟩), h⟩
      rw [if_pos c] at q
      omega
    · have hn : 0 < M t 2 := by omega
      by_cases c2 : M 69 0 ≤ 90000
      · have hd := inv_dat h
        have v0 : pu_vs t M 90000 (pu_sg M) := by
          obtain ⟨w1, w2⟩ := (now_sg h hn).1
          exact ⟨⟨w1.1, c2⟩, w2⟩
        obtain ⟨n, rfl⟩ : ∃ n : Nat, x = (n : Int) := ⟨x.toNat, by omega⟩
        have v : ∀ i : Nat, i ≤ 30 → pu_vs t M (90000 + 210 * i) (st_it t M (pu_sg M) i) := vs_it hd v0 (by omega) hn
        have s1 : pu_str t (pu_put M (st_it t M (pu_sg M) n)) := str_put hS _
        have e : ∀ k f : Nat, k ≠ 69 → k ≠ 70 → pu_put M (st_it t M (pu_sg M) n) k f = M k f := fun k f a b => put_r ⟨a, b⟩
        have hd' := dat_put hd (st_it t M (pu_sg M) n)
        have ei := it_ext hd hn e (by omega) v0
        have v0' : pu_vs t (pu_put M (st_it t M (pu_sg M) n)) 90000 (pu_sg M) := vs_ext hS.2.2.1 e v0
        have e2 : pu_put M (st_it t M (pu_sg M) n) t 2 = M t 2 := e t 2 (by omega) (by omega)
        have v' : ∀ i : Nat, i ≤ 30 → pu_vs t (pu_put M (st_it t M (pu_sg M) n)) (90000 + 210 * i) (st_it t (pu_put M (st_it t M (pu_sg M) n)) (pu_sg M) i) := vs_it hd' v0' (by omega) (by omega)
        refine ⟨st_it t M (pu_sg M) n 0, t, pu_put M (st_it t M (pu_sg M) n), pu_putm (pu_put M (st_it t M (pu_sg M) n)) (st_it t M (pu_sg M) n), ev_wp (b78_0 (by omega) hS ⟨fun q => by omega, fun _ => ⟨fun _ => ⟨fun _ => ⟨fun _ => ?_, fun q => by omega⟩, fun q => by omega⟩, fun q => by omega⟩⟩), s1, ?_, inv_put h (vs_mono (by omega) (v n (by omega)))⟩
        · have main := loop_up (P := fun i => ab_wp 29 78 44 [some (.inr (.inr 0)), some (.inl (n : Int)), some (.inl (i : Int))] [] (pu_put M (st_it t M (pu_sg M) i)) (fun r M' => r = some (.inl (st_it t M (pu_sg M) n 0)) ∧ M' = pu_put M (st_it t M (pu_sg M) n))) n ?_ ?_ 0 (by omega)
          · have main : ab_wp 29 78 44 [some (.inr (.inr 0)), some (.inl (n : Int)), some (.inl ((0 : Nat) : Int))] [] (pu_put M (pu_sg M)) _ := main
            rw [put_sg] at main
            exact main
          · exact b78_44 (by omega) s1 ⟨fun _ => ⟨by rw [put_s (by omega)], rfl⟩, fun q => by omega⟩
          · intro i hi ih
            rw [Int.natCast_succ] at ih
            exact b78_44 (by omega) (str_put hS _) ⟨fun q => by omega, fun _ => ⟨_, s98 (by omega) hd (v i (by omega)) (by omega) hn, str_put hS _, by omega, ih⟩⟩
        · have s1' := str_putm s1 (pu_sg M)
          have q9 : pu_putm (pu_put M (st_it t M (pu_sg M) n)) (pu_sg M) 103 9 = M t 2 := by rw [putm_r (by omega), put_r (by omega)]; exact m2
          have q0 : pu_putm (pu_put M (st_it t M (pu_sg M) n)) (pu_sg M) 112 0 = M 69 0 := by rw [putm_s (by omega)]; rfl
          suffices w : ab_ev 29 147 [.inr (.inr 103), .inl (n : Int)] (pu_putm (pu_put M (st_it t M (pu_sg M) n)) (pu_sg M)) (some (.inl (st_it t M (pu_sg M) n 0))) (pu_putm (pu_put M (st_it t M (pu_sg M) n)) (st_it t M (pu_sg M) n))  by
            rw [← put_back h hn (st_it t M (pu_sg M) n)] at w
            exact w
          refine ev_wp (b147_0 (by omega) s1' ⟨_, _, s107 (by omega) s1' n 1 30, s1', fun _ => ⟨fun _ => ⟨fun _ => ?_, fun q => by omega⟩, fun q => by omega⟩, fun q => by rw [if_pos c] at q; omega⟩)
          have main := loop_up (P := fun i => ∀ y3 y4 y5 y6, ab_wp 29 147 41 [some (.inr (.inr 103)), some (.inl (n : Int)), some (.inl (i : Int)), y3, y4, y5, y6] [] (pu_putm (pu_put M (st_it t M (pu_sg M) n)) (st_it t (pu_put M (st_it t M (pu_sg M) n)) (pu_sg M) i)) (fun r M' => r = some (.inl (st_it t M (pu_sg M) n 0)) ∧ M' = pu_putm (pu_put M (st_it t M (pu_sg M) n)) (st_it t M (pu_sg M) n))) n ?_ ?_ 0 (by omega)
          · exact main _ _ _ _
          · intro y3 y4 y5 y6
            rw [ei n (by omega)]
            exact b147_41 (by omega) (str_putm s1 _) ⟨fun _ => ⟨by rw [putm_s (by omega)], rfl⟩, fun q => by omega⟩
          · intro i hi ih y3 y4 y5 y6
            rw [Int.natCast_succ] at ih
            exact s147_turn (by omega) hd' (v' i (by omega)) (by omega) (by omega) _ _ (by omega) (by omega) _ _ _ _ ih
      · refine ⟨-1000000004, t, M, M, ev_wp (b78_0 (by omega) hS ⟨fun q => by omega, fun _ => ⟨fun _ => ⟨fun _ => ⟨fun q => by omega, fun _ => ⟨rfl, rfl⟩⟩, fun q => by omega⟩, fun q => by omega⟩⟩), hS, ev_wp (b147_0 (by omega) hS ⟨_, _, s107 (by omega) hS x 1 30, hS, fun _ => ⟨fun _ => ⟨fun q => by omega, fun _ => ⟨rfl, rfl⟩⟩, fun q => by omega⟩, fun q => ?_⟩), h⟩
        rw [if_pos c] at q
        omega
  · refine ⟨-1000000002, t, M, M, ev_wp (b78_0 (by omega) hS ⟨fun _ => ⟨rfl, rfl⟩, fun _ => ⟨fun _ => by omega, fun _ => ⟨rfl, rfl⟩⟩⟩), hS, ev_wp (b147_0 (by omega) hS ⟨_, _, s107 (by omega) hS x 1 30, hS, fun q => ?_, fun _ => ⟨rfl, rfl⟩⟩), h⟩
    rw [if_neg c] at q
    omega
theorem c_lend {t : Nat} {M : ab_M} (h : pu_inv t M) (x : Int) : pu_both 74 140 [.inl x] t M := by
  obtain ⟨hS, h1, h2, h3, h4, h5, hr⟩ := id h
  obtain ⟨t1, t2, t3, t4, t5, _, t7, _⟩ := id h1
  obtain ⟨m1, m2, m3, _, _, m6, _⟩ := id h2
  have ht : t = 5 ∨ t = 37 := hS.2.2.1
  have hd := inv_dat h
  by_cases c : 0 ≤ x ∧ x < M t 2
  · obtain ⟨p, rfl⟩ : ∃ p : Nat, x = (p : Int) := ⟨x.toNat, by omega⟩
    have hn : 0 < M t 2 := by omega
    have tp := t7 p c.2
    have mp := m6 p c.2
    obtain ⟨v, ev⟩ := now_sg h hn
    have e1 := ev 1 (by omega)
    have e0 := ev 0 (by omega)
    have g1 : pu_sg M 1 = M 69 1 := rfl
    have g0 : pu_sg M 0 = M 69 0 := rfl
    have vv := v.2.1
    have w52 := s52 (d := 28) (by omega) hS hS.2.2.1 (p : Int)
    rw [if_pos c] at w52
    have w45 := s45 (d := 28) (by omega) hd v p c.2
    rw [put_sg] at w45
    have gg := h3 (pu_sg M 1).toNat (M (t + 17) p).toNat (by omega) (by omega) (by omega) (by omega)
    have w110 := fun (M' : ab_M) (hS' : pu_str t M') (e : M' 103 9 = M t 2) => s110 (d := 28) (by omega) hS' (by omega) (p : Int)
    by_cases c1 : M (t + 10 + (pu_sg M 1).toNat) (M (t + 17) p).toNat = -1
    · rw [if_pos c1] at w45
      have w2 := s132 (d := 28) (by omega) h (M 112 1) (M 107 p) (by omega) (by omega)
      rw [e1, mp.1, c1] at w2
      have w3 := w110 M hS m2
      rw [m2, if_pos c] at w3
      refine ⟨-1000000003, t, M, M, ev_wp (b74_0 (by omega) hS ⟨_, _, w52, hS, fun _ => ⟨_, _, w45, hS, fun q => by omega, fun _ => ⟨rfl, rfl⟩⟩, fun q => by omega⟩), hS, ev_wp (b140_0 (by omega) hS ⟨_, _, w3, hS, fun _ => ⟨by omega, ?_⟩, fun q => by omega⟩), h⟩
      rw [Int.toNat_natCast, e1, mp.1]
      exact ⟨_, _, w2, hS, fun q => by omega, fun _ => ⟨rfl, rfl⟩⟩
    · rw [if_neg c1] at w45
      by_cases c2 : M 69 0 ≤ 90000
      · have v9 : pu_vs t M 90000 (pu_sg M) := ⟨⟨v.1.1, c2⟩, v.2⟩
        have w46 := s46 (d := 28) (by omega) hd v (by omega) p c.2
        rw [put_sg] at w46
        have vh := vs_mono (B' := 97000) (by omega) (vs_hand hd v9 p c.2 c1)
        have hd' := dat_put hd (st_hand t M p (pu_sg M))
        have e : ∀ k f : Nat, k ≠ 69 → k ≠ 70 → pu_put M (st_hand t M p (pu_sg M)) k f = M k f := fun k f a b => put_r ⟨a, b⟩
        have v' := vs_ext hS.2.2.1 e v
        have w141 := s141 (d := 28) (by omega) hd' v' (by omega) p (by rw [e t 2 (by omega) (by omega)]; exact c.2)
        have eh : st_hand t (pu_put M (st_hand t M p (pu_sg M))) p (pu_sg M) = st_hand t M p (pu_sg M) := hand_ext hS.2.2.1 e (by omega) p
        rw [eh, ← put_back h hn, e (t + 17) p (by omega) (by omega), e (t + 10 + (pu_sg M 1).toNat) _ (by omega) (by omega)] at w141
        have s1 := str_put hS (st_hand t M p (pu_sg M))
        have w2 := s132d (d := 28) (by omega) hd' (pu_sg M 1) (M (t + 17) p) (by rw [e t 0 (by omega) (by omega)]; omega) (by rw [e t 0 (by omega) (by omega)]; omega)
        rw [e (t + 10 + (pu_sg M 1).toNat) _ (by omega) (by omega)] at w2
        have w3 := w110 _ s1 (by rw [e 103 9 (by omega) (by omega)]; exact m2)
        rw [e 103 9 (by omega) (by omega), m2, if_pos c] at w3
        refine ⟨st_hand t M p (pu_sg M) 0, t, _, pu_putm (pu_put M (st_hand t M p (pu_sg M))) (st_hand t M p (pu_sg M)), ev_wp (b74_0 (by omega) hS ⟨_, _, w52, hS, fun _ => ⟨_, _, w45, hS, fun _ => ⟨fun _ => ⟨_, w46, s1, by rw [put_s (by omega)], rfl⟩, fun q => by omega⟩, fun q => by omega⟩, fun q => by omega⟩), s1, ev_wp (b140_0 (by omega) s1 ⟨_, _, w3, s1, fun _ => ⟨by omega, ?_⟩, fun q => by omega⟩), inv_put h vh⟩
        rw [Int.toNat_natCast, e 112 1 (by omega) (by omega), e 107 p (by omega) (by omega), e1, mp.1]
        refine ⟨_, _, w2, s1, fun _ => ⟨fun _ => ⟨_, w141, str_putm s1 _, by rw [putm_s (by omega)], rfl⟩, fun q => ?_⟩, fun q => by omega⟩
        rw [e 112 0 (by omega) (by omega)] at q
        omega
      · have w2 := s132 (d := 28) (by omega) h (M 112 1) (M 107 p) (by omega) (by omega)
        rw [e1, mp.1] at w2
        have w3 := w110 M hS m2
        rw [m2, if_pos c] at w3
        refine ⟨-1000000004, t, M, M, ev_wp (b74_0 (by omega) hS ⟨_, _, w52, hS, fun _ => ⟨_, _, w45, hS, fun _ => ⟨fun q => by omega, fun _ => ⟨rfl, rfl⟩⟩, fun q => by omega⟩, fun q => by omega⟩), hS, ev_wp (b140_0 (by omega) hS ⟨_, _, w3, hS, fun _ => ⟨by omega, ?_⟩, fun q => by omega⟩), h⟩
        rw [Int.toNat_natCast, e1, mp.1]
        exact ⟨_, _, w2, hS, fun _ => ⟨fun q => by omega, fun _ => ⟨rfl, rfl⟩⟩, fun q => by omega⟩
  · have w52 := s52 (d := 28) (by omega) hS hS.2.2.1 x
    rw [if_neg c] at w52
    have w3 := s110 (d := 28) (by omega) hS (by omega) x
    rw [m2, if_neg c] at w3
    exact ⟨-1000000001, t, M, M, ev_wp (b74_0 (by omega) hS ⟨_, _, w52, hS, fun q => by omega, fun _ => ⟨rfl, rfl⟩⟩), hS, ev_wp (b140_0 (by omega) hS ⟨_, _, w3, hS, fun q => by omega, fun _ => ⟨rfl, rfl⟩⟩), h⟩
theorem c_act {t : Nat} {M : ab_M} (h : pu_inv t M) (x : Int) : pu_both 75 143 [.inl x] t M := by
  obtain ⟨hS, h1, h2, h3, h4, h5, hr⟩ := id h
  obtain ⟨t1, t2, t3, t4, t5, _, t7, t8, _⟩ := id h1
  obtain ⟨m1, m2, m3, _, _, m6, m7, _⟩ := id h2
  have ht : t = 5 ∨ t = 37 := hS.2.2.1
  have hd := inv_dat h
  by_cases c : 0 ≤ x ∧ x < M t 3
  · obtain ⟨i, rfl⟩ : ∃ i : Nat, x = (i : Int) := ⟨x.toNat, by omega⟩
    have ti := t8 i c.2
    have mi := m7 i c.2
    have hn : 0 < M t 2 := by omega
    obtain ⟨v, ev⟩ := now_sg h hn
    have e2 := ev 2 (by omega)
    have e0 := ev 0 (by omega)
    have g2 : pu_sg M 2 = M 69 2 := rfl
    have g0 : pu_sg M 0 = M 69 0 := rfl
    have e5 : (5 * (i : Int)).toNat = 5 * i := by omega
    have w54 := s54 (d := 28) (by omega) hS hS.2.2.1 (i : Int)
    rw [if_pos c] at w54
    have w44 := s44p (d := 28) (by omega) hd (pu_sg M) i c.2
    rw [put_sg] at w44
    have w111 := fun (M' : ab_M) (hS' : pu_str t M') (e : M' 103 11 = M t 3) => s111 (d := 28) (by omega) hS' (by omega) (i : Int)
    by_cases c1 : st_how t M (pu_sg M) i = 0 ∧ M 69 2 = M (t + 19) i
    · have c2 : M 69 0 ≤ 90000 := by
        have := c1.1
        unfold st_how pu_how at this
        by_cases z : pu_sg M (4 + i) = -1
        · by_cases y : M (t + 21) i - M (t + 20) i < pu_sg M 0
          · rw [if_neg (fun f => f z), if_pos y] at this; omega
          · omega
        · rw [if_pos z] at this; omega
      have v9 : pu_vs t M 90000 (pu_sg M) := ⟨⟨v.1.1, c2⟩, v.2⟩
      have w47 := s47 (d := 28) (by omega) hd v (by omega) i c.2
      rw [put_sg] at w47
      have vh := vs_mono (B' := 97000) (by omega) (vs_fin hd v9 (by omega) i c.2)
      have hd' := dat_put hd (st_fin t M i (pu_sg M))
      have e : ∀ k f : Nat, k ≠ 69 → k ≠ 70 → pu_put M (st_fin t M i (pu_sg M)) k f = M k f := fun k f a b => put_r ⟨a, b⟩
      have v' := vs_ext hS.2.2.1 e v
      have w142 := s142 (d := 28) (by omega) hd' v' (by omega) i (by rw [e t 3 (by omega) (by omega)]; exact c.2)
      have eh : st_fin t (pu_put M (st_fin t M i (pu_sg M))) i (pu_sg M) = st_fin t M i (pu_sg M) := fin_ext hS.2.2.1 e i
      rw [eh, ← put_back h hn] at w142
      have w128 := s128p (d := 28) (by omega) hd' v' i (by rw [e t 3 (by omega) (by omega)]; exact c.2)
      have ew : st_how t (pu_put M (st_fin t M i (pu_sg M))) (pu_sg M) i = st_how t M (pu_sg M) i := by
        unfold st_how
        rw [e (t + 20) i (by omega) (by omega), e (t + 21) i (by omega) (by omega)]
      rw [ew, ← put_back h hn] at w128
      have s1 := str_put hS (st_fin t M i (pu_sg M))
      have w3 := w111 _ s1 (by rw [e 103 11 (by omega) (by omega)]; exact m3)
      rw [e 103 11 (by omega) (by omega), m3, if_pos c] at w3
      refine ⟨st_fin t M i (pu_sg M) 0, t, _, pu_putm (pu_put M (st_fin t M i (pu_sg M))) (st_fin t M i (pu_sg M)), ev_wp (b75_0 (by omega) hS ⟨_, _, w54, hS, fun _ => ⟨_, _, w44, hS, fun q => absurd c1.1 q, fun _ => ⟨by omega, fun _ => ⟨_, w47, s1, by rw [put_s (by omega)], rfl⟩, fun q => ?_⟩⟩, fun q => by omega⟩), s1, ev_wp (b143_0 (by omega) s1 ⟨_, _, w3, s1, fun _ => ⟨_, _, w128, s1, fun q => absurd c1.1 q, fun _ => ⟨by omega, by omega, fun _ => ⟨_, w142, str_putm s1 _, by rw [putm_s (by omega)], rfl⟩, fun q => ?_⟩⟩, fun q => by omega⟩), inv_put h vh⟩
      · rw [Int.toNat_natCast] at q
        exact absurd c1.2 q
      · rw [e5, e 112 2 (by omega) (by omega), e 109 _ (by omega) (by omega), mi.1, e2] at q
        exact absurd c1.2 q
    · have w3 := w111 M hS m3
      rw [m3, if_pos c] at w3
      have hM : pu_putm M (pu_sg M) = M := by rw [← putm_ext M ev, putm_sg]
      have w128 := s128p (d := 28) (by omega) hd v i c.2
      rw [hM] at w128
      refine ⟨-1000000003, t, M, M, ev_wp (b75_0 (by omega) hS ⟨_, _, w54, hS, fun _ => ⟨_, _, w44, hS, fun _ => ⟨rfl, rfl⟩, fun z => ⟨by omega, fun q => ?_, fun _ => ⟨rfl, rfl⟩⟩⟩, fun q => by omega⟩), hS, ev_wp (b143_0 (by omega) hS ⟨_, _, w3, hS, fun _ => ⟨_, _, w128, hS, fun _ => ⟨rfl, rfl⟩, fun z => ⟨by omega, by omega, fun q => ?_, fun _ => ⟨rfl, rfl⟩⟩⟩, fun q => by omega⟩), h⟩
      · rw [Int.toNat_natCast] at q
        exact absurd ⟨z, q⟩ c1
      · rw [e5, mi.1, e2] at q
        exact absurd ⟨z, q⟩ c1
  · have w54 := s54 (d := 28) (by omega) hS hS.2.2.1 x
    rw [if_neg c] at w54
    have w3 := s111 (d := 28) (by omega) hS (by omega) x
    rw [m3, if_neg c] at w3
    exact ⟨-1000000001, t, M, M, ev_wp (b75_0 (by omega) hS ⟨_, _, w54, hS, fun q => by omega, fun _ => ⟨rfl, rfl⟩⟩), hS, ev_wp (b143_0 (by omega) hS ⟨_, _, w3, hS, fun q => by omega, fun _ => ⟨rfl, rfl⟩⟩), h⟩
