theorem l229 {d t : Nat} {x1 : Int} {A : ab_M} {Q : Option ab_V → ab_M → Prop} (hd : 1 ≤ d) (hA : pu_str t A) (go : ∀ M', pu_str t M' → (∀ c f : Nat, c ≠ 112 → M' c f = A c f) → (∀ f : Nat, f < 4 → M' 112 f = A 112 f) → (∀ i : Nat, i < 6 → M' 112 (4 + i) = -1) → Q (some (.inl (M' 103 11))) (ab_w (ab_w (ab_w (ab_w M' 103 17 0) 103 19 0) 130 0 0) 130 1 0)) : ab_wp d 126 229 [some (.inr (.inr 103)), some (.inl x1), some (.inl 0)] [] A Q := by
  refine loop_up (P := fun i => ∀ M', pu_str t M' → (∀ c f : Nat, c ≠ 112 → M' c f = A c f) → (∀ f : Nat, f < 4 → M' 112 f = A 112 f) → (∀ j : Nat, j < i → M' 112 (4 + j) = -1) → ab_wp d 126 229 [some (.inr (.inr 103)), some (.inl x1), some (.inl (i : Int))] [] M' Q) 6 ?_ ?_ 0 (by omega) A hA (fun _ _ _ => rfl) (fun _ _ => rfl) (fun j hj => by omega)
  · intro M' s f g v
    exact b126_229 hd s ⟨fun _ => go M' s f g v, fun q => by omega⟩
  · intro i hi ih M' s f g v
    refine b126_229 hd s ⟨fun q => by omega, fun _ => ⟨by omega, by omega, by omega, ?_⟩⟩
    rw [show (4 + (i : Int)).toNat = 4 + i from by omega, ← Int.natCast_succ]
    refine ih _ (str_a s rfl) (fun c f' q => by rw [w_ne (by omega)]; exact f c f' q) (fun f' q => by rw [w_ne (by omega)]; exact g f' q) (fun j hj => ?_)
    by_cases c : j = i
    · rw [c, ab_w_eq]
    · rw [w_ne (by omega)]; exact v j (by omega)
theorem l180 {d t : Nat} {x1 : Int} {A : ab_M} {Q : Option ab_V → ab_M → Prop} (hd : 1 ≤ d) (hA : pu_str t A) (go : ∀ M', pu_str t M' → (∀ c f : Nat, c ≠ 111 → M' c f = A c f) → (∀ i : Nat, i < 4 → M' 111 i = A 119 i) → ab_wp d 126 229 [some (.inr (.inr 103)), some (.inl x1), some (.inl 0)] [] (ab_w (ab_w (ab_w M' 112 0 0) 112 1 (M' 103 4)) 112 2 (-1)) Q) : ab_wp d 126 180 [some (.inr (.inr 103)), some (.inl x1), some (.inl 0)] [] A Q := by
  refine loop_up (P := fun i => ∀ M', pu_str t M' → (∀ c f : Nat, c ≠ 111 → M' c f = A c f) → (∀ j : Nat, j < i → M' 111 j = A 119 j) → ab_wp d 126 180 [some (.inr (.inr 103)), some (.inl x1), some (.inl (i : Int))] [] M' Q) 4 ?_ ?_ 0 (by omega) A hA (fun _ _ _ => rfl) (fun j hj => by omega)
  · intro M' s f v
    exact b126_180 hd s ⟨fun _ => go M' s f v, fun q => by omega⟩
  · intro i hi ih M' s f v
    refine b126_180 hd s ⟨fun q => by omega, fun _ => ⟨by omega, by omega, ?_⟩⟩
    rw [Int.toNat_natCast, ← Int.natCast_succ, f 119 i (by omega)]
    refine ih _ (str_a s rfl) (fun c f' q => by rw [w_ne (by omega)]; exact f c f' q) (fun j hj => ?_)
    by_cases c : j = i
    · rw [c, ab_w_eq]
    · rw [w_ne (by omega)]; exact v j (by omega)
theorem l154 {d t : Nat} {x1 : Int} {A : ab_M} {Q : Option ab_V → ab_M → Prop} (hd : 1 ≤ d) (hA : pu_str t A) (go : ∀ M', pu_str t M' → (∀ c f : Nat, c ≠ 110 → M' c f = A c f) → (∀ i : Nat, i < 36 → M' 110 i = A 118 i) → ab_wp d 126 180 [some (.inr (.inr 103)), some (.inl x1), some (.inl 0)] [] M' Q) : ab_wp d 126 154 [some (.inr (.inr 103)), some (.inl x1), some (.inl 0)] [] A Q := by
  refine loop_up (P := fun i => ∀ M', pu_str t M' → (∀ c f : Nat, c ≠ 110 → M' c f = A c f) → (∀ j : Nat, j < i → M' 110 j = A 118 j) → ab_wp d 126 154 [some (.inr (.inr 103)), some (.inl x1), some (.inl (i : Int))] [] M' Q) 36 ?_ ?_ 0 (by omega) A hA (fun _ _ _ => rfl) (fun j hj => by omega)
  · intro M' s f v
    exact b126_154 hd s ⟨fun _ => go M' s f v, fun q => by omega⟩
  · intro i hi ih M' s f v
    refine b126_154 hd s ⟨fun q => by omega, fun _ => ⟨by omega, by omega, ?_⟩⟩
    rw [Int.toNat_natCast, ← Int.natCast_succ, f 118 i (by omega)]
    refine ih _ (str_a s rfl) (fun c f' q => by rw [w_ne (by omega)]; exact f c f' q) (fun j hj => ?_)
    by_cases c : j = i
    · rw [c, ab_w_eq]
    · rw [w_ne (by omega)]; exact v j (by omega)
theorem l128 {d t : Nat} {x1 : Int} {A : ab_M} {Q : Option ab_V → ab_M → Prop} (hd : 1 ≤ d) (hA : pu_str t A) (go : ∀ M', pu_str t M' → (∀ c f : Nat, c ≠ 109 → M' c f = A c f) → (∀ i : Nat, i < 30 → M' 109 i = A 117 i) → ab_wp d 126 154 [some (.inr (.inr 103)), some (.inl x1), some (.inl 0)] [] M' Q) : ab_wp d 126 128 [some (.inr (.inr 103)), some (.inl x1), some (.inl 0)] [] A Q := by
  refine loop_up (P := fun i => ∀ M', pu_str t M' → (∀ c f : Nat, c ≠ 109 → M' c f = A c f) → (∀ j : Nat, j < i → M' 109 j = A 117 j) → ab_wp d 126 128 [some (.inr (.inr 103)), some (.inl x1), some (.inl (i : Int))] [] M' Q) 30 ?_ ?_ 0 (by omega) A hA (fun _ _ _ => rfl) (fun j hj => by omega)
  · intro M' s f v
    exact b126_128 hd s ⟨fun _ => go M' s f v, fun q => by omega⟩
  · intro i hi ih M' s f v
    refine b126_128 hd s ⟨fun q => by omega, fun _ => ⟨by omega, by omega, ?_⟩⟩
    rw [Int.toNat_natCast, ← Int.natCast_succ, f 117 i (by omega)]
    refine ih _ (str_a s rfl) (fun c f' q => by rw [w_ne (by omega)]; exact f c f' q) (fun j hj => ?_)
    by_cases c : j = i
    · rw [c, ab_w_eq]
    · rw [w_ne (by omega)]; exact v j (by omega)
theorem l84 {d t : Nat} {x1 : Int} {A : ab_M} {Q : Option ab_V → ab_M → Prop} (hd : 1 ≤ d) (hA : pu_str t A) (go : ∀ M', pu_str t M' → (∀ c f : Nat, c ≠ 107 → c ≠ 108 → M' c f = A c f) → (∀ i : Nat, i < 6 → M' 107 i = A 116 (2 * i) ∧ M' 108 i = A 116 (2 * i + 1)) → ab_wp d 126 128 [some (.inr (.inr 103)), some (.inl x1), some (.inl 0)] [] M' Q) : ab_wp d 126 84 [some (.inr (.inr 103)), some (.inl x1), some (.inl 0)] [] A Q := by
  refine loop_up (P := fun i => ∀ M', pu_str t M' → (∀ c f : Nat, c ≠ 107 → c ≠ 108 → M' c f = A c f) → (∀ j : Nat, j < i → M' 107 j = A 116 (2 * j) ∧ M' 108 j = A 116 (2 * j + 1)) → ab_wp d 126 84 [some (.inr (.inr 103)), some (.inl x1), some (.inl (i : Int))] [] M' Q) 6 ?_ ?_ 0 (by omega) A hA (fun _ _ _ _ => rfl) (fun j hj => by omega)
  · intro M' s f v
    exact b126_84 hd s ⟨fun _ => go M' s f v, fun q => by omega⟩
  · intro i hi ih M' s f v
    refine b126_84 hd s ⟨fun q => by omega, fun _ => ⟨by omega, by omega, by omega, by omega, by omega, by omega, ?_⟩⟩
    rw [Int.toNat_natCast, ← Int.natCast_succ, show (2 * (i : Int)).toNat = 2 * i from by omega, show (2 * (i : Int) + 1).toNat = 2 * i + 1 from by omega, f 116 (2 * i) (by omega) (by omega), f 116 (2 * i + 1) (by omega) (by omega)]
    refine ih _ (str_a (str_a s rfl) rfl) (fun c f' q q2 => by rw [w_ne (by omega), w_ne (by omega)]; exact f c f' q q2) (fun j hj => ?_)
    by_cases c : j = i
    · rw [c, ab_w_eq, w_ne (by omega), ab_w_eq]; exact ⟨rfl, rfl⟩
    · rw [w_ne (by omega), w_ne (by omega), w_ne (by omega), w_ne (by omega)]; exact v j (by omega)
/-- the model after a good text -/
def tw_m (S A M : ab_M) : Prop :=
  (M 103 1 = 0 ∧ M 103 2 = -1 ∧ M 103 3 = S 0 0 ∧ (S 0 7 = 1 → M 103 4 = S 0 1) ∧ M 103 9 = S 0 2 ∧ M 103 11 = S 0 3 ∧ M 103 14 = S 0 4 ∧ M 103 17 = 0 ∧ M 103 19 = 0 ∧ M 130 0 = 0 ∧ M 130 1 = 0)
  ∧ (M 112 0 = 0 ∧ M 112 1 = M 103 4 ∧ M 112 2 = -1 ∧ M 112 3 = A 112 3 ∧ (∀ i : Nat, i < 6 → M 112 (4 + i) = -1))
  ∧ (∀ p : Nat, (p : Int) < S 0 2 → M 107 p = S 2 p ∧ M 108 p = S 3 p)
  ∧ (∀ i : Nat, (i : Int) < S 0 3 → M 109 (5 * i) = S 4 (5 * i) ∧ M 109 (5 * i + 1) = S 4 (5 * i + 1) ∧ M 109 (5 * i + 2) = S 4 (5 * i + 2) ∧ M 109 (5 * i + 3) = S 4 (5 * i + 3) ∧ M 109 (5 * i + 4) = S 4 (5 * i + 4))
  ∧ (∀ k : Nat, k < 36 → M 110 k = S 5 k)
  ∧ (∀ o : Nat, (o : Int) < S 0 4 → M 111 o = S 6 o)
  ∧ (∀ k : Nat, k < 49 → M 106 k = if S 1 k = -1 then 0 else 1)
  ∧ (∀ a b : Nat, a < 7 → b < 7 → M 105 (7 * a + b) = fw (tw_W S) 7 a b)
  ∧ (∀ c f : Nat, c < 103 → M c f = A c f)
theorem s126 {d t n : Nat} {T : Nat → Int} {A : ab_M} (hd : 8 ≤ d) (hA : pu_str t A) (ht : pb_tx T n A) : ∃ M' r, ab_ev d 126 [.inr (.inr 103)] A (some (.inl r)) M' ∧ pu_str t M' ∧
    (match pa_run T n 250 pa_S0 (pa_sk T n 0) with
      | .inl e => r = -10 - e.1 ∧ M' 103 1 = 0 ∧ M' 103 2 = ((e.2 : Nat) : Int) ∧ (∀ c f : Nat, ¬ (c = 103 ∧ (f = 1 ∨ f = 2 ∨ (20 ≤ f ∧ f ≤ 36))) → ¬ (115 ≤ c ∧ c ≤ 119) → M' c f = A c f)
      | .inr S => r = S 0 3 ∧ tw_m S A M') := by
  obtain ⟨M1, r1, e1, r1', er, s1, f1, o1⟩ := s124 (d := d - 1) (by omega) hA ht
  cases er
  have sg := (sk_rg T n 0).2 (Nat.zero_le _)
  have sX : pu_str t (ab_w M1 103 1 0) := str_w s1 rfl
  cases q : pa_run T n 250 pa_S0 (pa_sk T n 0) with
  | inl e =>
    rw [q] at o1
    obtain ⟨x1, x2, x3⟩ := o1
    have er := run_er _ _ _ _ S0_ok sg q
    have x24 : ab_w M1 103 1 0 103 24 = e.1 := by rw [w_ne (by omega)]; exact x2
    refine ⟨ab_w (ab_w M1 103 1 0) 103 2 ((e.2 : Nat) : Int), -10 - e.1, ev_wp (b126_0 (by omega) hA ⟨r1, M1, e1, s1, fun _ => b126_23 (by omega) sX ⟨fun y => absurd x1 y, fun _ => ?_⟩, fun y => absurd x1 y⟩), str_w sX rfl, rfl, ?_, ?_, fun c f a b => ?_⟩
    · rw [x24, x3]; exact ⟨by omega, rfl, rfl⟩
    · rw [w_ne (by omega), ab_w_eq]
    · rw [ab_w_eq]
    · rw [w_ne (by omega), w_ne (by omega)]
      exact f1 c f (by omega) b
  | inr S =>
    rw [q] at o1
    obtain ⟨x1, g0, g1, g2, g3, g4, g5⟩ := o1
    have ok := run_ok _ _ _ _ S0_ok sg q
    have o0 := ok.1
    obtain ⟨X, hX⟩ : ∃ X, X = ab_w (ab_w (ab_w (ab_w (ab_w (ab_w (ab_w M1 103 1 0) 103 2 (-1)) 103 3 (M1 103 25)) 103 4 (M1 103 26)) 103 9 (M1 103 30)) 103 11 (M1 103 32)) 103 14 (M1 103 36) := ⟨_, rfl⟩
    have sX2 : pu_str t X := by rw [hX]; exact str_w (str_w (str_w (str_w (str_w (str_w sX rfl) rfl) rfl) rfl) rfl) rfl
    have fX : ∀ c f : Nat, c ≠ 103 → X c f = M1 c f := fun c f a => by rw [hX]; simp (discharger := omega) only [w_ne]
    have vX : X 103 1 = 0 ∧ X 103 2 = -1 ∧ X 103 3 = S 0 0 ∧ X 103 4 = M1 103 26 ∧ X 103 9 = S 0 2 ∧ X 103 11 = S 0 3 ∧ X 103 14 = S 0 4 := by
      rw [hX, g0.1, g0.2.2.2.1, g0.2.2.2.2.1, g0.2.2.2.2.2.2]
      simp (discharger := omega) only [w_ne, ab_w_eq]
      simp only [and_self]
    have x115 : ∀ k : Nat, k < 49 → X 115 k = if S 1 k = -1 then 0 else S 1 k := fun k hk => (fX 115 k (by omega)).trans (g1 k hk)
    obtain ⟨M2, e2, s2, f2, v106, v105⟩ := s125 (d := d - 1) (W := tw_W S) (by omega) sX2 (n := (S 0 0).toNat) (by omega) (tw_ok ok) (fun a b ha hb hab => by
      rw [x115 _ (by omega)]
      unfold tw_W
      rw [if_neg hab]
      have l := ok.2.2.2.2.2.2.2.2.2.1 a b ha hb
      by_cases c : S 1 (7 * a + b) = -1
      · rw [if_neg (by omega), if_pos c, if_pos (by omega)]
      · rw [if_pos (by omega), if_neg c, if_neg (by omega)])
    have w : ab_wp d 126 0 (ab_ent [.inr (.inr 103)] (ab_mx 126)) [] A (fun r' M' => r' = some (.inl (S 0 3)) ∧ pu_str t M' ∧ tw_m S A M') := by
      refine b126_0 (by omega) hA ⟨r1, M1, e1, s1, fun y => absurd (x1.symm.trans y) (by decide), fun _ => b126_23 (by omega) sX ⟨fun _ => ?_, fun y => absurd (x1.symm.trans y) (by decide)⟩⟩
      rw [w_ne (show ¬ (103 = 103 ∧ 25 = 1) by omega), w_ne (show ¬ (103 = 103 ∧ 26 = 1) by omega), w_ne (show ¬ (103 = 103 ∧ 30 = 1) by omega), w_ne (show ¬ (103 = 103 ∧ 32 = 1) by omega), w_ne (show ¬ (103 = 103 ∧ 36 = 1) by omega), ← hX]
      refine ⟨M2, e2, s2, l84 (by omega) s2 fun M3 s3 f3 v3 => l128 (by omega) s3 fun M4 s4 f4 v4 => l154 (by omega) s4 fun M5 s5 f5 v5 => l180 (by omega) s5 fun M6 s6 f6 v6 => ?_⟩
      have f62 : ∀ c f : Nat, (c < 107 ∨ 111 < c) → M6 c f = M2 c f := fun c f a => by rw [f6 c f (by omega), f5 c f (by omega), f4 c f (by omega), f3 c f (by omega) (by omega)]
      have fx : ∀ c f : Nat, (c < 105 ∨ 111 < c) → M6 c f = X c f := fun c f a => by rw [f62 c f (by omega), f2 c f (by omega) (by omega)]
      refine l229 (by omega) (str_a (str_a (str_a s6 rfl) rfl) rfl) fun M7 s7 f7 g7 v7 => ?_
      have f76 : ∀ c f : Nat, c ≠ 112 → M7 c f = M6 c f := fun c f a => by rw [f7 c f a, w_ne (by omega), w_ne (by omega), w_ne (by omega)]
      have f7x : ∀ c f : Nat, (c < 105 ∨ 112 < c) → M7 c f = X c f := fun c f a => by rw [f76 c f (by omega), fx c f (by omega)]
      have h11 : M7 103 11 = S 0 3 := by rw [f7x 103 11 (by omega)]; exact vX.2.2.2.2.2.1
      refine ⟨by rw [h11], str_a (str_a (str_w (str_w s7 rfl) rfl) rfl) rfl, ?_⟩
      obtain ⟨Y, hY⟩ : ∃ Y, Y = ab_w (ab_w (ab_w (ab_w M7 103 17 0) 103 19 0) 130 0 0) 130 1 0 := ⟨_, rfl⟩
      rw [← hY]
      have fY : ∀ c f : Nat, ¬ (c = 103 ∧ (f = 17 ∨ f = 19)) → ¬ (c = 130 ∧ f ≤ 1) → Y c f = M7 c f := fun c f a b => by rw [hY, w_ne (by omega), w_ne (by omega), w_ne (by omega), w_ne (by omega)]
      have y103 : ∀ f : Nat, ¬ (f = 17 ∨ f = 19) → Y 103 f = X 103 f := fun f a => by rw [fY 103 f (by omega) (by omega), f7x 103 f (by omega)]
      have yn : ∀ c f : Nat, c ≠ 103 → c < 112 → Y c f = M6 c f := fun c f a b => by rw [fY c f (by omega) (by omega), f76 c f (by omega)]
      refine ⟨⟨?_, ?_, ?_, fun q7 => ?_, ?_, ?_, ?_, ?_, ?_, ?_, ?_⟩, ⟨?_, ?_, ?_, ?_, fun i hi => ?_⟩, fun p hp => ?_, fun i hi => ?_, fun k hk => ?_, fun o ho => ?_, fun k hk => ?_, fun a b ha hb => ?_, fun c f hc => ?_⟩
      · rw [y103 _ (by omega)]; exact vX.1
      · rw [y103 _ (by omega)]; exact vX.2.1
      · rw [y103 _ (by omega)]; exact vX.2.2.1
      · rw [y103 _ (by omega), vX.2.2.2.1]; exact g0.2.1 q7
      · rw [y103 _ (by omega)]; exact vX.2.2.2.2.1
      · rw [y103 _ (by omega)]; exact vX.2.2.2.2.2.1
      · rw [y103 _ (by omega)]; exact vX.2.2.2.2.2.2
      · rw [hY, w_ne (by omega), w_ne (by omega), w_ne (by omega), ab_w_eq]
      · rw [hY, w_ne (by omega), w_ne (by omega), ab_w_eq]
      · rw [hY, w_ne (by omega), ab_w_eq]
      · rw [hY, ab_w_eq]
      · rw [fY _ _ (by omega) (by omega), g7 0 (by omega), w_ne (by omega), w_ne (by omega), ab_w_eq]
      · rw [fY _ _ (by omega) (by omega), g7 1 (by omega), w_ne (by omega), ab_w_eq, y103 4 (by omega), fx 103 4 (by omega)]
      · rw [fY _ _ (by omega) (by omega), g7 2 (by omega), ab_w_eq]
      · rw [fY _ _ (by omega) (by omega), g7 3 (by omega), w_ne (by omega), w_ne (by omega), w_ne (by omega), fx 112 3 (by omega), fX 112 3 (by omega), f1 112 3 (by omega) (by omega)]
      · rw [fY _ _ (by omega) (by omega)]; exact v7 i hi
      · have hp6 := ok.2.1
        have r : ∀ f, M2 116 f = M1 116 f := fun f => by rw [f2 _ _ (by omega) (by omega), fX _ _ (by omega)]
        rw [yn _ _ (by omega) (by omega), yn _ _ (by omega) (by omega), f6 _ _ (by omega), f6 _ _ (by omega), f5 _ _ (by omega), f5 _ _ (by omega), f4 _ _ (by omega), f4 _ _ (by omega), (v3 p (by omega)).1, (v3 p (by omega)).2, r, r]
        exact g2 p hp
      · have hi6 := ok.2.2.1
        have r : ∀ f, f < 30 → Y 109 f = M1 117 f := fun f hf => by rw [yn _ _ (by omega) (by omega), f6 _ _ (by omega), f5 _ _ (by omega), v4 f hf, f3 _ _ (by omega) (by omega), f2 _ _ (by omega) (by omega), fX _ _ (by omega)]
        rw [r _ (by omega), r _ (by omega), r _ (by omega), r _ (by omega), r _ (by omega)]
        exact g3 i hi
      · rw [yn _ _ (by omega) (by omega), f6 _ _ (by omega), v5 k hk, f4 _ _ (by omega), f3 _ _ (by omega) (by omega), f2 _ _ (by omega) (by omega), fX _ _ (by omega)]
        exact g4 k hk
      · have ho4 := ok.2.2.2.1
        rw [yn _ _ (by omega) (by omega), v6 o (by omega), f5 _ _ (by omega), f4 _ _ (by omega), f3 _ _ (by omega) (by omega), f2 _ _ (by omega) (by omega), fX _ _ (by omega)]
        exact g5 o ho
      · rw [yn _ _ (by omega) (by omega), f62 _ _ (by omega), v106 k hk, x115 k hk]
        have l := ok.2.2.2.2.2.2.2.2.2.1 (k / 7) (k % 7) (by omega) (by omega)
        rw [show 7 * (k / 7) + k % 7 = k from by omega] at l
        by_cases c : S 1 k = -1
        · rw [if_pos c, if_pos c, if_pos (by omega)]
        · rw [if_neg c, if_neg c, if_neg (by omega)]
      · rw [yn _ _ (by omega) (by omega), f62 _ _ (by omega)]
        exact v105 a b ha hb
      · rw [yn _ _ (by omega) (by omega), fx _ _ (by omega), fX _ _ (by omega)]
        exact f1 c f (by omega) (by omega)
    obtain ⟨r', M', e, rfl, h1, h2⟩ := wp_ev w
    exact ⟨M', _, e, h1, rfl, h2⟩
