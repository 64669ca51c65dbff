/-- the watchman has an answer -/
def th_r (t : Nat) (A : ab_M) (g j w to : Nat) : Prop := to = w ∨ (to ≠ g ∧ ∃ b, b < th_n t A ∧ th_ld t A w b ∧ (b = to ∨ th_K (th_n t A) g (th_ld t A) j to b))
theorem r_up {t : Nat} {A : ab_M} {g j j' w to : Nat} (h : th_r t A g j w to) (hj : j ≤ j') : th_r t A g j' w to := by
  rcases h with h | ⟨h1, b, h2, h3, h4⟩
  · exact Or.inl h
  · refine Or.inr ⟨h1, b, h2, h3, ?_⟩
    rcases h4 with h4 | h4
    · exact Or.inl h4
    · exact Or.inr (up_le (P := fun j => th_K (th_n t A) g (th_ld t A) j to b) (fun j => K_up j _ _) hj h4)
def th_b2 (t : Nat) (A : ab_M) (g r p w k : Nat) (x : Int) : Prop := (0 ≤ x ∧ x ≤ 1000000) ∧ (x < 1000000 → ∀ to, to < k → th_ld t A p to → 1 ≤ x ∧ th_r t A g (x.toNat - 1) w to) ∧ (∀ j, j ≤ r → (∀ to, to < k → th_ld t A p to → th_r t A g j w to) → x ≤ (j : Int) + 1)
theorem b2_skip {t : Nat} {A : ab_M} {g r p w k : Nat} {x : Int} (h : th_b2 t A g r p w k x) (q : ¬ th_ld t A p k) : th_b2 t A g r p w (k + 1) x := by
  refine ⟨h.1, fun z to ht a => ?_, fun j hj a => h.2.2 j hj (fun to ht b => a to (by omega) b)⟩
  by_cases e : to = k
  · rw [e] at a; exact absurd a q
  · exact h.2.1 z to (by omega) a
theorem b2_step {t : Nat} {A : ab_M} {g r p w k : Nat} {x y : Int} (h : th_b2 t A g r p w k x) (hl : th_ld t A p k) (hy : 1 ≤ y ∧ y ≤ 1000000) (hs : y < 1000000 → th_r t A g (y.toNat - 1) w k) (hc : ∀ j, j ≤ r → th_r t A g j w k → y ≤ (j : Int) + 1) : th_b2 t A g r p w (k + 1) (if x < y then y else x) := by
  obtain ⟨h1, h2, h3⟩ := h
  by_cases c : x < y
  · rw [if_pos c]
    refine ⟨by omega, fun z to ht a => ⟨hy.1, ?_⟩, fun j hj a => hc j hj (a k (by omega) hl)⟩
    by_cases e : to = k
    · rw [e]; exact hs z
    · have := h2 (by clear h2 h3 hs hc; omega) to (by omega) a
      exact r_up this.2 (by clear h2 h3 hs hc; omega)
  · rw [if_neg c]
    refine ⟨h1, fun z to ht a => ?_, fun j hj a => h3 j hj (fun to ht b => a to (by omega) b)⟩
    by_cases e : to = k
    · rw [e]
      exact ⟨by clear h2 h3 hs hc; omega, r_up (hs (by clear h2 h3 hs hc; omega)) (by clear h2 h3 hs hc; omega)⟩
    · exact h2 z to (by omega) a
def th_w2 (t : Nat) (A : ab_M) (g r w to k : Nat) (x : Int) : Prop := (1 ≤ x ∧ x ≤ 1000000) ∧ (x < 1000000 → ∃ b, b < k ∧ th_ld t A w b ∧ (b = to ∨ th_K (th_n t A) g (th_ld t A) (x.toNat - 1) to b)) ∧ (∀ j b, j ≤ r → b < k → th_ld t A w b → (b = to ∨ th_K (th_n t A) g (th_ld t A) j to b) → x ≤ (j : Int) + 1)
theorem w2_step {t : Nat} {A : ab_M} {g r w to k : Nat} {x y : Int} (h : th_w2 t A g r w to k x) (hy : 1 ≤ y) (hs : y < 1000000 → th_ld t A w k ∧ (k = to ∨ th_K (th_n t A) g (th_ld t A) (y.toNat - 1) to k)) (hc : ∀ j, j ≤ r → th_ld t A w k → (k = to ∨ th_K (th_n t A) g (th_ld t A) j to k) → y ≤ (j : Int) + 1) : th_w2 t A g r w to (k + 1) (if y < x then y else x) := by
  obtain ⟨h1, h2, h3⟩ := h
  by_cases c : y < x
  · rw [if_pos c]
    refine ⟨by omega, fun z => ⟨k, by omega, hs z⟩, fun j b hj hb a q => ?_⟩
    by_cases e : b = k
    · rw [e] at a q; exact hc j hj a q
    · have := h3 j b hj (by omega) a q
      clear h2 hs
      omega
  · rw [if_neg c]
    refine ⟨h1, fun z => ?_, fun j b hj hb a q => ?_⟩
    · obtain ⟨b, z1, z2⟩ := h2 z
      exact ⟨b, by omega, z2⟩
    · by_cases e : b = k
      · rw [e] at a q
        have := hc j hj a q
        clear h2 hs
        omega
      · exact h3 j b hj (by omega) a q
theorem s166 {d t : Nat} {A M : ab_M} (hd : 2 ≤ d) (h : pu_at t A M) {g r p w : Nat} (hp : p < th_n t A) (hw : w < th_n t A) (hpw : p ≠ w) (hpg : p ≠ g)
    (hall : ∀ p' w' : Nat, p' < th_n t A → w' < th_n t A → th_cs t A g r p' w' M) :
    ∃ x, ab_ev d 166 [.inr (.inr 103), .inl (p : Int), .inl (w : Int), .inl (g : Int)] M (some (.inl x)) M ∧ th_v (fun k => th_K (th_n t A) g (th_ld t A) k p w) (r + 1) x := by
  have t1 := h.1.2.1.1
  have hn : th_n t A ≤ 7 := by unfold th_n; omega
  obtain ⟨m1, _⟩ := h.1.2.2.1
  have r3 : M 103 3 = A t 0 := (at_r h 103 3 (by omega)).trans m1
  have lpp : th_ld t A p p := Or.inl rfl
  have wd : ab_wp d 166 0 (ab_ent [.inr (.inr 103), .inl (p : Int), .inl (w : Int), .inl (g : Int)] (ab_mx 166)) [] M (fun r' M' => M' = M ∧ ∃ x, r' = some (.inl x) ∧ th_v (fun k => th_K (th_n t A) g (th_ld t A) k p w) (r + 1) x) := by
    refine b166_0 (by omega) h.2.1 ?_
    refine loop_up (P := fun k => ∀ (x : Int) y6 y7 y8, th_b2 t A g r p w k x → ab_wp d 166 6 [some (.inr (.inr 103)), some (.inl (p : Int)), some (.inl (w : Int)), some (.inl (g : Int)), some (.inl x), some (.inl (k : Int)), y6, y7, y8] [] M _) (th_n t A) ?_ ?_ 0 (by omega) 0 _ _ _ ⟨by omega, fun _ to q => by omega, fun j _ _ => by omega⟩
    · intro x y6 y7 y8 hb
      have hx : th_v (fun k => th_K (th_n t A) g (th_ld t A) k p w) (r + 1) x := by
        refine ⟨hb.1, fun q => ?_, fun k hk hK => ?_⟩
        · have z1 := (hb.2.1 q p hp lpp).1
          show th_K _ _ _ x.toNat p w
          rw [show x.toNat = (x.toNat - 1) + 1 from by clear hb; omega]
          exact Or.inr ⟨hpw, hpg, fun to a b => (hb.2.1 q to a b).2⟩
        · cases k with
          | zero => exact absurd hK hpw
          | succ j =>
            rcases hK with q | ⟨_, _, q⟩
            · exact absurd q hpw
            · have := hb.2.2 j (by omega) (fun to a b => q to a b)
              clear hb
              omega
      exact b166_6 (by omega) h.2.1 ⟨fun _ => ⟨fun _ => ⟨rfl, x, rfl, hx⟩, fun q => by have := hb.1; omega⟩, fun q => by clear hb hx; unfold th_n at q; omega⟩
    · intro k hk ih x y6 y7 y8 hb
      rw [Int.natCast_succ] at ih
      have hk' : (k : Int) < A t 0 := by unfold th_n at hk; omega
      have rgk : ab_rg ((k : Int) + 1) := by clear hb ih; omega
      have hb1 := hb.1
      obtain ⟨v, ev, hv⟩ := s164 (d := d - 1) (by omega) h hp hk
      have fin : ∀ (y : Int) x7 y8, th_ld t A p k → (1 ≤ y ∧ y ≤ 1000000) → (y < 1000000 → th_r t A g (y.toNat - 1) w k) → (∀ j, j ≤ r → th_r t A g j w k → y ≤ (j : Int) + 1) → ab_wp d 166 128 [some (.inr (.inr 103)), some (.inl (p : Int)), some (.inl (w : Int)), some (.inl (g : Int)), some (.inl x), some (.inl (k : Int)), some (.inl y), some (.inl x7), y8] [] M (fun r' M' => M' = M ∧ ∃ x, r' = some (.inl x) ∧ th_v (fun k => th_K (th_n t A) g (th_ld t A) k p w) (r + 1) x) := by
        intro y x7 y8 hl hy hs hc
        have st := b2_step hb hl hy hs hc
        refine b166_128 (by omega) h.2.1 ⟨fun s => ⟨rgk, ih _ _ _ _ ?_⟩, fun s => ⟨rgk, ih _ _ _ _ ?_⟩⟩
        · rw [if_neg (by clear hb ih st hs hc; omega)] at st
          exact st
        · rw [if_pos s] at st
          exact st
      refine b166_6 (by omega) h.2.1 ⟨fun q => by clear hb ih fin; omega, fun _ => ⟨v, M, ev, h.2.1, fun q => ⟨rgk, ih _ _ _ _ (b2_skip hb (fun z => hv.2 z q))⟩, fun q => ⟨fun z => ?_, fun z => ?_⟩⟩⟩
      · have hld := hv.1 q
        have hkw : k ≠ w := by clear hb ih fin; omega
        by_cases hkg : k = g
        · have f := fun x7 y8 => fin 1000000 x7 y8 hld (by omega) (fun s => by omega) (fun j _ o => by
            rcases o with o | o
            · exact absurd o hkw
            · exact absurd hkg o.1)
          exact b166_42 (by omega) h.2.1 ⟨fun _ => f _ _, fun _ => ⟨fun _ => f _ _, fun _ => ⟨fun _ => f _ _, fun s => by clear hb ih fin f; omega⟩⟩⟩
        · refine loop_up (P := fun kb => ∀ (u : Int) y8, th_w2 t A g r w k kb u → ab_wp d 166 42 [some (.inr (.inr 103)), some (.inl (p : Int)), some (.inl (w : Int)), some (.inl (g : Int)), some (.inl x), some (.inl (k : Int)), some (.inl u), some (.inl (kb : Int)), y8] [] M _) (th_n t A) ?_ ?_ 0 (by omega) 1000000 _ ⟨by omega, fun q => by omega, fun j b _ q => by omega⟩
          · intro u y8 hu
            refine b166_42 (by omega) h.2.1 ⟨fun _ => fin u _ _ hld hu.1 (fun s => ?_) (fun j hj o => ?_), fun s => by clear hb ih fin hu; unfold th_n at s; omega⟩
            · obtain ⟨b, c1, c2, c3⟩ := hu.2.1 s
              exact Or.inr ⟨hkg, b, c1, c2, c3⟩
            · rcases o with o | ⟨_, b, c1, c2, c3⟩
              · exact absurd o hkw
              · exact hu.2.2 j b hj c1 c2 c3
          · intro kb hkb ihb u y8 hu
            rw [Int.natCast_succ] at ihb
            have u1 := hu.1
            have hkb' : (kb : Int) < A t 0 := by unfold th_n at hkb; omega
            have rgb : ab_rg ((kb : Int) + 1) := by clear hb ih ihb hu fin; omega
            obtain ⟨v2, ev2, hv2⟩ := s164 (d := d - 1) (by omega) h hw hkb
            have esk := hall k kb hk hkb
            have es1 := esk.1
            have min : ∀ z : Int, 1 ≤ z → (z < 1000000 → th_ld t A w kb ∧ (kb = k ∨ th_K (th_n t A) g (th_ld t A) (z.toNat - 1) k kb)) → (∀ j, j ≤ r → th_ld t A w kb → (kb = k ∨ th_K (th_n t A) g (th_ld t A) j k kb) → z ≤ (j : Int) + 1) → ab_wp d 166 104 [some (.inr (.inr 103)), some (.inl (p : Int)), some (.inl (w : Int)), some (.inl (g : Int)), some (.inl x), some (.inl (k : Int)), some (.inl u), some (.inl (kb : Int)), y8] [.inl z] M (fun r' M' => M' = M ∧ ∃ x, r' = some (.inl x) ∧ th_v (fun k => th_K (th_n t A) g (th_ld t A) k p w) (r + 1) x) := by
              intro z hz hz1 hz2
              have st := w2_step hu hz hz1 hz2
              refine b166_104 (by omega) h.2.1 ⟨fun s => ⟨rgb, ihb _ _ ?_⟩, fun s => ⟨rgb, ihb _ _ ?_⟩⟩
              · rw [if_neg (by clear hb ih ihb hu fin st hz1 hz2; omega)] at st
                exact st
              · rw [if_pos s] at st
                exact st
            have e7 : (7 * (k : Int) + (kb : Int)).toNat = 7 * k + kb := by clear hb ih ihb hu fin min; omega
            refine b166_42 (by omega) h.2.1 ⟨fun s => by clear hb ih ihb hu fin min; omega, fun _ => ⟨fun s => by clear hb ih ihb hu fin min; omega, fun _ => ⟨fun s => by clear hb ih ihb hu fin min; omega, fun _ => ⟨v2, M, ev2, h.2.1, fun s => ⟨fun o => ⟨by clear hb ih ihb hu fin min; omega, by clear hb ih ihb hu fin min; omega, by clear hb ih ihb hu fin min; omega, ?_⟩, fun o => min 1 (by omega) (fun _ => ⟨hv2.1 s, Or.inl (by clear hb ih ihb hu fin min; omega)⟩) (fun j _ _ _ => by omega)⟩, fun s => min 1000000 (by omega) (fun o => by omega) (fun j _ l _ => absurd s (hv2.2 l))⟩⟩⟩⟩
            rw [e7]
            have nk : kb ≠ k := by clear hb ih ihb hu fin min; omega
            refine ⟨by clear hb ih ihb hu fin min; omega, min _ (by clear hb ih ihb hu fin min; omega) (fun o => ⟨hv2.1 s, Or.inr ?_⟩) (fun j hj _ o => ?_)⟩
            · have := esk.2.1 (by clear hb ih ihb hu fin min; omega)
              have e1 : (M 127 (7 * k + kb) + 1).toNat - 1 = (M 127 (7 * k + kb)).toNat := by clear hb ih ihb hu fin min; omega
              rw [e1]
              exact this
            · have := esk.2.2 j hj (o.resolve_left nk)
              clear hb ih ihb hu fin min
              omega
      · have hld := hv.1 q
        have hkw : k = w := by clear hb ih fin; omega
        have f := fun x7 y8 => fin 1 x7 y8 hld (by omega) (fun _ => Or.inl hkw) (fun j _ _ => by omega)
        exact b166_42 (by omega) h.2.1 ⟨fun _ => f _ _, fun _ => ⟨fun _ => f _ _, fun s => absurd z s⟩⟩
  obtain ⟨r', M', e, rfl, x, rfl, hx⟩ := wp_ev wd
  exact ⟨x, e, hx⟩
theorem s167 {d t : Nat} {A M : ab_M} (hd : 4 ≤ d) (h : pu_at t A M) {g : Nat} (hg : g < th_n t A) : ∃ M', ab_ev d 167 [.inr (.inr 103), .inl (g : Int)] M none M' ∧ pu_at t A M' ∧ (∀ p w : Nat, p < th_n t A → w < th_n t A → th_es t A g 60 p w M' ∧ th_cs t A g 60 p w M') := by
  have t1 := h.1.2.1.1
  have hn : th_n t A ≤ 7 := by unfold th_n; omega
  obtain ⟨m1, _⟩ := h.1.2.2.1
  have wd : ab_wp d 167 0 (ab_ent [.inr (.inr 103), .inl (g : Int)] (ab_mx 167)) [] M (fun r' M' => r' = none ∧ pu_at t A M' ∧ (∀ p w : Nat, p < th_n t A → w < th_n t A → th_es t A g 60 p w M' ∧ th_cs t A g 60 p w M')) := by
    refine b167_0 (by omega) h.2.1 ?_
    refine loop_up (P := fun k => ∀ M1 y3 y4, pu_at t A M1 → (∀ x : Nat, x < k → M1 126 x = (if x / 7 = g ∧ x / 7 ≠ x % 7 then 0 else 1000000) ∧ M1 127 x = (if x / 7 = x % 7 then 0 else 1000000)) → ab_wp d 167 2 [some (.inr (.inr 103)), some (.inl (g : Int)), some (.inl (k : Int)), y3, y4, none] [] M1 _) 49 ?_ ?_ 0 (by omega) M _ _ h (fun x hx => by omega)
    · intro M1 y3 y4 a1 h1
      refine b167_2 (by omega) a1.2.1 ⟨fun _ => ?_, fun q => by omega⟩
      have h0 : ∀ p w : Nat, p < th_n t A → w < th_n t A → th_es t A g 0 p w M1 ∧ th_cs t A g 0 p w M1 := by
        intro p w hp hw
        have := h1 (7 * p + w) (by omega)
        rw [show (7 * p + w) / 7 = p from by omega, show (7 * p + w) % 7 = w from by omega] at this
        obtain ⟨e1, e2⟩ := this
        refine ⟨?_, ?_⟩
        · unfold th_es
          rw [e1]
          by_cases c : p = g ∧ p ≠ w
          · rw [if_pos c]
            exact ⟨by omega, fun _ => c, fun k _ _ => by omega⟩
          · rw [if_neg c]
            refine ⟨by omega, fun q => by omega, fun k hk q => ?_⟩
            have : k = 0 := by omega
            rw [this] at q
            exact absurd q c
        · unfold th_cs
          rw [e2]
          by_cases c : p = w
          · rw [if_pos c]
            exact ⟨by omega, fun _ => c, fun k _ _ => by omega⟩
          · rw [if_neg c]
            refine ⟨by omega, fun q => by omega, fun k hk q => ?_⟩
            have : k = 0 := by omega
            rw [this] at q
            exact absurd q c
      refine loop_up (P := fun r => ∀ M1 y3 y4 y5, pu_at t A M1 → (∀ p w : Nat, p < th_n t A → w < th_n t A → th_es t A g r p w M1 ∧ th_cs t A g r p w M1) → ab_wp d 167 68 [some (.inr (.inr 103)), some (.inl (g : Int)), some (.inl (r : Int)), y3, y4, y5] [] M1 _) 60 ?_ ?_ 0 (by omega) M1 _ _ _ a1 h0
      · intro M1 y3 y4 y5 a1 hr
        exact b167_68 (by omega) a1.2.1 ⟨fun _ => ⟨rfl, a1, hr⟩, fun q => by omega⟩
      · intro r hr60 ih M1 y3 y4 y5 a1 hr
        rw [Int.natCast_succ] at ih
        refine b167_68 (by omega) a1.2.1 ⟨fun q => by omega, fun _ => ?_⟩
        refine loop_up (P := fun k => ∀ M1 y4 y5, pu_at t A M1 → (∀ p w : Nat, p < th_n t A → w < th_n t A → (7 * p + w < k → th_es t A g (r + 1) p w M1 ∧ th_cs t A g (r + 1) p w M1) ∧ (¬ 7 * p + w < k → th_es t A g r p w M1 ∧ th_cs t A g r p w M1)) → ab_wp d 167 76 [some (.inr (.inr 103)), some (.inl (g : Int)), some (.inl (r : Int)), some (.inl (k : Int)), y4, y5] [] M1 _) 49 ?_ ?_ 0 (by omega) M1 _ _ a1 (fun p w hp hw => ⟨fun q => by omega, fun _ => hr p w hp hw⟩)
        · intro M1 y4 y5 a1 hk
          exact b167_76 (by omega) a1.2.1 ⟨fun _ => ⟨by omega, ih _ _ _ _ a1 (fun p w hp hw => (hk p w hp hw).1 (by omega))⟩, fun q => by omega⟩
        · intro k hk49 ihk M1 y4 y5 a1 hk
          rw [Int.natCast_succ] at ihk
          have r3 : M1 103 3 = A t 0 := (at_r a1 103 3 (by omega)).trans m1
          have td : (k : Int).tdiv 7 = ((k / 7 : Nat) : Int) := by
            rw [Int.tdiv_eq_ediv_of_nonneg (by omega)]
            omega
          have tm : (k : Int).tmod 7 = ((k % 7 : Nat) : Int) := by
            rw [Int.tmod_eq_emod_of_nonneg (by omega)]
            omega
          have rgk : ab_rg ((k : Int) + 1) := by omega
          have weak : ∀ p w : Nat, p < th_n t A → w < th_n t A → th_es t A g r p w M1 ∧ th_cs t A g r p w M1 := by
            intro p w hp hw
            by_cases c : 7 * p + w < k
            · have := (hk p w hp hw).1 c
              exact ⟨v_dn this.1, v_dn this.2⟩
            · exact (hk p w hp hw).2 c
          have skip : (∀ p w : Nat, p < th_n t A → w < th_n t A → 7 * p + w = k → th_es t A g (r + 1) p w M1 ∧ th_cs t A g (r + 1) p w M1) → ab_wp d 167 76 [some (.inr (.inr 103)), some (.inl (g : Int)), some (.inl (r : Int)), some (.inl ((k : Int) + 1)), some (.inl ((k / 7 : Nat) : Int)), some (.inl ((k % 7 : Nat) : Int))] [] M1 (fun r' M' => r' = none ∧ pu_at t A M' ∧ (∀ p w : Nat, p < th_n t A → w < th_n t A → th_es t A g 60 p w M' ∧ th_cs t A g 60 p w M')) := by
            intro hno
            refine ihk _ _ _ a1 (fun p w hp hw => ⟨fun q => ?_, fun q => (hk p w hp hw).2 (by omega)⟩)
            by_cases c : 7 * p + w = k
            · exact hno p w hp hw c
            · exact (hk p w hp hw).1 (by omega)
          refine b167_76 (by omega) a1.2.1 ⟨fun q => by omega, fun _ => ?_⟩
          rw [td, tm]
          refine ⟨by omega, fun q => ⟨rgk, skip (fun p w hp hw e => ?_)⟩, fun q => ⟨fun q2 => ⟨rgk, skip (fun p w hp hw e => ?_)⟩, fun q2 => ⟨fun q3 => ⟨rgk, skip (fun p w hp hw e => ?_)⟩, fun q3 => ⟨fun q4 => ⟨rgk, skip (fun p w hp hw e => ?_)⟩, fun q4 => ?_⟩⟩⟩⟩
          · exfalso
            unfold th_n at hp hw
            omega
          · exfalso
            unfold th_n at hp hw
            omega
          · have epw : p = w := by omega
            have wk := weak p w hp hw
            refine ⟨⟨wk.1.1, wk.1.2.1, fun j _ hE => absurd epw (E_ne _ _ _ hE)⟩, ⟨wk.2.1, wk.2.2.1, fun j _ _ => ?_⟩⟩
            have := wk.2.2.2 0 (Nat.zero_le _) epw
            omega
          · have epg : p = g := by omega
            have npw : p ≠ w := by omega
            have wk := weak p w hp hw
            refine ⟨⟨wk.1.1, wk.1.2.1, fun j _ _ => ?_⟩, ⟨wk.2.1, wk.2.2.1, fun j _ hK => ?_⟩⟩
            · have := wk.1.2.2 0 (Nat.zero_le _) ⟨epg, npw⟩
              omega
            · exfalso
              cases j with
              | zero => exact npw hK
              | succ j =>
                rcases hK with z | z
                · exact npw z
                · exact z.2.1 epg
          · have hp : k / 7 < th_n t A := by unfold th_n; omega
            have hw : k % 7 < th_n t A := by unfold th_n; omega
            have hpw : k / 7 ≠ k % 7 := by omega
            have hpg : k / 7 ≠ g := by omega
            obtain ⟨x, ex, hx⟩ := s165 (d := d - 1) (by omega) a1 (r := r) hp hw hpw hpg (fun p w a b => (weak p w a b).1)
            have a2 : pu_at t A (ab_w M1 126 k x) := at_w a1 (str_a a1.2.1 rfl) (by omega)
            obtain ⟨y, ey, hy⟩ := s166 (d := d - 1) (by omega) a2 (r := r) hp hw hpw hpg (fun p w a b => (weak p w a b).2)
            have a3 : pu_at t A (ab_w (ab_w M1 126 k x) 127 k y) := at_w a2 (str_a a2.2.1 rfl) (by omega)
            refine ⟨x, M1, ex, a1.2.1, by omega, ?_⟩
            rw [Int.toNat_natCast]
            refine ⟨y, _, ey, a2.2.1, rgk, ihk _ _ _ a3 (fun p w hp2 hw2 => ?_)⟩
            by_cases c : 7 * p + w = k
            · have e1 : k / 7 = p := by omega
              have e2 : k % 7 = w := by omega
              rw [e1, e2] at hx hy
              refine ⟨fun _ => ⟨?_, ?_⟩, fun q => by omega⟩
              · unfold th_es ab_w
                rw [if_neg (by omega), if_pos ⟨rfl, c⟩]
                exact hx
              · unfold th_cs ab_w
                rw [if_pos ⟨rfl, c⟩]
                exact hy
            · have e1 : ab_w (ab_w M1 126 k x) 127 k y 126 (7 * p + w) = M1 126 (7 * p + w) := by
                unfold ab_w
                rw [if_neg (by omega), if_neg (by omega)]
              have e2 : ab_w (ab_w M1 126 k x) 127 k y 127 (7 * p + w) = M1 127 (7 * p + w) := by
                unfold ab_w
                rw [if_neg (by omega), if_neg (by omega)]
              unfold th_es th_cs
              rw [e1, e2]
              exact ⟨fun q => (hk p w hp2 hw2).1 (by omega), fun q => (hk p w hp2 hw2).2 (by omega)⟩
    · intro k hk ih M1 y3 y4 a1 h1
      rw [Int.natCast_succ] at ih
      have td : (k : Int).tdiv 7 = ((k / 7 : Nat) : Int) := by
        rw [Int.tdiv_eq_ediv_of_nonneg (by omega)]
        omega
      have tm : (k : Int).tmod 7 = ((k % 7 : Nat) : Int) := by
        rw [Int.tmod_eq_emod_of_nonneg (by omega)]
        omega
      have put : ∀ v : Int, (v = if k / 7 = g ∧ k / 7 ≠ k % 7 then 0 else 1000000) → ab_wp d 167 41 [some (.inr (.inr 103)), some (.inl (g : Int)), some (.inl (k : Int)), some (.inl ((k / 7 : Nat) : Int)), some (.inl ((k % 7 : Nat) : Int)), none] [.inl v, .inl (k : Int), .inr (.inr 126)] M1 (fun r' M' => r' = none ∧ pu_at t A M' ∧ (∀ p w : Nat, p < th_n t A → w < th_n t A → th_es t A g 60 p w M' ∧ th_cs t A g 60 p w M')) := by
        intro v ev
        have nx : ∀ u : Int, (u = if k / 7 = k % 7 then 0 else 1000000) → ab_wp d 167 2 [some (.inr (.inr 103)), some (.inl (g : Int)), some (.inl ((k : Int) + 1)), some (.inl ((k / 7 : Nat) : Int)), some (.inl ((k % 7 : Nat) : Int)), none] [] (ab_w (ab_w M1 126 k v) 127 k u) (fun r' M' => r' = none ∧ pu_at t A M' ∧ (∀ p w : Nat, p < th_n t A → w < th_n t A → th_es t A g 60 p w M' ∧ th_cs t A g 60 p w M')) := by
          intro u eu
          refine ih _ _ _ (at_w (at_w a1 (str_a a1.2.1 rfl) (by omega)) (str_a (str_a a1.2.1 rfl) rfl) (by omega)) (fun x hx => ?_)
          by_cases c : x = k
          · have e1 : ab_w (ab_w M1 126 k v) 127 k u 126 x = v := by
              unfold ab_w
              rw [if_neg (by omega), if_pos ⟨rfl, c⟩]
            have e2 : ab_w (ab_w M1 126 k v) 127 k u 127 x = u := by
              unfold ab_w
              rw [if_pos ⟨rfl, c⟩]
            rw [e1, e2, c]
            exact ⟨ev, eu⟩
          · have e1 : ab_w (ab_w M1 126 k v) 127 k u 126 x = M1 126 x := by
              unfold ab_w
              rw [if_neg (by omega), if_neg (by omega)]
            have e2 : ab_w (ab_w M1 126 k v) 127 k u 127 x = M1 127 x := by
              unfold ab_w
              rw [if_neg (by omega), if_neg (by omega)]
            rw [e1, e2]
            exact h1 x (by omega)
        refine b167_41 (by omega) a1.2.1 ?_
        rw [Int.toNat_natCast]
        exact ⟨by omega, fun q => ⟨by omega, by omega, nx _ (by rw [if_neg (by omega)])⟩, fun q => ⟨by omega, by omega, nx _ (by rw [if_pos (by omega)])⟩⟩
      refine b167_2 (by omega) a1.2.1 ⟨fun q => by omega, fun _ => ?_⟩
      rw [td, tm]
      exact ⟨by omega, fun q => put _ (by rw [if_neg (by omega)]), fun q => ⟨fun z => put _ (by rw [if_neg (by omega)]), fun z => put _ (by rw [if_pos (by omega)])⟩⟩
  obtain ⟨r', M', e, rfl, h1, h2⟩ := wp_ev wd
  exact ⟨M', e, h1, h2⟩
