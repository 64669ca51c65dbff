/-! the thief: the model -/
theorem s164 {d t : Nat} {A M : ab_M} (hd : 1 ≤ d) (h : pu_at t A M) {a b : Nat} (ha : a < th_n t A) (hb : b < th_n t A) : ∃ v, ab_ev d 164 [.inr (.inr 103), .inl (a : Int), .inl (b : Int)] M (some (.inl v)) M ∧ (v ≠ 0 ↔ th_ld t A a b) := by
  have t1 := h.1.2.1.1
  have hn : th_n t A ≤ 7 := by unfold th_n; omega
  have gg := h.1.2.2.2.1 a b (by omega) (by omega) (by unfold th_n at ha; omega) (by unfold th_n at hb; omega)
  have e7 : (7 * (a : Int) + (b : Int)).toNat = 7 * a + b := by omega
  have r6 : M 106 (7 * a + b) = if A (t + 2 + a) b = -1 then 0 else 1 := (at_r h 106 _ (by omega)).trans gg.2.2.2.2.2.1
  have w : ab_wp d 164 0 (ab_ent [.inr (.inr 103), .inl (a : Int), .inl (b : Int)] (ab_mx 164)) [] M (fun r' M' => M' = M ∧ ∃ v, r' = some (.inl v) ∧ (v ≠ 0 ↔ th_ld t A a b)) := by
    refine b164_0 (by omega) h.2.1 ?_
    rw [e7, r6]
    refine ⟨fun q => ⟨rfl, 1, rfl, fun _ => Or.inl (by omega), fun _ => by decide⟩, fun q => ⟨by omega, by omega, by omega, fun z => ⟨rfl, 0, rfl, fun y => absurd rfl y, fun y => ?_⟩, fun z => ⟨rfl, 1, rfl, fun _ => Or.inr (fun y => ?_), fun _ => by decide⟩⟩⟩
    · rcases y with y | y
      · omega
      · rw [if_neg y] at z
        exact absurd z (by decide)
    · rw [if_pos y] at z
      exact z rfl
  obtain ⟨r', M', e, rfl, v, rfl, hv⟩ := wp_ev w
  exact ⟨v, e, hv⟩
/-- a value that is found after r rounds -/
def th_v (P : Nat → Prop) (r : Nat) (x : Int) : Prop := (0 ≤ x ∧ x ≤ 1000000) ∧ (x < 1000000 → P x.toNat) ∧ (∀ k, k ≤ r → P k → x ≤ (k : Int))
theorem v_dn {P : Nat → Prop} {r : Nat} {x : Int} (h : th_v P (r + 1) x) : th_v P r x := ⟨h.1, h.2.1, fun k hk => h.2.2 k (by omega)⟩
def th_es (t : Nat) (A : ab_M) (g r p w : Nat) (M : ab_M) : Prop := th_v (fun k => th_E (th_n t A) g (th_ld t A) k p w) r (M 126 (7 * p + w))
def th_cs (t : Nat) (A : ab_M) (g r p w : Nat) (M : ab_M) : Prop := th_v (fun k => th_K (th_n t A) g (th_ld t A) k p w) r (M 127 (7 * p + w))
/-- the watchman's answers: all of them leave him free -/
def th_q (t : Nat) (A : ab_M) (g j w to : Nat) : Prop := to = g ∨ ∀ b, b < th_n t A → th_ld t A w b → b ≠ to ∧ th_E (th_n t A) g (th_ld t A) j to b
def th_b1 (t : Nat) (A : ab_M) (g r p w k : Nat) (x : Int) : Prop := (0 ≤ x ∧ x ≤ 1000000) ∧ (x < 1000000 → 1 ≤ x ∧ ∃ to, to < k ∧ th_ld t A p to ∧ to ≠ w ∧ th_q t A g (x.toNat - 1) w to) ∧ (∀ j to, j ≤ r → to < k → th_ld t A p to → to ≠ w → th_q t A g j w to → x ≤ (j : Int) + 1)
def th_w1 (t : Nat) (A : ab_M) (M : ab_M) (w to k : Nat) (x : Int) : Prop := 0 ≤ x ∧ (∀ b, b < k → th_ld t A w b → (b = to → 1000000 ≤ x) ∧ (b ≠ to → M 126 (7 * to + b) + 1 ≤ x)) ∧ (x = 0 ∨ ∃ b, b < k ∧ th_ld t A w b ∧ ((b = to ∧ x = 1000000) ∨ (b ≠ to ∧ x = M 126 (7 * to + b) + 1)))
theorem b1_skip {t : Nat} {A : ab_M} {g r p w k : Nat} {x : Int} (h : th_b1 t A g r p w k x) (q : ¬ (th_ld t A p k ∧ k ≠ w)) : th_b1 t A g r p w (k + 1) x := by
  refine ⟨h.1, fun z => ?_, fun j to hj ht a b c => ?_⟩
  · obtain ⟨z1, to, z2, z3⟩ := h.2.1 z
    exact ⟨z1, to, by omega, z3⟩
  · by_cases e : to = k
    · rw [e] at a b; exact absurd ⟨a, b⟩ q
    · exact h.2.2 j to hj (by omega) a b c
theorem b1_step {t : Nat} {A : ab_M} {g r p w k : Nat} {x y : Int} (h : th_b1 t A g r p w k x) (hl : th_ld t A p k) (hw : k ≠ w) (hy : 1 ≤ y) (hs : y < 1000000 → th_q t A g (y.toNat - 1) w k) (hc : ∀ j, j ≤ r → th_q t A g j w k → y ≤ (j : Int) + 1) : th_b1 t A g r p w (k + 1) (if y < x then y else x) := by
  obtain ⟨h1, h2, h3⟩ := h
  by_cases c : y < x
  · rw [if_pos c]
    refine ⟨by omega, fun z => ⟨hy, k, by omega, hl, hw, hs z⟩, fun j to hj ht a b q => ?_⟩
    by_cases e : to = k
    · rw [e] at q; exact hc j hj q
    · have := h3 j to hj (by omega) a b q
      clear h2
      omega
  · rw [if_neg c]
    refine ⟨h1, fun z => ?_, fun j to hj ht a b q => ?_⟩
    · obtain ⟨z1, to, z2, z3⟩ := h2 z
      exact ⟨z1, to, by omega, z3⟩
    · by_cases e : to = k
      · rw [e] at q
        have := hc j hj q
        clear h2
        omega
      · exact h3 j to hj (by omega) a b q
theorem s165 {d t : Nat} {A M : ab_M} (hd : 2 ≤ d) (h : pu_at t A M) {g r p w : Nat} (hp : p < th_n t A) (hw : w < th_n t A) (hpw : p ≠ w) (hpg : p ≠ g)
    (hall : ∀ p' w' : Nat, p' < th_n t A → w' < th_n t A → th_es t A g r p' w' M) :
    ∃ x, ab_ev d 165 [.inr (.inr 103), .inl (p : Int), .inl (w : Int), .inl (g : Int)] M (some (.inl x)) M ∧ th_v (fun k => th_E (th_n t A) g (th_ld t A) k p w) (r + 1) x := by
  have t1 := h.1.2.1.1
  have hn : th_n t A ≤ 7 := by unfold th_n; omega
  obtain ⟨m1, _⟩ := h.1.2.2.1
  have r3 : M 103 3 = A t 0 := (at_r h 103 3 (by omega)).trans m1
  have lww : th_ld t A w w := Or.inl rfl
  have wd : ab_wp d 165 0 (ab_ent [.inr (.inr 103), .inl (p : Int), .inl (w : Int), .inl (g : Int)] (ab_mx 165)) [] M (fun r' M' => M' = M ∧ ∃ x, r' = some (.inl x) ∧ th_v (fun k => th_E (th_n t A) g (th_ld t A) k p w) (r + 1) x) := by
    refine b165_0 (by omega) h.2.1 ?_
    refine loop_up (P := fun k => ∀ (x : Int) y6 y7 y8, th_b1 t A g r p w k x → ab_wp d 165 7 [some (.inr (.inr 103)), some (.inl (p : Int)), some (.inl (w : Int)), some (.inl (g : Int)), some (.inl x), some (.inl (k : Int)), y6, y7, y8] [] M _) (th_n t A) ?_ ?_ 0 (by omega) 1000000 _ _ _ ⟨by omega, fun q => by omega, fun j to _ q => by omega⟩
    · intro x y6 y7 y8 hb
      have hx : th_v (fun k => th_E (th_n t A) g (th_ld t A) k p w) (r + 1) x := by
        refine ⟨hb.1, fun q => ?_, fun k hk hE => ?_⟩
        · obtain ⟨z1, to, z2, z3, z4, z5⟩ := hb.2.1 q
          show th_E _ _ _ x.toNat p w
          rw [show x.toNat = (x.toNat - 1) + 1 from by clear hb; omega]
          exact Or.inr ⟨hpw, hpg, to, z2, z3, z4, z5⟩
        · cases k with
          | zero => exact absurd hE.1 hpg
          | succ j =>
            rcases hE with q | ⟨_, _, to, a1, a2, a3, a4⟩
            · exact absurd q.1 hpg
            · have := hb.2.2 j to (by omega) a1 a2 a3 a4
              clear hb
              omega
      exact b165_7 (by omega) h.2.1 ⟨fun _ => ⟨fun _ => ⟨rfl, x, rfl, hx⟩, fun q => by have := hb.1; omega⟩, fun q => by clear hb hx; unfold th_n at q; omega⟩
    · intro k hk ih x y6 y7 y8 hb
      rw [Int.natCast_succ] at ih
      have hk' : (k : Int) < A t 0 := by unfold th_n at hk; omega
      have rgk : ab_rg ((k : Int) + 1) := by clear hb ih; omega
      have hb1 := hb.1
      obtain ⟨v, ev, hv⟩ := s164 (d := d - 1) (by omega) h hp hk
      refine b165_7 (by omega) h.2.1 ⟨fun q => by clear hb ih; omega, fun _ => ⟨v, M, ev, h.2.1, fun q => ⟨rgk, ih _ _ _ _ (b1_skip hb (fun z => hv.2 z.1 q))⟩, fun q => ⟨fun z => ⟨rgk, ih _ _ _ _ (b1_skip hb (fun y => y.2 (by clear hb ih; omega)))⟩, fun z => ?_⟩⟩⟩
      have hld := hv.1 q
      have hkw : k ≠ w := by clear hb ih; omega
      refine ⟨fun y => ?_, fun y => ?_⟩
      · have hkg : k ≠ g := by clear hb ih; omega
        refine loop_up (P := fun kb => ∀ (u : Int) y8, th_w1 t A M w k kb u → ab_wp d 165 48 [some (.inr (.inr 103)), some (.inl (p : Int)), some (.inl (w : Int)), some (.inl (g : Int)), some (.inl x), some (.inl (k : Int)), some (.inl u), some (.inl (kb : Int)), y8] [] M _) (th_n t A) ?_ ?_ 0 (by omega) 0 _ ⟨by omega, fun b q => by omega, Or.inl rfl⟩
        · intro u y8 hu
          obtain ⟨u0, u1, u2⟩ := hu
          have st := b1_step hb hld hkw (y := u) (by
            have a := (u1 w hw lww).2 (fun e => hkw e.symm)
            have b := (hall k w hk hw).1
            clear hb ih u1 u2
            omega) (fun ul => Or.inr (fun b hb2 lb => by
            have a := u1 b hb2 lb
            have ne : b ≠ k := by
              intro e
              have := a.1 e
              clear hb ih u1 u2
              omega
            have a2 := a.2 ne
            have es := hall k b hk hb2
            have e2 := es.2.1 (by clear hb ih u1 u2; omega)
            refine ⟨ne, up_le (P := fun j => th_E (th_n t A) g (th_ld t A) j k b) (fun j => E_up j _ _) ?_ e2⟩
            have := es.1
            clear hb ih u1 u2
            omega)) (fun j hj hq => by
            have hq := hq.resolve_left hkg
            rcases u2 with u2 | ⟨b, c1, c2, c3⟩
            · clear hb ih u1; omega
            · have c4 := hq b c1 c2
              rcases c3 with c3 | c3
              · exact absurd c3.1 c4.1
              · have := (hall k b hk c1).2.2 j hj c4.2
                clear hb ih u1
                omega)
          refine b165_48 (by omega) h.2.1 ⟨fun _ => ⟨fun s => ⟨rgk, ih _ _ _ _ ?_⟩, fun s => ⟨rgk, ih _ _ _ _ ?_⟩⟩, fun s => by clear hb ih st u1 u2; unfold th_n at s; omega⟩
          · rw [if_neg (by clear hb ih st u1 u2; omega)] at st
            exact st
          · rw [if_pos s] at st
            exact st
        · intro kb hkb ihb u y8 hu
          rw [Int.natCast_succ] at ihb
          obtain ⟨u0, u1, u2⟩ := hu
          have hkb' : (kb : Int) < A t 0 := by unfold th_n at hkb; omega
          have rgb : ab_rg ((kb : Int) + 1) := by clear hb ih ihb u1 u2; omega
          obtain ⟨v2, ev2, hv2⟩ := s164 (d := d - 1) (by omega) h hw hkb
          have esk := (hall k kb hk hkb).1
          have max : ∀ z : Int, (th_ld t A w kb → (kb = k → 1000000 ≤ z) ∧ (kb ≠ k → M 126 (7 * k + kb) + 1 ≤ z)) → (z = 0 ∨ (th_ld t A w kb ∧ ((kb = k ∧ z = 1000000) ∨ (kb ≠ k ∧ z = M 126 (7 * k + kb) + 1)))) → ab_wp d 165 104 [some (.inr (.inr 103)), some (.inl (p : Int)), some (.inl (w : Int)), some (.inl (g : Int)), some (.inl x), some (.inl (k : Int)), some (.inl u), some (.inl (kb : Int)), y8] [.inl z] M (fun r' M' => M' = M ∧ ∃ x, r' = some (.inl x) ∧ th_v (fun k => th_E (th_n t A) g (th_ld t A) k p w) (r + 1) x) := by
            intro z hz1 hz2
            refine b165_104 (by omega) h.2.1 ⟨fun s => ⟨rgb, ihb _ _ ⟨u0, fun b hb2 lb => ?_, ?_⟩⟩, fun s => ⟨rgb, ihb _ _ ⟨by clear hb ih ihb u1 u2 hz1 hz2; omega, fun b hb2 lb => ?_, ?_⟩⟩⟩
            · by_cases e : b = kb
              · rw [e] at lb ⊢
                have := hz1 lb
                exact ⟨fun o => by have := this.1 o; clear hb ih ihb u1 u2 hz1 hz2; omega, fun o => by have := this.2 o; clear hb ih ihb u1 u2 hz1 hz2; omega⟩
              · exact u1 b (by omega) lb
            · rcases u2 with u2 | ⟨b, c1, c2⟩
              · exact Or.inl u2
              · exact Or.inr ⟨b, by omega, c2⟩
            · by_cases e : b = kb
              · rw [e] at lb ⊢
                exact hz1 lb
              · have := u1 b (by omega) lb
                exact ⟨fun o => by have := this.1 o; clear hb ih ihb u1 u2 hz1 hz2; omega, fun o => by have := this.2 o; clear hb ih ihb u1 u2 hz1 hz2; omega⟩
            · rcases hz2 with hz2 | ⟨c1, c2⟩
              · exact Or.inl hz2
              · exact Or.inr ⟨kb, by omega, c1, c2⟩
          have e7 : (7 * (k : Int) + (kb : Int)).toNat = 7 * k + kb := by clear hb ih ihb u1 u2 max; omega
          refine b165_48 (by omega) h.2.1 ⟨fun s => by clear hb ih ihb u1 u2 max; omega, fun _ => ⟨fun s => by clear hb ih ihb u1 u2 max; omega, fun _ => ⟨v2, M, ev2, h.2.1, fun s => ⟨fun o => ⟨by clear hb ih ihb u1 u2 max; omega, by clear hb ih ihb u1 u2 max; omega, by clear hb ih ihb u1 u2 max; omega, ?_⟩, fun o => max _ (fun _ => ⟨fun _ => by omega, fun e => by clear hb ih ihb u1 u2 max; omega⟩) (Or.inr ⟨hv2.1 s, Or.inl ⟨by clear hb ih ihb u1 u2 max; omega, rfl⟩⟩)⟩, fun s => max 0 (fun l => absurd s (hv2.2 l)) (Or.inl rfl)⟩⟩⟩
          rw [e7]
          exact ⟨by clear hb ih ihb u1 u2 max; omega, max _ (fun _ => ⟨fun e => by clear hb ih ihb u1 u2 max; omega, fun _ => Int.le_refl _⟩) (Or.inr ⟨hv2.1 s, Or.inr ⟨by clear hb ih ihb u1 u2 max; omega, rfl⟩⟩)⟩
      · have hkg : k = g := by clear hb ih; omega
        have st := b1_step hb hld hkw (y := 1) (by omega) (fun _ => Or.inl hkg) (fun j _ _ => by omega)
        have nx : (x ≤ 1 → ab_rg ((k : Int) + 1) ∧ ab_wp d 165 7 [some (.inr (.inr 103)), some (.inl (p : Int)), some (.inl (w : Int)), some (.inl (g : Int)), some (.inl x), some (.inl ((k : Int) + 1)), some (.inl 1), some (.inl 0), y8] [] M (fun r' M' => M' = M ∧ ∃ x, r' = some (.inl x) ∧ th_v (fun k => th_E (th_n t A) g (th_ld t A) k p w) (r + 1) x)) ∧ (1 < x → ab_rg ((k : Int) + 1) ∧ ab_wp d 165 7 [some (.inr (.inr 103)), some (.inl (p : Int)), some (.inl (w : Int)), some (.inl (g : Int)), some (.inl 1), some (.inl ((k : Int) + 1)), some (.inl 1), some (.inl 0), y8] [] M (fun r' M' => M' = M ∧ ∃ x, r' = some (.inl x) ∧ th_v (fun k => th_E (th_n t A) g (th_ld t A) k p w) (r + 1) x)) := by
          refine ⟨fun s => ⟨rgk, ih _ _ _ _ ?_⟩, fun s => ⟨rgk, ih _ _ _ _ ?_⟩⟩
          · rw [if_neg (by clear hb ih st; omega)] at st
            exact st
          · rw [if_pos s] at st
            exact st
        exact b165_48 (by omega) h.2.1 ⟨fun _ => nx, fun _ => ⟨fun _ => nx, fun s => absurd y s⟩⟩
  obtain ⟨r', M', e, rfl, x, rfl, hx⟩ := wp_ev wd
  exact ⟨x, e, hx⟩
