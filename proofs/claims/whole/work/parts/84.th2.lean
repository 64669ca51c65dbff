/-! the thief: the class -/
def th_ld (t : Nat) (A : ab_M) (a b : Nat) : Prop := a = b ∨ A (t + 2 + a) b ≠ -1
abbrev th_n (t : Nat) (A : ab_M) : Nat := (A t 0).toNat
def th_p (t : Nat) (A : ab_M) (g : Nat) (c : Int) (k p w v : Nat) : Prop := if c = 1 then th_e (th_n t A) g (th_ld t A) k p w v else th_c (th_n t A) g (th_ld t A) k p w v
def th_i (p w v : Nat) : Nat := (7 * p + w) * 2 + v
theorem p_le {t : Nat} {A : ab_M} {g : Nat} {c : Int} {k k' p w v : Nat} (h : th_p t A g c k p w v) (hl : k ≤ k') : th_p t A g c k' p w v := by
  unfold th_p at h ⊢
  by_cases q : c = 1
  · rw [if_pos q] at h ⊢; exact e_le h hl
  · rw [if_neg q] at h ⊢; exact c_le h hl
theorem p_no {t : Nat} {A : ab_M} {g : Nat} {k k' p w v : Nat} (h : th_p t A g 1 k p w v) (h' : th_p t A g 2 k' p w v) : False := by
  unfold th_p at h h'
  rw [if_pos rfl] at h
  rw [if_neg (by decide)] at h'
  exact ec_no _ _ _ _ _ h h'
theorem p_no' {t : Nat} {A : ab_M} {g : Nat} {c c' : Int} {k k' p w v : Nat} (hc : c = 1 ∨ c = 2) (hc' : c' = 1 ∨ c' = 2) (hne : c ≠ c') (h : th_p t A g c k p w v) (h' : th_p t A g c' k' p w v) : False := by
  rcases hc with e | e <;> rcases hc' with e' | e'
  · omega
  · rw [e] at h; rw [e'] at h'; exact p_no h h'
  · rw [e] at h; rw [e'] at h'; exact p_no h' h
  · omega
/-- what is held of a place: e its ending, m its moves -/
def th_s (t : Nat) (A : ab_M) (g L p w v : Nat) (e m : Int) : Prop := ((e = 1 ∨ e = 2) ∧ (0 ≤ m ∧ m ≤ (L : Int)) ∧ th_p t A g e m.toNat p w v ∧ ∀ k : Nat, th_p t A g e k p w v → m ≤ (k : Int)) ∨ (e = 0 ∧ m = 0 ∧ ¬ th_p t A g 1 L p w v ∧ ¬ th_p t A g 2 L p w v)
def th_h (t : Nat) (A : ab_M) (g L p w v : Nat) (e m : Int) : Prop := th_s t A g L p w v e m ∨ th_s t A g (L + 1) p w v e m
theorem h_rd {t : Nat} {A : ab_M} {g L p w v : Nat} {e m : Int} (h : th_h t A g L p w v e m) : (m < (L : Int) + 1 → (e = 0 ∨ e = 1 ∨ e = 2) ∧ (∀ c : Int, c = 1 ∨ c = 2 → (e = c ↔ th_p t A g c L p w v))) ∧ ((L : Int) + 1 ≤ m → ∀ c : Int, c = 1 ∨ c = 2 → ¬ th_p t A g c L p w v) := by
  have key : ∀ L', L ≤ L' → L' ≤ L + 1 → th_s t A g L' p w v e m → (m < (L : Int) + 1 → (e = 0 ∨ e = 1 ∨ e = 2) ∧ (∀ c : Int, c = 1 ∨ c = 2 → (e = c ↔ th_p t A g c L p w v))) ∧ ((L : Int) + 1 ≤ m → ∀ c : Int, c = 1 ∨ c = 2 → ¬ th_p t A g c L p w v) := by
    intro L' h1 h2 hs
    rcases hs with ⟨s1, s2, s3, s4⟩ | ⟨s1, s2, s3, s4⟩
    · refine ⟨fun hm => ⟨by omega, fun c hc => ⟨fun q => ?_, fun q => ?_⟩⟩, fun hm c hc q => ?_⟩
      · rw [← q]
        exact p_le s3 (by omega)
      · apply Classical.byContradiction
        intro z
        exact p_no' s1 hc z s3 q
      · by_cases z : e = c
        · rw [← z] at q
          have := s4 L q
          omega
        · exact p_no' s1 hc z s3 q
    · have n1 : ¬ th_p t A g 1 L p w v := fun q => s3 (p_le q h1)
      have n2 : ¬ th_p t A g 2 L p w v := fun q => s4 (p_le q h1)
      have nc : ∀ c : Int, c = 1 ∨ c = 2 → ¬ th_p t A g c L p w v := by
        rintro c (rfl | rfl)
        · exact n1
        · exact n2
      refine ⟨fun _ => ⟨Or.inl s1, fun c hc => ⟨fun q => by omega, fun q => absurd q (nc c hc)⟩⟩, fun _ => nc⟩
  rcases h with h | h
  · exact key L (Nat.le_refl _) (by omega) h
  · exact key (L + 1) (by omega) (Nat.le_refl _) h
/-- one move -/
def th_nx (t : Nat) (A : ab_M) (g : Nat) (c : Int) (k p w v to : Nat) : Prop := if v = 0 then th_p t A g c k to w 1 else th_p t A g c k p to 0
theorem p_step {t : Nat} {A : ab_M} {g L p w v : Nat} (hv : v < 2) (h1 : p ≠ w) (h2 : p ≠ g) : (th_p t A g (1 + (v : Int)) (L + 1) p w v ↔ ∃ to, to < th_n t A ∧ th_ld t A (if v = 0 then p else w) to ∧ th_nx t A g (1 + (v : Int)) L p w v to) ∧ (th_p t A g (2 - (v : Int)) (L + 1) p w v ↔ ∀ to, to < th_n t A → th_ld t A (if v = 0 then p else w) to → th_nx t A g (2 - (v : Int)) L p w v to) := by
  unfold th_p th_nx th_p
  by_cases c : v = 0
  · subst c
    simp only [if_true, Int.natCast_zero, Int.add_zero, Int.sub_zero]
    rw [if_neg (show ¬ (2 : Int) = 1 by decide)]
    refine ⟨⟨?_, ?_⟩, ⟨?_, ?_⟩⟩
    · rintro (q | q)
      · exact absurd q.2 h2
      · exact q.2.2.1 rfl
    · intro q
      exact Or.inr ⟨h1, h2, fun _ => q, fun z => absurd rfl z⟩
    · rintro (q | q)
      · exact absurd q h1
      · exact q.2.2.1 rfl
    · intro q
      exact Or.inr ⟨h1, h2, fun _ => q, fun z => absurd rfl z⟩
  · have e : v = 1 := by omega
    subst e
    simp only [if_neg c, show ((1 : Nat) : Int) = 1 from rfl, show (1 : Int) + 1 = 2 from rfl, show (2 : Int) - 1 = 1 from rfl]
    rw [if_neg (show ¬ (2 : Int) = 1 by decide)]
    simp only [if_true]
    refine ⟨⟨?_, ?_⟩, ⟨?_, ?_⟩⟩
    · rintro (q | q)
      · exact absurd q h1
      · exact q.2.2.2 c
    · intro q
      exact Or.inr ⟨h1, h2, fun z => absurd z c, fun _ => q⟩
    · rintro (q | q)
      · exact absurd q.2 h2
      · exact q.2.2.2 c
    · intro q
      exact Or.inr ⟨h1, h2, fun z => absurd z c, fun _ => q⟩
theorem s8 {d t : Nat} {M : ab_M} (hd : 1 ≤ d) (hS : pu_str t M) {p w v : Nat} (hp : p < 7) (hw : w < 7) (hv : v < 2) : ab_ev d 8 [.inl (p : Int), .inl (w : Int), .inl (v : Int)] M (some (.inl ((th_i p w v : Nat) : Int))) M := by
  refine ev_wp (b8_0 (by omega) hS ⟨by omega, by omega, by omega, by omega, ?_, rfl⟩)
  have : ((p : Int) * 7 + (w : Int)) * 2 + (v : Int) = ((th_i p w v : Nat) : Int) := by unfold th_i; omega
  rw [this]
theorem bit_tab : (ab_and 0 0 = 0 ∧ ab_and 1 0 = 0 ∧ ab_and 0 1 = 0 ∧ ab_and 1 1 = 1) ∧ (ab_or 0 0 = 0 ∧ ab_or 0 1 = 1 ∧ ab_or 1 0 = 1 ∧ ab_or 1 1 = 1) := by decide +kernel
/-- a truth value that a machine holds -/
def th_tv (x : Int) (P : Prop) : Prop := (x = 1 ∧ P) ∨ (x = 0 ∧ ¬ P)
theorem tv_ne {x : Int} {P : Prop} (h : th_tv x P) (q : x ≠ 0) : P := by
  rcases h with h | h
  · exact h.2
  · exact absurd h.1 q
theorem tv_z {x : Int} {P : Prop} (h : th_tv x P) (q : x = 0) : ¬ P := by
  rcases h with h | h
  · omega
  · exact h.2
theorem tv_and {x y : Int} {P Q : Prop} (h : th_tv x P) (k : th_tv y Q) : th_tv (ab_and x y) (P ∧ Q) := by
  obtain ⟨⟨b1, b2, b3, b4⟩, _⟩ := bit_tab
  rcases h with ⟨rfl, h⟩ | ⟨rfl, h⟩ <;> rcases k with ⟨rfl, k⟩ | ⟨rfl, k⟩
  · exact Or.inl ⟨b4, h, k⟩
  · exact Or.inr ⟨b2, fun z => k z.2⟩
  · exact Or.inr ⟨b3, fun z => h z.1⟩
  · exact Or.inr ⟨b1, fun z => h z.1⟩
theorem tv_or {x y : Int} {P Q : Prop} (h : th_tv x P) (k : th_tv y Q) : th_tv (ab_or x y) (P ∨ Q) := by
  obtain ⟨_, ⟨b1, b2, b3, b4⟩⟩ := bit_tab
  rcases h with ⟨rfl, h⟩ | ⟨rfl, h⟩ <;> rcases k with ⟨rfl, k⟩ | ⟨rfl, k⟩
  · exact Or.inl ⟨b4, Or.inl h⟩
  · exact Or.inl ⟨b3, Or.inl h⟩
  · exact Or.inl ⟨b2, Or.inr k⟩
  · exact Or.inr ⟨b1, fun z => z.elim h k⟩
theorem tv_c {x : Int} {P Q : Prop} (h : th_tv x P) (e : P ↔ Q) : th_tv x Q := by
  rcases h with h | h
  · exact Or.inl ⟨h.1, e.1 h.2⟩
  · exact Or.inr ⟨h.1, fun z => h.2 (e.2 z)⟩
theorem s11 {d t : Nat} {A M : ab_M} (hd : 2 ≤ d) (h : pu_at t A M) {g L p w v : Nat} (hp : p < th_n t A) (hw : w < th_n t A) (hv : v < 2) (hL : L < 200)
    (hall : ∀ p' w' v' : Nat, p' < th_n t A → w' < th_n t A → v' < 2 → th_h t A g L p' w' v' (M 99 (th_i p' w' v')) (M 100 (th_i p' w' v')))
    (hs : th_s t A g L p w v (M 99 (th_i p w v)) (M 100 (th_i p w v))) :
    ∃ M' r, ab_ev d 11 [.inr (.inr 98), .inr (.inr t), .inl (p : Int), .inl (w : Int), .inl (v : Int), .inl ((L : Int) + 1)] M (some (.inl r)) M' ∧ pu_at t A M' ∧ (∀ k f : Nat, ¬ ((k = 99 ∨ k = 100) ∧ f = th_i p w v) → M' k f = M k f) ∧ th_s t A g (L + 1) p w v (M' 99 (th_i p w v)) (M' 100 (th_i p w v)) ∧ (r = 0 ∨ r = 1) ∧ (r = 0 → M' 99 (th_i p w v) ≠ 0 → M' 100 (th_i p w v) ≤ (L : Int)) := by
  have ht : t = 5 ∨ t = 37 := h.2.1.2.2.1
  have t1 := h.1.2.1.1
  have hn : th_n t A ≤ 7 := by unfold th_n; omega
  have r0 : M t 0 = A t 0 := at_r h t 0 (by omega)
  have ihere : th_i p w v < 98 := by unfold th_i; omega
  have w8 := s8 (d := d - 1) (by omega) h.2.1 (p := p) (w := w) (v := v) (by omega) (by omega) hv
  have wd : ab_wp d 11 0 (ab_ent [.inr (.inr 98), .inr (.inr t), .inl (p : Int), .inl (w : Int), .inl (v : Int), .inl ((L : Int) + 1)] (ab_mx 11)) [] M (fun r' M' => ∃ r, r' = some (.inl r) ∧ pu_at t A M' ∧ (∀ k f : Nat, ¬ ((k = 99 ∨ k = 100) ∧ f = th_i p w v) → M' k f = M k f) ∧ th_s t A g (L + 1) p w v (M' 99 (th_i p w v)) (M' 100 (th_i p w v)) ∧ (r = 0 ∨ r = 1) ∧ (r = 0 → M' 99 (th_i p w v) ≠ 0 → M' 100 (th_i p w v) ≤ (L : Int))) := by
    by_cases c0 : M 99 (th_i p w v) = 0
    · have hs0 := hs.resolve_left (fun z => by have := z.1; omega)
      obtain ⟨_, m0, nE, nC⟩ := hs0
      have hpw : p ≠ w := by
        intro q
        apply nC
        unfold th_p
        rw [if_neg (by decide)]
        have : th_c (th_n t A) g (th_ld t A) 0 p w v := q
        exact c_le this (Nat.zero_le _)
      have hpg : p ≠ g := by
        intro q
        apply nE
        unfold th_p
        rw [if_pos rfl]
        have : th_e (th_n t A) g (th_ld t A) 0 p w v := ⟨hpw, q⟩
        exact e_le this (Nat.zero_le _)
      obtain ⟨st1, st2⟩ := p_step (t := t) (A := A) (L := L) hv hpw hpg
      have hwn : (1 + (v : Int) = 1 ∨ 1 + (v : Int) = 2) := by omega
      have hot : (2 - (v : Int) = 1 ∨ 2 - (v : Int) = 2) := by omega
      have nW : ∀ c : Int, c = 1 ∨ c = 2 → ¬ th_p t A g c L p w v := by
        rintro c (rfl | rfl)
        · exact nE
        · exact nC
      obtain ⟨fr, efr⟩ : ∃ fr : Nat, fr = if v = 0 then p else w := ⟨_, rfl⟩
      have hfr : fr < th_n t A := by
        rw [efr]
        split
        · exact hp
        · exact hw
      rw [← efr] at st1 st2
      have fin : ∀ (c : Int) (x9 x10 x11 : Int) y12 y13, (c = 1 ∨ c = 2) → th_p t A g c (L + 1) p w v → ab_wp d 11 210 [some (.inr (.inr 98)), some (.inr (.inr t)), some (.inl (p : Int)), some (.inl (w : Int)), some (.inl (v : Int)), some (.inl ((L : Int) + 1)), some (.inl ((th_i p w v : Nat) : Int)), some (.inl (1 + (v : Int))), some (.inl (fr : Int)), some (.inl x9), some (.inl x10), some (.inl x11), y12, y13] [.inl c, .inl ((th_i p w v : Nat) : Int), .inr (.inr 99)] M (fun r' M' => ∃ r, r' = some (.inl r) ∧ pu_at t A M' ∧ (∀ k f : Nat, ¬ ((k = 99 ∨ k = 100) ∧ f = th_i p w v) → M' k f = M k f) ∧ th_s t A g (L + 1) p w v (M' 99 (th_i p w v)) (M' 100 (th_i p w v)) ∧ (r = 0 ∨ r = 1) ∧ (r = 0 → M' 99 (th_i p w v) ≠ 0 → M' 100 (th_i p w v) ≤ (L : Int))) := by
        intro c x9 x10 x11 y12 y13 hc hP
        refine b11_210 (by omega) h.2.1 h.2.1.2.2.1 ⟨by omega, by omega, 1, rfl, ?_, ?_, ?_, Or.inr rfl, fun q => by omega⟩
        · exact at_w (at_w h (str_a h.2.1 rfl) (by omega)) (str_a (str_a h.2.1 rfl) rfl) (by omega)
        · intro k f hk
          rw [Int.toNat_natCast]
          unfold ab_w
          rw [if_neg (by omega), if_neg (by omega)]
        · rw [Int.toNat_natCast, ab_w_eq]
          have e1 : ab_w (ab_w M 99 (th_i p w v) c) 100 (th_i p w v) ((L : Int) + 1) 99 (th_i p w v) = c := by
            unfold ab_w
            rw [if_neg (by omega), if_pos ⟨rfl, rfl⟩]
          rw [e1]
          refine Or.inl ⟨hc, by omega, ?_, fun k hk => ?_⟩
          · rw [show ((L : Int) + 1).toNat = L + 1 from by omega]
            exact hP
          · have : ¬ k ≤ L := fun z => nW c hc (p_le hk z)
            omega
      have loop : ab_wp d 11 54 [some (.inr (.inr 98)), some (.inr (.inr t)), some (.inl (p : Int)), some (.inl (w : Int)), some (.inl (v : Int)), some (.inl ((L : Int) + 1)), some (.inl ((th_i p w v : Nat) : Int)), some (.inl (1 + (v : Int))), some (.inl (fr : Int)), some (.inl 1), some (.inl 0), some (.inl 0), none, none] [] M (fun r' M' => ∃ r, r' = some (.inl r) ∧ pu_at t A M' ∧ (∀ k f : Nat, ¬ ((k = 99 ∨ k = 100) ∧ f = th_i p w v) → M' k f = M k f) ∧ th_s t A g (L + 1) p w v (M' 99 (th_i p w v)) (M' 100 (th_i p w v)) ∧ (r = 0 ∨ r = 1) ∧ (r = 0 → M' 99 (th_i p w v) ≠ 0 → M' 100 (th_i p w v) ≤ (L : Int))) := by
        refine loop_up (P := fun k => ∀ (x9 x10 : Int) y12 y13, th_tv x9 (∀ to, to < k → th_ld t A fr to → th_nx t A g (2 - (v : Int)) L p w v to) → th_tv x10 (∃ to, to < k ∧ th_ld t A fr to ∧ th_nx t A g (1 + (v : Int)) L p w v to) → ab_wp d 11 54 [some (.inr (.inr 98)), some (.inr (.inr t)), some (.inl (p : Int)), some (.inl (w : Int)), some (.inl (v : Int)), some (.inl ((L : Int) + 1)), some (.inl ((th_i p w v : Nat) : Int)), some (.inl (1 + (v : Int))), some (.inl (fr : Int)), some (.inl x9), some (.inl x10), some (.inl (k : Int)), y12, y13] [] M _) (th_n t A) ?_ ?_ 0 (by omega) 1 0 _ _ (Or.inl ⟨rfl, fun to q => by omega⟩) (Or.inr ⟨rfl, fun ⟨to, q, _⟩ => by omega⟩)
        · intro x9 x10 y12 y13 h9 h10
          refine b11_54 (by omega) h.2.1 h.2.1.2.2.1 ⟨fun _ => ⟨fun q => ⟨fun z => absurd z q, fun _ => fin _ _ _ _ _ _ hwn (st1.2 (tv_ne h10 q))⟩, fun q => ⟨fun z => ⟨fun _ => ⟨by omega, ?_⟩, fun y => absurd q y⟩, fun z => ?_⟩⟩, fun q => by unfold th_n at q; omega⟩
          · rw [show 3 - (1 + (v : Int)) = 2 - (v : Int) from by omega]
            exact fin _ _ _ _ _ _ hot (st2.2 (tv_ne h9 z))
          · refine ⟨0, rfl, h, fun _ _ _ => rfl, ?_, Or.inl rfl, fun _ y => absurd c0 y⟩
            have a1 : ¬ th_p t A g (1 + (v : Int)) (L + 1) p w v := fun y => tv_z h10 q (st1.1 y)
            have a2 : ¬ th_p t A g (2 - (v : Int)) (L + 1) p w v := fun y => tv_z h9 z (st2.1 y)
            refine Or.inr ⟨c0, m0, ?_, ?_⟩
            · by_cases cv : v = 0
              · subst cv; exact a1
              · have ev : v = 1 := by omega
                subst ev; exact a2
            · by_cases cv : v = 0
              · subst cv; exact a2
              · have ev : v = 1 := by omega
                subst ev; exact a1
        · intro k hk ih x9 x10 y12 y13 h9 h10
          rw [Int.natCast_succ] at ih
          have hk' : (k : Int) < A t 0 := by unfold th_n at hk; omega
          have rgk : ab_rg ((k : Int) + 1) := by omega
          obtain ⟨nx, enx⟩ : ∃ nx : Nat, nx = if v = 0 then th_i k w 1 else th_i p k 0 := ⟨_, rfl⟩
          have nx98 : nx < 98 := by
            rw [enx]
            unfold th_i
            split <;> omega
          have rd : (M 100 nx < (L : Int) + 1 → (M 99 nx = 0 ∨ M 99 nx = 1 ∨ M 99 nx = 2) ∧ (∀ c : Int, c = 1 ∨ c = 2 → (M 99 nx = c ↔ th_nx t A g c L p w v k))) ∧ ((L : Int) + 1 ≤ M 100 nx → ∀ c : Int, c = 1 ∨ c = 2 → ¬ th_nx t A g c L p w v k) := by
            unfold th_nx
            by_cases cv : v = 0
            · rw [enx]
              simp only [if_pos cv]
              exact h_rd (hall k w 1 hk hw (by omega))
            · rw [enx]
              simp only [if_neg cv]
              exact h_rd (hall p k 0 hp hk (by omega))
          have good : th_ld t A fr k → ab_wp d 11 106 [some (.inr (.inr 98)), some (.inr (.inr t)), some (.inl (p : Int)), some (.inl (w : Int)), some (.inl (v : Int)), some (.inl ((L : Int) + 1)), some (.inl ((th_i p w v : Nat) : Int)), some (.inl (1 + (v : Int))), some (.inl (fr : Int)), some (.inl x9), some (.inl x10), some (.inl (k : Int)), y12, y13] [.inl (nx : Int)] M (fun r' M' => ∃ r, r' = some (.inl r) ∧ pu_at t A M' ∧ (∀ k f : Nat, ¬ ((k = 99 ∨ k = 100) ∧ f = th_i p w v) → M' k f = M k f) ∧ th_s t A g (L + 1) p w v (M' 99 (th_i p w v)) (M' 100 (th_i p w v)) ∧ (r = 0 ∨ r = 1) ∧ (r = 0 → M' 99 (th_i p w v) ≠ 0 → M' 100 (th_i p w v) ≤ (L : Int))) := by
            intro hld
            have nine : ∀ b : Int, th_tv b (th_nx t A g (2 - (v : Int)) L p w v k) → th_tv (ab_and x9 b) (∀ to, to < k + 1 → th_ld t A fr to → th_nx t A g (2 - (v : Int)) L p w v to) := by
              intro b hb
              refine tv_c (tv_and h9 hb) ⟨fun z to hto hl => ?_, fun z => ⟨fun to hto hl => z to (by omega) hl, z k (by omega) hld⟩⟩
              by_cases e : to = k
              · rw [e]; exact z.2
              · exact z.1 to (by omega) hl
            have ten : ∀ b : Int, th_tv b (th_nx t A g (1 + (v : Int)) L p w v k) → th_tv (ab_or x10 b) (∃ to, to < k + 1 ∧ th_ld t A fr to ∧ th_nx t A g (1 + (v : Int)) L p w v to) := by
              intro b hb
              refine tv_c (tv_or h10 hb) ⟨?_, ?_⟩
              · rintro (⟨to, a1, a2, a3⟩ | a)
                · exact ⟨to, by omega, a2, a3⟩
                · exact ⟨k, by omega, hld, a⟩
              · rintro ⟨to, a1, a2, a3⟩
                by_cases e : to = k
                · rw [e] at a3; exact Or.inr a3
                · exact Or.inl ⟨to, by omega, a2, a3⟩
            have fin147 : ∀ (e b : Int), (e = 0 ∨ e = 1 ∨ e = 2) → (∀ c : Int, c = 1 ∨ c = 2 → (e = c ↔ th_nx t A g c L p w v k)) → (b = if e = 1 + (v : Int) then 1 else 0) → ab_wp d 11 147 [some (.inr (.inr 98)), some (.inr (.inr t)), some (.inl (p : Int)), some (.inl (w : Int)), some (.inl (v : Int)), some (.inl ((L : Int) + 1)), some (.inl ((th_i p w v : Nat) : Int)), some (.inl (1 + (v : Int))), some (.inl (fr : Int)), some (.inl x9), some (.inl x10), some (.inl (k : Int)), some (.inl (nx : Int)), some (.inl e)] [.inl b, .inl x10] M (fun r' M' => ∃ r, r' = some (.inl r) ∧ pu_at t A M' ∧ (∀ k f : Nat, ¬ ((k = 99 ∨ k = 100) ∧ f = th_i p w v) → M' k f = M k f) ∧ th_s t A g (L + 1) p w v (M' 99 (th_i p w v)) (M' 100 (th_i p w v)) ∧ (r = 0 ∨ r = 1) ∧ (r = 0 → M' 99 (th_i p w v) ≠ 0 → M' 100 (th_i p w v) ≤ (L : Int))) := by
              intro e b he hec hb
              have tb : th_tv b (th_nx t A g (1 + (v : Int)) L p w v k) := by
                rw [← hec _ hwn, hb]
                by_cases z : e = 1 + (v : Int)
                · rw [if_pos z]; exact Or.inl ⟨rfl, z⟩
                · rw [if_neg z]; exact Or.inr ⟨rfl, z⟩
              refine b11_147 (by omega) h.2.1 h.2.1.2.2.1 ⟨fun q => ⟨rgk, ih _ _ _ _ (nine 0 (Or.inr ⟨rfl, fun y => ?_⟩)) (ten b tb)⟩, fun q => ⟨fun z => ⟨rgk, ih _ _ _ _ (nine 0 (Or.inr ⟨rfl, fun y => ?_⟩)) (ten b tb)⟩, fun z => ⟨rgk, ih _ _ _ _ (nine 1 (Or.inl ⟨rfl, ?_⟩)) (ten b tb)⟩⟩⟩
              · have := (hec _ hot).2 y
                omega
              · have := (hec _ hot).2 y
                omega
              · exact (hec _ hot).1 (by omega)
            have zero_ec : (L : Int) + 1 ≤ M 100 nx → ∀ c : Int, c = 1 ∨ c = 2 → ((0 : Int) = c ↔ th_nx t A g c L p w v k) := fun q c hc => ⟨fun y => by omega, fun y => absurd y (rd.2 q c hc)⟩
            refine b11_106 (by omega) h.2.1 h.2.1.2.2.1 ?_
            rw [Int.toNat_natCast]
            refine ⟨by omega, fun q => ⟨fun z => fin147 0 0 (Or.inl rfl) (zero_ec q) (by rw [if_neg (by omega)]), fun z => by omega⟩, fun q => ⟨fun z => fin147 _ 0 (rd.1 q).1 (rd.1 q).2 (by rw [if_neg z]), fun z => fin147 _ 1 (rd.1 q).1 (rd.1 q).2 (by rw [if_pos z])⟩⟩
          have call : th_ld t A fr k → ((v : Int) ≠ 0 → ∃ r1 M1, ab_ev (d - 1) 8 [.inl (p : Int), .inl (k : Int), .inl 0] M (some (.inl r1)) M1 ∧ pu_str t M1 ∧ ab_wp d 11 106 [some (.inr (.inr 98)), some (.inr (.inr t)), some (.inl (p : Int)), some (.inl (w : Int)), some (.inl (v : Int)), some (.inl ((L : Int) + 1)), some (.inl ((th_i p w v : Nat) : Int)), some (.inl (1 + (v : Int))), some (.inl (fr : Int)), some (.inl x9), some (.inl x10), some (.inl (k : Int)), y12, y13] [.inl r1] M1 (fun r' M' => ∃ r, r' = some (.inl r) ∧ pu_at t A M' ∧ (∀ k f : Nat, ¬ ((k = 99 ∨ k = 100) ∧ f = th_i p w v) → M' k f = M k f) ∧ th_s t A g (L + 1) p w v (M' 99 (th_i p w v)) (M' 100 (th_i p w v)) ∧ (r = 0 ∨ r = 1) ∧ (r = 0 → M' 99 (th_i p w v) ≠ 0 → M' 100 (th_i p w v) ≤ (L : Int)))) ∧ ((v : Int) = 0 → ∃ r1 M1, ab_ev (d - 1) 8 [.inl (k : Int), .inl (w : Int), .inl 1] M (some (.inl r1)) M1 ∧ pu_str t M1 ∧ ab_wp d 11 106 [some (.inr (.inr 98)), some (.inr (.inr t)), some (.inl (p : Int)), some (.inl (w : Int)), some (.inl (v : Int)), some (.inl ((L : Int) + 1)), some (.inl ((th_i p w v : Nat) : Int)), some (.inl (1 + (v : Int))), some (.inl (fr : Int)), some (.inl x9), some (.inl x10), some (.inl (k : Int)), y12, y13] [.inl r1] M1 (fun r' M' => ∃ r, r' = some (.inl r) ∧ pu_at t A M' ∧ (∀ k f : Nat, ¬ ((k = 99 ∨ k = 100) ∧ f = th_i p w v) → M' k f = M k f) ∧ th_s t A g (L + 1) p w v (M' 99 (th_i p w v)) (M' 100 (th_i p w v)) ∧ (r = 0 ∨ r = 1) ∧ (r = 0 → M' 99 (th_i p w v) ≠ 0 → M' 100 (th_i p w v) ≤ (L : Int)))) := by
            intro hld
            refine ⟨fun q => ⟨((th_i p k 0 : Nat) : Int), M, s8 (v := 0) (by omega) h.2.1 (by omega) (by omega) (by omega), h.2.1, ?_⟩, fun q => ⟨((th_i k w 1 : Nat) : Int), M, s8 (v := 1) (by omega) h.2.1 (by omega) (by omega) (by omega), h.2.1, ?_⟩⟩
            · have g1 := good hld
              rw [if_neg (show ¬ v = 0 by omega)] at enx
              rw [enx] at g1
              exact g1
            · have g1 := good hld
              rw [if_pos (show v = 0 by omega)] at enx
              rw [enx] at g1
              exact g1
          refine b11_54 (by omega) h.2.1 h.2.1.2.2.1 ⟨fun q => by omega, fun _ => ⟨fun q => call (Or.inl (by omega)), fun q => ⟨by omega, by omega, fun z => ⟨rgk, ih _ _ _ _ ?_ ?_⟩, fun z => call (Or.inr ?_)⟩⟩⟩
          · refine tv_c h9 ⟨fun y to hto hl => ?_, fun y to hto hl => y to (by omega) hl⟩
            by_cases e : to = k
            · exfalso
              rw [e] at hl
              rw [Int.toNat_natCast, Int.toNat_natCast, show t + 2 + fr = t + (2 + fr) from by omega, at_t h (2 + fr) k (by omega), show t + (2 + fr) = t + 2 + fr from by omega] at z
              rcases hl with u | u
              · omega
              · exact u z
            · exact y to (by omega) hl
          · refine tv_c h10 ⟨?_, ?_⟩
            · rintro ⟨to, a1, a2, a3⟩
              exact ⟨to, by omega, a2, a3⟩
            · rintro ⟨to, a1, a2, a3⟩
              by_cases e : to = k
              · exfalso
                rw [e] at a2
                rw [Int.toNat_natCast, Int.toNat_natCast, show t + 2 + fr = t + (2 + fr) from by omega, at_t h (2 + fr) k (by omega), show t + (2 + fr) = t + 2 + fr from by omega] at z
                rcases a2 with u | u
                · omega
                · exact u z
              · exact ⟨to, by omega, a2, a3⟩
          · rw [Int.toNat_natCast, Int.toNat_natCast, show t + 2 + fr = t + (2 + fr) from by omega, at_t h (2 + fr) k (by omega), show t + (2 + fr) = t + 2 + fr from by omega] at z
            exact z
      refine b11_0 (by omega) h.2.1 h.2.1.2.2.1 ⟨_, _, w8, h.2.1, by omega, ?_⟩
      rw [Int.toNat_natCast]
      refine ⟨fun _ => ⟨fun q => ⟨fun _ => b11_43 (by omega) h.2.1 h.2.1.2.2.1 ?_, fun z => absurd z q⟩, fun q => ⟨fun z => absurd q z, fun _ => b11_43 (by omega) h.2.1 h.2.1.2.2.1 ?_⟩⟩, fun q => absurd c0 q⟩
      · have ev : v = 1 := by omega
        subst ev
        rw [if_neg (by decide)] at efr
        rw [efr] at loop
        exact loop
      · have ev : v = 0 := by omega
        subst ev
        rw [if_pos rfl] at efr
        rw [efr] at loop
        exact loop
    · refine b11_0 (by omega) h.2.1 h.2.1.2.2.1 ⟨_, _, w8, h.2.1, by omega, ?_⟩
      rw [Int.toNat_natCast]
      refine ⟨fun q => absurd q c0, fun _ => ⟨0, rfl, h, fun _ _ _ => rfl, ?_, Or.inl rfl, fun _ _ => ?_⟩⟩
      · rcases hs with ⟨s1, s2, s3, s4⟩ | s
        · exact Or.inl ⟨s1, by omega, s3, s4⟩
        · exact absurd s.1 c0
      · rcases hs with ⟨s1, s2, s3, s4⟩ | s
        · omega
        · exact absurd s.1 c0
  obtain ⟨r', M', e, r, rfl, h1, h2, h3, h4, h5⟩ := wp_ev wd
  exact ⟨M', r, e, h1, h2, h3, h4, h5⟩
