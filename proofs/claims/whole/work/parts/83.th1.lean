/-! the thief, purely: n squares, g where he is safe, ld the ways (and to stay) -/
def th_E (n g : Nat) (ld : Nat → Nat → Prop) : Nat → Nat → Nat → Prop
  | 0, t, w => t = g ∧ t ≠ w
  | k + 1, t, w => (t = g ∧ t ≠ w) ∨ (t ≠ w ∧ t ≠ g ∧ ∃ to, to < n ∧ ld t to ∧ to ≠ w ∧ (to = g ∨ ∀ b, b < n → ld w b → b ≠ to ∧ th_E n g ld k to b))
def th_K (n g : Nat) (ld : Nat → Nat → Prop) : Nat → Nat → Nat → Prop
  | 0, t, w => t = w
  | k + 1, t, w => t = w ∨ (t ≠ w ∧ t ≠ g ∧ ∀ to, to < n → ld t to → (to = w ∨ (to ≠ g ∧ ∃ b, b < n ∧ ld w b ∧ (b = to ∨ th_K n g ld k to b))))
/-- by moves: v = 0 the thief moves, 1 the watchman -/
def th_e (n g : Nat) (ld : Nat → Nat → Prop) : Nat → Nat → Nat → Nat → Prop
  | 0, t, w, _ => t ≠ w ∧ t = g
  | m + 1, t, w, v => (t ≠ w ∧ t = g) ∨ (t ≠ w ∧ t ≠ g ∧ (v = 0 → ∃ to, to < n ∧ ld t to ∧ th_e n g ld m to w 1) ∧ (v ≠ 0 → ∀ to, to < n → ld w to → th_e n g ld m t to 0))
def th_c (n g : Nat) (ld : Nat → Nat → Prop) : Nat → Nat → Nat → Nat → Prop
  | 0, t, w, _ => t = w
  | m + 1, t, w, v => t = w ∨ (t ≠ w ∧ t ≠ g ∧ (v = 0 → ∀ to, to < n → ld t to → th_c n g ld m to w 1) ∧ (v ≠ 0 → ∃ to, to < n ∧ ld w to ∧ th_c n g ld m t to 0))
theorem e_up {n g : Nat} {ld : Nat → Nat → Prop} : ∀ m t w v, th_e n g ld m t w v → th_e n g ld (m + 1) t w v
  | 0, t, w, v, h => Or.inl h
  | m + 1, t, w, v, h => by
    rcases h with h | ⟨h1, h2, h3, h4⟩
    · exact Or.inl h
    · refine Or.inr ⟨h1, h2, fun q => ?_, fun q to a b => e_up m _ _ _ (h4 q to a b)⟩
      obtain ⟨to, a, b, c⟩ := h3 q
      exact ⟨to, a, b, e_up m _ _ _ c⟩
theorem c_up {n g : Nat} {ld : Nat → Nat → Prop} : ∀ m t w v, th_c n g ld m t w v → th_c n g ld (m + 1) t w v
  | 0, t, w, v, h => Or.inl h
  | m + 1, t, w, v, h => by
    rcases h with h | ⟨h1, h2, h3, h4⟩
    · exact Or.inl h
    · refine Or.inr ⟨h1, h2, fun q to a b => c_up m _ _ _ (h3 q to a b), fun q => ?_⟩
      obtain ⟨to, a, b, c⟩ := h4 q
      exact ⟨to, a, b, c_up m _ _ _ c⟩
theorem e_mono {n g : Nat} {ld : Nat → Nat → Prop} {m t w v : Nat} (h : th_e n g ld m t w v) : ∀ k, th_e n g ld (m + k) t w v
  | 0 => h
  | k + 1 => e_up _ _ _ _ (e_mono h k)
theorem c_mono {n g : Nat} {ld : Nat → Nat → Prop} {m t w v : Nat} (h : th_c n g ld m t w v) : ∀ k, th_c n g ld (m + k) t w v
  | 0 => h
  | k + 1 => c_up _ _ _ _ (c_mono h k)
theorem e_le {n g : Nat} {ld : Nat → Nat → Prop} {m m' t w v : Nat} (h : th_e n g ld m t w v) (hl : m ≤ m') : th_e n g ld m' t w v := by
  have := e_mono h (m' - m)
  rw [show m + (m' - m) = m' from by omega] at this
  exact this
theorem c_le {n g : Nat} {ld : Nat → Nat → Prop} {m m' t w v : Nat} (h : th_c n g ld m t w v) (hl : m ≤ m') : th_c n g ld m' t w v := by
  have := c_mono h (m' - m)
  rw [show m + (m' - m) = m' from by omega] at this
  exact this
theorem ec_no {n g : Nat} {ld : Nat → Nat → Prop} : ∀ m m' t w v, th_e n g ld m t w v → th_c n g ld m' t w v → False
  | 0, 0, t, w, v, h, k => h.1 k
  | 0, m' + 1, t, w, v, h, k => by
    rcases k with k | k
    · exact h.1 k
    · exact k.2.1 h.2
  | m + 1, 0, t, w, v, h, k => by
    rcases h with h | h
    · exact h.1 k
    · exact h.1 k
  | m + 1, m' + 1, t, w, v, h, k => by
    rcases h with h | ⟨h1, h2, h3, h4⟩ <;> rcases k with k | ⟨k1, k2, k3, k4⟩
    · exact h.1 k
    · exact k2 h.2
    · exact h1 k
    · by_cases c : v = 0
      · obtain ⟨to, a, b, e⟩ := h3 c
        exact ec_no m m' _ _ _ e (k3 c to a b)
      · obtain ⟨to, a, b, e⟩ := k4 c
        exact ec_no m m' _ _ _ (h4 c to a b) e
theorem E_ne {n g : Nat} {ld : Nat → Nat → Prop} : ∀ k t w, th_E n g ld k t w → t ≠ w
  | 0, _, _, h => h.2
  | _ + 1, _, _, h => h.elim (fun q => q.2) (fun q => q.1)
theorem E_e {n g : Nat} {ld : Nat → Nat → Prop} (hl : ∀ a, ld a a) : ∀ k t w, t < n → w < n → (th_E n g ld k t w ↔ th_e n g ld (2 * k) t w 0)
  | 0, t, w, _, _ => ⟨fun h => ⟨h.2, h.1⟩, fun h => ⟨h.2, h.1⟩⟩
  | k + 1, t, w, ht, hw => by
    have ih := E_e (n := n) (g := g) hl k
    show th_E n g ld (k + 1) t w ↔ th_e n g ld (2 * k + 1 + 1) t w 0
    constructor
    · rintro (h | ⟨h1, h2, to, h3, h4, h5, h6⟩)
      · exact Or.inl ⟨h.2, h.1⟩
      · refine Or.inr ⟨h1, h2, fun _ => ⟨to, h3, h4, ?_⟩, fun q => absurd rfl q⟩
        by_cases c : to = g
        · exact Or.inl ⟨h5, c⟩
        · refine Or.inr ⟨h5, c, fun q => absurd q (by decide), fun _ b hb lb => ?_⟩
          exact (ih to b h3 hb).1 ((h6.resolve_left c) b hb lb).2
    · rintro (h | ⟨h1, h2, h3, _⟩)
      · exact Or.inl ⟨h.2, h.1⟩
      · obtain ⟨to, h4, h5, h6⟩ := h3 rfl
        refine Or.inr ⟨h1, h2, to, h4, h5, ?_⟩
        rcases h6 with h6 | ⟨h6, h7, _, h9⟩
        · exact ⟨h6.1, Or.inl h6.2⟩
        · refine ⟨h6, Or.inr (fun b hb lb => ?_)⟩
          have e := (ih to b h4 hb).2 (h9 (by decide) b hb lb)
          exact ⟨fun q => E_ne _ _ _ e q.symm, e⟩
theorem K_c {n g : Nat} {ld : Nat → Nat → Prop} (hl : ∀ a, ld a a) : ∀ k t w, t < n → w < n → (th_K n g ld k t w ↔ th_c n g ld (2 * k) t w 0)
  | 0, t, w, _, _ => Iff.rfl
  | k + 1, t, w, ht, hw => by
    have ih := K_c (n := n) (g := g) hl k
    show th_K n g ld (k + 1) t w ↔ th_c n g ld (2 * k + 1 + 1) t w 0
    constructor
    · rintro (h | ⟨h1, h2, h3⟩)
      · exact Or.inl h
      · refine Or.inr ⟨h1, h2, fun _ to a b => ?_, fun q => absurd rfl q⟩
        rcases h3 to a b with q | ⟨q, b', c1, c2, c3⟩
        · exact Or.inl q
        · by_cases cw : to = w
          · exact Or.inl cw
          · refine Or.inr ⟨cw, q, fun z => absurd z (by decide), fun _ => ⟨b', c1, c2, ?_⟩⟩
            rcases c3 with c3 | c3
            · rw [c3]
              have : th_c n g ld (0 + 2 * k) to to 0 := c_mono (m := 0) (show th_c n g ld 0 to to 0 from rfl) (2 * k)
              rw [Nat.zero_add] at this
              exact this
            · exact (ih to b' a c1).1 c3
    · rintro (h | ⟨h1, h2, h3, _⟩)
      · exact Or.inl h
      · refine Or.inr ⟨h1, h2, fun to a b => ?_⟩
        rcases h3 rfl to a b with q | ⟨q1, q2, _, q4⟩
        · exact Or.inl q
        · obtain ⟨b', c1, c2, c3⟩ := q4 (by decide)
          exact Or.inr ⟨q2, b', c1, c2, Or.inr ((ih to b' a c1).2 c3)⟩
theorem E_up {n g : Nat} {ld : Nat → Nat → Prop} : ∀ k t w, th_E n g ld k t w → th_E n g ld (k + 1) t w
  | 0, t, w, h => Or.inl h
  | k + 1, t, w, h => by
    rcases h with h | ⟨h1, h2, to, h3, h4, h5, h6⟩
    · exact Or.inl h
    · refine Or.inr ⟨h1, h2, to, h3, h4, h5, ?_⟩
      rcases h6 with h6 | h6
      · exact Or.inl h6
      · exact Or.inr (fun b hb lb => ⟨(h6 b hb lb).1, E_up k _ _ (h6 b hb lb).2⟩)
theorem K_up {n g : Nat} {ld : Nat → Nat → Prop} : ∀ k t w, th_K n g ld k t w → th_K n g ld (k + 1) t w
  | 0, t, w, h => Or.inl h
  | k + 1, t, w, h => by
    rcases h with h | ⟨h1, h2, h3⟩
    · exact Or.inl h
    · refine Or.inr ⟨h1, h2, fun to a b => ?_⟩
      rcases h3 to a b with q | ⟨q, b', c1, c2, c3⟩
      · exact Or.inl q
      · refine Or.inr ⟨q, b', c1, c2, ?_⟩
        rcases c3 with c3 | c3
        · exact Or.inl c3
        · exact Or.inr (K_up k _ _ c3)
theorem up_le {P : Nat → Prop} (h : ∀ k, P k → P (k + 1)) {a b : Nat} (hab : a ≤ b) (ha : P a) : P b := by
  have : ∀ j, P (a + j) := by
    intro j
    induction j with
    | zero => exact ha
    | succ j ih => exact h _ ih
  have := this (b - a)
  rw [show a + (b - a) = b from by omega] at this
  exact this
/-! a chain of growing sets stands still -/
theorem filter_lt {p q : Nat → Bool} : ∀ (L : List Nat), (∀ x, x ∈ L → p x = true → q x = true) → (∃ x, x ∈ L ∧ q x = true ∧ ¬ p x = true) → (L.filter p).length < (L.filter q).length
  | [], _, ⟨x, h, _⟩ => absurd h List.not_mem_nil
  | y :: L, h, ⟨x, hx, h1, h2⟩ => by
    have le : (L.filter p).length ≤ (L.filter q).length := by
      have : ∀ (L : List Nat), (∀ x, x ∈ L → p x = true → q x = true) → (L.filter p).length ≤ (L.filter q).length := by
        intro L
        induction L with
        | nil => intro _; exact Nat.le_refl _
        | cons z L ih =>
          intro h
          have ih := ih (fun x hx => h x (List.mem_cons_of_mem _ hx))
          by_cases c : p z = true
          · rw [List.filter_cons_of_pos c, List.filter_cons_of_pos (h z List.mem_cons_self c), List.length_cons, List.length_cons]
            omega
          · rw [List.filter_cons_of_neg c]
            by_cases c2 : q z = true
            · rw [List.filter_cons_of_pos c2, List.length_cons]; omega
            · rw [List.filter_cons_of_neg c2]; exact ih
      exact this L (fun x hx => h x (List.mem_cons_of_mem _ hx))
    by_cases c : p y = true
    · have hxL : x ∈ L := by
        rcases List.mem_cons.1 hx with e | e
        · rw [e] at h2; exact absurd c h2
        · exact e
      have ih := filter_lt L (fun x hx => h x (List.mem_cons_of_mem _ hx)) ⟨x, hxL, h1, h2⟩
      rw [List.filter_cons_of_pos c, List.filter_cons_of_pos (h y List.mem_cons_self c), List.length_cons, List.length_cons]
      omega
    · rw [List.filter_cons_of_neg c]
      by_cases c2 : q y = true
      · rw [List.filter_cons_of_pos c2, List.length_cons]; omega
      · have hxL : x ∈ L := by
          rcases List.mem_cons.1 hx with e | e
          · rw [e] at h1; exact absurd h1 c2
          · exact e
        rw [List.filter_cons_of_neg c2]
        exact filter_lt L (fun x hx => h x (List.mem_cons_of_mem _ hx)) ⟨x, hxL, h1, h2⟩
theorem chain_stop (P : Nat → Nat → Prop) (L : List Nat) (up : ∀ k x, P k x → P (k + 1) x) (st : ∀ k, (∀ x, x ∈ L → P (k + 1) x → P k x) → ∀ x, x ∈ L → P (k + 2) x → P (k + 1) x) : ∀ k x, x ∈ L → P k x → P L.length x := by
  have stable : ∃ j, j ≤ L.length ∧ ∀ x, x ∈ L → P (j + 1) x → P j x := by
    apply Classical.byContradiction
    intro hno
    have key : ∀ j, j ≤ L.length + 1 → j ≤ (L.filter (fun x => @decide (P j x) (Classical.propDecidable _))).length := by
      intro j
      induction j with
      | zero => intro _; exact Nat.zero_le _
      | succ j ih =>
        intro hj
        have ih := ih (by omega)
        have ns : ∃ x, x ∈ L ∧ P (j + 1) x ∧ ¬ P j x := by
          apply Classical.byContradiction
          intro h2
          apply hno
          refine ⟨j, by omega, fun x hx hp => ?_⟩
          apply Classical.byContradiction
          intro h3
          exact h2 ⟨x, hx, hp, h3⟩
        obtain ⟨x, hx, h1, h2⟩ := ns
        have := filter_lt (p := fun x => @decide (P j x) (Classical.propDecidable _)) (q := fun x => @decide (P (j + 1) x) (Classical.propDecidable _)) L (fun y _ hy => by
          have hy := (@decide_eq_true_iff _ (Classical.propDecidable _)).1 hy
          exact (@decide_eq_true_iff _ (Classical.propDecidable _)).2 (up j y hy)) ⟨x, hx, (@decide_eq_true_iff _ (Classical.propDecidable _)).2 h1, fun z => h2 ((@decide_eq_true_iff _ (Classical.propDecidable _)).1 z)⟩
        omega
    have := key (L.length + 1) (Nat.le_refl _)
    have := List.length_filter_le (fun x => @decide (P (L.length + 1) x) (Classical.propDecidable _)) L
    omega
  obtain ⟨j, hj, hs⟩ := stable
  have all : ∀ i x, x ∈ L → P (j + i + 1) x → P (j + i) x := by
    intro i
    induction i with
    | zero => exact hs
    | succ i ih =>
      intro x hx hp
      exact st (j + i) ih x hx hp
  intro k x hx hp
  have down : ∀ i, P (j + i) x → P j x := by
    intro i
    induction i with
    | zero => exact id
    | succ i ih => intro q; exact ih (all i x hx q)
  have pj : P j x := by
    by_cases c : j ≤ k
    · have : P (j + (k - j)) x := by rw [show j + (k - j) = k from by omega]; exact hp
      exact down _ this
    · exact up_le (P := fun k => P k x) (fun k => up k x) (by omega) hp
  exact up_le (P := fun k => P k x) (fun k => up k x) hj pj
def th_L : List Nat := (List.range 49).filter (fun k => decide (k / 7 ≠ k % 7))
theorem th_L42 : th_L.length = 42 := by decide +kernel
theorem L_mem {t w : Nat} (ht : t < 7) (hw : w < 7) (h : t ≠ w) : 7 * t + w ∈ th_L := by
  unfold th_L
  rw [List.mem_filter, List.mem_range, decide_eq_true_eq]
  omega
theorem E_stop {n g : Nat} {ld : Nat → Nat → Prop} (hn : n ≤ 7) {k t w : Nat} (ht : t < n) (hw : w < n) (h : th_E n g ld k t w) : th_E n g ld 42 t w := by
  have key := chain_stop (fun k x => x / 7 < n ∧ x % 7 < n ∧ th_E n g ld k (x / 7) (x % 7)) th_L (fun k x hp => ⟨hp.1, hp.2.1, E_up _ _ _ hp.2.2⟩) (fun k hs x hx hp => by
    obtain ⟨p1, p2, p3⟩ := hp
    refine ⟨p1, p2, ?_⟩
    rcases p3 with p3 | ⟨h1, h2, to, h3, h4, h5, h6⟩
    · exact Or.inl p3
    · refine Or.inr ⟨h1, h2, to, h3, h4, h5, ?_⟩
      rcases h6 with h6 | h6
      · exact Or.inl h6
      · refine Or.inr (fun b hb lb => ?_)
        obtain ⟨b1, b2⟩ := h6 b hb lb
        have e1 : (7 * to + b) / 7 = to := by omega
        have e2 : (7 * to + b) % 7 = b := by omega
        have := hs (7 * to + b) (L_mem (by omega) (by omega) (fun z => b1 z.symm)) (by rw [e1, e2]; exact ⟨h3, hb, b2⟩)
        rw [e1, e2] at this
        exact ⟨b1, this.2.2⟩) k (7 * t + w) (L_mem (by omega) (by omega) (E_ne _ _ _ h)) (by
    rw [show (7 * t + w) / 7 = t from by omega, show (7 * t + w) % 7 = w from by omega]
    exact ⟨ht, hw, h⟩)
  rw [th_L42, show (7 * t + w) / 7 = t from by omega, show (7 * t + w) % 7 = w from by omega] at key
  exact key.2.2
theorem K_stop {n g : Nat} {ld : Nat → Nat → Prop} (hn : n ≤ 7) {k t w : Nat} (ht : t < n) (hw : w < n) (h : th_K n g ld k t w) : th_K n g ld 42 t w := by
  by_cases c : t = w
  · exact Or.inl c
  · have key := chain_stop (fun k x => x / 7 < n ∧ x % 7 < n ∧ th_K n g ld k (x / 7) (x % 7)) th_L (fun k x hp => ⟨hp.1, hp.2.1, K_up _ _ _ hp.2.2⟩) (fun k hs x hx hp => by
      obtain ⟨p1, p2, p3⟩ := hp
      refine ⟨p1, p2, ?_⟩
      rcases p3 with p3 | ⟨h1, h2, h3⟩
      · exact Or.inl p3
      · refine Or.inr ⟨h1, h2, fun to a b => ?_⟩
        rcases h3 to a b with q | ⟨q, b', c1, c2, c3⟩
        · exact Or.inl q
        · refine Or.inr ⟨q, b', c1, c2, ?_⟩
          rcases c3 with c3 | c3
          · exact Or.inl c3
          · by_cases ce : b' = to
            · exact Or.inl ce
            · right
              have e1 : (7 * to + b') / 7 = to := by omega
              have e2 : (7 * to + b') % 7 = b' := by omega
              have := hs (7 * to + b') (L_mem (by omega) (by omega) (fun z => ce z.symm)) (by rw [e1, e2]; exact ⟨a, c1, c3⟩)
              rw [e1, e2] at this
              exact this.2.2) k (7 * t + w) (L_mem (by omega) (by omega) c) (by
      rw [show (7 * t + w) / 7 = t from by omega, show (7 * t + w) % 7 = w from by omega]
      exact ⟨ht, hw, h⟩)
    rw [th_L42, show (7 * t + w) / 7 = t from by omega, show (7 * t + w) % 7 = w from by omega] at key
    exact key.2.2
