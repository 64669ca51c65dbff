/-! reword -/
def rc_k (f : Nat → Int) (s : Nat) : Nat → Int
  | 0 => 0
  | n + 1 => if rc_k f s n = -1 then -1 else if s.testBit n = true then (if f n = -1 then -1 else rc_k f s n + f n) else rc_k f s n
theorem rc_s (f : Nat → Int) (s n : Nat) : rc_k f s (n + 1) = if rc_k f s n = -1 then -1 else if s.testBit n = true then (if f n = -1 then -1 else rc_k f s n + f n) else rc_k f s n := rfl
theorem rc_none (f : Nat → Int) (s n : Nat) (h : rc_k f s n = -1) : ∀ k, rc_k f s (n + k) = -1
  | 0 => h
  | k + 1 => by rw [← Nat.add_assoc, rc_s, if_pos (rc_none f s n h k)]
theorem rc_rg {f : Nat → Int} {s : Nat} : ∀ n, (∀ i, i < n → -1 ≤ f i ∧ f i ≤ 99) → rc_k f s n = -1 ∨ (0 ≤ rc_k f s n ∧ rc_k f s n ≤ 99 * n)
  | 0, _ => by right; exact ⟨Int.le_refl _, Int.le_refl _⟩
  | n + 1, h => by
    have ih := rc_rg (f := f) (s := s) n (fun i hi => h i (by omega))
    have hn := h n (by omega)
    rw [rc_s]
    by_cases c : rc_k f s n = -1
    · rw [if_pos c]; exact Or.inl rfl
    · rw [if_neg c]
      by_cases c2 : s.testBit n = true
      · rw [if_pos c2]
        by_cases c3 : f n = -1
        · rw [if_pos c3]; exact Or.inl rfl
        · rw [if_neg c3]; omega
      · rw [if_neg c2]; omega
theorem rc_m {f : Nat → Int} {s : Nat} : ∀ n, (∀ i, i < n → -1 ≤ f i ∧ f i ≤ 99) → (rc_k f s n = -1 → 1000000 ≤ pu_sum (fun i => if f i < 0 then 1000000 else f i) s n) ∧ (rc_k f s n ≠ -1 → pu_sum (fun i => if f i < 0 then 1000000 else f i) s n = rc_k f s n)
  | 0, _ => ⟨fun q => absurd (show (0 : Int) = -1 from q) (by decide), fun _ => rfl⟩
  | n + 1, h => by
    have ih := rc_m (f := f) (s := s) n (fun i hi => h i (by omega))
    have rg := rc_rg (f := f) (s := s) n (fun i hi => h i (by omega))
    have hn := h n (by omega)
    have sb := pu_sum_b (f := fun i => if f i < 0 then 1000000 else f i) (s := s) (B := 1000000) (by omega) n (fun i hi => by
      have := h i (by omega)
      split <;> omega)
    rw [rc_s, pu_sum_s]
    by_cases c : rc_k f s n = -1
    · rw [if_pos c]
      refine ⟨fun _ => ?_, fun q => absurd rfl q⟩
      have := ih.1 c
      by_cases c2 : s.testBit n = true
      · rw [if_pos c2]; split <;> omega
      · rw [if_neg c2]; omega
    · rw [if_neg c]
      have e := ih.2 c
      by_cases c2 : s.testBit n = true
      · rw [if_pos c2, if_pos c2]
        by_cases c3 : f n = -1
        · rw [if_pos c3, if_pos (by omega)]
          exact ⟨fun _ => by omega, fun q => absurd rfl q⟩
        · rw [if_neg c3, if_neg (by omega)]
          exact ⟨fun q => by omega, fun _ => by omega⟩
      · rw [if_neg c2, if_neg c2]
        exact ⟨fun q => absurd q c, fun _ => by omega⟩
def rd_co (t : Nat) (A : ab_M) (s : Nat) : Int := rc_k (A (t + 23)) s (rd_nd t A)
theorem price_rg {t : Nat} {A : ab_M} (h : pu_inv t A) : ∀ i, i < rd_nd t A → -1 ≤ A (t + 23) i ∧ A (t + 23) i ≤ 99 := by
  intro i hi
  obtain ⟨_, _, t3, _, _, _, _, t8, _⟩ := h.2.1
  have := t8 i (by unfold rd_nd at hi; omega)
  omega
theorem s61 {d t : Nat} {A M : ab_M} (hd : 1 ≤ d) (h : pu_at t A M) {s : Nat} (hs : s < 64) : ab_ev d 61 [.inr (.inr t), .inl (s : Int)] M (some (.inl (rd_co t A s))) M := by
  have ht : t = 5 ∨ t = 37 := h.2.1.2.2.1
  have t3 := h.1.2.1.2.2.1
  have hn : rd_nd t A ≤ 6 := by unfold rd_nd; omega
  have pr := price_rg h.1
  have r3 : M t 3 = A t 3 := at_r h t 3 (by omega)
  refine ev_wp (b61_0 (by omega) h.2.1 h.2.1.2.2.1 ?_)
  refine loop_up (P := fun i => rc_k (A (t + 23)) s i ≠ -1 → ab_wp d 61 4 [some (.inr (.inr t)), some (.inl (s : Int)), some (.inl (rc_k (A (t + 23)) s i)), some (.inl (i : Int))] [] M _) (rd_nd t A) ?_ ?_ 0 (by omega) (show (0 : Int) ≠ -1 by decide)
  · intro _
    exact b61_4 (by omega) h.2.1 h.2.1.2.2.1 ⟨fun _ => ⟨rfl, rfl⟩, fun q => by unfold rd_nd at q; omega⟩
  · intro i hi ih hne
    have hi' : (i : Int) < A t 3 := by unfold rd_nd at hi; omega
    have rg := rc_rg (f := A (t + 23)) (s := s) i (fun j hj => pr j (by omega))
    have pi := pr i hi
    have r5 : M (t + 23) i = A (t + 23) i := at_t h 23 i (by omega)
    have hb := pu_has (s := (s : Int)) (i := (i : Int)) (by omega) (by omega)
    rw [Int.toNat_natCast, Int.toNat_natCast] at hb
    rw [Int.natCast_succ, rc_s, if_neg hne] at ih
    refine b61_4 (by omega) h.2.1 h.2.1.2.2.1 ⟨fun q => by omega, fun _ => ⟨fun q => ⟨by omega, ?_⟩, fun q => ⟨by omega, ?_⟩⟩⟩
    · rw [hb] at q
      rw [if_neg (has_f q)] at ih
      exact ih hne
    · rw [hb] at q
      rw [if_pos (has_t q)] at ih
      rw [Int.toNat_natCast, r5]
      refine ⟨fun z => ⟨by omega, by omega, ?_⟩, fun z => ⟨?_, rfl⟩⟩
      · rw [if_neg z] at ih
        exact ih (by omega)
      · have e1 : rc_k (A (t + 23)) s (i + 1) = -1 := by rw [rc_s, if_neg hne, if_pos (has_t q), if_pos z]
        have := rc_none (A (t + 23)) s (i + 1) e1 (rd_nd t A - (i + 1))
        rw [show i + 1 + (rd_nd t A - (i + 1)) = rd_nd t A from by omega] at this
        unfold rd_co
        rw [this]
theorem s157 {d t : Nat} {A M : ab_M} (hd : 2 ≤ d) (h : pu_at t A M) {s : Nat} (hs : s < 64) : ∃ v, ab_ev d 157 [.inr (.inr 103), .inl (s : Int)] M (some (.inl v)) M ∧ (rd_co t A s = -1 → 1000000 ≤ v) ∧ (rd_co t A s ≠ -1 → v = rd_co t A s) := by
  have t3 := h.1.2.1.2.2.1
  have hn : rd_nd t A ≤ 6 := by unfold rd_nd; omega
  have pr := price_rg h.1
  obtain ⟨m1, m2, m3, m4, m5, m6, m7, m8⟩ := h.1.2.2.1
  have r3 : M 103 11 = A t 3 := (at_r h 103 11 (by omega)).trans m3
  refine ⟨pu_sum (fun i => if A (t + 23) i < 0 then 1000000 else A (t + 23) i) s (rd_nd t A), ?_, rc_m _ pr⟩
  refine ev_wp (b157_0 (by omega) h.2.1 ?_)
  refine loop_up (P := fun i => ∀ y4, ab_wp d 157 4 [some (.inr (.inr 103)), some (.inl (s : Int)), some (.inl (pu_sum (fun i => if A (t + 23) i < 0 then 1000000 else A (t + 23) i) s i)), some (.inl (i : Int)), y4] [] M _) (rd_nd t A) ?_ ?_ 0 (by omega) _
  · intro y4
    exact b157_4 (by omega) h.2.1 ⟨fun _ => ⟨rfl, rfl⟩, fun q => by unfold rd_nd at q; omega⟩
  · intro i hi ih y4
    have hi' : (i : Int) < A t 3 := by unfold rd_nd at hi; omega
    have pi := pr i hi
    have e4 : (5 * (i : Int) + 4).toNat = 5 * i + 4 := by omega
    have r5 : M 109 (5 * i + 4) = A (t + 23) i := (at_r h 109 _ (by omega)).trans (m7 i hi').2.2.2.2
    have sb := pu_sum_b (f := fun i => if A (t + 23) i < 0 then 1000000 else A (t + 23) i) (s := s) (B := 1000000) (by omega) i (fun j hj => by
      have := pr j (by omega)
      split <;> omega)
    have wk := s108 (d := d - 1) (by omega) h.2.1 (s := (s : Int)) (i := (i : Int)) (by omega) (by omega)
    rw [Int.toNat_natCast, Int.toNat_natCast] at wk
    rw [Int.natCast_succ, pu_sum_s] at ih
    refine b157_4 (by omega) h.2.1 ⟨fun q => by omega, fun _ => ⟨by omega, by omega, by omega, _, _, wk, h.2.1, fun q => ?_, fun q => ?_⟩⟩
    · rw [if_pos (has_t q)] at ih
      rw [e4, r5]
      refine ⟨fun z => b157_49 (by omega) h.2.1 ⟨by omega, by omega, ?_⟩, fun z => b157_49 (by omega) h.2.1 ⟨by omega, by omega, ?_⟩⟩
      · rw [if_neg (by omega)] at ih
        exact ih _
      · rw [if_pos z] at ih
        exact ih _
    · rw [if_neg (has_f q)] at ih
      exact b157_49 (by omega) h.2.1 ⟨by omega, by omega, ih _⟩
theorem v_nil {H : rd_HH} {o : Nat} {r : List Nat} (h : rd_v H 0 o r) : r = [] := by
  cases r with
  | nil => rfl
  | cons i r =>
    have := (h.2.1 i List.mem_cons_self).1
    omega
theorem cs_sq {t : Nat} {A : ab_M} (h : pu_inv t A) {sq sq' : Int} (hq : 0 < A t 0 → sq = sq') (s : Nat) : rd_cs t A sq s → rd_cs t A sq' s := by
  obtain ⟨t1, t2, t3, t4, t5, _⟩ := h.2.1
  by_cases c : 0 < A t 0
  · rw [hq c]; exact id
  · rintro ⟨r, hv, e⟩
    have n0 : rd_nd t A = 0 := by
      unfold rd_nd
      rw [(t5 (by omega)).2.2.1]
      rfl
    rw [n0] at hv
    rw [v_nil hv] at e
    rw [← e]
    exact cs_zero t A sq'
/-- a set that may be reworded -/
def rd_ad (t : Nat) (A : ab_M) (s : Nat) : Prop := s < 64 ∧ rd_sub s (pu_set t A 0) = 0 ∧ rd_cs t A (A 69 1) (rd_sub (pu_set t A 0) s) ∧ rd_co t A s ≠ -1
def rd_rw (t : Nat) (A : ab_M) (k : Nat) (b c : Int) : Prop := (b = -1 ∧ c = -1 ∧ ∀ s, s < k → ¬ rd_ad t A s) ∨ (∃ s : Nat, b = (s : Int) ∧ s < k ∧ rd_ad t A s ∧ c = rd_co t A s ∧ (∀ s', s' < k → rd_ad t A s' → c ≤ rd_co t A s') ∧ (∀ s', s' < s → rd_ad t A s' → c < rd_co t A s'))
theorem rw_uq {t : Nat} {A : ab_M} {k : Nat} {b c b' c' : Int} (h : rd_rw t A k b c) (h' : rd_rw t A k b' c') : b = b' ∧ c = c' := by
  rcases h with ⟨h1, h2, h3⟩ | ⟨s, h1, h2, h3, h4, h5, h6⟩ <;> rcases h' with ⟨g1, g2, g3⟩ | ⟨s', g1, g2, g3, g4, g5, g6⟩
  · exact ⟨by omega, by omega⟩
  · exact absurd g3 (h3 s' g2)
  · exact absurd h3 (g3 s h2)
  · have a1 := h5 s' g2 g3
    have a2 := g5 s h2 h3
    have e : s = s' := by
      rcases Nat.lt_trichotomy s s' with q | q | q
      · have := g6 s q h3
        omega
      · exact q
      · have := h6 s' q g3
        omega
    subst e
    exact ⟨by omega, by omega⟩
theorem rw_skip {t : Nat} {A : ab_M} {k : Nat} {b c : Int} (h : rd_rw t A k b c) (q : ¬ rd_ad t A k) : rd_rw t A (k + 1) b c := by
  rcases h with ⟨h1, h2, h3⟩ | ⟨s, h1, h2, h3, h4, h5, h6⟩
  · refine Or.inl ⟨h1, h2, fun s hs => ?_⟩
    by_cases e : s = k
    · rw [e]; exact q
    · exact h3 s (by omega)
  · refine Or.inr ⟨s, h1, by omega, h3, h4, fun s' hs' ha => ?_, h6⟩
    by_cases e : s' = k
    · rw [e] at ha; exact absurd ha q
    · exact h5 s' (by omega) ha
theorem rw_keep {t : Nat} {A : ab_M} {k : Nat} {b c : Int} (h : rd_rw t A k b c) (hc : c ≠ -1) (q : c ≤ rd_co t A k) : rd_rw t A (k + 1) b c := by
  rcases h with ⟨h1, h2, h3⟩ | ⟨s, h1, h2, h3, h4, h5, h6⟩
  · exact absurd h2 hc
  · refine Or.inr ⟨s, h1, by omega, h3, h4, fun s' hs' ha => ?_, h6⟩
    by_cases e : s' = k
    · rw [e]; exact q
    · exact h5 s' (by omega) ha
theorem rw_new {t : Nat} {A : ab_M} {k : Nat} {b c : Int} (h : rd_rw t A k b c) (ha : rd_ad t A k) (q : c = -1 ∨ rd_co t A k < c) : rd_rw t A (k + 1) (k : Int) (rd_co t A k) := by
  refine Or.inr ⟨k, rfl, by omega, ha, rfl, fun s' hs' ha' => ?_, fun s' hs' ha' => ?_⟩
  · by_cases e : s' = k
    · rw [e]; omega
    · rcases h with ⟨h1, h2, h3⟩ | ⟨s, h1, h2, h3, h4, h5, h6⟩
      · exact absurd ha' (h3 s' (by omega))
      · have := h5 s' (by omega) ha'
        rcases q with q | q
        · exact absurd (h4 ▸ q) h3.2.2.2
        · omega
  · rcases h with ⟨h1, h2, h3⟩ | ⟨s, h1, h2, h3, h4, h5, h6⟩
    · exact absurd ha' (h3 s' (by omega))
    · have := h5 s' (by omega) ha'
      rcases q with q | q
      · exact absurd (h4 ▸ q) h3.2.2.2
      · omega
theorem co_rg {t : Nat} {A : ab_M} (h : pu_inv t A) (s : Nat) : rd_co t A s = -1 ∨ (0 ≤ rd_co t A s ∧ rd_co t A s ≤ 594) := by
  have t3 := h.2.1.2.2.1
  have := rc_rg (f := A (t + 23)) (s := s) (rd_nd t A) (price_rg h)
  unfold rd_co
  have : rd_nd t A ≤ 6 := by unfold rd_nd; omega
  omega
theorem rw_fin {t : Nat} {A : ab_M} (hA : pu_inv t A) {k : Nat} {b c : Int} (hk : pu_set t A 0 < k) (h : rd_rw t A k b c) : rd_rw t A 64 b c := by
  have q0 := pu_set_64 hA 0
  have lt : ∀ s, rd_ad t A s → s < k := fun s ha => by
    have := sub_le ⟨s, ha.1⟩ ⟨_, q0⟩ ha.2.1
    dsimp only at this
    omega
  rcases h with ⟨h1, h2, h3⟩ | ⟨s, h1, h2, h3, h4, h5, h6⟩
  · exact Or.inl ⟨h1, h2, fun s _ ha => h3 s (lt s ha) ha⟩
  · exact Or.inr ⟨s, h1, h3.1, h3, h4, fun s' _ ha => h5 s' (lt s' ha) ha, h6⟩
theorem c_reword {t : Nat} {A : ab_M} (h : pu_inv t A) (x : Int) : pu_both 81 158 [.inl x] t A := by
  have ht : t = 5 ∨ t = 37 := h.1.2.2.1
  have hA := at_rfl h
  have q0 := pu_set_64 h 0
  obtain ⟨a1, a2, a3, a4, a5, a6⟩ := now_of h.2.2.2.2.2.1
  obtain ⟨t1, t2, t3, t4, t5, t6, _⟩ := id h.2.1
  obtain ⟨m1, m2, m3, m4, m5, m6, m7, m8⟩ := h.2.2.1
  have hpos : 0 < rd_nd t A → 0 < A t 0 := by
    intro q
    by_cases c : 0 < A t 0
    · exact c
    · have := (t5 (by omega)).2.2.1
      unfold rd_nd at q
      omega
  by_cases c : 0 ≤ x ∧ x ≤ 1
  · refine both_rel (fun v => ∃ b c, rd_rw t A 64 b c ∧ v = if x = 0 then b else c) ?_ ?_ (fun M hM => ?_)
    · rintro v v' ⟨b, c, h1, h2⟩ ⟨b', c', h1', h2'⟩
      obtain ⟨e1, e2⟩ := rw_uq h1 h1'
      rw [h2, h2', e1, e2]
    · obtain ⟨M3, e3, p3, c3, f3⟩ := s22 (d := 28) (by omega) (Or.inl rfl) q0 hA (sq0 := A 69 1) (mn0 := A 69 0) a1.2 (fun q => (a2 (hpos q)).2)
      have c3 : ∀ s : Nat, s < 64 → (M3 85 s = 0 ∨ M3 85 s = 1) ∧ (M3 85 s = 1 ↔ rd_cs t A (A 69 1) s) := c3
      refine b81_0 (by omega) h.1 ⟨fun q => by omega, fun _ => ⟨fun _ => ⟨_, _, s97a (by omega) hA 0, h.1, M3, e3, p3.2.1, ?_⟩, fun q => by omega⟩⟩
      refine loop_up (P := fun k => ∀ b c y6, rd_rw t A k b c → ab_wp 29 81 52 [some (.inr (.inr 0)), some (.inl x), some (.inl ((pu_set t A 0 : Nat) : Int)), some (.inl b), some (.inl c), some (.inl (k : Int)), y6] [] M3 _) (pu_set t A 0 + 1) ?_ ?_ 0 (by omega) (-1) (-1) _ (Or.inl ⟨rfl, rfl, fun s hs => by omega⟩)
      · intro b c y6 hr
        have hr := rw_fin h (Nat.lt_succ_self _) hr
        refine b81_52 (by omega) p3.2.1 ⟨fun _ => ⟨fun q => ⟨⟨c, rfl, b, c, hr, by rw [if_neg q]⟩, p3⟩, fun q => ⟨⟨b, rfl, b, c, hr, by rw [if_pos q]⟩, p3⟩⟩, fun q => by omega⟩
      · intro k hk ih b c y6 hr
        rw [Int.natCast_succ] at ih
        have hk64 : k < 64 := by omega
        have cr := co_rg h k
        have skip : ¬ rd_ad t A k → ab_wp 29 81 97 [some (.inr (.inr 0)), some (.inl x), some (.inl ((pu_set t A 0 : Nat) : Int)), some (.inl b), some (.inl c), some (.inl (k : Int)), y6] [.inl (-1)] M3 (fun r' M' => (∃ v, r' = some (.inl v) ∧ ∃ b c, rd_rw t A 64 b c ∧ v = if x = 0 then b else c) ∧ pu_at t A M') := fun hno =>
          b81_97 (by omega) p3.2.1 ⟨fun _ => ⟨by omega, ih _ _ _ (rw_skip hr hno)⟩, fun q => absurd rfl q⟩
        have s1 := sub_int hk64 q0
        have s2 := sub_int q0 hk64
        have s64 := sub_64 (o := k) q0
        refine b81_52 (by omega) p3.2.1 ⟨fun q => by omega, fun _ => ?_⟩
        rw [s1, s2]
        refine ⟨fun q => skip (fun z => q (by rw [z.2.1]; rfl)), fun q => ⟨by omega, fun z => skip (fun y => ?_), fun z => ?_⟩⟩
        · rw [Int.toNat_natCast, (c3 _ s64).2.2 y.2.2.1] at z
          omega
        · rw [Int.toNat_natCast] at z
          have cs := (c3 _ s64).2.1 (by have := (c3 _ s64).1; omega)
          refine ⟨_, _, s61 (by omega) p3 hk64, p3.2.1, b81_97 (by omega) p3.2.1 ⟨fun y => ⟨by omega, ih _ _ _ (rw_skip hr (fun u => u.2.2.2 y))⟩, fun y => ?_⟩⟩
          have ad : rd_ad t A k := ⟨hk64, by omega, cs, y⟩
          exact ⟨fun u => ⟨by omega, ih _ _ _ (rw_new hr ad (Or.inl u))⟩, fun u => ⟨fun w => ⟨by omega, ih _ _ _ (rw_keep hr u w)⟩, fun w => ⟨by omega, ih _ _ _ (rw_new hr ad (Or.inr w))⟩⟩⟩
    · have r112 : M 112 0 = A 69 0 := (at_r hM 112 0 (by omega)).trans a1.1
      have r112p : M 112 1 = A 112 1 := at_r hM 112 1 (by omega)
      have w107 := s107 (d := 28) (by omega) hM.2.1 x 0 1
      rw [if_pos c] at w107
      have hsq : 0 < rd_nd t A → 0 ≤ A 112 1 ∧ A 112 1 < A t 0 := by
        intro q
        have := a2 (hpos q)
        omega
      obtain ⟨M3, e3, p3, c3, f3⟩ := s149 (d := 28) (by omega) hM (sq0 := A 112 1) (mn0 := A 69 0) a1.2 hsq q0 (fun j hj => set_bit_lt hj)
      refine b158_0 (by omega) hM.2.1 ⟨_, _, w107, hM.2.1, fun _ => ⟨_, _, s129a (by omega) hM 0, hM.2.1, M3, by rw [r112, r112p]; exact e3, p3.2.1, ?_⟩, fun q => by omega⟩
      refine loop_up (P := fun k => ∀ b c c', rd_rw t A k b c → ((c = -1 ∧ c' = 1000000) ∨ (c ≠ -1 ∧ c' = c ∧ c < 1000000)) → ab_wp 29 158 45 [some (.inr (.inr 103)), some (.inl x), some (.inl ((pu_set t A 0 : Nat) : Int)), some (.inl b), some (.inl c'), some (.inl (k : Int))] [] M3 _) 64 ?_ ?_ 0 (by omega) (-1) (-1) 1000000 (Or.inl ⟨rfl, rfl, fun s hs => by omega⟩) (Or.inl ⟨rfl, rfl⟩)
      · intro b c c' hr hc
        refine b158_45 (by omega) p3.2.1 ⟨fun _ => ⟨fun q => ⟨fun z => ⟨⟨_, rfl, b, c, hr, ?_⟩, p3⟩, fun z => ⟨⟨_, rfl, b, c, hr, by rw [if_pos z]⟩, p3⟩⟩, fun q => ⟨⟨_, rfl, b, c, hr, ?_⟩, p3⟩⟩, fun q => by omega⟩
        · rw [if_neg z]
          rcases hr with ⟨h1, h2, h3⟩ | ⟨s, h1, h2, h3, h4, h5, h6⟩
          · omega
          · have := h3.2.2.2
            omega
        · rcases hr with ⟨h1, h2, h3⟩ | ⟨s, h1, h2, h3, h4, h5, h6⟩
          · rw [h1, h2, ite_self]
          · omega
      · intro k hk ih b c c' hr hc
        rw [Int.natCast_succ] at ih
        have cr := co_rg h k
        have s1 := sub_int hk q0
        have s2 := sub_int q0 hk
        have s64 := sub_64 (o := k) q0
        obtain ⟨V, eV, hV⟩ := can_m (d := 28) (by omega) p3 hsq c3 s64
        obtain ⟨v, ev, hv1, hv2⟩ := s157 (d := 28) (by omega) p3 hk
        have to69 := cs_sq h (sq := A 112 1) (sq' := A 69 1) (fun q => (a2 q).1) (rd_sub (pu_set t A 0) k)
        have to112 := cs_sq h (sq := A 69 1) (sq' := A 112 1) (fun q => (a2 q).1.symm) (rd_sub (pu_set t A 0) k)
        refine b158_45 (by omega) p3.2.1 ⟨fun q => by omega, fun _ => ?_⟩
        rw [s1, s2]
        refine ⟨fun q => ⟨by omega, ih _ _ _ (rw_skip hr (fun z => q (by rw [z.2.1]; rfl))) hc⟩, fun q => ⟨V, _, eV, p3.2.1, fun z => ⟨by omega, ih _ _ _ (rw_skip hr (fun y => ?_)) hc⟩, fun z => ⟨v, _, ev, p3.2.1, fun y => ⟨by omega, ?_⟩, fun y => ⟨v, _, ev, p3.2.1, by omega, ?_⟩⟩⟩⟩
        · have := hV.2 (to112 y.2.2.1)
          omega
        · have cs := to69 (hV.1 z)
          by_cases u : rd_co t A k = -1
          · exact ih _ _ _ (rw_skip hr (fun w => w.2.2.2 u)) hc
          · have e := hv2 u
            exact ih _ _ _ (rw_keep hr (by omega) (by omega)) hc
        · have cs := to69 (hV.1 z)
          have u : rd_co t A k ≠ -1 := by
            intro u
            have := hv1 u
            omega
          have e := hv2 u
          have ad : rd_ad t A k := ⟨hk, by omega, cs, u⟩
          rw [e]
          exact ih _ _ _ (rw_new hr ad (by omega)) (Or.inr ⟨u, rfl, by omega⟩)
  · refine both_at (-1000000002) ?_ (fun M hM => ?_)
    · exact b81_0 (by omega) h.1 ⟨fun _ => ⟨rfl, hA⟩, fun _ => ⟨fun q => by omega, fun _ => ⟨rfl, hA⟩⟩⟩
    · have w107 := s107 (d := 28) (by omega) hM.2.1 x 0 1
      rw [if_neg c] at w107
      exact b158_0 (by omega) hM.2.1 ⟨_, _, w107, hM.2.1, fun q => by omega, fun _ => ⟨rfl, hM⟩⟩
