/-! minutes sold -/
def sl_hi (f : Nat → Int) (but : Int) : Nat → Int
  | 0 => -1
  | n + 1 => if (n : Int) = but then sl_hi f but n else if sl_hi f but n = -1 ∨ f (sl_hi f but n).toNat < f n then (n : Int) else sl_hi f but n
theorem hi_s (f : Nat → Int) (but : Int) (n : Nat) : sl_hi f but (n + 1) = if (n : Int) = but then sl_hi f but n else if sl_hi f but n = -1 ∨ f (sl_hi f but n).toNat < f n then (n : Int) else sl_hi f but n := rfl
theorem hi_rg (f : Nat → Int) (but : Int) : ∀ n, sl_hi f but n = -1 ∨ (0 ≤ sl_hi f but n ∧ sl_hi f but n < n)
  | 0 => Or.inl rfl
  | n + 1 => by
    have ih := hi_rg f but n
    rw [hi_s]
    by_cases c : (n : Int) = but
    · rw [if_pos c]; omega
    · rw [if_neg c]
      by_cases c2 : sl_hi f but n = -1 ∨ f (sl_hi f but n).toNat < f n
      · rw [if_pos c2]; omega
      · rw [if_neg c2]; omega
theorem hi_pos (f : Nat → Int) : ∀ n, 0 ≤ sl_hi f (-1) (n + 1)
  | 0 => by rw [hi_s, if_neg (by omega), if_pos (show sl_hi f (-1) 0 = -1 ∨ f (sl_hi f (-1) 0).toNat < f 0 from Or.inl rfl)]; omega
  | n + 1 => by
    have ih := hi_pos f n
    rw [hi_s, if_neg (by omega)]
    by_cases c2 : sl_hi f (-1) (n + 1) = -1 ∨ f (sl_hi f (-1) (n + 1)).toNat < f (n + 1)
    · rw [if_pos c2]; omega
    · rw [if_neg c2]; exact ih
def sl_f (bid b : Nat → Int) (p : Nat) : Int := if 0 < bid p - b p then bid p - b p else 0
def sl_v (f : Nat → Int) (h : Int) : Int := if h = -1 then 0 else f h.toNat
def sl_k (bid : Nat → Int) (n : Nat) : Nat → (Nat → Int) × (Nat → Int)
  | 0 => (fun _ => 0, fun _ => 0)
  | k + 1 => (pu_u (sl_k bid n k).1 (sl_hi (sl_f bid (sl_k bid n k).1) (-1) n).toNat ((sl_k bid n k).1 (sl_hi (sl_f bid (sl_k bid n k).1) (-1) n).toNat + 1),
      pu_u (sl_k bid n k).2 (sl_hi (sl_f bid (sl_k bid n k).1) (-1) n).toNat ((sl_k bid n k).2 (sl_hi (sl_f bid (sl_k bid n k).1) (-1) n).toNat + sl_v (sl_f bid (sl_k bid n k).1) (sl_hi (sl_f bid (sl_k bid n k).1) (sl_hi (sl_f bid (sl_k bid n k).1) (-1) n) n)))
theorem sl_f_pos (bid b : Nat → Int) (p : Nat) : 0 ≤ sl_f bid b p := by
  unfold sl_f
  by_cases c : 0 < bid p - b p
  · rw [if_pos c]; omega
  · rw [if_neg c]; omega
theorem sl_f_le {bid b : Nat → Int} {p : Nat} (h : bid p ≤ 99) (hb : 0 ≤ b p) : sl_f bid b p ≤ 99 := by
  unfold sl_f
  by_cases c : 0 < bid p - b p
  · rw [if_pos c]; omega
  · rw [if_neg c]; omega
theorem sl_f_c {bid bid' b b' : Nat → Int} {p : Nat} (h : bid p = bid' p) (hb : b p = b' p) : sl_f bid b p = sl_f bid' b' p := by
  unfold sl_f
  rw [h, hb]
theorem sl_rg {bid : Nat → Int} {n : Nat} (h : ∀ p, p < n → bid p ≤ 99) : ∀ k p, (0 ≤ (sl_k bid n k).1 p ∧ (sl_k bid n k).1 p ≤ k) ∧ (0 ≤ (sl_k bid n k).2 p ∧ (sl_k bid n k).2 p ≤ 99 * k)
  | 0, p => by
    show (0 ≤ (0 : Int) ∧ (0 : Int) ≤ _) ∧ (0 ≤ (0 : Int) ∧ (0 : Int) ≤ _)
    omega
  | k + 1, p => by
    have ih := sl_rg h k
    have v : 0 ≤ sl_v (sl_f bid (sl_k bid n k).1) (sl_hi (sl_f bid (sl_k bid n k).1) (sl_hi (sl_f bid (sl_k bid n k).1) (-1) n) n) ∧ sl_v (sl_f bid (sl_k bid n k).1) (sl_hi (sl_f bid (sl_k bid n k).1) (sl_hi (sl_f bid (sl_k bid n k).1) (-1) n) n) ≤ 99 := by
      have r := hi_rg (sl_f bid (sl_k bid n k).1) (sl_hi (sl_f bid (sl_k bid n k).1) (-1) n) n
      unfold sl_v
      by_cases c : sl_hi (sl_f bid (sl_k bid n k).1) (sl_hi (sl_f bid (sl_k bid n k).1) (-1) n) n = -1
      · rw [if_pos c]; omega
      · rw [if_neg c]
        exact ⟨sl_f_pos _ _ _, sl_f_le (h _ (by omega)) (ih _).1.1⟩
    have i1 := ih p
    have i2 := ih (sl_hi (sl_f bid (sl_k bid n k).1) (-1) n).toNat
    refine ⟨?_, ?_⟩
    · show 0 ≤ pu_u _ _ _ p ∧ pu_u _ _ _ p ≤ _
      unfold pu_u
      by_cases c : p = (sl_hi (sl_f bid (sl_k bid n k).1) (-1) n).toNat
      · rw [if_pos c]; omega
      · rw [if_neg c]; omega
    · show 0 ≤ pu_u _ _ _ p ∧ pu_u _ _ _ p ≤ _
      unfold pu_u
      by_cases c : p = (sl_hi (sl_f bid (sl_k bid n k).1) (-1) n).toNat
      · rw [if_pos c]; omega
      · rw [if_neg c]; omega
theorem s102 {d t : Nat} {A M : ab_M} (hd : 1 ≤ d) (h : pu_at t A M) {b : Nat → Int} (p : Nat) (hp : (p : Int) < A t 2) (hb : M 101 p = b p) (hr : 0 ≤ b p ∧ b p ≤ 1000) : ab_ev d 102 [.inr (.inr 0), .inl (p : Int)] M (some (.inl (sl_f (A (t + 18)) b p))) M := by
  obtain ⟨_, t2, _, _, _, _, t7, _⟩ := h.1.2.1
  have tp := t7 p hp
  have r5 : M (t + 18) p = A (t + 18) p := at_t h 18 p (by omega)
  refine ev_wp (b102_0 (by omega) h.2.1 ?_)
  rw [Int.toNat_natCast, r5, hb]
  exact ⟨by omega, by omega, rfl, rfl⟩
theorem s103 {d t : Nat} {A M : ab_M} (hd : 2 ≤ d) (h : pu_at t A M) {b : Nat → Int} (hb : ∀ p : Nat, p < 6 → M 101 p = b p) (hr : ∀ p, 0 ≤ b p ∧ b p ≤ 1000) (but : Int) : ab_ev d 103 [.inr (.inr 0), .inl but] M (some (.inl (sl_hi (sl_f (A (t + 18)) b) but (A t 2).toNat))) M := by
  have ht : t = 5 ∨ t = 37 := h.2.1.2.2.1
  obtain ⟨_, t2, _⟩ := h.1.2.1
  have r2 : M t 2 = A t 2 := at_r h t 2 (by omega)
  refine ev_wp (b103_0 (by omega) h.2.1 ?_)
  refine loop_up (P := fun p => ab_wp d 103 4 [some (.inr (.inr 0)), some (.inl but), some (.inl (sl_hi (sl_f (A (t + 18)) b) but p)), some (.inl (p : Int))] [] M _) (A t 2).toNat ?_ ?_ 0 (by omega)
  · exact b103_4 (by omega) h.2.1 ⟨fun _ => ⟨rfl, rfl⟩, fun q => by omega⟩
  · intro p hp ih
    have rg := hi_rg (sl_f (A (t + 18)) b) but p
    rw [hi_s, Int.natCast_succ] at ih
    refine b103_4 (by omega) h.2.1 ⟨fun q => by omega, fun _ => ⟨fun q => ⟨by omega, ?_⟩, fun q => ⟨fun z => ⟨by omega, ?_⟩, fun z => ?_⟩⟩⟩
    · rw [if_pos q] at ih
      exact ih
    · rw [if_neg q, if_pos (Or.inl z)] at ih
      exact ih
    · have w := s102 (d := d - 1) (by omega) h (b := b) (sl_hi (sl_f (A (t + 18)) b) but p).toNat (by omega) (hb _ (by omega)) (hr _)
      rw [show (((sl_hi (sl_f (A (t + 18)) b) but p).toNat : Nat) : Int) = sl_hi (sl_f (A (t + 18)) b) but p from by omega] at w
      rw [if_neg q] at ih
      refine ⟨_, _, s102 (by omega) h (b := b) p (by omega) (hb _ (by omega)) (hr _), h.2.1, _, _, w, h.2.1, fun y => ⟨by omega, ?_⟩, fun y => ⟨by omega, ?_⟩⟩
      · rw [if_neg (by omega)] at ih
        exact ih
      · rw [if_pos (Or.inr y)] at ih
        exact ih
theorem s162 {d t : Nat} {A M : ab_M} (hd : 1 ≤ d) (h : pu_at t A M) {b : Nat → Int} (p : Nat) (hp : (p : Int) < A t 2) (hb : M 124 p = b p) (hr : 0 ≤ b p ∧ b p ≤ 1000) : ab_ev d 162 [.inr (.inr 103), .inl (p : Int)] M (some (.inl (sl_f (A (t + 18)) b p))) M := by
  obtain ⟨_, t2, _, _, _, _, t7, _⟩ := h.1.2.1
  obtain ⟨m1, m2, m3, m4, m5, m6, m7, m8⟩ := h.1.2.2.1
  have tp := t7 p hp
  have r5 : M 108 p = A (t + 18) p := (at_r h 108 p (by omega)).trans (m6 p hp).2
  refine ev_wp (b162_0 (by omega) h.2.1 ?_)
  rw [Int.toNat_natCast, r5, hb]
  unfold sl_f
  refine ⟨by omega, by omega, fun q => ⟨?_, rfl⟩, fun q => ⟨?_, rfl⟩⟩
  · by_cases c : 0 < A (t + 18) p - b p
    · rw [if_pos c]
    · rw [if_neg c, show A (t + 18) p - b p = 0 from by omega]
  · rw [if_neg (by omega)]
/-- what the class holds of k minutes sold -/
def sl_c (t : Nat) (A M : ab_M) (k : Nat) : Prop := ∀ p : Nat, p < 6 → M 101 p = (sl_k (A (t + 18)) (A t 2).toNat k).1 p ∧ M 102 p = (sl_k (A (t + 18)) (A t 2).toNat k).2 p
def sl_m (t : Nat) (A M : ab_M) (k : Nat) : Prop := ∀ p : Nat, (p : Int) < A t 2 → M 124 p = (sl_k (A (t + 18)) (A t 2).toNat k).1 p ∧ M 125 p = (sl_k (A (t + 18)) (A t 2).toNat k).2 p
theorem sl_step {t : Nat} {A M : ab_M} {k : Nat} (hk : sl_c t A M k) {w : Nat} (ew : (sl_hi (sl_f (A (t + 18)) (sl_k (A (t + 18)) (A t 2).toNat k).1) (-1) (A t 2).toNat).toNat = w) (hw : w < 6) : sl_c t A (ab_w (ab_w M 102 w (M 102 w + sl_v (sl_f (A (t + 18)) (sl_k (A (t + 18)) (A t 2).toNat k).1) (sl_hi (sl_f (A (t + 18)) (sl_k (A (t + 18)) (A t 2).toNat k).1) (sl_hi (sl_f (A (t + 18)) (sl_k (A (t + 18)) (A t 2).toNat k).1) (-1) (A t 2).toNat) (A t 2).toNat))) 101 w (M 101 w + 1)) (k + 1) := by
  intro p hp
  have h1 := hk p hp
  have h2 := hk w hw
  refine ⟨?_, ?_⟩
  · show ab_w _ _ _ _ 101 p = pu_u _ _ _ p
    unfold ab_w pu_u
    rw [ew]
    by_cases c : p = w
    · rw [if_pos ⟨rfl, c⟩, if_pos c, h2.1]
    · rw [if_neg (by omega), if_neg (by omega), if_neg c, h1.1]
  · show ab_w _ _ _ _ 102 p = pu_u _ _ _ p
    unfold ab_w pu_u
    rw [ew]
    by_cases c : p = w
    · rw [if_neg (by omega), if_pos ⟨rfl, c⟩, if_pos c, h2.2]
    · rw [if_neg (by omega), if_neg (by omega), if_neg c, h1.2]
theorem s101 {d t : Nat} {A M : ab_M} (hd : 3 ≤ d) (h : pu_at t A M) {k : Nat} (hk9 : k ≤ 9) (hp0 : 0 < A t 2) (hk : sl_c t A M k) : ∃ M', ab_ev d 101 [.inr (.inr 0)] M none M' ∧ pu_at t A M' ∧ sl_c t A M' (k + 1) := by
  obtain ⟨_, t2, _, _, _, _, t7, _⟩ := h.1.2.1
  have rg := sl_rg (bid := A (t + 18)) (n := (A t 2).toNat) (fun p hp => by have := t7 p (by omega); omega)
  have w1 := s103 (d := d - 1) (by omega) h (b := (sl_k (A (t + 18)) (A t 2).toNat k).1) (fun p hp => (hk p hp).1) (fun p => by have := (rg k p).1; omega) (-1)
  have p1 : 0 ≤ sl_hi (sl_f (A (t + 18)) (sl_k (A (t + 18)) (A t 2).toNat k).1) (-1) (A t 2).toNat := by
    have := hi_pos (sl_f (A (t + 18)) (sl_k (A (t + 18)) (A t 2).toNat k).1) ((A t 2).toNat - 1)
    rw [show (A t 2).toNat - 1 + 1 = (A t 2).toNat from by omega] at this
    exact this
  have p2 := hi_rg (sl_f (A (t + 18)) (sl_k (A (t + 18)) (A t 2).toNat k).1) (-1) (A t 2).toNat
  obtain ⟨w, ew⟩ : ∃ w : Nat, (sl_hi (sl_f (A (t + 18)) (sl_k (A (t + 18)) (A t 2).toNat k).1) (-1) (A t 2).toNat).toNat = w := ⟨_, rfl⟩
  have w2 := s103 (d := d - 1) (by omega) h (b := (sl_k (A (t + 18)) (A t 2).toNat k).1) (fun p hp => (hk p hp).1) (fun p => by have := (rg k p).1; omega) (sl_hi (sl_f (A (t + 18)) (sl_k (A (t + 18)) (A t 2).toNat k).1) (-1) (A t 2).toNat)
  have p3 := hi_rg (sl_f (A (t + 18)) (sl_k (A (t + 18)) (A t 2).toNat k).1) (sl_hi (sl_f (A (t + 18)) (sl_k (A (t + 18)) (A t 2).toNat k).1) (-1) (A t 2).toNat) (A t 2).toNat
  have hc := sl_step hk ew (by omega)
  have c1 := hk w (by omega)
  have g1 := rg k w
  have g2 := (rg (k + 1) w).2
  have ec := (hc w (by omega)).2
  have ec' : ab_w (ab_w M 102 w (M 102 w + sl_v (sl_f (A (t + 18)) (sl_k (A (t + 18)) (A t 2).toNat k).1) (sl_hi (sl_f (A (t + 18)) (sl_k (A (t + 18)) (A t 2).toNat k).1) (sl_hi (sl_f (A (t + 18)) (sl_k (A (t + 18)) (A t 2).toNat k).1) (-1) (A t 2).toNat) (A t 2).toNat))) 101 w (M 101 w + 1) 102 w = M 102 w + sl_v (sl_f (A (t + 18)) (sl_k (A (t + 18)) (A t 2).toNat k).1) (sl_hi (sl_f (A (t + 18)) (sl_k (A (t + 18)) (A t 2).toNat k).1) (sl_hi (sl_f (A (t + 18)) (sl_k (A (t + 18)) (A t 2).toNat k).1) (-1) (A t 2).toNat) (A t 2).toNat) := by
    unfold ab_w
    rw [if_neg (by omega), if_pos ⟨rfl, rfl⟩]
  have sA : pu_at t A (ab_w (ab_w M 102 w (M 102 w + sl_v (sl_f (A (t + 18)) (sl_k (A (t + 18)) (A t 2).toNat k).1) (sl_hi (sl_f (A (t + 18)) (sl_k (A (t + 18)) (A t 2).toNat k).1) (sl_hi (sl_f (A (t + 18)) (sl_k (A (t + 18)) (A t 2).toNat k).1) (-1) (A t 2).toNat) (A t 2).toNat))) 101 w (M 101 w + 1)) := at_w (at_w h (str_a h.2.1 rfl) (by omega)) (str_a (str_a h.2.1 rfl) rfl) (by omega)
  refine ⟨_, ev_wp (b101_0 (by omega) h.2.1 ⟨_, _, w1, h.2.1, fun _ => ⟨_, _, w2, h.2.1, by omega, fun q => ?_, fun q => ?_⟩, fun q => by omega⟩), sA, hc⟩
  · have w3 := s102 (d := d - 1) (by omega) h (b := (sl_k (A (t + 18)) (A t 2).toNat k).1) (sl_hi (sl_f (A (t + 18)) (sl_k (A (t + 18)) (A t 2).toNat k).1) (sl_hi (sl_f (A (t + 18)) (sl_k (A (t + 18)) (A t 2).toNat k).1) (-1) (A t 2).toNat) (A t 2).toNat).toNat (by omega) (hk _ (by omega)).1 (by have := (rg k (sl_hi (sl_f (A (t + 18)) (sl_k (A (t + 18)) (A t 2).toNat k).1) (sl_hi (sl_f (A (t + 18)) (sl_k (A (t + 18)) (A t 2).toNat k).1) (-1) (A t 2).toNat) (A t 2).toNat).toNat).1; omega)
    rw [show (((sl_hi (sl_f (A (t + 18)) (sl_k (A (t + 18)) (A t 2).toNat k).1) (sl_hi (sl_f (A (t + 18)) (sl_k (A (t + 18)) (A t 2).toNat k).1) (-1) (A t 2).toNat) (A t 2).toNat).toNat : Nat) : Int) = sl_hi (sl_f (A (t + 18)) (sl_k (A (t + 18)) (A t 2).toNat k).1) (sl_hi (sl_f (A (t + 18)) (sl_k (A (t + 18)) (A t 2).toNat k).1) (-1) (A t 2).toNat) (A t 2).toNat from by omega] at w3
    have ev : sl_f (A (t + 18)) (sl_k (A (t + 18)) (A t 2).toNat k).1 (sl_hi (sl_f (A (t + 18)) (sl_k (A (t + 18)) (A t 2).toNat k).1) (sl_hi (sl_f (A (t + 18)) (sl_k (A (t + 18)) (A t 2).toNat k).1) (-1) (A t 2).toNat) (A t 2).toNat).toNat = sl_v (sl_f (A (t + 18)) (sl_k (A (t + 18)) (A t 2).toNat k).1) (sl_hi (sl_f (A (t + 18)) (sl_k (A (t + 18)) (A t 2).toNat k).1) (sl_hi (sl_f (A (t + 18)) (sl_k (A (t + 18)) (A t 2).toNat k).1) (-1) (A t 2).toNat) (A t 2).toNat) := by
      unfold sl_v
      rw [if_neg q]
    rw [ev] at w3
    refine ⟨_, _, w3, h.2.1, b101_39 (by omega) h.2.1 ?_⟩
    rw [ew]
    exact ⟨by omega, by omega, by omega, by omega, rfl, rfl⟩
  · have ev : (0 : Int) = sl_v (sl_f (A (t + 18)) (sl_k (A (t + 18)) (A t 2).toNat k).1) (sl_hi (sl_f (A (t + 18)) (sl_k (A (t + 18)) (A t 2).toNat k).1) (sl_hi (sl_f (A (t + 18)) (sl_k (A (t + 18)) (A t 2).toNat k).1) (-1) (A t 2).toNat) (A t 2).toNat) := by
      unfold sl_v
      rw [if_pos q]
    refine b101_39 (by omega) h.2.1 ?_
    rw [ew, ev]
    exact ⟨by omega, by omega, by omega, by omega, rfl, rfl⟩
