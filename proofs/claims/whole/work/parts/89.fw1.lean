/-! how far squares are apart, purely: W the ways (1000000: none) -/
def fw (W : Nat → Nat → Int) : Nat → Nat → Nat → Int
  | 0, a, b => W a b
  | m + 1, a, b => if fw W m a m + fw W m m b < fw W m a b then fw W m a m + fw W m m b else fw W m a b
theorem fw_s (W : Nat → Nat → Int) (m a b : Nat) : fw W (m + 1) a b = if fw W m a m + fw W m m b < fw W m a b then fw W m a m + fw W m m b else fw W m a b := rfl
/-- ways as they can be: n squares -/
def fw_ok (n : Nat) (W : Nat → Nat → Int) : Prop := ∀ a b : Nat, (a = b → W a b = 0) ∧ (a ≠ b → W a b = 1000000 ∨ (1 ≤ W a b ∧ W a b ≤ 30 ∧ a < n ∧ b < n))
theorem fw_rg {n : Nat} {W : Nat → Nat → Int} (h : fw_ok n W) : ∀ m a b, 0 ≤ fw W m a b ∧ fw W m a b ≤ 1000000 ∧ (fw W m a b < 1000000 → fw W m a b ≤ 30 * 2 ^ m) ∧ (a = b → fw W m a b = 0) := by
  intro m
  induction m with
  | zero =>
    intro a b
    obtain ⟨h1, h2⟩ := h a b
    show 0 ≤ W a b ∧ W a b ≤ 1000000 ∧ (W a b < 1000000 → W a b ≤ 30 * 2 ^ 0) ∧ (a = b → W a b = 0)
    refine ⟨?_, ?_, fun q => ?_, h1⟩
    · by_cases c : a = b
      · have := h1 c; omega
      · have := h2 c; omega
    · by_cases c : a = b
      · have := h1 c; omega
      · have := h2 c; omega
    · by_cases c : a = b
      · have := h1 c; omega
      · have := h2 c; omega
  | succ m ih =>
    intro a b
    have i1 := ih a b
    have i2 := ih a m
    have i3 := ih m b
    have e : (2 : Int) ^ (m + 1) = 2 * 2 ^ m := by rw [Int.pow_succ, Int.mul_comm]
    rw [fw_s, e]
    obtain ⟨P, eP⟩ : ∃ P : Int, (2 : Int) ^ m = P := ⟨_, rfl⟩
    have pp : 0 ≤ P := by rw [← eP]; exact Int.pow_nonneg (by decide)
    rw [eP] at i1 i2 i3 ⊢
    by_cases c : fw W m a m + fw W m m b < fw W m a b
    · rw [if_pos c]
      refine ⟨by omega, by omega, fun q => by omega, fun q => ?_⟩
      have := i1.2.2.2 q
      omega
    · rw [if_neg c]
      refine ⟨i1.1, i1.2.1, fun q => ?_, i1.2.2.2⟩
      have := i1.2.2.1 q
      omega
theorem fw_big {n : Nat} {W : Nat → Nat → Int} (h : fw_ok n W) {m : Nat} (hm : m ≤ 7) (a b : Nat) : fw W m a b = 1000000 ∨ (0 ≤ fw W m a b ∧ fw W m a b ≤ 3840) := by
  have r := fw_rg h m a b
  have e : ∀ m : Fin 8, 30 * (2 : Int) ^ m.val ≤ 3840 := by decide
  have := e ⟨m, by omega⟩
  dsimp only at this
  by_cases c : fw W m a b < 1000000
  · have := r.2.2.1 c
    right
    omega
  · left
    omega
/-- row and column m stand still at stage m -/
theorem fw_row {n : Nat} {W : Nat → Nat → Int} (h : fw_ok n W) (m a b : Nat) : fw W (m + 1) a m = fw W m a m ∧ fw W (m + 1) m b = fw W m m b := by
  have z := (fw_rg h m m m).2.2.2 rfl
  refine ⟨?_, ?_⟩
  · rw [fw_s, z, if_neg (by omega)]
  · rw [fw_s, z, if_neg (by omega)]
/-- squares that are not -/
theorem fw_out {n : Nat} {W : Nat → Nat → Int} (h : fw_ok n W) : ∀ m a b, a ≠ b → (n ≤ a ∨ n ≤ b) → fw W m a b = 1000000 := by
  intro m
  induction m with
  | zero =>
    intro a b hab hn
    have := (h a b).2 hab
    show W a b = 1000000
    omega
  | succ m ih =>
    intro a b hab hn
    have i1 := ih a b hab hn
    have r2 := fw_rg h m a m
    have r3 := fw_rg h m m b
    have : fw W m a m + fw W m m b ≥ 1000000 := by
      rcases hn with q | q
      · by_cases c : a = m
        · have := ih m b (by omega) (Or.inl (by omega))
          omega
        · have := ih a m c (Or.inl q)
          omega
      · by_cases c : m = b
        · have := ih a m (by omega) (Or.inr (by omega))
          omega
        · have := ih m b c (Or.inr q)
          omega
    rw [fw_s, if_neg (by omega)]
    exact i1
theorem fw_late {n : Nat} {W : Nat → Nat → Int} (h : fw_ok n W) {a b : Nat} (ha : a < n) (hb : b < n) : ∀ k, fw W (n + k) a b = fw W n a b := by
  intro k
  induction k with
  | zero => rfl
  | succ k ih =>
    have o := fw_out h (n + k) a (n + k) (by omega) (Or.inr (by omega))
    have r := fw_rg h (n + k) (n + k) b
    have r2 := fw_rg h (n + k) a b
    show fw W (n + k + 1) a b = _
    rw [fw_s, if_neg (by omega), ih]
theorem fw_tri {n : Nat} {W : Nat → Nat → Int} (h : fw_ok n W) : ∀ m i, i < m → ∀ a b, fw W m a b ≤ fw W m a i + fw W m i b := by
  intro m
  induction m with
  | zero => intro i hi; omega
  | succ m ih =>
    intro i hi a b
    have le : ∀ x y, fw W (m + 1) x y ≤ fw W m x y ∧ fw W (m + 1) x y ≤ fw W m x m + fw W m m y := by
      intro x y
      rw [fw_s]
      by_cases c : fw W m x m + fw W m m y < fw W m x y
      · rw [if_pos c]; omega
      · rw [if_neg c]; omega
    have lab := le a b
    by_cases c : i = m
    · subst c
      rw [(fw_row h i a b).1, (fw_row h i a b).2]
      exact lab.2
    · have t1 := ih i (by omega) a b
      have t2 := ih i (by omega) m b
      have t3 := ih i (by omega) a m
      have g1 := fw_rg h m m i
      have g2 := fw_rg h m i m
      have e1 : fw W (m + 1) a i = fw W m a i ∨ fw W (m + 1) a i = fw W m a m + fw W m m i := by
        rw [fw_s]
        by_cases c : fw W m a m + fw W m m i < fw W m a i
        · rw [if_pos c]; exact Or.inr rfl
        · rw [if_neg c]; exact Or.inl rfl
      have e2 : fw W (m + 1) i b = fw W m i b ∨ fw W (m + 1) i b = fw W m i m + fw W m m b := by
        rw [fw_s]
        by_cases c : fw W m i m + fw W m m b < fw W m i b
        · rw [if_pos c]; exact Or.inr rfl
        · rw [if_neg c]; exact Or.inl rfl
      rcases e1 with e1 | e1 <;> rcases e2 with e2 | e2 <;> omega
theorem fw_way {n : Nat} {W : Nat → Nat → Int} (h : fw_ok n W) : ∀ m a b, fw W m a b ≤ W a b := by
  intro m
  induction m with
  | zero => intro a b; exact Int.le_refl _
  | succ m ih =>
    intro a b
    have := ih a b
    rw [fw_s]
    by_cases c : fw W m a m + fw W m m b < fw W m a b
    · rw [if_pos c]; omega
    · rw [if_neg c]; exact this
def fw_re (W : Nat → Nat → Int) : Nat → Nat → Nat → Prop
  | 0, a, b => a = b
  | k + 1, a, b => fw_re W k a b ∨ ∃ c, fw_re W k a c ∧ W c b < 1000000
theorem re_up {W : Nat → Nat → Int} (k a b : Nat) (h : fw_re W k a b) : fw_re W (k + 1) a b := Or.inl h
theorem re_self {W : Nat → Nat → Int} (a : Nat) : ∀ k, fw_re W k a a
  | 0 => rfl
  | k + 1 => Or.inl (re_self a k)
theorem re_tr {W : Nat → Nat → Int} {a b : Nat} {j : Nat} (h : fw_re W j a b) : ∀ k c, fw_re W k b c → fw_re W (j + k) a c
  | 0, c, e => by
    have e : b = c := e
    rw [← e]; exact h
  | k + 1, c, e => by
    rcases e with e | ⟨d, e1, e2⟩
    · exact Or.inl (re_tr h k c e)
    · exact Or.inr ⟨d, re_tr h k d e1, e2⟩
theorem re_fin {n : Nat} {W : Nat → Nat → Int} (h : fw_ok n W) : ∀ m a b, fw W m a b < 1000000 → ∃ k, fw_re W k a b := by
  intro m
  induction m with
  | zero => intro a b q; exact ⟨1, Or.inr ⟨a, rfl, q⟩⟩
  | succ m ih =>
    intro a b q
    rw [fw_s] at q
    by_cases c : fw W m a m + fw W m m b < fw W m a b
    · rw [if_pos c] at q
      have r1 := fw_rg h m a m
      have r2 := fw_rg h m m b
      obtain ⟨k1, h1⟩ := ih a m (by omega)
      obtain ⟨k2, h2⟩ := ih m b (by omega)
      exact ⟨_, re_tr h1 k2 b h2⟩
    · rw [if_neg c] at q
      exact ih a b q
theorem re_n {n : Nat} {W : Nat → Nat → Int} (h : fw_ok n W) {a : Nat} (ha : a < n) : ∀ k b, fw_re W k a b → b < n
  | 0, b, e => by
    have e : a = b := e
    omega
  | k + 1, b, e => by
    rcases e with e | ⟨c, e1, e2⟩
    · exact re_n h ha k b e
    · have := re_n h ha k c e1
      by_cases q : c = b
      · omega
      · have := (h c b).2 q
        omega
theorem re_six {n : Nat} {W : Nat → Nat → Int} (h : fw_ok n W) (hn : n ≤ 7) {a b k : Nat} (ha : a < n) (hr : fw_re W k a b) : fw_re W 6 a b := by
  by_cases c : b = a
  · rw [c]; exact re_self a 6
  · have len : ((List.range 7).filter (fun x => decide (x ≠ a))).length = 6 := by
      have e : ∀ a : Fin 7, ((List.range 7).filter (fun x => decide (x ≠ a.val))).length = 6 := by decide
      exact e ⟨a, by omega⟩
    have mem : ∀ x, x ∈ (List.range 7).filter (fun x => decide (x ≠ a)) ↔ (x < 7 ∧ x ≠ a) := by
      intro x
      rw [List.mem_filter, List.mem_range, decide_eq_true_eq]
    have key := chain_stop (fun k x => fw_re W k a x) ((List.range 7).filter (fun x => decide (x ≠ a))) (fun k x => re_up k a x) (fun k hs x hx hp => by
      rcases hp with hp | ⟨d, h1, h2⟩
      · exact hp
      · refine Or.inr ⟨d, ?_, h2⟩
        by_cases q : d = a
        · rw [q]; exact re_self a k
        · have := re_n h ha _ d h1
          exact hs d ((mem d).2 ⟨by omega, q⟩) h1) k b ((mem b).2 ⟨by have := re_n h ha _ b hr; omega, c⟩) hr
    rw [len] at key
    exact key
theorem re_le {n : Nat} {W : Nat → Nat → Int} (h : fw_ok n W) {a : Nat} (ha : a < n) : ∀ k b, fw_re W k a b → fw W n a b ≤ 30 * k
  | 0, b, e => by
    have e : a = b := e
    have := (fw_rg h n a b).2.2.2 e
    omega
  | k + 1, b, e => by
    rcases e with e | ⟨c, e1, e2⟩
    · have := re_le h ha k b e
      omega
    · have i := re_le h ha k c e1
      have cn := re_n h ha k c e1
      have t := fw_tri h n c cn a b
      have w := fw_way h n c b
      by_cases q : c = b
      · have := (h c b).1 q
        omega
      · have := (h c b).2 q
        omega
theorem fw_180 {n : Nat} {W : Nat → Nat → Int} (h : fw_ok n W) (hn : n ≤ 7) {a b : Nat} (ha : a < n) : fw W n a b = 1000000 ∨ (0 ≤ fw W n a b ∧ fw W n a b ≤ 180) := by
  have r := fw_rg h n a b
  by_cases c : fw W n a b < 1000000
  · obtain ⟨k, hk⟩ := re_fin h n a b c
    have := re_le h ha 6 b (re_six h hn ha hk)
    right
    omega
  · left
    omega
