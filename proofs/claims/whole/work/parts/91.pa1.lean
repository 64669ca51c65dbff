/-! the text, purely: T its signs, n how many -/
def pa_skf (T : Nat → Int) (n : Nat) : Nat → Nat → Nat
  | 0, i => i
  | k + 1, i => if i < n ∧ T i = 32 then pa_skf T n k (i + 1) else i
def pa_sk (T : Nat → Int) (n i : Nat) : Nat := pa_skf T n (n - i) i
def pa_dgf (T : Nat → Int) (n : Nat) : Nat → Nat → Nat
  | 0, i => i
  | k + 1, i => if i < n ∧ (48 ≤ T i ∧ T i ≤ 57) then pa_dgf T n k (i + 1) else i
def pa_dg (T : Nat → Int) (n i : Nat) : Nat := pa_dgf T n (n - i) i
theorem sk_e (T : Nat → Int) (n i : Nat) : pa_sk T n i = if i < n ∧ T i = 32 then pa_sk T n (i + 1) else i := by
  unfold pa_sk
  by_cases c : i < n
  · rw [show n - i = (n - (i + 1)) + 1 from by omega]
    rfl
  · rw [show n - i = 0 from by omega, if_neg (by omega)]
    rfl
theorem dg_e (T : Nat → Int) (n i : Nat) : pa_dg T n i = if i < n ∧ (48 ≤ T i ∧ T i ≤ 57) then pa_dg T n (i + 1) else i := by
  unfold pa_dg
  by_cases c : i < n
  · rw [show n - i = (n - (i + 1)) + 1 from by omega]
    rfl
  · rw [show n - i = 0 from by omega, if_neg (by omega)]
    rfl
theorem skf_rg (T : Nat → Int) (n : Nat) : ∀ k i, i ≤ pa_skf T n k i ∧ (i ≤ n → pa_skf T n k i ≤ n)
  | 0, i => ⟨Nat.le_refl _, fun h => h⟩
  | k + 1, i => by
    unfold pa_skf
    by_cases c : i < n ∧ T i = 32
    · rw [if_pos c]
      have := skf_rg T n k (i + 1)
      exact ⟨by omega, fun _ => this.2 (by omega)⟩
    · rw [if_neg c]
      exact ⟨Nat.le_refl _, fun h => h⟩
theorem dgf_rg (T : Nat → Int) (n : Nat) : ∀ k i, i ≤ pa_dgf T n k i ∧ (i ≤ n → pa_dgf T n k i ≤ n)
  | 0, i => ⟨Nat.le_refl _, fun h => h⟩
  | k + 1, i => by
    unfold pa_dgf
    by_cases c : i < n ∧ (48 ≤ T i ∧ T i ≤ 57)
    · rw [if_pos c]
      have := dgf_rg T n k (i + 1)
      exact ⟨by omega, fun _ => this.2 (by omega)⟩
    · rw [if_neg c]
      exact ⟨Nat.le_refl _, fun h => h⟩
theorem sk_rg (T : Nat → Int) (n i : Nat) : i ≤ pa_sk T n i ∧ (i ≤ n → pa_sk T n i ≤ n) := skf_rg T n _ i
theorem dg_rg (T : Nat → Int) (n i : Nat) : i ≤ pa_dg T n i ∧ (i ≤ n → pa_dg T n i ≤ n) := dgf_rg T n _ i
theorem skf_end (T : Nat → Int) (n : Nat) : ∀ k i, i + k = n → (pa_skf T n k i < n → T (pa_skf T n k i) ≠ 32)
  | 0, i, h => fun q => by
    have : pa_skf T n 0 i = i := rfl
    omega
  | k + 1, i, h => by
    unfold pa_skf
    by_cases c : i < n ∧ T i = 32
    · rw [if_pos c]; exact skf_end T n k (i + 1) (by omega)
    · rw [if_neg c]
      intro q z
      exact c ⟨q, z⟩
theorem sk_end {T : Nat → Int} {n i : Nat} (hi : i ≤ n) (q : pa_sk T n i < n) : T (pa_sk T n i) ≠ 32 := skf_end T n (n - i) i (by omega) q
/-- the digits from f on, k of them, as a number -/
def pa_pv (T : Nat → Int) (f : Nat) : Nat → Int
  | 0 => 0
  | k + 1 => pa_pv T f k * 10 + (T (f + k) - 48)
theorem pv_s (T : Nat → Int) (f k : Nat) : pa_pv T f (k + 1) = pa_pv T f k * 10 + (T (f + k) - 48) := rfl
/-- one number -/
def pa_n1 (T : Nat → Int) (n : Nat) (lo hi : Int) (ag : Int → Bool) (p : Nat) : (Int × Nat) ⊕ (Int × Nat) :=
  if pa_dg T n (pa_sk T n p) = pa_sk T n p then .inl (1, pa_sk T n p)
  else if 3 < pa_dg T n (pa_sk T n p) - pa_sk T n p ∨ pa_pv T (pa_sk T n p) (pa_dg T n (pa_sk T n p) - pa_sk T n p) < lo ∨ hi < pa_pv T (pa_sk T n p) (pa_dg T n (pa_sk T n p) - pa_sk T n p) then .inl (2, pa_sk T n p)
  else if ag (pa_pv T (pa_sk T n p) (pa_dg T n (pa_sk T n p) - pa_sk T n p)) = true then .inl (4, pa_sk T n p)
  else .inr (pa_pv T (pa_sk T n p) (pa_dg T n (pa_sk T n p) - pa_sk T n p), pa_dg T n (pa_sk T n p))
/-! what was read: S 0: squares, start, people, deeds, words, ways, trusts, towns; S 1 ways; S 2 homes; S 3 bids; S 4 deeds; S 5 trusts; S 6 words -/
def pa_lo (cl k : Nat) : Int := if cl = 0 then (if k = 0 then 1 else 0) else if cl = 1 then (if k = 2 then 1 else 0) else if cl = 3 then (if k = 1 ∨ k = 2 then 1 else 0) else if cl = 6 then 1 else 0
def pa_hi (S : ab_M) (cl k : Nat) (a : Int) : Int := if cl = 0 then (if k = 0 then 7 else a - 1) else if cl = 1 then (if k < 2 then S 0 0 - 1 else 30) else if cl = 2 then (if k = 0 then S 0 0 - 1 else 99) else if cl = 3 then (if k = 0 then S 0 2 - 1 else if k = 1 then 30 else if k = 2 then 999 else 99) else if cl = 4 then (if k = 0 then S 0 3 - 1 else 99) else if cl = 5 then (if k < 2 then S 0 2 - 1 else 10) else 2 ^ (S 0 3).toNat - 1
def pa_ag (S : ab_M) (cl k : Nat) (a v : Int) : Bool := if cl = 4 then (decide (k = 0) && decide (S 4 (5 * v.toNat + 4) ≠ -1)) else if k ≠ 1 then false else if cl = 1 then (decide (v = a) || decide (S 1 (7 * a.toNat + v.toNat) ≠ -1)) else if cl = 5 then (decide (v = a) || decide (S 5 (6 * a.toNat + v.toNat) ≠ -1)) else false
def pa_nn (cl : Nat) : Nat := if cl = 0 then 2 else if cl = 1 then 3 else if cl = 2 then 2 else if cl = 3 then 4 else if cl = 4 then 2 else if cl = 5 then 3 else 1
/-- no more of these -/
def pa_fl (S : ab_M) (cl : Nat) : Bool := if cl = 0 then decide (S 0 7 ≠ 0) else if cl = 1 then decide (10 ≤ S 0 5) else if cl = 2 then decide (6 ≤ S 0 2) else if cl = 3 then decide (6 ≤ S 0 3) else if cl = 4 then false else if cl = 5 then decide (12 ≤ S 0 6) else decide (4 ≤ S 0 4)
def pa_tk (S : ab_M) (cl : Nat) (a : Nat → Int) : ab_M :=
  if cl = 0 then ab_w (ab_w (ab_w S 0 0 (a 0)) 0 1 (a 1)) 0 7 1
  else if cl = 1 then ab_w (ab_w (ab_w S 1 (7 * (a 0).toNat + (a 1).toNat) (a 2)) 1 (7 * (a 1).toNat + (a 0).toNat) (a 2)) 0 5 (S 0 5 + 1)
  else if cl = 2 then ab_w (ab_w (ab_w S 2 (S 0 2).toNat (a 0)) 3 (S 0 2).toNat (a 1)) 0 2 (S 0 2 + 1)
  else if cl = 3 then ab_w (ab_w (ab_w (ab_w (ab_w (ab_w S 4 (5 * (S 0 3).toNat) (a 0)) 4 (5 * (S 0 3).toNat + 1) (a 1)) 4 (5 * (S 0 3).toNat + 2) (a 2)) 4 (5 * (S 0 3).toNat + 3) (a 3)) 4 (5 * (S 0 3).toNat + 4) (-1)) 0 3 (S 0 3 + 1)
  else if cl = 4 then ab_w S 4 (5 * (a 0).toNat + 4) (a 1)
  else if cl = 5 then ab_w (ab_w S 5 (6 * (a 0).toNat + (a 1).toNat) (a 2)) 0 6 (S 0 6 + 1)
  else ab_w (ab_w S 6 (S 0 4).toNat (a 0)) 0 4 (S 0 4 + 1)
def pa_nums (T : Nat → Int) (n : Nat) (S : ab_M) (cl : Nat) : Nat → Nat → (Nat → Int) → Nat → (Int × Nat) ⊕ ((Nat → Int) × Nat)
  | 0, _, a, p => .inr (a, p)
  | r + 1, k, a, p => match pa_n1 T n (pa_lo cl k) (pa_hi S cl k (a 0)) (pa_ag S cl k (a 0)) p with
    | .inl f => .inl f
    | .inr z => pa_nums T n S cl r (k + 1) (pu_u a k z.1) z.2
def pa_cl (T : Nat → Int) (n : Nat) (S : ab_M) (cl i : Nat) : (Int × Nat) ⊕ (ab_M × Nat) :=
  if pa_fl S cl = true then .inl (3, i) else match pa_nums T n S cl (pa_nn cl) 0 (fun _ => 0) (i + 1) with
    | .inl f => .inl f
    | .inr z => if pa_sk T n z.2 < n ∧ T (pa_sk T n z.2) = 59 then .inr (pa_tk S cl z.1, pa_sk T n (pa_sk T n z.2 + 1)) else .inl (1, pa_sk T n z.2)
def pa_ix (c : Int) : Int := if c = 116 then 0 else if c = 119 then 1 else if c = 112 then 2 else if c = 100 then 3 else if c = 114 then 4 else if c = 113 then 5 else if c = 111 then 6 else -1
def pa_run (T : Nat → Int) (n : Nat) : Nat → ab_M → Nat → (Int × Nat) ⊕ ab_M
  | 0, S, _ => .inr S
  | f + 1, S, i => if n ≤ i then .inr S else if pa_ix (T i) = -1 ∨ (pa_ix (T i) ≠ 0 ∧ S 0 7 = 0) then .inl (1, i) else match pa_cl T n S (pa_ix (T i)).toNat i with
    | .inl e => .inl e
    | .inr z => pa_run T n f z.1 z.2
def pa_S0 : ab_M := fun c f => if c = 0 then (if f = 1 then -1 else 0) else if c = 1 ∨ c = 4 ∨ c = 5 then -1 else 0
/-- what can be read -/
def pa_ok (S : ab_M) : Prop := (0 ≤ S 0 0 ∧ S 0 0 ≤ 7) ∧ (0 ≤ S 0 2 ∧ S 0 2 ≤ 6) ∧ (0 ≤ S 0 3 ∧ S 0 3 ≤ 6) ∧ (0 ≤ S 0 4 ∧ S 0 4 ≤ 4) ∧ (0 ≤ S 0 5 ∧ S 0 5 ≤ 10) ∧ (0 ≤ S 0 6 ∧ S 0 6 ≤ 12) ∧ (S 0 7 = 0 ∨ S 0 7 = 1)
  ∧ (S 0 7 = 0 → S 0 0 = 0 ∧ S 0 1 = -1 ∧ S 0 2 = 0 ∧ S 0 3 = 0 ∧ S 0 4 = 0) ∧ (S 0 7 = 1 → 1 ≤ S 0 0 ∧ 0 ≤ S 0 1 ∧ S 0 1 < S 0 0)
  ∧ (∀ a b : Nat, a < 7 → b < 7 → S 1 (7 * a + b) = -1 ∨ (1 ≤ S 1 (7 * a + b) ∧ S 1 (7 * a + b) ≤ 30 ∧ a ≠ b ∧ (a : Int) < S 0 0 ∧ (b : Int) < S 0 0))
  ∧ (∀ p : Nat, (p : Int) < S 0 2 → 0 ≤ S 2 p ∧ S 2 p < S 0 0 ∧ 0 ≤ S 3 p ∧ S 3 p ≤ 99)
  ∧ (∀ i : Nat, (i : Int) < S 0 3 → 0 ≤ S 4 (5 * i) ∧ S 4 (5 * i) < S 0 2 ∧ 1 ≤ S 4 (5 * i + 1) ∧ S 4 (5 * i + 1) ≤ 30 ∧ 1 ≤ S 4 (5 * i + 2) ∧ S 4 (5 * i + 2) ≤ 999 ∧ 0 ≤ S 4 (5 * i + 3) ∧ S 4 (5 * i + 3) ≤ 99 ∧ -1 ≤ S 4 (5 * i + 4) ∧ S 4 (5 * i + 4) ≤ 99)
  ∧ (∀ i : Nat, S 0 3 ≤ (i : Int) → S 4 (5 * i + 4) = -1)
  ∧ (∀ a b : Nat, a < 6 → b < 6 → -1 ≤ S 5 (6 * a + b) ∧ S 5 (6 * a + b) ≤ 10 ∧ (S 0 2 ≤ (a : Int) ∨ S 0 2 ≤ (b : Int) → S 5 (6 * a + b) = -1))
  ∧ (∀ o : Nat, (o : Int) < S 0 4 → 1 ≤ S 6 o ∧ S 6 o ≤ 63)
theorem n1_inr {T : Nat → Int} {n : Nat} {lo hi : Int} {ag : Int → Bool} {p : Nat} {z : Int × Nat} (h : pa_n1 T n lo hi ag p = .inr z) : lo ≤ z.1 ∧ z.1 ≤ hi ∧ ag z.1 = false ∧ p < z.2 ∧ (p ≤ n → z.2 ≤ n) := by
  unfold pa_n1 at h
  have s := sk_rg T n p
  have g := dg_rg T n (pa_sk T n p)
  by_cases c1 : pa_dg T n (pa_sk T n p) = pa_sk T n p
  · rw [if_pos c1] at h; cases h
  · rw [if_neg c1] at h
    by_cases c2 : 3 < pa_dg T n (pa_sk T n p) - pa_sk T n p ∨ pa_pv T (pa_sk T n p) (pa_dg T n (pa_sk T n p) - pa_sk T n p) < lo ∨ hi < pa_pv T (pa_sk T n p) (pa_dg T n (pa_sk T n p) - pa_sk T n p)
    · rw [if_pos c2] at h; cases h
    · rw [if_neg c2] at h
      by_cases c3 : ag (pa_pv T (pa_sk T n p) (pa_dg T n (pa_sk T n p) - pa_sk T n p)) = true
      · rw [if_pos c3] at h; cases h
      · rw [if_neg c3] at h
        cases h
        refine ⟨by dsimp only; omega, by dsimp only; omega, by simpa using c3, by dsimp only; omega, fun q => g.2 (s.2 q)⟩
