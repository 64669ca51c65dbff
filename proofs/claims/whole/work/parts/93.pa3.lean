/-! reading: the class -/
theorem w_same (M : ab_M) (k f : Nat) : ab_w M k f (M k f) = M := by
  funext a b
  unfold ab_w
  by_cases c : a = k ∧ b = f
  · rw [if_pos c, c.1, c.2]
  · rw [if_neg c]
theorem w_w (M : ab_M) (k f : Nat) (v v' : Int) : ab_w (ab_w M k f v) k f v' = ab_w M k f v' := by
  funext a b
  unfold ab_w
  by_cases c : a = k ∧ b = f
  · rw [if_pos c, if_pos c]
  · rw [if_neg c, if_neg c, if_neg c]
/-- the text that a memory holds -/
def pa_tx (T : Nat → Int) (n : Nat) (M : ab_M) : Prop := n ≤ 250 ∧ M 1 0 = (n : Int) ∧ (∀ i : Nat, i < n → M 2 i = T i ∧ 0 ≤ T i ∧ T i ≤ 255)
theorem tx_w {T : Nat → Int} {n : Nat} {M M' : ab_M} (h : pa_tx T n M) (e1 : M' 1 0 = M 1 0) (e2 : ∀ i, M' 2 i = M 2 i) : pa_tx T n M' := ⟨h.1, e1.trans h.2.1, fun i hi => by rw [e2]; exact h.2.2 i hi⟩
theorem s27 {d t n : Nat} {T : Nat → Int} : ∀ (k i : Nat) (M : ab_M), 1 ≤ d → pu_str t M → pa_tx T n M → i + k = n → M 1 1 = (i : Int) → ab_wp d 27 0 [some (.inr (.inr 1))] [] M (fun r M' => r = none ∧ M' = ab_w M 1 1 ((pa_sk T n i : Nat) : Int)) := by
  intro k
  induction k with
  | zero =>
    intro i M hd hS ht e hi
    obtain ⟨n5, h0, hT⟩ := ht
    have es : pa_sk T n i = i := by rw [sk_e, if_neg (by omega)]
    refine b27_0 (by omega) hS ⟨fun _ => ⟨rfl, ?_⟩, fun q => by omega⟩
    rw [es, ← hi, w_same]
  | succ k ih =>
    intro i M hd hS ht e hi
    obtain ⟨n5, h0, hT⟩ := id ht
    have Ti := hT i (by omega)
    refine b27_0 (by omega) hS ⟨fun q => by omega, fun _ => ?_⟩
    rw [hi, Int.toNat_natCast, Ti.1]
    refine ⟨by omega, fun q => ⟨rfl, ?_⟩, fun q => ⟨by omega, ?_⟩⟩
    · rw [sk_e, if_neg (fun z => q z.2), ← hi, w_same]
    · have g := ih (i + 1) (ab_w M 1 1 ((i : Int) + 1)) hd (str_w hS rfl) (tx_w ht (w_ne (by omega)) (fun j => w_ne (by omega))) (by omega) (by rw [ab_w_eq, Int.natCast_succ])
      rw [w_w] at g
      rw [sk_e, if_pos ⟨by omega, q⟩]
      exact g
theorem s27e {d t n i : Nat} {T : Nat → Int} {M : ab_M} (hd : 1 ≤ d) (hS : pu_str t M) (ht : pa_tx T n M) (hi : M 1 1 = (i : Int)) (hn : i ≤ n) : ab_ev d 27 [.inr (.inr 1)] M none (ab_w M 1 1 ((pa_sk T n i : Nat) : Int)) :=
  ev_wp (s27 (n - i) i M hd hS ht (by omega) hi)
theorem s30 {d t : Nat} {M : ab_M} (hd : 1 ≤ d) (hS : pu_str t M) (x : Int) : ab_ev d 30 [.inl x] M (some (.inl (if 48 ≤ x ∧ x ≤ 57 then 1 else 0))) M := by
  refine ev_wp (b30_0 hd hS ⟨fun c => ⟨?_, rfl⟩, fun c => ⟨fun c2 => ⟨?_, rfl⟩, fun c2 => ⟨?_, rfl⟩⟩⟩)
  · rw [if_neg (by omega)]
  · rw [if_neg (by omega)]
  · rw [if_pos ⟨c, c2⟩]
def pa_rc (u : Nat) (S M : ab_M) : Prop :=
  (M u 0 = S 0 0 ∧ M u 1 = S 0 1 ∧ M u 2 = S 0 2 ∧ M u 3 = S 0 3 ∧ M u 4 = S 0 4)
  ∧ (∀ a b : Nat, a < 7 → b < 7 → M (u + 2 + a) b = S 1 (7 * a + b))
  ∧ (∀ p : Nat, (p : Int) < S 0 2 → M (u + 17) p = S 2 p ∧ M (u + 18) p = S 3 p)
  ∧ (∀ i : Nat, (i : Int) < S 0 3 → M (u + 19) i = S 4 (5 * i) ∧ M (u + 20) i = S 4 (5 * i + 1) ∧ M (u + 21) i = S 4 (5 * i + 2) ∧ M (u + 22) i = S 4 (5 * i + 3))
  ∧ (∀ i : Nat, i < 6 → M (u + 23) i = S 4 (5 * i + 4))
  ∧ (∀ a b : Nat, a < 6 → b < 6 → M (u + 25 + a) b = S 5 (6 * a + b))
  ∧ (∀ o : Nat, (o : Int) < S 0 4 → M (u + 31) o = S 6 o)
theorem rc_fr {u : Nat} {S M M' : ab_M} (h : pa_rc u S M) (e : ∀ k f : Nat, u ≤ k → k ≤ u + 31 → M' k f = M k f) : pa_rc u S M' := by
  obtain ⟨h0, h1, h2, h3, h4, h5, h6⟩ := h
  refine ⟨?_, fun a b ha hb => ?_, fun p hp => ?_, fun i hi => ?_, fun i hi => ?_, fun a b ha hb => ?_, fun o ho => ?_⟩
  · rw [e u 0 (by omega) (by omega), e u 1 (by omega) (by omega), e u 2 (by omega) (by omega), e u 3 (by omega) (by omega), e u 4 (by omega) (by omega)]
    exact h0
  · rw [e _ _ (by omega) (by omega)]; exact h1 a b ha hb
  · rw [e _ _ (by omega) (by omega), e _ _ (by omega) (by omega)]; exact h2 p hp
  · rw [e _ _ (by omega) (by omega), e _ _ (by omega) (by omega), e _ _ (by omega) (by omega), e _ _ (by omega) (by omega)]; exact h3 i hi
  · rw [e _ _ (by omega) (by omega)]; exact h4 i hi
  · rw [e _ _ (by omega) (by omega)]; exact h5 a b ha hb
  · rw [e _ _ (by omega) (by omega)]; exact h6 o ho
theorem s32 {d t : Nat} {M : ab_M} (hd : 1 ≤ d) (hS : pu_str t M) {cl k : Nat} (hc : cl ≤ 6) : ab_ev d 32 [.inl (cl : Int), .inl (k : Int)] M (some (.inl (pa_lo cl k))) M := by
  refine ev_wp (b32_0 hd hS ⟨fun q => by omega, fun q => ⟨fun z => ⟨?_, rfl⟩, fun z => ⟨?_, rfl⟩⟩, fun q => ⟨fun z => ⟨?_, rfl⟩, fun z => ⟨?_, rfl⟩⟩, fun q => ⟨?_, rfl⟩, fun q => ⟨fun z => ⟨?_, rfl⟩, fun z => ⟨fun y => ⟨?_, rfl⟩, fun y => ⟨?_, rfl⟩⟩⟩, fun q => ⟨?_, rfl⟩, fun q => ⟨?_, rfl⟩, fun q => ⟨?_, rfl⟩⟩)
  · rw [show cl = 0 from by omega]; unfold pa_lo; rw [if_pos rfl, if_neg (by omega)]
  · rw [show cl = 0 from by omega]; unfold pa_lo; rw [if_pos rfl, if_pos (by omega)]
  · rw [show cl = 1 from by omega]; unfold pa_lo; rw [if_neg (by decide), if_pos rfl, if_neg (by omega)]
  · rw [show cl = 1 from by omega]; unfold pa_lo; rw [if_neg (by decide), if_pos rfl, if_pos (by omega)]
  · rw [show cl = 2 from by omega]; rfl
  · rw [show cl = 3 from by omega]; unfold pa_lo; rw [if_neg (by decide), if_neg (by decide), if_pos rfl, if_pos (by omega)]
  · rw [show cl = 3 from by omega]; unfold pa_lo; rw [if_neg (by decide), if_neg (by decide), if_pos rfl, if_neg (by omega)]
  · rw [show cl = 3 from by omega]; unfold pa_lo; rw [if_neg (by decide), if_neg (by decide), if_pos rfl, if_pos (by omega)]
  · rw [show cl = 4 from by omega]; rfl
  · rw [show cl = 5 from by omega]; rfl
  · rw [show cl = 6 from by omega]; rfl
theorem s33 {d t u : Nat} {S M : ab_M} (hd : 1 ≤ d) (hS : pu_str t M) (hu : pu_T u) (hr : pa_rc u S M) (ho : pa_ok S) {cl k : Nat} (hc : cl ≤ 6) (hk : k < pa_nn cl) {a : Int} (ha : cl = 0 → k ≠ 0 → M 4 0 = a ∧ ab_rg (a - 1)) : ab_ev d 33 [.inr (.inr 1), .inr (.inr u), .inl (cl : Int), .inl (k : Int)] M (some (.inl (pa_hi S cl k a))) M := by
  obtain ⟨⟨r0, r1, r2, r3, r4⟩, _⟩ := hr
  obtain ⟨o0, o2, o3, o4, _⟩ := ho
  have sh := shl_all ⟨(S 0 3).toNat, by omega⟩
  have sh1 : ab_shl 1 (S 0 3) - 1 = 2 ^ (S 0 3).toNat - 1 := by
    have e : ∀ i : Fin 7, ab_shl 1 ((i.val : Nat) : Int) - 1 = 2 ^ i.val - 1 := by decide +kernel
    have := e ⟨(S 0 3).toNat, by omega⟩
    rw [show (((⟨(S 0 3).toNat, by omega⟩ : Fin 7).val : Nat) : Int) = S 0 3 from by show (((S 0 3).toNat : Nat) : Int) = S 0 3; omega] at this
    exact this
  have p6 : (1 : Int) ≤ 2 ^ (S 0 3).toNat ∧ (2 : Int) ^ (S 0 3).toNat ≤ 64 := by
    have e : ∀ i : Fin 7, (1 : Int) ≤ 2 ^ i.val ∧ (2 : Int) ^ i.val ≤ 64 := by decide
    exact e ⟨(S 0 3).toNat, by omega⟩
  refine ev_wp (b33_0 hd hS hu ?_)
  rw [r0, r2, r3, sh1]
  have cs : cl = 0 ∨ cl = 1 ∨ cl = 2 ∨ cl = 3 ∨ cl = 4 ∨ cl = 5 ∨ cl = 6 := by omega
  refine ⟨fun q => ⟨by omega, ?_, rfl⟩, fun q => ⟨fun z => ?_, fun z => ⟨?_, rfl⟩⟩, fun q => ⟨fun z => ⟨?_, rfl⟩, fun z => ⟨by omega, ?_, rfl⟩⟩, fun q => ⟨fun z => ⟨?_, rfl⟩, fun z => ⟨by omega, ?_, rfl⟩⟩, fun q => ⟨fun z => ?_, fun z => ⟨by omega, ?_, rfl⟩⟩, fun q => ⟨fun z => ⟨?_, rfl⟩, fun z => ⟨by omega, ?_, rfl⟩⟩, fun q => ⟨fun z => ⟨?_, rfl⟩, fun z => ⟨by omega, ?_, rfl⟩⟩⟩
  · rw [show cl = 6 from by omega]; rfl
  · have := ha (by omega) (by omega)
    rw [this.1]
    refine ⟨this.2, ?_, rfl⟩
    rw [show cl = 0 from by omega]; unfold pa_hi; rw [if_pos rfl, if_neg (by omega)]
  · rw [show cl = 0 from by omega]; unfold pa_hi; rw [if_pos rfl, if_pos (by omega)]
  · rw [show cl = 1 from by omega]; unfold pa_hi; rw [if_neg (by decide), if_pos rfl, if_neg (by omega)]
  · rw [show cl = 1 from by omega]; unfold pa_hi; rw [if_neg (by decide), if_pos rfl, if_pos (by omega)]
  · rw [show cl = 2 from by omega]; unfold pa_hi; rw [if_neg (by decide), if_neg (by decide), if_pos rfl, if_neg (by omega)]
  · rw [show cl = 2 from by omega]; unfold pa_hi; rw [if_neg (by decide), if_neg (by decide), if_pos rfl, if_pos (by omega)]
  · have e3 : cl = 3 := by omega
    subst e3
    have hk4 : k < 4 := hk
    refine ⟨by omega, ?_, rfl⟩
    rw [Int.toNat_natCast]
    have : k = 1 ∨ k = 2 ∨ k = 3 := by omega
    rcases this with rfl | rfl | rfl <;> rfl
  · rw [show cl = 3 from by omega, show k = 0 from by omega]; rfl
  · rw [show cl = 4 from by omega]; unfold pa_hi; rw [if_neg (by decide), if_neg (by decide), if_neg (by decide), if_neg (by decide), if_pos rfl, if_neg (by omega)]
  · rw [show cl = 4 from by omega]; unfold pa_hi; rw [if_neg (by decide), if_neg (by decide), if_neg (by decide), if_neg (by decide), if_pos rfl, if_pos (by omega)]
  · rw [show cl = 5 from by omega]; unfold pa_hi; rw [if_neg (by decide), if_neg (by decide), if_neg (by decide), if_neg (by decide), if_neg (by decide), if_pos rfl, if_neg (by omega)]
  · rw [show cl = 5 from by omega]; unfold pa_hi; rw [if_neg (by decide), if_neg (by decide), if_neg (by decide), if_neg (by decide), if_neg (by decide), if_pos rfl, if_pos (by omega)]
theorem s34 {d t u : Nat} {S M : ab_M} (hd : 1 ≤ d) (hS : pu_str t M) (hu : pu_T u) (hr : pa_rc u S M) (ho : pa_ok S) {cl k : Nat} (hc : cl ≤ 6) {a v : Int} (h0 : k ≠ 0 → M 4 0 = a ∧ 0 ≤ a ∧ a ≤ pa_hi S cl 0 0) (hv : 0 ≤ v ∧ v ≤ pa_hi S cl k a) : ab_ev d 34 [.inr (.inr 1), .inr (.inr u), .inl (cl : Int), .inl (k : Int), .inl v] M (some (.inl (if pa_ag S cl k a v = true then 1 else 0))) M := by
  obtain ⟨_, rw1, _, _, rpr, rod, _⟩ := hr
  obtain ⟨o0, o2, o3, o4, _⟩ := ho
  have fin : ∀ (x : Int), (x = 0 ∨ x = 1) → x = (if pa_ag S cl k a v = true then 1 else 0) → ab_wp d 34 112 [some (.inr (.inr 1)), some (.inr (.inr u)), some (.inl (cl : Int)), some (.inl (k : Int)), some (.inl v)] [.inl x] M (fun r' M'' => r' = some (.inl (if pa_ag S cl k a v = true then 1 else 0)) ∧ M'' = M) := fun x hx e => b34_112 hd hS hu ⟨hx, by rw [e], rfl⟩
  have agn : k ≠ 1 → cl ≠ 4 → pa_ag S cl k a v = false := by
    intro q z
    unfold pa_ag
    rw [if_neg z, if_pos q]
  have ag4 : cl = 4 → k ≠ 0 → pa_ag S cl k a v = false := by
    intro q z
    unfold pa_ag
    rw [if_pos q, decide_eq_false z]
    rfl
  refine ev_wp (b34_0 hd hS hu ⟨fun q => ⟨fun z => ⟨fun y => ⟨fun x => fin 0 (Or.inl rfl) ?_, fun x => ?_⟩, fun y => ?_⟩, fun z => ⟨?_, rfl⟩⟩, fun q => ⟨fun z => ⟨fun y => ⟨fun _ => ⟨fun _ => fin 0 (Or.inl rfl) ?_, fun x => by omega⟩, fun x => by omega⟩, fun y => ⟨?_, rfl⟩⟩, fun z => ?_⟩⟩)
  · rw [if_neg]
    unfold pa_ag
    rw [if_neg (by omega), if_neg (by omega), if_neg (by omega), if_neg (by omega)]
    decide
  · have e5 : cl = 5 := by omega
    have ek : k = 1 := by omega
    subst e5 ek
    obtain ⟨m0, a0, a1⟩ := h0 (by decide)
    have a1 : a ≤ S 0 2 - 1 := a1
    have v1 : v ≤ S 0 2 - 1 := hv.2
    have e : pa_ag S 5 1 a v = (decide (v = a) || decide (S 5 (6 * a.toNat + v.toNat) ≠ -1)) := rfl
    rw [m0]
    refine ⟨fun y => fin 1 (Or.inr rfl) ?_, fun y => ⟨by omega, by omega, fun z => fin 0 (Or.inl rfl) ?_, fun z => fin 1 (Or.inr rfl) ?_⟩⟩
    · rw [e, decide_eq_true y]; rfl
    · rw [rod a.toNat v.toNat (by omega) (by omega)] at z
      rw [e, decide_eq_false y, decide_eq_false (fun w => w z)]; rfl
    · rw [rod a.toNat v.toNat (by omega) (by omega)] at z
      rw [e, decide_eq_true z, Bool.or_true]; rfl
  · have e1 : cl = 1 := by omega
    have ek : k = 1 := by omega
    subst e1 ek
    obtain ⟨m0, a0, a1⟩ := h0 (by decide)
    have a1 : a ≤ S 0 0 - 1 := a1
    have v1 : v ≤ S 0 0 - 1 := hv.2
    have e : pa_ag S 1 1 a v = (decide (v = a) || decide (S 1 (7 * a.toNat + v.toNat) ≠ -1)) := rfl
    rw [m0]
    refine ⟨fun y => ⟨?_, rfl⟩, fun y => ⟨by omega, by omega, fun z => ⟨?_, rfl⟩, fun z => ⟨?_, rfl⟩⟩⟩
    · rw [e, decide_eq_true y]; rfl
    · rw [rw1 a.toNat v.toNat (by omega) (by omega)] at z
      rw [e, decide_eq_false y, decide_eq_false (fun w => w z)]; rfl
    · rw [rw1 a.toNat v.toNat (by omega) (by omega)] at z
      rw [e, decide_eq_true z, Bool.or_true]; rfl
  · rw [agn (by omega) (by omega)]; rfl
  · rw [ag4 (by omega) (by omega)]; rfl
  · rw [ag4 (by omega) (by omega)]; rfl
  · have e4 : cl = 4 := by omega
    have ek : k = 0 := by omega
    subst e4 ek
    have v1 : v ≤ S 0 3 - 1 := hv.2
    have e : pa_ag S 4 0 a v = decide (S 4 (5 * v.toNat + 4) ≠ -1) := by
      unfold pa_ag
      rw [if_pos rfl, decide_eq_true (rfl : (0 : Nat) = 0), Bool.true_and]
    refine ⟨by omega, fun y => ⟨?_, rfl⟩, fun y => ⟨?_, rfl⟩⟩
    · rw [rpr v.toNat (by omega)] at y
      rw [e, decide_eq_false (fun w => w y)]; rfl
    · rw [rpr v.toNat (by omega)] at y
      rw [e, decide_eq_true y]; rfl
