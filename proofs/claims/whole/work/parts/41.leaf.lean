/-! what the small methods answer -/
theorem s51 {d t u : Nat} {M : ab_M} (hd : 1 ≤ d) (hS : pu_str t M) (hu : pu_T u) (x : Int) : ab_ev d 51 [.inr (.inr u), .inl x] M (some (.inl (if 0 ≤ x ∧ x < M u 0 then 1 else 0))) M := by
  refine ev_wp ?_
  show ab_wp d 51 0 [some (.inr (.inr u)), some (.inl x)] [] M _
  refine b51_0 hd hS hu ⟨fun c => ⟨?_, rfl⟩, fun c => ⟨fun c2 => ⟨?_, rfl⟩, fun c2 => ⟨?_, rfl⟩⟩⟩
  · rw [if_neg (by omega)]
  · rw [if_neg (by omega)]
  · rw [if_pos (by omega)]
theorem s52 {d t u : Nat} {M : ab_M} (hd : 1 ≤ d) (hS : pu_str t M) (hu : pu_T u) (x : Int) : ab_ev d 52 [.inr (.inr u), .inl x] M (some (.inl (if 0 ≤ x ∧ x < M u 2 then 1 else 0))) M := by
  refine ev_wp ?_
  show ab_wp d 52 0 [some (.inr (.inr u)), some (.inl x)] [] M _
  refine b52_0 hd hS hu ⟨fun c => ⟨?_, rfl⟩, fun c => ⟨fun c2 => ⟨?_, rfl⟩, fun c2 => ⟨?_, rfl⟩⟩⟩
  · rw [if_neg (by omega)]
  · rw [if_neg (by omega)]
  · rw [if_pos (by omega)]
theorem s54 {d t u : Nat} {M : ab_M} (hd : 1 ≤ d) (hS : pu_str t M) (hu : pu_T u) (x : Int) : ab_ev d 54 [.inr (.inr u), .inl x] M (some (.inl (if 0 ≤ x ∧ x < M u 3 then 1 else 0))) M := by
  refine ev_wp ?_
  show ab_wp d 54 0 [some (.inr (.inr u)), some (.inl x)] [] M _
  refine b54_0 hd hS hu ⟨fun c => ⟨?_, rfl⟩, fun c => ⟨fun c2 => ⟨?_, rfl⟩, fun c2 => ⟨?_, rfl⟩⟩⟩
  · rw [if_neg (by omega)]
  · rw [if_neg (by omega)]
  · rw [if_pos (by omega)]
theorem s55 {d t u : Nat} {M : ab_M} (hd : 1 ≤ d) (hS : pu_str t M) (hu : pu_T u) (x : Int) : ab_ev d 55 [.inr (.inr u), .inl x] M (some (.inl (if 0 ≤ x ∧ x < M u 4 then 1 else 0))) M := by
  refine ev_wp ?_
  show ab_wp d 55 0 [some (.inr (.inr u)), some (.inl x)] [] M _
  refine b55_0 hd hS hu ⟨fun c => ⟨?_, rfl⟩, fun c => ⟨fun c2 => ⟨?_, rfl⟩, fun c2 => ⟨?_, rfl⟩⟩⟩
  · rw [if_neg (by omega)]
  · rw [if_neg (by omega)]
  · rw [if_pos (by omega)]
theorem s53 {d t u : Nat} {M : ab_M} (hd : 2 ≤ d) (hS : pu_str t M) (hu : pu_T u) (x y : Int) : ab_ev d 53 [.inr (.inr u), .inl x, .inl y] M (some (.inl (if (0 ≤ x ∧ x < M u 2) ∧ (0 ≤ y ∧ y < M u 2) ∧ x ≠ y then 1 else 0))) M := by
  refine ev_wp ?_
  show ab_wp d 53 0 [some (.inr (.inr u)), some (.inl x), some (.inl y)] [] M _
  refine b53_0 (by omega) hS hu ⟨_, _, s52 (by omega) hS hu x, hS, fun c => ⟨?_, rfl⟩, fun c => ⟨_, _, s52 (by omega) hS hu y, hS, fun c2 => ⟨?_, rfl⟩, fun c2 => ⟨fun c3 => ⟨?_, rfl⟩, fun c3 => ⟨?_, rfl⟩⟩⟩⟩
  · have : ¬ (0 ≤ x ∧ x < M u 2) := by intro q; rw [if_pos q] at c; omega
    rw [if_neg (by intro q; exact this q.1)]
  · have : ¬ (0 ≤ y ∧ y < M u 2) := by intro q; rw [if_pos q] at c2; omega
    rw [if_neg (by intro q; exact this q.2.1)]
  · rw [if_neg (by intro q; exact q.2.2 c3)]
  · rw [if_pos]
    refine ⟨?_, ?_, c3⟩
    · by_cases q : 0 ≤ x ∧ x < M u 2
      · exact q
      · rw [if_neg q] at c; omega
    · by_cases q : 0 ≤ y ∧ y < M u 2
      · exact q
      · rw [if_neg q] at c2; omega
theorem s58 {d t u : Nat} {M : ab_M} (hd : 2 ≤ d) (hS : pu_str t M) (hu : pu_T u) (h7 : M u 0 ≤ 7) (x y : Int) : ab_ev d 58 [.inr (.inr u), .inl x, .inl y] M (some (.inl (if (0 ≤ x ∧ x < M u 0) ∧ (0 ≤ y ∧ y < M u 0) then M (u + 10 + x.toNat) y.toNat else -1))) M := by
  refine ev_wp ?_
  show ab_wp d 58 0 [some (.inr (.inr u)), some (.inl x), some (.inl y)] [] M _
  by_cases q : 0 ≤ x ∧ x < M u 0
  · by_cases q2 : 0 ≤ y ∧ y < M u 0
    · refine b58_0 (by omega) hS hu ⟨_, _, s51 (by omega) hS hu x, hS, fun c => ?_, fun c => ⟨_, _, s51 (by omega) hS hu y, hS, fun c2 => ?_, fun c2 => ⟨by omega, by omega, ?_, rfl⟩⟩⟩
      · rw [if_pos q] at c; omega
      · rw [if_pos q2] at c2; omega
      · rw [if_pos ⟨q, q2⟩]
    · refine b58_0 (by omega) hS hu ⟨_, _, s51 (by omega) hS hu x, hS, fun c => ?_, fun c => ⟨_, _, s51 (by omega) hS hu y, hS, fun c2 => ⟨?_, rfl⟩, fun c2 => ?_⟩⟩
      · rw [if_pos q] at c; omega
      · rw [if_neg (by intro z; exact q2 z.2)]
      · rw [if_neg q2] at c2; omega
  · refine b58_0 (by omega) hS hu ⟨_, _, s51 (by omega) hS hu x, hS, fun c => ⟨?_, rfl⟩, fun c => ?_⟩
    · rw [if_neg (by intro z; exact q z.1)]
    · rw [if_neg q] at c; omega
theorem s59 {d t u : Nat} {M : ab_M} (hd : 2 ≤ d) (hS : pu_str t M) (hu : pu_T u) (h6 : M u 3 ≤ 6) (hp : M u 2 ≤ 6) (i : Int) (hi : 0 ≤ i ∧ i < M u 3) (hq : 0 ≤ M (u + 19) i.toNat ∧ M (u + 19) i.toNat < M u 2) : ab_ev d 59 [.inr (.inr u), .inl i] M (some (.inl (M (u + 17) (M (u + 19) i.toNat).toNat))) M := by
  refine ev_wp ?_
  show ab_wp d 59 0 [some (.inr (.inr u)), some (.inl i)] [] M _
  refine b59_0 (by omega) hS hu ⟨_, _, s54 (by omega) hS hu i, hS, fun c => ?_, fun c => ⟨by omega, _, _, s52 (by omega) hS hu _, hS, fun c2 => ?_, fun c2 => ⟨by omega, rfl, rfl⟩⟩⟩
  · rw [if_pos hi] at c; omega
  · rw [if_pos hq] at c2; omega
/-- how a deed stands -/
def pu_how (done mins due lasts : Int) : Int := if done ≠ -1 then 1 else if due - lasts < mins then 2 else 0
theorem s44 {d t u : Nat} {M : ab_M} (hd : 1 ≤ d) (hS : pu_str t M) (hu : pu_T u) (i : Int) (hi : 0 ≤ i ∧ i < 6) (hr : ab_rg (M (u + 21) i.toNat - M (u + 20) i.toNat)) : ab_ev d 44 [.inr (.inr 69), .inr (.inr u), .inl i] M (some (.inl (pu_how (M 70 i.toNat) (M 69 0) (M (u + 21) i.toNat) (M (u + 20) i.toNat)))) M := by
  refine ev_wp ?_
  show ab_wp d 44 0 [some (.inr (.inr 69)), some (.inr (.inr u)), some (.inl i)] [] M _
  unfold pu_how
  refine b44_0 hd hS hu ⟨hi, fun c => ⟨hr, fun c2 => ⟨?_, rfl⟩, fun c2 => ⟨?_, rfl⟩⟩, fun c => ⟨?_, rfl⟩⟩
  · rw [if_neg (by omega), if_neg (by omega)]
  · rw [if_neg (by omega), if_pos (by omega)]
  · rw [if_pos c]
theorem s107 {d t : Nat} {M : ab_M} (hd : 1 ≤ d) (hS : pu_str t M) (x a b : Int) : ab_ev d 107 [.inr (.inl x), .inr (.inl a), .inr (.inl b)] M (some (.inl (if a ≤ x ∧ x ≤ b then 1 else 0))) M := by
  refine ev_wp ?_
  show ab_wp d 107 0 [some (.inr (.inl x)), none, some (.inr (.inl a)), none, some (.inr (.inl b)), none] [] M _
  refine b107_0 hd hS ⟨fun c => ⟨?_, rfl⟩, fun c => ⟨fun c2 => ⟨?_, rfl⟩, fun c2 => ⟨?_, rfl⟩⟩⟩
  · rw [if_neg]
    intro q
    rw [if_neg (by omega)] at c
    split at c <;> omega
  · rw [if_neg]
    intro q
    by_cases z : x < b
    · rw [if_pos z] at c2; omega
    · rw [if_neg z, if_pos (by omega)] at c2; omega
  · rw [if_pos]
    constructor
    · by_cases z : x < a
      · rw [if_pos z] at c; omega
      · omega
    · by_cases z : x < b
      · omega
      · rw [if_neg z] at c2
        split at c2 <;> omega
theorem s109 {d t : Nat} {M : ab_M} (hd : 2 ≤ d) (hS : pu_str t M) (hr : 0 ≤ M 103 3 ∧ M 103 3 ≤ 7) (x : Int) : ab_ev d 109 [.inr (.inr 103), .inl x] M (some (.inl (if 0 ≤ x ∧ x < M 103 3 then 1 else 0))) M := by
  refine ev_wp ?_
  show ab_wp d 109 0 [some (.inr (.inr 103)), some (.inl x)] [] M _
  refine b109_0 (by omega) hS ⟨by omega, _, _, s107 (by omega) hS x 0 (M 103 3 - 1), hS, ?_, ?_, rfl⟩
  · split <;> omega
  · by_cases q : 0 ≤ x ∧ x < M 103 3
    · rw [if_pos q, if_pos (by omega)]
    · rw [if_neg q, if_neg (by omega)]
theorem s110 {d t : Nat} {M : ab_M} (hd : 2 ≤ d) (hS : pu_str t M) (hr : 0 ≤ M 103 9 ∧ M 103 9 ≤ 7) (x : Int) : ab_ev d 110 [.inr (.inr 103), .inl x] M (some (.inl (if 0 ≤ x ∧ x < M 103 9 then 1 else 0))) M := by
  refine ev_wp ?_
  show ab_wp d 110 0 [some (.inr (.inr 103)), some (.inl x)] [] M _
  refine b110_0 (by omega) hS ⟨by omega, _, _, s107 (by omega) hS x 0 (M 103 9 - 1), hS, ?_, ?_, rfl⟩
  · split <;> omega
  · by_cases q : 0 ≤ x ∧ x < M 103 9
    · rw [if_pos q, if_pos (by omega)]
    · rw [if_neg q, if_neg (by omega)]
theorem s111 {d t : Nat} {M : ab_M} (hd : 2 ≤ d) (hS : pu_str t M) (hr : 0 ≤ M 103 11 ∧ M 103 11 ≤ 7) (x : Int) : ab_ev d 111 [.inr (.inr 103), .inl x] M (some (.inl (if 0 ≤ x ∧ x < M 103 11 then 1 else 0))) M := by
  refine ev_wp ?_
  show ab_wp d 111 0 [some (.inr (.inr 103)), some (.inl x)] [] M _
  refine b111_0 (by omega) hS ⟨by omega, _, _, s107 (by omega) hS x 0 (M 103 11 - 1), hS, ?_, ?_, rfl⟩
  · split <;> omega
  · by_cases q : 0 ≤ x ∧ x < M 103 11
    · rw [if_pos q, if_pos (by omega)]
    · rw [if_neg q, if_neg (by omega)]
theorem s128 {d t : Nat} {M : ab_M} (hd : 1 ≤ d) (hS : pu_str t M) (i : Int) (hi : 0 ≤ i ∧ i < 6) (hr : ab_rg (M 109 (5 * i + 2).toNat - M 109 (5 * i + 1).toNat)) (hm : -1 ≤ M 112 (4 + i).toNat) : ab_ev d 128 [.inr (.inr 103), .inl i] M (some (.inl (pu_how (M 112 (4 + i).toNat) (M 112 0) (M 109 (5 * i + 2).toNat) (M 109 (5 * i + 1).toNat)))) M := by
  refine ev_wp ?_
  show ab_wp d 128 0 [some (.inr (.inr 103)), some (.inl i)] [] M _
  unfold pu_how
  refine b128_0 hd hS ⟨by omega, by omega, fun c => ⟨by omega, by omega, by omega, by omega, by omega, hr, fun c2 => ⟨?_, rfl⟩, fun c2 => ⟨?_, rfl⟩⟩, fun c => ⟨?_, rfl⟩⟩
  · rw [if_neg (by omega), if_neg (by omega)]
  · rw [if_neg (by omega), if_pos (by omega)]
  · rw [if_pos (by omega)]
/-! sets of deeds, as numbers below 64 -/
theorem bit_has : ∀ s : Fin 64, ∀ i : Fin 7, ab_and (ab_shr ((s.val : Nat) : Int) ((i.val : Nat) : Int)) 1 = (if s.val.testBit i.val then 1 else 0) := by decide +kernel
theorem pu_has {s i : Int} (hs : 0 ≤ s ∧ s < 64) (hi : 0 ≤ i ∧ i < 7) : ab_and (ab_shr s i) 1 = (if s.toNat.testBit i.toNat then 1 else 0) := by
  have := bit_has ⟨s.toNat, by omega⟩ ⟨i.toNat, by omega⟩
  rw [show (((⟨s.toNat, by omega⟩ : Fin 64).val : Nat) : Int) = s from by show ((s.toNat : Nat) : Int) = s; omega, show (((⟨i.toNat, by omega⟩ : Fin 7).val : Nat) : Int) = i from by show ((i.toNat : Nat) : Int) = i; omega] at this
  exact this
theorem s108 {d t : Nat} {M : ab_M} (hd : 1 ≤ d) (hS : pu_str t M) {s i : Int} (hs : 0 ≤ s ∧ s < 64) (hi : 0 ≤ i ∧ i < 7) : ab_ev d 108 [.inl s, .inl i] M (some (.inl (if s.toNat.testBit i.toNat then 1 else 0))) M := by
  refine ev_wp ?_
  show ab_wp d 108 0 [some (.inl s), some (.inl i)] [] M _
  refine b108_0 hd hS ⟨fun c => ⟨?_, rfl⟩, fun c => ⟨?_, rfl⟩⟩
  · rw [pu_has hs hi] at c
    split
    next q => rw [if_pos q] at c; omega
    next => rfl
  · rw [pu_has hs hi] at c
    split
    next => rfl
    next q => rw [if_neg q] at c; omega
/-- the sum of f over a set -/
def pu_sum (f : Nat → Int) (s : Nat) : Nat → Int
  | 0 => 0
  | n + 1 => pu_sum f s n + (if s.testBit n then f n else 0)
theorem pu_sum_s (f : Nat → Int) (s n : Nat) : pu_sum f s (n + 1) = pu_sum f s n + (if s.testBit n then f n else 0) := rfl
theorem pu_sum_b {f : Nat → Int} {s : Nat} {B : Int} (h0 : 0 ≤ B) : ∀ n : Nat, (∀ i, i < n → 0 ≤ f i ∧ f i ≤ B) → 0 ≤ pu_sum f s n ∧ pu_sum f s n ≤ B * n
  | 0, _ => by unfold pu_sum; omega
  | n + 1, h => by
    have h1 := pu_sum_b (f := f) (s := s) h0 n (fun i hi => h i (by omega))
    have h2 := h n (by omega)
    unfold pu_sum
    have e : B * ((n + 1 : Nat) : Int) = B * (n : Int) + B := by rw [Int.natCast_succ, Int.mul_add, Int.mul_one]
    rw [e]
    split <;> omega
theorem pu_sum_c {f g : Nat → Int} {s : Nat} : ∀ n : Nat, (∀ i, i < n → f i = g i) → pu_sum f s n = pu_sum g s n
  | 0, _ => rfl
  | n + 1, h => by
    unfold pu_sum
    rw [pu_sum_c n (fun i hi => h i (by omega)), h n (by omega)]
/-- a loop that counts up -/
theorem loop_up {P : Nat → Prop} (n : Nat) (hend : P n) (hstep : ∀ i, i < n → P (i + 1) → P i) : ∀ i, i ≤ n → P i := by
  have h : ∀ k i, k + i = n → P i := by
    intro k
    induction k with
    | zero => intro i hi; rw [show i = n from by omega]; exact hend
    | succ k ih => intro i hi; exact hstep i (by omega) (ih (i + 1) (by omega))
  intro i hi
  exact h (n - i) i (by omega)
theorem has_t {s : Nat} {i : Nat} (c : (if s.testBit i then (1 : Int) else 0) ≠ 0) : s.testBit i = true := by
  apply Classical.byContradiction
  intro q
  rw [if_neg q] at c
  exact c rfl
theorem has_f {s : Nat} {i : Nat} (c : (if s.testBit i then (1 : Int) else 0) = 0) : ¬ s.testBit i = true := by
  intro q
  rw [if_pos q] at c
  exact absurd c (by decide)
theorem s60 {d t u : Nat} {M : ab_M} (hd : 1 ≤ d) (hS : pu_str t M) (hu : pu_T u) (h6 : 0 ≤ M u 3 ∧ M u 3 ≤ 6) (hw : ∀ i : Nat, (i : Int) < M u 3 → 0 ≤ M (u + 22) i ∧ M (u + 22) i ≤ 99) {s : Int} (hs : 0 ≤ s ∧ s < 64) : ab_ev d 60 [.inr (.inr u), .inl s] M (some (.inl (pu_sum (M (u + 22)) s.toNat (M u 3).toNat))) M := by
  refine ev_wp ?_
  refine b60_0 hd hS hu ?_
  refine loop_up (P := fun i => ab_wp d 60 4 [some (.inr (.inr u)), some (.inl s), some (.inl (pu_sum (M (u + 22)) s.toNat i)), some (.inl (i : Int))] [] M (fun r' M'' => r' = some (.inl (pu_sum (M (u + 22)) s.toNat (M u 3).toNat)) ∧ M'' = M)) (M u 3).toNat ?_ ?_ 0 (by omega)
  · exact b60_4 hd hS hu ⟨fun c => ⟨rfl, rfl⟩, fun c => by omega⟩
  · intro i hi ih
    have hb := pu_sum_b (f := M (u + 22)) (s := s.toNat) (B := 99) (by omega) i (fun j hj => hw j (by omega))
    have hwi := hw i (by omega)
    rw [pu_sum_s, Int.natCast_succ] at ih
    refine b60_4 hd hS hu ⟨fun c => by omega, fun c => ⟨fun c2 => ⟨by omega, ?_⟩, fun c2 => ⟨by omega, by rw [Int.toNat_natCast]; omega, by omega, ?_⟩⟩⟩
    · rw [pu_has hs (by omega), Int.toNat_natCast] at c2
      rw [if_neg (has_f c2), Int.add_zero] at ih
      exact ih
    · rw [pu_has hs (by omega), Int.toNat_natCast] at c2
      rw [if_pos (has_t c2)] at ih
      rw [Int.toNat_natCast]
      exact ih
theorem s130 {d t : Nat} {M : ab_M} (hd : 2 ≤ d) (hS : pu_str t M) (h6 : 0 ≤ M 103 11 ∧ M 103 11 ≤ 6) (hw : ∀ i : Nat, (i : Int) < M 103 11 → 0 ≤ M 109 (5 * i + 3) ∧ M 109 (5 * i + 3) ≤ 99) {s : Int} (hs : 0 ≤ s ∧ s < 64) : ab_ev d 130 [.inr (.inr 103), .inl s] M (some (.inl (pu_sum (fun i => M 109 (5 * i + 3)) s.toNat (M 103 11).toNat))) M := by
  refine ev_wp ?_
  refine b130_0 (by omega) hS ?_
  refine loop_up (P := fun i => ab_wp d 130 4 [some (.inr (.inr 103)), some (.inl s), some (.inl (pu_sum (fun i => M 109 (5 * i + 3)) s.toNat i)), some (.inl (i : Int))] [] M (fun r' M'' => r' = some (.inl (pu_sum (fun i => M 109 (5 * i + 3)) s.toNat (M 103 11).toNat)) ∧ M'' = M)) (M 103 11).toNat ?_ ?_ 0 (by omega)
  · exact b130_4 (by omega) hS ⟨fun c => ⟨rfl, rfl⟩, fun c => by omega⟩
  · intro i hi ih
    have hb := pu_sum_b (f := fun i => M 109 (5 * i + 3)) (s := s.toNat) (B := 99) (by omega) i (fun j hj => hw j (by omega))
    have hwi := hw i (by omega)
    rw [pu_sum_s, Int.natCast_succ] at ih
    have e : (5 * (i : Int) + 3).toNat = 5 * i + 3 := by omega
    refine b130_4 (by omega) hS ⟨fun c => by omega, fun c => ⟨_, _, s108 (by omega) hS hs (by omega), hS, fun c2 => ⟨by omega, by omega, ?_⟩, fun c2 => ⟨by omega, by omega, by omega, by rw [e]; omega, by omega, ?_⟩⟩⟩
    · rw [Int.toNat_natCast] at c2
      rw [if_neg (has_f c2)] at ih
      exact ih
    · rw [Int.toNat_natCast] at c2
      rw [if_pos (has_t c2)] at ih
      rw [e]
      exact ih
/-- the set of those below n of which P holds -/
def pu_mk (P : Nat → Bool) : Nat → Nat
  | 0 => 0
  | n + 1 => pu_mk P n + (if P n then 2 ^ n else 0)
theorem pu_mk_s (P : Nat → Bool) (n : Nat) : pu_mk P (n + 1) = pu_mk P n + (if P n then 2 ^ n else 0) := rfl
theorem pu_mk_lt (P : Nat → Bool) : ∀ n, pu_mk P n < 2 ^ n
  | 0 => by show 0 < 1; decide
  | n + 1 => by
    have := pu_mk_lt P n
    rw [pu_mk_s, Nat.pow_succ]
    split <;> omega
theorem pu_mk_bit (P : Nat → Bool) : ∀ n i, (pu_mk P n).testBit i = (decide (i < n) && P i)
  | 0, i => by simp [pu_mk]
  | n + 1, i => by
    have h1 := pu_mk_lt P n
    have h2 := pu_mk_bit P n i
    rw [pu_mk_s]
    by_cases hP : P n = true
    · rw [if_pos hP, Nat.add_comm]
      rcases Nat.lt_trichotomy i n with q | q | q
      · rw [Nat.testBit_two_pow_add_gt q, h2]
        simp [q, show i < n + 1 from by omega]
      · subst q
        rw [Nat.testBit_two_pow_add_eq, Nat.testBit_lt_two_pow h1, hP]
        simp
      · rw [Nat.testBit_lt_two_pow]
        · simp [show ¬ i < n + 1 from by omega]
        · have : 2 ^ (n + 1) ≤ 2 ^ i := Nat.pow_le_pow_right (by omega) (by omega)
          rw [Nat.pow_succ] at this
          omega
    · rw [if_neg hP, Nat.add_zero, h2]
      rcases Nat.lt_trichotomy i n with q | q | q
      · simp [q, show i < n + 1 from by omega]
      · subst q
        simp [hP]
      · simp [show ¬ i < n from by omega, show ¬ i < n + 1 from by omega]
theorem or_shl : ∀ i : Fin 6, ∀ s : Fin 64, s.val < 2 ^ i.val → ab_or ((s.val : Nat) : Int) (ab_shl 1 ((i.val : Nat) : Int)) = ((s.val + 2 ^ i.val : Nat) : Int) := by decide +kernel
theorem or_zero : ∀ s : Fin 64, ab_or ((s.val : Nat) : Int) 0 = ((s.val : Nat) : Int) := by decide +kernel
theorem pu_or_shl {P : Nat → Bool} {i : Nat} (hi : i < 6) : ab_or ((pu_mk P i : Nat) : Int) (ab_shl 1 (i : Int)) = ((pu_mk P i + 2 ^ i : Nat) : Int) := by
  have h := pu_mk_lt P i
  have h2 : 2 ^ i ≤ 2 ^ 6 := Nat.pow_le_pow_right (by omega) (by omega)
  exact or_shl ⟨i, hi⟩ ⟨pu_mk P i, by omega⟩ h
theorem pu_or_zero {s : Nat} (h : s < 64) : ab_or (s : Int) 0 = (s : Int) := or_zero ⟨s, h⟩
theorem pu_mk_64 {P : Nat → Bool} {i : Nat} (hi : i ≤ 6) : pu_mk P i < 64 := by
  have h := pu_mk_lt P i
  have h2 : 2 ^ i ≤ 2 ^ 6 := Nat.pow_le_pow_right (by omega) (by omega)
  omega
theorem s97 {d t : Nat} {M : ab_M} (hd : 2 ≤ d) (hS : pu_str t M) (h6 : 0 ≤ M t 3 ∧ M t 3 ≤ 6) (hr : ∀ i : Nat, (i : Int) < M t 3 → ab_rg (M (t + 21) i - M (t + 20) i)) (x : Int) : ab_ev d 97 [.inr (.inr 0), .inl x] M (some (.inl ((pu_mk (fun i => decide (pu_how (M 70 i) (M 69 0) (M (t + 21) i) (M (t + 20) i) = x)) (M t 3).toNat : Nat) : Int))) M := by
  refine ev_wp ?_
  refine b97_0 (by omega) hS ?_
  refine loop_up (P := fun i => ab_wp d 97 4 [some (.inr (.inr 0)), some (.inl x), some (.inl ((pu_mk (fun i => decide (pu_how (M 70 i) (M 69 0) (M (t + 21) i) (M (t + 20) i) = x)) i : Nat) : Int)), some (.inl (i : Int))] [] M (fun r' M'' => r' = some (.inl ((pu_mk (fun i => decide (pu_how (M 70 i) (M 69 0) (M (t + 21) i) (M (t + 20) i) = x)) (M t 3).toNat : Nat) : Int)) ∧ M'' = M)) (M t 3).toNat ?_ ?_ 0 (by omega)
  · exact b97_4 (by omega) hS ⟨fun c => ⟨rfl, rfl⟩, fun c => by omega⟩
  · intro i hi ih
    rw [pu_mk_s, Int.natCast_succ] at ih
    have h44 := s44 (d := d - 1) (by omega) hS hS.2.2.1 (i : Int) (by omega) (by rw [Int.toNat_natCast]; exact hr i (by omega))
    rw [Int.toNat_natCast] at h44
    refine b97_4 (by omega) hS ⟨fun c => by omega, fun c => ⟨_, _, h44, hS, fun c2 => ⟨by omega, ?_⟩, fun c2 => ⟨by omega, ?_⟩⟩⟩
    · rw [if_neg (by simpa using c2), Nat.add_zero] at ih
      exact ih
    · rw [if_pos (by simpa using c2)] at ih
      rw [pu_or_shl (by omega)]
      exact ih
theorem s129 {d t : Nat} {M : ab_M} (hd : 2 ≤ d) (hS : pu_str t M) (h6 : 0 ≤ M 103 11 ∧ M 103 11 ≤ 6) (hr : ∀ i : Nat, (i : Int) < M 103 11 → ab_rg (M 109 (5 * i + 2) - M 109 (5 * i + 1))) (hm : ∀ i : Nat, (i : Int) < M 103 11 → -1 ≤ M 112 (4 + i)) (x : Int) : ab_ev d 129 [.inr (.inr 103), .inl x] M (some (.inl ((pu_mk (fun i => decide (pu_how (M 112 (4 + i)) (M 112 0) (M 109 (5 * i + 2)) (M 109 (5 * i + 1)) = x)) (M 103 11).toNat : Nat) : Int))) M := by
  refine ev_wp ?_
  refine b129_0 (by omega) hS ?_
  refine loop_up (P := fun i => ab_wp d 129 4 [some (.inr (.inr 103)), some (.inl x), some (.inl ((pu_mk (fun i => decide (pu_how (M 112 (4 + i)) (M 112 0) (M 109 (5 * i + 2)) (M 109 (5 * i + 1)) = x)) i : Nat) : Int)), some (.inl (i : Int))] [] M (fun r' M'' => r' = some (.inl ((pu_mk (fun i => decide (pu_how (M 112 (4 + i)) (M 112 0) (M 109 (5 * i + 2)) (M 109 (5 * i + 1)) = x)) (M 103 11).toNat : Nat) : Int)) ∧ M'' = M)) (M 103 11).toNat ?_ ?_ 0 (by omega)
  · exact b129_4 (by omega) hS ⟨fun c => ⟨rfl, rfl⟩, fun c => by omega⟩
  · intro i hi ih
    rw [pu_mk_s, Int.natCast_succ] at ih
    have e2 : (5 * (i : Int) + 2).toNat = 5 * i + 2 := by omega
    have e1 : (5 * (i : Int) + 1).toNat = 5 * i + 1 := by omega
    have e4 : (4 + (i : Int)).toNat = 4 + i := by omega
    have h128 := s128 (d := d - 1) (by omega) hS (i : Int) (by omega) (by rw [e1, e2]; exact hr i (by omega)) (by rw [e4]; exact hm i (by omega))
    rw [e1, e2, e4] at h128
    have h64 := pu_mk_64 (P := fun i => decide (pu_how (M 112 (4 + i)) (M 112 0) (M 109 (5 * i + 2)) (M 109 (5 * i + 1)) = x)) (i := i) (by omega)
    refine b129_4 (by omega) hS ⟨fun c => by omega, fun c => ⟨_, _, h128, hS, fun c2 => ⟨by omega, ?_⟩, fun c2 => ⟨by omega, ?_⟩⟩⟩
    · rw [if_neg (by simpa using c2), Nat.add_zero] at ih
      rw [pu_or_zero h64]
      exact ih
    · rw [if_pos (by simpa using c2)] at ih
      rw [pu_or_shl (by omega)]
      exact ih

