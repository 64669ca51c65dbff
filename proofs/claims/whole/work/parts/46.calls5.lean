/-! judge -/
/-- the first from i on, among k, of which P holds -/
def pu_fst (P : Nat → Bool) : Nat → Nat → Int
  | 0, _ => -1
  | k + 1, i => if P i then (i : Int) else pu_fst P k (i + 1)
theorem c_judge {t : Nat} {M : ab_M} (h : pu_inv t M) : pu_both 92 180 [] t M := by
  obtain ⟨hS, h1, h2, h3, h4, h5, h6, h7, h8, h9, h10⟩ := id h
  obtain ⟨a1, a2, a3, a4, a5, a6⟩ := now_of h5
  obtain ⟨d1, d2, d3, d4⟩ := id h8
  obtain ⟨_, _, t3, _⟩ := h1
  have w1 : ∀ k i : Nat, k + i = (M 75 0).toNat → ab_wp 28 20 2 [some (.inr (.inr 75)), some (.inr (.inr 69)), some (.inl (i : Int))] [] M (fun r' M'' => r' = some (.inl (pu_fst (fun i => decide (M 70 (M 76 i).toNat ≠ M 77 i)) k i)) ∧ M'' = M) := by
    intro k
    induction k with
    | zero =>
      intro i hi
      exact b20_2 (by omega) hS ⟨fun _ => ⟨rfl, rfl⟩, fun c => by omega⟩
    | succ k ih =>
      intro i hi
      have dd := d4 i (by omega)
      have ih' := ih (i + 1) (by omega)
      rw [Int.natCast_succ] at ih'
      unfold pu_fst
      refine b20_2 (by omega) hS ⟨fun c => by omega, fun c => ⟨by omega, by rw [Int.toNat_natCast]; omega, fun q => ⟨by omega, ?_⟩, fun q => ⟨?_, rfl⟩⟩⟩
      · rw [Int.toNat_natCast] at q
        rw [if_neg (by simpa using q)]
        exact ih'
      · rw [Int.toNat_natCast] at q
        rw [if_pos (by simpa using q)]
  have w2 : ∀ k i : Nat, k + i = (M 75 0).toNat → ab_wp 29 180 2 [some (.inr (.inr 103)), some (.inl (i : Int))] [] M (fun r' M'' => r' = some (.inl (pu_fst (fun i => decide (M 70 (M 76 i).toNat ≠ M 77 i)) k i)) ∧ M'' = M) := by
    intro k
    induction k with
    | zero =>
      intro i hi
      exact b180_2 (by omega) hS ⟨fun _ => ⟨rfl, rfl⟩, fun c => by omega⟩
    | succ k ih =>
      intro i hi
      have dd := d4 i (by omega)
      have ih' := ih (i + 1) (by omega)
      rw [Int.natCast_succ] at ih'
      have e0 : (2 * (i : Int)).toNat = 2 * i := by omega
      have e1 : (2 * (i : Int) + 1).toNat = 2 * i + 1 := by omega
      have e2 : (4 + M 76 i).toNat = 4 + (M 76 i).toNat := by omega
      have aa := (a6 (M 76 i).toNat (by omega)).1
      unfold pu_fst
      refine b180_2 (by omega) hS ⟨fun c => by omega, fun c => ⟨by omega, by omega, by rw [e0]; omega, by rw [e0]; omega, by omega, by omega, fun q => ⟨by omega, ?_⟩, fun q => ⟨?_, rfl⟩⟩⟩
      · rw [e0, e1, dd.1, dd.2.1, e2, aa] at q
        rw [if_neg (by simpa using q)]
        exact ih'
      · rw [e0, e1, dd.1, dd.2.1, e2, aa] at q
        rw [if_pos (by simpa using q)]
  exact ⟨_, t, M, M, ev_wp (b92_0 (by omega) hS ⟨_, _, ev_wp (b20_0 (by omega) hS (w1 (M 75 0).toNat 0 (by omega))), hS, rfl, rfl⟩), hS, ev_wp (b180_0 (by omega) hS (w2 (M 75 0).toNat 0 (by omega))), h⟩
