/-! lend, act, drift: turns of the state -/
theorem land_rg (x : Int) : 0 ≤ ab_land x 2147483647 ∧ ab_land x 2147483647 ≤ 2147483647 := by
  unfold ab_land
  have h : (Int64.ofInt x &&& Int64.ofInt 2147483647).toBitVec.toNat ≤ 2147483647 := by
    rw [Int64.toBitVec_and, BitVec.toNat_and]
    exact Nat.and_le_right
  have e : (Int64.ofInt x &&& Int64.ofInt 2147483647).toInt = ((Int64.ofInt x &&& Int64.ofInt 2147483647).toBitVec.toNat : Int) := by
    rw [← Int64.toInt_toBitVec, BitVec.toInt_eq_toNat_of_lt (by omega)]
  omega
def st_ds (g : Nat → Int) : Int := ab_land (g 3 * 1103515245 + 12345) 2147483647
def st_dp (n : Int) (g : Nat → Int) : Int := ((st_ds g).tdiv 65536).tmod n
def st_draw (g : Nat → Int) : Nat → Int := pu_u g 3 (st_ds g)
theorem st_dp_rg {n : Int} (hn : 0 < n) (g : Nat → Int) : 0 ≤ st_dp n g ∧ st_dp n g < n := by
  have h := land_rg (g 3 * 1103515245 + 12345)
  unfold st_dp st_ds
  rw [Int.tdiv_eq_ediv_of_nonneg h.1, Int.tmod_eq_emod_of_nonneg (by omega)]
  exact ⟨Int.emod_nonneg _ (by omega), Int.emod_lt_of_pos _ hn⟩
theorem st_dq_rg {n : Int} (hn : 0 < n) (g : Nat → Int) : ab_rg ((st_ds g).tdiv 65536) ∧ ab_rg (((st_ds g).tdiv 65536).tdiv n) := by
  have h := land_rg (g 3 * 1103515245 + 12345)
  unfold st_ds
  rw [Int.tdiv_eq_ediv_of_nonneg h.1]
  have q : 0 ≤ ab_land (g 3 * 1103515245 + 12345) 2147483647 / 65536 ∧ ab_land (g 3 * 1103515245 + 12345) 2147483647 / 65536 ≤ 32767 := by omega
  rw [Int.tdiv_eq_ediv_of_nonneg q.1]
  have q2 := Int.ediv_nonneg q.1 (Int.le_of_lt hn)
  have q3 := Int.ediv_le_self n q.1
  omega
theorem s48 {d t : Nat} {M : ab_M} (hd : 1 ≤ d) (hS : pu_str t M) {g : Nat → Int} (v : 0 ≤ g 3 ∧ g 3 ≤ 2147483647) (n : Int) (hn : 0 < n) : ab_ev d 48 [.inr (.inr 69), .inl n] (pu_put M g) (some (.inl (st_dp n g))) (pu_put M (st_draw g)) := by
  have l := land_rg (g 3 * 1103515245 + 12345)
  have q := st_dq_rg hn g
  have r1 : pu_put M g 69 3 = g 3 := put_s (by omega)
  refine ev_wp (b48_0 (by omega) (str_put hS g) ?_)
  rw [r1]
  refine ⟨by unfold ab_rl; omega, by unfold ab_rl; omega, by omega, fun q => by omega, fun _ => ⟨q.1, by omega, q.2, rfl, ?_⟩⟩
  rw [put_w M g (by omega)]
  rfl
theorem s146 {d t : Nat} {M : ab_M} (hd : 1 ≤ d) (hS : pu_str t M) {g : Nat → Int} (v : 0 ≤ g 3 ∧ g 3 ≤ 2147483647) (n : Int) (hn : 0 < n) : ab_ev d 146 [.inr (.inr 103), .inl n] (pu_putm M g) (some (.inl (st_dp n g))) (pu_putm M (st_draw g)) := by
  have l := land_rg (g 3 * 1103515245 + 12345)
  have q := st_dq_rg hn g
  have r1 : pu_putm M g 112 3 = g 3 := putm_s (by omega)
  refine ev_wp (b146_0 (by omega) (str_putm hS g) ?_)
  rw [r1]
  refine ⟨by unfold ab_rl; omega, by unfold ab_rl; omega, by omega, q.1, by omega, q.2, rfl, ?_⟩
  rw [putm_w M g (by omega)]
  rfl
def st_how (t : Nat) (M : ab_M) (g : Nat → Int) (i : Nat) : Int := pu_how (g (4 + i)) (g 0) (M (t + 21) i) (M (t + 20) i)
theorem s44p {d t : Nat} {M : ab_M} (hd : 1 ≤ d) (h : pu_dat t M) (g : Nat → Int) (i : Nat) (hi : (i : Int) < M t 3) : ab_ev d 44 [.inr (.inr 69), .inr (.inr t), .inl (i : Int)] (pu_put M g) (some (.inl (st_how t M g i))) (pu_put M g) := by
  have hS := str_put h.1 g
  have ht : t = 5 ∨ t = 37 := hS.2.2.1
  obtain ⟨_, _, t3, _, _, _, _, t8, _⟩ := h.2.1
  have tp := t8 i hi
  have r2 : pu_put M g (t + 21) i = M (t + 21) i := put_r (by omega)
  have r3 : pu_put M g (t + 20) i = M (t + 20) i := put_r (by omega)
  have r4 : pu_put M g 69 0 = g 0 := put_s (by omega)
  have r5 : pu_put M g 70 i = g (4 + i) := put_d (by omega)
  have w := s44 (d := d) hd hS hS.2.2.1 (i : Int) (by omega) (by rw [Int.toNat_natCast, r2, r3]; omega)
  rw [Int.toNat_natCast, r2, r3, r4, r5] at w
  exact w
theorem s128p {d t : Nat} {M : ab_M} (hd : 1 ≤ d) (h : pu_dat t M) {B : Int} {g : Nat → Int} (v : pu_vs t M B g) (i : Nat) (hi : (i : Int) < M t 3) : ab_ev d 128 [.inr (.inr 103), .inl (i : Int)] (pu_putm M g) (some (.inl (st_how t M g i))) (pu_putm M g) := by
  have hS := str_putm h.1 g
  have ht : t = 5 ∨ t = 37 := hS.2.2.1
  obtain ⟨_, _, t3, _, _, _, _, t8, _⟩ := h.2.1
  have tp := t8 i hi
  obtain ⟨_, _, _, _, _, _, m7, _⟩ := h.2.2.1
  have mp := m7 i hi
  obtain ⟨_, _, _, _, v5⟩ := v
  have r2 : pu_putm M g 109 (5 * i + 2) = M (t + 21) i := (putm_r (by omega)).trans mp.2.2.1
  have r3 : pu_putm M g 109 (5 * i + 1) = M (t + 20) i := (putm_r (by omega)).trans mp.2.1
  have r4 : pu_putm M g 112 0 = g 0 := putm_s (by omega)
  have r5 : pu_putm M g 112 (4 + i) = g (4 + i) := putm_s (by omega)
  have e1 : (5 * (i : Int) + 2).toNat = 5 * i + 2 := by omega
  have e2 : (5 * (i : Int) + 1).toNat = 5 * i + 1 := by omega
  have e3 : (4 + (i : Int)).toNat = 4 + i := by omega
  have w := s128 (d := d) hd hS (i : Int) (by omega) (by rw [e1, e2, r2, r3]; omega) (by rw [e3, r5]; have := v5 i (by omega); omega)
  rw [e1, e2, e3, r2, r3, r4, r5] at w
  exact w
/-! the first open deed of p -/
def st_fo (t : Nat) (M : ab_M) (g : Nat → Int) (p : Int) : Nat → Nat → Int
  | 0, _ => -1
  | n + 1, i => if M (t + 19) i = p ∧ st_how t M g i = 0 then (i : Int) else st_fo t M g p n (i + 1)
theorem fo_s (t : Nat) (M : ab_M) (g : Nat → Int) (p : Int) (n i : Nat) : st_fo t M g p (n + 1) i = if M (t + 19) i = p ∧ st_how t M g i = 0 then (i : Int) else st_fo t M g p n (i + 1) := rfl
theorem st_fo_rg (t : Nat) (M : ab_M) (g : Nat → Int) (p : Int) : ∀ n i, st_fo t M g p n i = -1 ∨ ((i : Int) ≤ st_fo t M g p n i ∧ st_fo t M g p n i < (i : Int) + n) := by
  intro n
  induction n with
  | zero => intro i; exact Or.inl rfl
  | succ n ih =>
    intro i
    unfold st_fo
    by_cases c : M (t + 19) i = p ∧ st_how t M g i = 0
    · rw [if_pos c]; right; omega
    · rw [if_neg c]
      have := ih (i + 1)
      omega
theorem s99 {d t : Nat} {M : ab_M} (hd : 2 ≤ d) (h : pu_dat t M) (g : Nat → Int) (p : Int) : ab_ev d 99 [.inr (.inr 0), .inl p] (pu_put M g) (some (.inl (st_fo t M g p (M t 3).toNat 0))) (pu_put M g) := by
  have hS := str_put h.1 g
  have ht : t = 5 ∨ t = 37 := hS.2.2.1
  obtain ⟨_, _, t3, _⟩ := h.2.1
  have r0 : pu_put M g t 3 = M t 3 := put_r (by omega)
  refine ev_wp (b99_0 (by omega) hS ?_)
  refine loop_up (P := fun i => st_fo t M g p (M t 3).toNat 0 = st_fo t M g p ((M t 3).toNat - i) i → ab_wp d 99 2 [some (.inr (.inr 0)), some (.inl p), some (.inl (i : Int))] [] (pu_put M g) _) (M t 3).toNat ?_ ?_ 0 (by omega) rfl
  · intro e
    refine b99_2 (by omega) hS ⟨fun _ => ⟨?_, rfl⟩, fun q => by rw [r0] at q; omega⟩
    rw [e, Nat.sub_self]
    rfl
  · intro i hi ih e
    have hi' : (i : Int) < M t 3 := by omega
    have r1 : pu_put M g (t + 19) i = M (t + 19) i := put_r (by omega)
    rw [show (M t 3).toNat - i = ((M t 3).toNat - (i + 1)) + 1 from by omega, fo_s] at e
    rw [Int.natCast_succ] at ih
    refine b99_2 (by omega) hS ⟨fun q => by rw [r0] at q; omega, fun _ => ⟨by omega, fun q => ⟨by omega, ih ?_⟩, fun q => ⟨_, _, s44p (by omega) h g i hi', hS, fun q2 => ⟨by omega, ih ?_⟩, fun q2 => ⟨?_, rfl⟩⟩⟩⟩
    · rw [Int.toNat_natCast, r1] at q
      rw [if_neg (fun z => q z.1)] at e
      exact e
    · rw [if_neg (fun z => q2 z.2)] at e
      exact e
    · rw [Int.toNat_natCast, r1] at q
      rw [if_pos ⟨q, q2⟩] at e
      rw [e]
