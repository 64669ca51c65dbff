/-! what never changes in the cells -/
def pu_rvs0 : List (List Int) := [[1, -1, -1, -1, 69, 71, 73, 75, 78, 82, 86, 90, 95, 98, 101, 102], [-1, -1, -1, 2, 3, 4], [], [], [], [-1, -1, -1, -1, -1, 6, 14, 22, 23, 24, 25, 26, 27, 28, 29, 36], [7, 8, 9, 10, 11, 12, 13], [], [], [], [], [], [], [], [15, 16, 17, 18, 19, 20, 21], [], [], [], [], [], [], []]
def pu_rvs1 : List (List Int) := [[], [], [], [], [], [], [], [30, 31, 32, 33, 34, 35], [], [], [], [], [], [], [], [-1, -1, -1, -1, -1, 38, 46, 54, 55, 56, 57, 58, 59, 60, 61, 68], [39, 40, 41, 42, 43, 44, 45], [], [], [], [], []]
def pu_rvs2 : List (List Int) := [[], [], [47, 48, 49, 50, 51, 52, 53], [], [], [], [], [], [], [], [], [], [], [], [], [], [], [62, 63, 64, 65, 66, 67], [], [], [], []]
def pu_rvs3 : List (List Int) := [[], [], [], [-1, -1, -1, -1, -1, 70], [], [-1, -1, -1, -1, -1, 72], [], [-1, -1, -1, -1, -1, 74], [], [-1, 76, 77], [], [], [79, 80, -1, -1, -1, 81], [], [], [], [83, 84, 85], [], [], [], [87, 88, 89], []]
def pu_rvs4 : List (List Int) := [[], [], [91, 92, -1, -1, -1, -1, 93, 94], [], [], [], [], [96, 97], [], [], [99, 100], [], [], [], [], [104, -1, -1, -1, -1, 105, 106, 107, 108, -1, 109, -1, 110, 111, -1, 112, 113, -1, 114, -1, -1, -1, -1, -1, -1, -1, -1, 115, -1, 116, -1, 117, -1, 118, -1, 119, -1, 120, 121, 122, 123, 124, 125, 126, 127, 128, 129, -1, 130, 131], [], [], [], [], [], []]
def pu_rvs5 : List (List Int) := [[], [], [], [], [], [], [], [], [], [], [], [], [], [], [], [], [], [], [], [], [], []]
def pu_rvs : List (List Int) := (List.append pu_rvs0 (List.append pu_rvs1 (List.append pu_rvs2 (List.append pu_rvs3 (List.append pu_rvs4 pu_rvs5)))))
def pu_rv (k f : Nat) : Int := (pu_rvs.getD k []).getD f (-1)
def pu_T (t : Nat) : Prop := t = 5 ∨ t = 37
def pu_S (s : Nat) : Prop := s = 69 ∨ s = 71 ∨ s = 73
def pu_D (s : Nat) : Prop := s = 82 ∨ s = 86
def pu_G (s : Nat) : Prop := s = 78 ∨ s = 82 ∨ s = 86 ∨ s = 90
theorem fT {P : Nat → Prop} {u : Nat} (h : pu_T u) (a : P 5) (b : P 37) : P u := by rcases h with h | h <;> (subst h; assumption)
theorem fS {P : Nat → Prop} {u : Nat} (h : pu_S u) (a : P 69) (b : P 71) (c : P 73) : P u := by rcases h with h | h | h <;> (subst h; assumption)
theorem fD {P : Nat → Prop} {u : Nat} (h : pu_D u) (a : P 82) (b : P 86) : P u := by rcases h with h | h <;> (subst h; assumption)
theorem fG {P : Nat → Prop} {u : Nat} (h : pu_G u) (a : P 78) (b : P 82) (c : P 86) (d : P 90) : P u := by rcases h with h | h | h | h <;> (subst h; assumption)
/-- t: the town that is -/
def pu_str (t : Nat) (M : ab_M) : Prop := M 999 0 = 132 ∧ (∀ k f, 0 ≤ pu_rv k f → M k f = pu_rv k f) ∧ pu_T t ∧ M 0 2 = (t : Int) ∧ M 0 3 = ((42 - t : Nat) : Int) ∧ M 999 1 = 2489
def pu_nr (k f : Nat) : Bool := decide (pu_rv k f < 0 ∧ k < 132 ∧ ¬ (k = 0 ∧ (f = 2 ∨ f = 3)))
def pu_na (k : Nat) : Bool := decide (pu_rvs.getD k [] = [] ∧ k < 132 ∧ k ≠ 0)
theorem str_w {t : Nat} {M : ab_M} {k f : Nat} {v : Int} (h : pu_str t M) (hk : pu_nr k f = true) : pu_str t (ab_w M k f v) := by
  obtain ⟨h0, h1, h2, h3, h4, h5⟩ := h
  obtain ⟨q1, q2, q3⟩ := of_decide_eq_true hk
  refine ⟨?_, ?_, h2, ?_, ?_, ?_⟩
  · unfold ab_w; rw [if_neg (by omega)]; exact h0
  · intro a b hab
    unfold ab_w
    rw [if_neg (by rintro ⟨rfl, rfl⟩; omega)]
    exact h1 a b hab
  · unfold ab_w; rw [if_neg (by intro c; apply q3; omega)]; exact h3
  · unfold ab_w; rw [if_neg (by intro c; apply q3; omega)]; exact h4
  · unfold ab_w; rw [if_neg (by omega)]; exact h5
theorem na_nr {k : Nat} (h : pu_na k = true) (f : Nat) : pu_nr k f = true := by
  obtain ⟨q1, q2, q3⟩ := of_decide_eq_true h
  apply decide_eq_true
  refine ⟨?_, q2, fun c => q3 c.1⟩
  unfold pu_rv
  rw [q1]
  show (-1 : Int) < 0
  decide
theorem str_a {t : Nat} {M : ab_M} {k f : Nat} {v : Int} (h : pu_str t M) (hk : pu_na k = true) : pu_str t (ab_w M k f v) := str_w h (na_nr hk f)
theorem str_c {t : Nat} {M : ab_M} {s k a b n : Nat} (h : pu_str t M) (hk : pu_na k = true) : pu_str t (ab_cpm M s k a b n) := by
  obtain ⟨h0, h1, h2, h3, h4, h5⟩ := h
  obtain ⟨q1, q2, q3⟩ := of_decide_eq_true hk
  refine ⟨?_, ?_, h2, ?_, ?_, ?_⟩
  · unfold ab_cpm; rw [if_neg (by omega)]; exact h0
  · intro x y hab
    unfold ab_cpm
    rw [if_neg ?_]
    · exact h1 x y hab
    · rintro ⟨rfl, _⟩
      have := of_decide_eq_true (na_nr hk y)
      omega
  · unfold ab_cpm; rw [if_neg (by intro c; exact q3 c.1.symm)]; exact h3
  · unfold ab_cpm; rw [if_neg (by intro c; exact q3 c.1.symm)]; exact h4
  · unfold ab_cpm; rw [if_neg (by omega)]; exact h5
theorem str_r {t : Nat} {M : ab_M} (h : pu_str t M) (k f : Nat) (j : Nat) (hj : pu_rv k f = (j : Int)) : M k f = (j : Int) := by
  rw [h.2.1 k f (by rw [hj]; omega), hj]
/-- rows of grids -/
theorem row_ar {b n w : Nat} {a : Int} (h : ∀ x, x < n → ab_arB 20 (b + x) w = true) (ha : 0 ≤ a ∧ a < n) : ab_arB 20 (b + a.toNat) w = true := h _ (by omega)
theorem row_na {b n : Nat} {a : Int} (h : ∀ x, x < n → pu_na (b + x) = true) (ha : 0 ≤ a ∧ a < n) : pu_na (b + a.toNat) = true := h _ (by omega)
theorem row_rf {t : Nat} {M : ab_M} {b n : Nat} {a : Int} (hS : pu_str t M) (h : ∀ x, x < n → pu_rv b x = ((b + 1 + x : Nat) : Int)) (ha : 0 ≤ a ∧ a < n) : M b a.toNat = ((b + 1 + a.toNat : Nat) : Int) := by
  rw [hS.2.1 b a.toNat (by rw [h _ (by omega)]; omega), h _ (by omega)]
theorem row_lt {b n : Nat} {a : Int} (hb : b + n < 900) (ha : 0 ≤ a ∧ a < n) : b + 1 + a.toNat < 1000 := by omega
theorem T_other {t : Nat} (h : pu_T t) : pu_T (42 - t) := by rcases h with h | h <;> (subst h; first | exact Or.inl rfl | exact Or.inr rfl)
theorem hN_w {t : Nat} {M : ab_M} {v : Int} (h : pu_str t M) : ab_w M 0 2 v 999 0 = 132 := by unfold ab_w; rw [if_neg (by omega)]; exact h.1
theorem str_swap {t : Nat} {M : ab_M} (h : pu_str t M) : pu_str (42 - t) (ab_w (ab_w M 0 2 ((42 - t : Nat) : Int)) 0 3 (t : Int)) := by
  obtain ⟨h0, h1, h2, h3, h4, h5⟩ := h
  refine ⟨?_, ?_, T_other h2, ?_, ?_, ?_⟩
  · unfold ab_w; rw [if_neg (by omega), if_neg (by omega)]; exact h0
  · intro a b hab
    have q : ∀ f, f = 2 ∨ f = 3 → ¬ (a = 0 ∧ b = f) := by
      intro f hf
      rintro ⟨rfl, rfl⟩
      rcases hf with rfl | rfl <;> exact absurd hab (by decide)
    unfold ab_w
    rw [if_neg (q 3 (Or.inr rfl)), if_neg (q 2 (Or.inl rfl))]
    exact h1 a b hab
  · unfold ab_w; rw [if_neg (by omega), if_pos (by omega)]
  · unfold ab_w
    rw [if_pos (by omega)]
    rcases h2 with h | h <;> subst h <;> rfl
  · unfold ab_w; rw [if_neg (by omega), if_neg (by omega)]; exact h5
def pu_bI (k f : Nat) (x : Int) : Bool := ab_obB k f x && decide (x ≠ 30) && decide (ab_fty (ab_kd k).1 f ≠ 2)
def pu_bJ (c : Nat) (k f : Nat) (x : Int) : Bool := ab_obB k f x && decide (x ≠ 30) && decide (ab_fty (ab_kd k).1 f = c)
noncomputable def pu_sts : Nat → Nat → ab_St → Option ab_St
  | 0, _, u => some u
  | n + 1, m, u => match ab_at m u.1 with
    | some e => if e.2.1 = 0 then (match ab_st1 e u.1 u.2.1 u.2.2.1 u.2.2.2 with
      | some v => pu_sts n m v
      | none => none) else none
    | none => none
section G
variable {d m pc : Nat} {ls : ab_L} {st : List ab_V} {M : ab_M} {Q : Option ab_V → ab_M → Prop} {t : Nat}
theorem wp_sts' : ∀ (n : Nat) (v u : ab_St), pu_sts n m v = some u → ab_wp d m u.1 u.2.1 u.2.2.1 u.2.2.2 Q → ab_wp d m v.1 v.2.1 v.2.2.1 v.2.2.2 Q
  | 0, v, u, h, k => by cases h; exact k
  | n + 1, v, u, h, k => by
    rw [pu_sts] at h
    cases hat : ab_at m v.1 with
    | none => rw [hat] at h; cases h
    | some e =>
      rw [hat] at h
      dsimp only at h
      split at h
      next h0 =>
        cases hs : ab_st1 e v.1 v.2.1 v.2.2.1 v.2.2.2 with
        | none => rw [hs] at h; cases h
        | some w =>
          rw [hs] at h
          exact wp_st hat h0 hs (wp_sts' n w u h k)
      next => cases h
theorem wp_sts (n : Nat) {pc' : Nat} {ls' : ab_L} {st' : List ab_V} {M' : ab_M} (h : pu_sts n m (pc, ls, st, M) = some (pc', ls', st', M')) (k : ab_wp d m pc' ls' st' M' Q) : ab_wp d m pc ls st M Q := wp_sts' n (pc, ls, st, M) (pc', ls', st', M') h k
theorem g_getI {f : Nat} {x : Int} {i k : Nat} (hat : ab_at m pc = some (.getfield i, 0, f, x)) (hS : pu_str t M) (hb : pu_bI k f x = true) (h : ab_wp d m (pc + 3) ls (.inl (M k f) :: st) M Q) : ab_wp d m pc ls (.inr (.inr k) :: st) M Q := by
  unfold pu_bI at hb
  simp only [Bool.and_eq_true, decide_eq_true_eq] at hb
  exact w_getI hat hS.1 hb.1.2 hb.1.1 hb.2 h
theorem g_getR {f : Nat} {x : Int} {i k j : Nat} (hat : ab_at m pc = some (.getfield i, 0, f, x)) (hS : pu_str t M) (hb : pu_bJ 2 k f x = true) (hj : M k f = (j : Int)) (hj2 : j < 1000) (h : ab_wp d m (pc + 3) ls (.inr (.inr j) :: st) M Q) : ab_wp d m pc ls (.inr (.inr k) :: st) M Q := by
  unfold pu_bJ at hb
  simp only [Bool.and_eq_true, decide_eq_true_eq] at hb
  exact w_getR hat hS.1 hb.1.2 hb.1.1 hb.2 hj hj2 h
theorem g_putI {f : Nat} {x v : Int} {i k : Nat} (hat : ab_at m pc = some (.putfield i, 0, f, x)) (hS : pu_str t M) (hb : pu_bJ 0 k f x = true) (h : ab_wp d m (pc + 3) ls st (ab_w M k f v) Q) : ab_wp d m pc ls (.inl v :: .inr (.inr k) :: st) M Q := by
  unfold pu_bJ at hb
  simp only [Bool.and_eq_true, decide_eq_true_eq] at hb
  exact w_putI hat hS.1 hb.1.1 hb.2 h
theorem g_putB {f : Nat} {x v : Int} {i k : Nat} (hat : ab_at m pc = some (.putfield i, 0, f, x)) (hS : pu_str t M) (hb : pu_bJ 1 k f x = true) (hv : v = 0 ∨ v = 1) (h : ab_wp d m (pc + 3) ls st (ab_w M k f v) Q) : ab_wp d m pc ls (.inl v :: .inr (.inr k) :: st) M Q := by
  unfold pu_bJ at hb
  simp only [Bool.and_eq_true, decide_eq_true_eq] at hb
  exact w_putB hat hS.1 hb.1.1 hb.2 hv h
theorem g_iald {k0 k n : Nat} {x i : Int} (hat : ab_at m pc = some (.iaload, 0, k0, x)) (hS : pu_str t M) (ha : ab_arB 20 k n = true) (h0 : 0 ≤ i ∧ i < n) (h : ab_wp d m (pc + 1) ls (.inl (M k i.toNat) :: st) M Q) : ab_wp d m pc ls (.inl i :: .inr (.inr k) :: st) M Q := w_ald hat (Or.inl ⟨rfl, rfl⟩) hS.1 ha h0 h
theorem g_bald {k0 k n : Nat} {x i : Int} (hat : ab_at m pc = some (.baload, 0, k0, x)) (hS : pu_str t M) (ha : ab_arB 21 k n = true) (h0 : 0 ≤ i ∧ i < n) (h : ab_wp d m (pc + 1) ls (.inl (M k i.toNat) :: st) M Q) : ab_wp d m pc ls (.inl i :: .inr (.inr k) :: st) M Q := w_ald hat (Or.inr (Or.inl ⟨rfl, rfl⟩)) hS.1 ha h0 h
theorem g_cald {k0 k n : Nat} {x i : Int} (hat : ab_at m pc = some (.caload, 0, k0, x)) (hS : pu_str t M) (ha : ab_arB 22 k n = true) (h0 : 0 ≤ i ∧ i < n) (h : ab_wp d m (pc + 1) ls (.inl (M k i.toNat) :: st) M Q) : ab_wp d m pc ls (.inl i :: .inr (.inr k) :: st) M Q := w_ald hat (Or.inr (Or.inr ⟨rfl, rfl⟩)) hS.1 ha h0 h
theorem g_aald {k0 k n j : Nat} {x i : Int} (hat : ab_at m pc = some (.aaload, 0, k0, x)) (hS : pu_str t M) (ha : ab_arB 24 k n = true) (h0 : 0 ≤ i ∧ i < n) (hj : M k i.toNat = (j : Int)) (hj2 : j < 1000) (h : ab_wp d m (pc + 1) ls (.inr (.inr j) :: st) M Q) : ab_wp d m pc ls (.inl i :: .inr (.inr k) :: st) M Q := w_aald hat hS.1 ha h0 hj hj2 h
theorem g_iast {k0 k n : Nat} {x i v : Int} (hat : ab_at m pc = some (.iastore, 0, k0, x)) (hS : pu_str t M) (ha : ab_arB 20 k n = true) (h0 : 0 ≤ i ∧ i < n) (h : ab_wp d m (pc + 1) ls st (ab_w M k i.toNat v) Q) : ab_wp d m pc ls (.inl v :: .inl i :: .inr (.inr k) :: st) M Q := w_ast hat (Or.inl ⟨rfl, rfl⟩) hS.1 ha h0 (by intro q; omega) (by intro q; omega) h
theorem g_bast {k0 k n : Nat} {x i v : Int} (hat : ab_at m pc = some (.bastore, 0, k0, x)) (hS : pu_str t M) (ha : ab_arB 21 k n = true) (h0 : 0 ≤ i ∧ i < n) (hv : v = 0 ∨ v = 1) (h : ab_wp d m (pc + 1) ls st (ab_w M k i.toNat v) Q) : ab_wp d m pc ls (.inl v :: .inl i :: .inr (.inr k) :: st) M Q := w_ast hat (Or.inr (Or.inl ⟨rfl, rfl⟩)) hS.1 ha h0 (fun _ => hv) (by intro q; omega) h
theorem g_cast {k0 k n : Nat} {x i v : Int} (hat : ab_at m pc = some (.castore, 0, k0, x)) (hS : pu_str t M) (ha : ab_arB 22 k n = true) (h0 : 0 ≤ i ∧ i < n) (hv : 0 ≤ v ∧ v < 65536) (h : ab_wp d m (pc + 1) ls st (ab_w M k i.toNat v) Q) : ab_wp d m pc ls (.inl v :: .inl i :: .inr (.inr k) :: st) M Q := w_ast hat (Or.inr (Or.inr ⟨rfl, rfl⟩)) hS.1 ha h0 (by intro q; omega) (fun _ => hv) h
theorem g_call {e : ab_E} {q : Nat × (List ab_V × List ab_V)} {r : Option ab_V} {M1 : ab_M} (hat : ab_at m pc = some e) (hk : e.2.1 = 1) (hS : pu_str t M) (hd : 1 ≤ d) (hq : ab_argsN e st = some q) (hev : ab_ev (d - 1) q.1 q.2.1 M r M1) (h : ab_wp d m (pc + 3) ls (r.toList ++ q.2.2) M1 Q) : ab_wp d m pc ls st M Q := by
  obtain ⟨j, rfl⟩ : ∃ j, d = j + 1 := ⟨d - 1, by omega⟩
  exact w_call hat hk hS.1 hq hev h
theorem g_callV {e : ab_E} {c : Nat} {as rs : List ab_V} {M1 : ab_M} (hat : ab_at m pc = some e) (hk : e.2.1 = 1) (hS : pu_str t M) (hd : 1 ≤ d) (hq : ab_argsN e st = some (c, as, rs)) (hev : ab_ev (d - 1) c as M none M1) (h : ab_wp d m (pc + 3) ls rs M1 Q) : ab_wp d m pc ls st M Q := g_call hat hk hS hd hq hev h
theorem g_callI {e : ab_E} {c : Nat} {as rs : List ab_V} {M1 : ab_M} {v : ab_V} (hat : ab_at m pc = some e) (hk : e.2.1 = 1) (hS : pu_str t M) (hd : 1 ≤ d) (hq : ab_argsN e st = some (c, as, rs)) (hev : ab_ev (d - 1) c as M (some v) M1) (h : ab_wp d m (pc + 3) ls (v :: rs) M1 Q) : ab_wp d m pc ls st M Q := g_call hat hk hS hd hq hev h
theorem c2_lt {k : Nat} {x a b : Int} {off : Int} (hat : ab_at m pc = some (.if_icmp .lt off, 0, k, x)) (ht : a < b → ab_wp d m k ls st M Q) (hf : b ≤ a → ab_wp d m (pc + 3) ls st M Q) : ab_wp d m pc ls (.inl b :: .inl a :: st) M Q :=
  w_if2 hat (fun q => ht (of_decide_eq_true q)) (fun q => hf (by have := of_decide_eq_false q; omega))
theorem c1_lt {k : Nat} {x a : Int} {off : Int} (hat : ab_at m pc = some (.ifCond .lt off, 0, k, x)) (ht : a < 0 → ab_wp d m k ls st M Q) (hf : 0 ≤ a → ab_wp d m (pc + 3) ls st M Q) : ab_wp d m pc ls (.inl a :: st) M Q :=
  w_if1 hat (fun q => ht (of_decide_eq_true q)) (fun q => hf (by have := of_decide_eq_false q; omega))
theorem c2_ge {k : Nat} {x a b : Int} {off : Int} (hat : ab_at m pc = some (.if_icmp .ge off, 0, k, x)) (ht : b ≤ a → ab_wp d m k ls st M Q) (hf : a < b → ab_wp d m (pc + 3) ls st M Q) : ab_wp d m pc ls (.inl b :: .inl a :: st) M Q :=
  w_if2 hat (fun q => ht (of_decide_eq_true q)) (fun q => hf (by have := of_decide_eq_false q; omega))
theorem c1_ge {k : Nat} {x a : Int} {off : Int} (hat : ab_at m pc = some (.ifCond .ge off, 0, k, x)) (ht : 0 ≤ a → ab_wp d m k ls st M Q) (hf : a < 0 → ab_wp d m (pc + 3) ls st M Q) : ab_wp d m pc ls (.inl a :: st) M Q :=
  w_if1 hat (fun q => ht (of_decide_eq_true q)) (fun q => hf (by have := of_decide_eq_false q; omega))
theorem c2_gt {k : Nat} {x a b : Int} {off : Int} (hat : ab_at m pc = some (.if_icmp .gt off, 0, k, x)) (ht : b < a → ab_wp d m k ls st M Q) (hf : a ≤ b → ab_wp d m (pc + 3) ls st M Q) : ab_wp d m pc ls (.inl b :: .inl a :: st) M Q :=
  w_if2 hat (fun q => ht (of_decide_eq_true q)) (fun q => hf (by have := of_decide_eq_false q; omega))
theorem c1_gt {k : Nat} {x a : Int} {off : Int} (hat : ab_at m pc = some (.ifCond .gt off, 0, k, x)) (ht : 0 < a → ab_wp d m k ls st M Q) (hf : a ≤ 0 → ab_wp d m (pc + 3) ls st M Q) : ab_wp d m pc ls (.inl a :: st) M Q :=
  w_if1 hat (fun q => ht (of_decide_eq_true q)) (fun q => hf (by have := of_decide_eq_false q; omega))
theorem c2_le {k : Nat} {x a b : Int} {off : Int} (hat : ab_at m pc = some (.if_icmp .le off, 0, k, x)) (ht : a ≤ b → ab_wp d m k ls st M Q) (hf : b < a → ab_wp d m (pc + 3) ls st M Q) : ab_wp d m pc ls (.inl b :: .inl a :: st) M Q :=
  w_if2 hat (fun q => ht (of_decide_eq_true q)) (fun q => hf (by have := of_decide_eq_false q; omega))
theorem c1_le {k : Nat} {x a : Int} {off : Int} (hat : ab_at m pc = some (.ifCond .le off, 0, k, x)) (ht : a ≤ 0 → ab_wp d m k ls st M Q) (hf : 0 < a → ab_wp d m (pc + 3) ls st M Q) : ab_wp d m pc ls (.inl a :: st) M Q :=
  w_if1 hat (fun q => ht (of_decide_eq_true q)) (fun q => hf (by have := of_decide_eq_false q; omega))
theorem c2_eq {k : Nat} {x a b : Int} {off : Int} (hat : ab_at m pc = some (.if_icmp .eq off, 0, k, x)) (ht : a = b → ab_wp d m k ls st M Q) (hf : a ≠ b → ab_wp d m (pc + 3) ls st M Q) : ab_wp d m pc ls (.inl b :: .inl a :: st) M Q :=
  w_if2 hat (fun q => ht (of_decide_eq_true q)) (fun q => hf (by have := of_decide_eq_false q; omega))
theorem c1_eq {k : Nat} {x a : Int} {off : Int} (hat : ab_at m pc = some (.ifCond .eq off, 0, k, x)) (ht : a = 0 → ab_wp d m k ls st M Q) (hf : a ≠ 0 → ab_wp d m (pc + 3) ls st M Q) : ab_wp d m pc ls (.inl a :: st) M Q :=
  w_if1 hat (fun q => ht (of_decide_eq_true q)) (fun q => hf (by have := of_decide_eq_false q; omega))
theorem c2_ne {k : Nat} {x a b : Int} {off : Int} (hat : ab_at m pc = some (.if_icmp .ne off, 0, k, x)) (ht : a ≠ b → ab_wp d m k ls st M Q) (hf : a = b → ab_wp d m (pc + 3) ls st M Q) : ab_wp d m pc ls (.inl b :: .inl a :: st) M Q :=
  w_if2 hat (fun q => ht (of_decide_eq_true q)) (fun q => hf (by have := of_decide_eq_false q; omega))
theorem c1_ne {k : Nat} {x a : Int} {off : Int} (hat : ab_at m pc = some (.ifCond .ne off, 0, k, x)) (ht : a ≠ 0 → ab_wp d m k ls st M Q) (hf : a = 0 → ab_wp d m (pc + 3) ls st M Q) : ab_wp d m pc ls (.inl a :: st) M Q :=
  w_if1 hat (fun q => ht (of_decide_eq_true q)) (fun q => hf (by have := of_decide_eq_false q; omega))
theorem g_retB {v : Int} {i : Instr} (hat : ab_at m pc = some (i, 2, 1, 1)) (hv : v = 0 ∨ v = 1) (h : Q (some (.inl v)) M) : ab_wp d m pc ls [.inl v] M Q :=
  wp_ret hat rfl (z := (some (.inl v), M)) (by show (if _ then _ else _) = _; rw [if_pos ⟨rfl, Or.inr (Or.inl ⟨rfl, hv⟩)⟩]) h
theorem g_retC {v : Int} {i : Instr} (hat : ab_at m pc = some (i, 2, 1, 3)) (hv : -128 ≤ v ∧ v < 128) (h : Q (some (.inl v)) M) : ab_wp d m pc ls [.inl v] M Q :=
  wp_ret hat rfl (z := (some (.inl v), M)) (by show (if _ then _ else _) = _; rw [if_pos ⟨rfl, Or.inr (Or.inr ⟨rfl, hv⟩)⟩]) h
def pu_swB (pc : Nat) (lo hi : Int) (offs : Array Int) (tg : List (Int × Nat)) : Bool := decide ((tg.length : Int) = hi - lo + 1) && decide (offs.toList.map (fun o => (pc : Int) + o) = tg.map (fun p => ((p.2 : Nat) : Int))) && decide (tg.map (fun p => p.1) = (List.range tg.length).map (fun (i : Nat) => lo + (i : Int)))
def pu_swA (x : Int) (P : Nat → Prop) : List (Int × Nat) → Prop
  | [] => True
  | p :: r => (x = p.1 → P p.2) ∧ pu_swA x P r
theorem pu_swA_get (x : Int) (P : Nat → Prop) : ∀ (l : List (Int × Nat)) (i : Nat) (p : Int × Nat), pu_swA x P l → l[i]? = some p → x = p.1 → P p.2
  | [], i, p, _, h, _ => by simp at h
  | a :: r, 0, p, h, hg, hx => by
    simp at hg
    subst hg
    exact h.1 hx
  | a :: r, i + 1, p, h, hg, hx => pu_swA_get x P r i p h.2 (by simpa using hg) hx
theorem w_lsw2 {dflt v1 o1 v2 o2 : Int} {k p1 p2 p0 : Nat} {x0 x : Int} (hat : ab_at m pc = some (.lookupswitch dflt #[(v1, o1), (v2, o2)], 0, k, x0)) (e1 : (pc : Int) + o1 = p1) (e2 : (pc : Int) + o2 = p2) (e0 : (pc : Int) + dflt = p0) (h0 : x ≠ v1 ∧ x ≠ v2 → ab_wp d m p0 ls st M Q) (h1 : x = v1 → ab_wp d m p1 ls st M Q) (h2 : x = v2 → ab_wp d m p2 ls st M Q) : ab_wp d m pc ls (.inl x :: st) M Q := by
  have key : ∀ (p : Nat), (pc : Int) + Op.lookupswitch.offset [(v1, o1), (v2, o2)] dflt x = p → ab_st1 (.lookupswitch dflt #[(v1, o1), (v2, o2)], 0, k, x0) pc ls (.inl x :: st) M = some (p, ls, st, M) := by
    intro p hp
    show ab_lsw pc dflt #[(v1, o1), (v2, o2)] ls (.inl x :: st) M = _
    unfold ab_lsw
    dsimp only
    rw [hp, if_pos (by omega)]
    rfl
  by_cases c1 : x = v1
  · exact wp_st hat rfl (key p1 (by rw [← e1]; simp [Op.lookupswitch.offset, c1])) (h1 c1)
  · by_cases c2 : x = v2
    · exact wp_st hat rfl (key p2 (by have c3 : ¬ v1 = x := fun q => c1 q.symm; have c4 : v2 = x := c2.symm; rw [← e2]; simp [Op.lookupswitch.offset, c3, c4])) (h2 c2)
    · exact wp_st hat rfl (key p0 (by have c3 : ¬ v1 = x := fun q => c1 q.symm; have c4 : ¬ v2 = x := fun q => c2 q.symm; rw [← e0]; simp [Op.lookupswitch.offset, c3, c4])) (h0 ⟨c1, c2⟩)
theorem w_sw {dflt lo hi : Int} {offs : Array Int} {k : Nat} {x0 x : Int} {tg : List (Int × Nat)} (hat : ab_at m pc = some (.tableswitch dflt lo hi offs, 0, k, x0)) (hB : pu_swB pc lo hi offs tg = true) (hd : x < lo ∨ hi < x → ab_wp d m k ls st M Q) (hc : pu_swA x (fun p => ab_wp d m p ls st M Q) tg) : ab_wp d m pc ls (.inl x :: st) M Q := by
  by_cases ho : x < lo ∨ hi < x
  · exact wp_st hat rfl (u := (k, ls, st, M)) (by show ab_sw pc k lo hi offs ls (.inl x :: st) M = _; unfold ab_sw; dsimp only; rw [if_pos ho]) (hd ho)
  · unfold pu_swB at hB
    simp only [Bool.and_eq_true, decide_eq_true_eq] at hB
    obtain ⟨⟨b1, b2⟩, b3⟩ := hB
    have hi' : (x - lo).toNat < tg.length := by omega
    have hp : tg[(x - lo).toNat]? = some (tg[(x - lo).toNat]'hi') := List.getElem?_eq_getElem hi'
    have e3 := congrArg (fun l => l[(x - lo).toNat]?) b3
    have e2 := congrArg (fun l => l[(x - lo).toNat]?) b2
    simp only [List.getElem?_map, hp, Option.map_some] at e3 e2
    rw [List.getElem?_range hi'] at e3
    simp only [Option.map_some, Option.some.injEq] at e3
    cases ho2 : offs.toList[(x - lo).toNat]? with
    | none => rw [ho2] at e2; cases e2
    | some off =>
      rw [ho2] at e2
      simp only [Option.map_some, Option.some.injEq] at e2
      have h4 := pu_swA_get x _ tg _ _ hc hp (by rw [e3]; omega)
      refine wp_st hat rfl (u := ((tg[(x - lo).toNat]'hi').2, ls, st, M)) ?_ h4
      show ab_sw pc k lo hi offs ls (.inl x :: st) M = _
      unfold ab_sw
      dsimp only
      rw [if_neg ho, ← Array.getElem?_toList, ho2]
      dsimp only
      rw [e2, if_pos (by omega)]
      rfl
end G
