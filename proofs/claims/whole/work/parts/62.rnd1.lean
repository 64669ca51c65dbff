/-! rounds, purely: H = (where a deed is done, its end from a place and minute, the first place, the first minute) -/
abbrev rd_HH : Type := (Nat → Int) × (Nat → Int → Int → Int) × Int × Int
def rd_s (H : rd_HH) (p : Prop × (Nat → Int) × Int × Int) (i : Nat) : Prop × (Nat → Int) × Int × Int :=
  (p.1 ∧ H.2.1 i p.2.2.1 p.2.2.2 ≠ -1, pu_u p.2.1 i (H.2.1 i p.2.2.1 p.2.2.2), H.1 i, H.2.1 i p.2.2.1 p.2.2.2)
def rd_T (H : rd_HH) (r : List Nat) : Prop × (Nat → Int) × Int × Int := r.foldl (rd_s H) (True, (fun _ => -1), H.2.2.1, H.2.2.2)
def rd_ok (H : rd_HH) (r : List Nat) : Prop := (rd_T H r).1
def rd_ea (H : rd_HH) (r : List Nat) : Nat → Int := (rd_T H r).2.1
def rd_sq (H : rd_HH) (r : List Nat) : Int := (rd_T H r).2.2.1
def rd_mn (H : rd_HH) (r : List Nat) : Int := (rd_T H r).2.2.2
theorem T_snoc (H : rd_HH) (r : List Nat) (i : Nat) : rd_T H (r ++ [i]) = rd_s H (rd_T H r) i := by
  unfold rd_T
  rw [List.foldl_append]
  rfl
theorem ok_nil (H : rd_HH) : rd_ok H [] := trivial
theorem ok_snoc (H : rd_HH) (r : List Nat) (i : Nat) : rd_ok H (r ++ [i]) ↔ (rd_ok H r ∧ H.2.1 i (rd_sq H r) (rd_mn H r) ≠ -1) := by
  unfold rd_ok
  rw [T_snoc]
  exact Iff.rfl
theorem ea_snoc (H : rd_HH) (r : List Nat) (i : Nat) : rd_ea H (r ++ [i]) = pu_u (rd_ea H r) i (H.2.1 i (rd_sq H r) (rd_mn H r)) := by
  unfold rd_ea
  rw [T_snoc]
  rfl
theorem sq_snoc (H : rd_HH) (r : List Nat) (i : Nat) : rd_sq H (r ++ [i]) = H.1 i := by
  unfold rd_sq
  rw [T_snoc]
  rfl
theorem mn_snoc (H : rd_HH) (r : List Nat) (i : Nat) : rd_mn H (r ++ [i]) = H.2.1 i (rd_sq H r) (rd_mn H r) := by
  unfold rd_mn
  rw [T_snoc]
  rfl
theorem s_ok (H : rd_HH) : ∀ (s : List Nat) (p : Prop × (Nat → Int) × Int × Int), (s.foldl (rd_s H) p).1 → p.1
  | [], _, h => h
  | i :: s, p, h => (s_ok H s (rd_s H p i) h).1
theorem ok_pre (H : rd_HH) (r s : List Nat) (h : rd_ok H (r ++ s)) : rd_ok H r := by
  unfold rd_ok rd_T at h
  rw [List.foldl_append] at h
  exact s_ok H s _ h
/-! sets of deeds -/
def rd_rm (s i : Nat) : Nat := s &&& (63 ^^^ 2 ^ i)
theorem rm_64 {s i : Nat} (h : s < 64) : rd_rm s i < 64 := and_lt h
theorem rm_all : ∀ s : Fin 64, ∀ i : Fin 6, ab_and ((s.val : Nat) : Int) (ab_xor (ab_shl 1 ((i.val : Nat) : Int)) (-1)) = ((rd_rm s.val i.val : Nat) : Int) := by decide +kernel
theorem rm_bits : ∀ s : Fin 64, ∀ i j : Fin 6, (rd_rm s.val i.val).testBit j.val = (s.val.testBit j.val && decide (j.val ≠ i.val)) := by decide +kernel
theorem bit_hi {s j : Nat} (h : s < 64) (hj : 6 ≤ j) : s.testBit j = false := Nat.testBit_lt_two_pow (Nat.lt_of_lt_of_le h (by have := Nat.pow_le_pow_right (n := 2) (by omega) hj; omega))
theorem rm_bit {s i : Nat} (h : s < 64) (hi : i < 6) (j : Nat) : (rd_rm s i).testBit j = (s.testBit j && decide (j ≠ i)) := by
  by_cases c : j < 6
  · exact rm_bits ⟨s, h⟩ ⟨i, hi⟩ ⟨j, c⟩
  · rw [bit_hi (rm_64 h) (by omega), bit_hi h (by omega)]
    rfl
def rd_set (r : List Nat) : Nat := r.foldl (fun s i => s ||| 2 ^ i) 0
theorem set_snoc (r : List Nat) (i : Nat) : rd_set (r ++ [i]) = rd_set r ||| 2 ^ i := by
  unfold rd_set
  rw [List.foldl_append]
  rfl
theorem or_all : ∀ s : Fin 64, ∀ i : Fin 6, ab_or ((s.val : Nat) : Int) (ab_shl 1 ((i.val : Nat) : Int)) = ((s.val ||| 2 ^ i.val : Nat) : Int) ∧ s.val ||| 2 ^ i.val < 64 := by decide +kernel
theorem set_bits (r : List Nat) : ∀ (s j : Nat), (r.foldl (fun s i => s ||| 2 ^ i) s).testBit j = (s.testBit j || decide (j ∈ r)) := by
  induction r with
  | nil => intro s j; simp
  | cons i r ih =>
    intro s j
    rw [List.foldl_cons, ih, Nat.testBit_or, Nat.testBit_two_pow]
    by_cases c : i = j
    · subst c; simp
    · have c' : ¬ j = i := fun h => c h.symm
      simp [c, c']
theorem set_bit (r : List Nat) (j : Nat) : (rd_set r).testBit j = decide (j ∈ r) := by
  unfold rd_set
  rw [set_bits]
  simp
theorem set_lt : ∀ (r : List Nat) (s : Nat), s < 64 → (∀ i, i ∈ r → i < 6) → r.foldl (fun s i => s ||| 2 ^ i) s < 64
  | [], _, h, _ => h
  | i :: r, s, h, hr => by
    rw [List.foldl_cons]
    exact set_lt r _ (or_all ⟨s, h⟩ ⟨i, hr i List.mem_cons_self⟩).2 (fun j hj => hr j (List.mem_cons_of_mem _ hj))
theorem set_64 {r : List Nat} (h : ∀ i, i ∈ r → i < 6) : rd_set r < 64 := set_lt r 0 (by omega) h
theorem bits_ext {a b : Nat} (ha : a < 64) (hb : b < 64) (h : ∀ j, j < 6 → a.testBit j = b.testBit j) : a = b := by
  apply Nat.eq_of_testBit_eq
  intro j
  by_cases c : j < 6
  · exact h j c
  · rw [bit_hi ha (by omega), bit_hi hb (by omega)]
/-! the order of rows -/
def rd_ah : List Nat → List Nat → Prop
  | _, [] => False
  | [], _ :: _ => True
  | a :: x, b :: y => a < b ∨ (a = b ∧ rd_ah x y)
theorem ah_irr : ∀ x, ¬ rd_ah x x
  | [], h => h
  | _ :: x, h => h.elim (fun q => Nat.lt_irrefl _ q) (fun q => ah_irr x q.2)
theorem ah_nil : ∀ x, ¬ rd_ah x []
  | [], h => h
  | _ :: _, h => h
theorem ah_tr : ∀ x y z, rd_ah x y → rd_ah y z → rd_ah x z
  | x, [], _, h, _ => absurd h (ah_nil x)
  | _, y :: ys, [], _, h => absurd h (ah_nil (y :: ys))
  | [], _ :: _, _ :: _, _, _ => trivial
  | a :: x, b :: y, c :: z, h, k => by
    rcases h with h | h <;> rcases k with k | k
    · exact Or.inl (by omega)
    · exact Or.inl (by omega)
    · exact Or.inl (by omega)
    · exact Or.inr ⟨by omega, ah_tr x y z h.2 k.2⟩
theorem ah_tot : ∀ x y, x = y ∨ rd_ah x y ∨ rd_ah y x
  | [], [] => Or.inl rfl
  | [], _ :: _ => Or.inr (Or.inl trivial)
  | _ :: _, [] => Or.inr (Or.inr trivial)
  | a :: x, b :: y => by
    rcases Nat.lt_trichotomy a b with q | q | q
    · exact Or.inr (Or.inl (Or.inl q))
    · subst q
      rcases ah_tot x y with z | z | z
      · exact Or.inl (by rw [z])
      · exact Or.inr (Or.inl (Or.inr ⟨rfl, z⟩))
      · exact Or.inr (Or.inr (Or.inr ⟨rfl, z⟩))
    · exact Or.inr (Or.inr (Or.inl q))
theorem ah_app : ∀ r x y, rd_ah x y → rd_ah (r ++ x) (r ++ y)
  | [], _, _, h => h
  | _ :: r, x, y, h => Or.inr ⟨rfl, ah_app r x y h⟩
/-! the rows that a walk meets -/
def rd_dfs (H : rd_HH) (nd : Nat) : Nat → Nat → List Nat → List (List Nat)
  | 0, _, row => [row]
  | f + 1, left, row => row :: (List.range nd).flatMap (fun i => if left.testBit i = true ∧ H.2.1 i (rd_sq H row) (rd_mn H row) ≠ -1 then rd_dfs H nd f (rd_rm left i) (row ++ [i]) else [])
theorem dfs_s (H : rd_HH) (nd f left : Nat) (row : List Nat) : rd_dfs H nd (f + 1) left row = row :: (List.range nd).flatMap (fun i => if left.testBit i = true ∧ H.2.1 i (rd_sq H row) (rd_mn H row) ≠ -1 then rd_dfs H nd f (rd_rm left i) (row ++ [i]) else []) := rfl
theorem dfs_mem (H : rd_HH) {nd : Nat} (hn : nd ≤ 6) : ∀ (f left : Nat) (row x : List Nat), left < 64 → rd_ok H row → (x ∈ rd_dfs H nd f left row ↔ ∃ s, x = row ++ s ∧ s.length ≤ f ∧ s.Nodup ∧ (∀ i, i ∈ s → i < nd ∧ left.testBit i = true) ∧ rd_ok H (row ++ s)) := by
  intro f
  induction f with
  | zero =>
    intro left row x hl ho
    constructor
    · intro h
      have h : x ∈ [row] := h
      rw [List.mem_singleton] at h
      exact ⟨[], by rw [h, List.append_nil], Nat.le_refl _, List.nodup_nil, fun i hi => (by cases hi), by rw [List.append_nil]; exact ho⟩
    · rintro ⟨s, rfl, hs, _⟩
      have : s = [] := List.eq_nil_of_length_eq_zero (by omega)
      rw [this, List.append_nil]
      exact List.mem_singleton.2 rfl
  | succ f ih =>
    intro left row x hl ho
    rw [dfs_s, List.mem_cons, List.mem_flatMap]
    constructor
    · rintro (rfl | ⟨i, hi, hx⟩)
      · exact ⟨[], by rw [List.append_nil], Nat.zero_le _, List.nodup_nil, fun i hi => (by cases hi), by rw [List.append_nil]; exact ho⟩
      · rw [List.mem_range] at hi
        by_cases c : left.testBit i = true ∧ H.2.1 i (rd_sq H row) (rd_mn H row) ≠ -1
        · rw [if_pos c] at hx
          obtain ⟨s, e, h1, h2, h3, h4⟩ := (ih (rd_rm left i) (row ++ [i]) x (rm_64 hl) ((ok_snoc H row i).2 ⟨ho, c.2⟩)).1 hx
          refine ⟨i :: s, ?_, ?_, ?_, ?_, ?_⟩
          · rw [e, List.append_assoc]; rfl
          · rw [List.length_cons]; omega
          · rw [List.nodup_cons]
            refine ⟨fun q => ?_, h2⟩
            have := (h3 i q).2
            rw [rm_bit hl (by omega)] at this
            simp at this
          · intro j hj
            rcases List.mem_cons.1 hj with q | q
            · rw [q]; exact ⟨hi, c.1⟩
            · have := h3 j q
              rw [rm_bit hl (by omega)] at this
              simp at this
              exact ⟨this.1, this.2.1⟩
          · rw [List.append_assoc] at h4; exact h4
        · rw [if_neg c] at hx
          cases hx
    · rintro ⟨s, rfl, h1, h2, h3, h4⟩
      cases s with
      | nil => left; rw [List.append_nil]
      | cons i s =>
        right
        have hi := h3 i (List.mem_cons_self)
        rw [List.nodup_cons] at h2
        have e : row ++ i :: s = (row ++ [i]) ++ s := by rw [List.append_assoc]; rfl
        rw [e] at h4 ⊢
        have o1 := ok_pre H _ _ h4
        have o2 := ((ok_snoc H row i).1 o1).2
        refine ⟨i, List.mem_range.2 hi.1, ?_⟩
        rw [if_pos ⟨hi.2, o2⟩]
        refine (ih (rd_rm left i) (row ++ [i]) _ (rm_64 hl) o1).2 ⟨s, rfl, ?_, h2.2, ?_, h4⟩
        · rw [List.length_cons] at h1; omega
        · intro j hj
          have := h3 j (List.mem_cons_of_mem _ hj)
          refine ⟨this.1, ?_⟩
          rw [rm_bit hl (by omega), this.2]
          simp
          intro q
          rw [q] at hj
          exact h2.1 hj
theorem dfs_pre (H : rd_HH) (nd : Nat) : ∀ (f left : Nat) (row x : List Nat), x ∈ rd_dfs H nd f left row → ∃ s, x = row ++ s := by
  intro f
  induction f with
  | zero =>
    intro left row x h
    have h : x ∈ [row] := h
    rw [List.mem_singleton] at h
    exact ⟨[], by rw [h, List.append_nil]⟩
  | succ f ih =>
    intro left row x h
    rw [dfs_s, List.mem_cons, List.mem_flatMap] at h
    rcases h with h | ⟨i, _, h⟩
    · exact ⟨[], by rw [h, List.append_nil]⟩
    · by_cases c : left.testBit i = true ∧ H.2.1 i (rd_sq H row) (rd_mn H row) ≠ -1
      · rw [if_pos c] at h
        obtain ⟨s, e⟩ := ih _ _ _ h
        exact ⟨[i] ++ s, by rw [e, List.append_assoc]⟩
      · rw [if_neg c] at h
        cases h
theorem dfs_ord (H : rd_HH) (nd : Nat) : ∀ (f left : Nat) (row : List Nat), (rd_dfs H nd f left row).Pairwise rd_ah := by
  intro f
  induction f with
  | zero => intro left row; exact List.pairwise_singleton _ _
  | succ f ih =>
    intro left row
    rw [dfs_s, List.pairwise_cons]
    refine ⟨?_, ?_⟩
    · intro x hx
      rw [List.mem_flatMap] at hx
      obtain ⟨i, _, hx⟩ := hx
      by_cases c : left.testBit i = true ∧ H.2.1 i (rd_sq H row) (rd_mn H row) ≠ -1
      · rw [if_pos c] at hx
        obtain ⟨s, e⟩ := dfs_pre H nd _ _ _ _ hx
        rw [e, List.append_assoc]
        have := ah_app row [] ([i] ++ s) trivial
        rw [List.append_nil] at this
        exact this
      · rw [if_neg c] at hx
        cases hx
    · rw [List.pairwise_flatMap]
      refine ⟨fun i _ => ?_, ?_⟩
      · by_cases c : left.testBit i = true ∧ H.2.1 i (rd_sq H row) (rd_mn H row) ≠ -1
        · rw [if_pos c]; exact ih _ _
        · rw [if_neg c]; exact List.Pairwise.nil
      · refine List.Pairwise.imp ?_ List.pairwise_lt_range
        intro i j hij x hx y hy
        by_cases c : left.testBit i = true ∧ H.2.1 i (rd_sq H row) (rd_mn H row) ≠ -1
        · rw [if_pos c] at hx
          by_cases c2 : left.testBit j = true ∧ H.2.1 j (rd_sq H row) (rd_mn H row) ≠ -1
          · rw [if_pos c2] at hy
            obtain ⟨s, e⟩ := dfs_pre H nd _ _ _ _ hx
            obtain ⟨s', e'⟩ := dfs_pre H nd _ _ _ _ hy
            rw [e, e', List.append_assoc, List.append_assoc]
            exact ah_app row _ _ (Or.inl hij)
          · rw [if_neg c2] at hy
            cases hy
        · rw [if_neg c] at hx
          cases hx
/-- rows without one twice, of deeds below nd, are no longer than nd -/
theorem nodup_len : ∀ (l1 l2 : List Nat), l1.Nodup → (∀ x, x ∈ l1 → x ∈ l2) → l1.length ≤ l2.length
  | [], _, _, _ => Nat.zero_le _
  | x :: l1, l2, h, hs => by
    rw [List.nodup_cons] at h
    obtain ⟨a, b, e⟩ := List.append_of_mem (hs x List.mem_cons_self)
    have := nodup_len l1 (a ++ b) h.2 (fun y hy => by
      have hy2 := hs y (List.mem_cons_of_mem _ hy)
      rw [e, List.mem_append, List.mem_cons] at hy2
      rw [List.mem_append]
      rcases hy2 with q | q | q
      · exact Or.inl q
      · rw [q] at hy; exact absurd hy h.1
      · exact Or.inr q)
    rw [e]
    simp only [List.length_append, List.length_cons] at this ⊢
    omega
theorem row_len {nd : Nat} {r : List Nat} (h : r.Nodup) (hr : ∀ i, i ∈ r → i < nd) : r.length ≤ nd := by
  have := nodup_len r (List.range nd) h (fun x hx => List.mem_range.2 (hr x hx))
  rw [List.length_range] at this
  exact this
/-- a row that can be: of open deeds, each once, each in time -/
def rd_v (H : rd_HH) (nd open_ : Nat) (r : List Nat) : Prop := r.Nodup ∧ (∀ i, i ∈ r → i < nd ∧ open_.testBit i = true) ∧ rd_ok H r
theorem dfs_v (H : rd_HH) {nd : Nat} (hn : nd ≤ 6) {o : Nat} (ho : o < 64) (x : List Nat) : x ∈ rd_dfs H nd 6 o [] ↔ rd_v H nd o x := by
  rw [dfs_mem H hn 6 o [] x ho (ok_nil H)]
  constructor
  · rintro ⟨s, rfl, h1, h2, h3, h4⟩
    exact ⟨h2, h3, h4⟩
  · rintro ⟨h2, h3, h4⟩
    have := row_len h2 (fun i hi => (h3 i hi).1)
    exact ⟨x, rfl, by omega, h2, h3, h4⟩
