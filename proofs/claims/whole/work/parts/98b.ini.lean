/-! the constructors: a run over rows as lists -/
abbrev li_s : Type := Int × List (List Int)
def li_Z : ab_M := fun _ _ => 0
def li_N (n : Nat) : ab_M := fun a b => if a = 999 ∧ b = 0 then (n : Int) else 0
def li_at (s : li_s) (k f : Nat) : Int := (s.2.getD k []).getD f 0
def li_set : List Int → Nat → Int → List Int
  | [], 0, v => [v]
  | [], n + 1, v => 0 :: li_set [] n v
  | _ :: l, 0, v => v :: l
  | x :: l, n + 1, v => x :: li_set l n v
theorem set_at : ∀ (l : List Int) (n : Nat) (v : Int) (j : Nat), (li_set l n v).getD j 0 = if j = n then v else l.getD j 0
  | [], 0, v, 0 => rfl
  | [], 0, v, j + 1 => rfl
  | [], n + 1, v, 0 => rfl
  | [], n + 1, v, j + 1 => by
    show (li_set [] n v).getD j 0 = _
    rw [set_at [] n v j]
    by_cases c : j = n
    · rw [if_pos c, if_pos (by omega)]
    · rw [if_neg c, if_neg (by omega)]; rfl
  | x :: l, 0, v, 0 => rfl
  | x :: l, 0, v, j + 1 => rfl
  | x :: l, n + 1, v, 0 => rfl
  | x :: l, n + 1, v, j + 1 => by
    show (li_set l n v).getD j 0 = _
    rw [set_at l n v j]
    by_cases c : j = n
    · rw [if_pos c, if_pos (by omega)]
    · rw [if_neg c, if_neg (by omega)]; rfl
def li_w (s : li_s) (k f : Nat) (v : Int) : li_s := (s.1, s.2.set k (li_set (s.2.getD k []) f v))
def li_row (n : Nat) : List Int := (ab_fts.getD (ab_kd n).1 []).map (fun x => if x = 2 then -1 else 0)
def li_mk (s : li_s) : li_s := (s.1 + (ab_kd s.2.length).2, s.2 ++ [li_row s.2.length])
def li_r2 (n0 n : Nat) : List (List Int) := (List.range n).map (fun y => ((n0 + 1 + y : Nat) : Int)) :: List.replicate n []
def li_mk2 (s : li_s) (n b : Nat) : li_s := (s.1 + n + n * b, s.2 ++ li_r2 s.2.length n)
/-- the memory that rows tell -/
def li_cv (s : li_s) (B : ab_M) : ab_M := fun a b => if a = 999 then (if b = 0 then (s.2.length : Int) else if b = 1 then s.1 else B 999 b) else if a < s.2.length then li_at s a b else B a b
theorem cv_n (s : li_s) (B : ab_M) : li_cv s B 999 0 = (s.2.length : Int) := by
  unfold li_cv
  rw [if_pos rfl, if_pos rfl]
theorem cv_nc (s : li_s) (B : ab_M) : ab_nc (li_cv s B) = s.2.length := by
  unfold ab_nc
  rw [cv_n]; rfl
theorem cv_r {s : li_s} {B : ab_M} (hs : s.2.length ≤ 900) {k : Nat} (hk : k < s.2.length) (f : Nat) : li_cv s B k f = li_at s k f := by
  unfold li_cv
  rw [if_neg (by omega), if_pos hk]
theorem cv_w {s : li_s} {B : ab_M} (hs : s.2.length ≤ 900) {k : Nat} (hk : k < s.2.length) (f : Nat) (v : Int) : ab_w (li_cv s B) k f v = li_cv (li_w s k f v) B := by
  funext a b
  have hl : (li_w s k f v).2.length = s.2.length := List.length_set
  unfold ab_w li_cv
  rw [hl]
  by_cases c9 : a = 999
  · rw [if_neg (by omega), if_pos c9, if_pos c9]; rfl
  · rw [if_neg c9, if_neg c9]
    by_cases ca : a < s.2.length
    · rw [if_pos ca, if_pos ca]
      show _ = ((s.2.set k (li_set (s.2.getD k []) f v)).getD a []).getD b 0
      by_cases ck : a = k
      · subst ck
        have e : (s.2.set a (li_set (s.2.getD a []) f v)).getD a [] = li_set (s.2.getD a []) f v := by
          simp [List.getD, ca]
        rw [e, set_at]
        by_cases cb : b = f
        · rw [if_pos ⟨rfl, cb⟩, if_pos cb]
        · rw [if_neg (fun z => cb z.2), if_neg cb]; rfl
      · have e : (s.2.set k (li_set (s.2.getD k []) f v)).getD a [] = s.2.getD a [] := by
          simp [List.getD, List.getElem?_set, Ne.symm ck]
        rw [e, if_neg (fun z => ck z.1)]; rfl
    · rw [if_neg ca, if_neg ca, if_neg (by omega)]
theorem row_at (n b : Nat) : (li_row n).getD b 0 = if ab_fty (ab_kd n).1 b = 2 then -1 else 0 := by
  unfold li_row ab_fty
  generalize ab_fts.getD (ab_kd n).1 [] = l
  induction l generalizing b with
  | nil => simp
  | cons x l ih =>
    cases b with
    | zero => simp
    | succ b => simpa using ih b
theorem app_at (R S : List (List Int)) (a : Nat) : (R ++ S).getD a [] = if a < R.length then R.getD a [] else S.getD (a - R.length) [] := by
  by_cases c : a < R.length
  · rw [if_pos c]; simp [List.getD, List.getElem?_append_left c]
  · rw [if_neg c]; simp [List.getD, List.getElem?_append_right (Nat.le_of_not_lt c)]
theorem cv_9 (s : li_s) (B : ab_M) (b : Nat) : li_cv s B 999 b = if b = 0 then (s.2.length : Int) else if b = 1 then s.1 else B 999 b := by
  unfold li_cv
  rw [if_pos rfl]
theorem cv_mk {s : li_s} {B : ab_M} (hs : s.2.length < 900) : ab_mk (li_cv s B) = li_cv (li_mk s) B := by
  funext a b
  have hl : (li_mk s).2.length = s.2.length + 1 := List.length_append
  unfold ab_mk
  rw [cv_nc]
  by_cases c : a = s.2.length
  · rw [if_pos c, cv_r (s := li_mk s) (by omega) (by omega)]
    show _ = ((s.2 ++ [li_row s.2.length]).getD a []).getD b 0
    rw [c, app_at, if_neg (Nat.lt_irrefl _), Nat.sub_self]
    show _ = (li_row s.2.length).getD b 0
    rw [row_at]
  · rw [if_neg c]
    by_cases c9 : a = 999
    · rw [if_pos c9, c9]
      rw [cv_9, cv_9, cv_9, cv_9, if_pos rfl, hl]
      by_cases b0 : b = 0
      · rw [if_pos b0, if_pos b0]; omega
      · rw [if_neg b0, if_neg b0, if_neg b0]
        by_cases b1 : b = 1
        · rw [if_pos b1, if_pos b1, if_neg (by decide), if_pos rfl]; rfl
        · rw [if_neg b1, if_neg b1, if_neg b1]
    · rw [if_neg c9]
      unfold li_cv
      rw [if_neg c9, if_neg c9, hl]
      by_cases ca : a < s.2.length
      · rw [if_pos ca, if_pos (by omega)]
        show _ = ((s.2 ++ [li_row s.2.length]).getD a []).getD b 0
        rw [app_at, if_pos ca]; rfl
      · rw [if_neg ca, if_neg (by omega)]
theorem r2_len (n0 n : Nat) : (li_r2 n0 n).length = n + 1 := by
  unfold li_r2
  simp
theorem cv_mk2 {s : li_s} {B : ab_M} {n b0 : Nat} (hs : s.2.length + n < 900) : ab_mk2 (li_cv s B) n b0 = li_cv (li_mk2 s n b0) B := by
  funext a b
  have hl : (li_mk2 s n b0).2.length = s.2.length + (n + 1) := by
    show (s.2 ++ li_r2 s.2.length n).length = _
    rw [List.length_append, r2_len]
  unfold ab_mk2
  rw [cv_nc]
  have rd : ∀ j : Nat, j < n + 1 → li_cv (li_mk2 s n b0) B (s.2.length + j) b = ((li_r2 s.2.length n).getD j []).getD b 0 := by
    intro j hj
    rw [cv_r (s := li_mk2 s n b0) (by omega) (by omega)]
    show ((s.2 ++ li_r2 s.2.length n).getD (s.2.length + j) []).getD b 0 = _
    rw [app_at, if_neg (by omega), Nat.add_sub_cancel_left]
  by_cases c : a = s.2.length
  · rw [if_pos c, c]
    have := rd 0 (by omega)
    rw [Nat.add_zero] at this
    rw [this]
    show _ = ((List.range n).map (fun y => ((s.2.length + 1 + y : Nat) : Int))).getD b 0
    by_cases cb : b < n
    · rw [if_pos cb]; simp [List.getD, cb]
    · rw [if_neg cb]; simp [List.getD, cb]
  · rw [if_neg c]
    by_cases c2 : s.2.length < a ∧ a ≤ s.2.length + n
    · rw [if_pos c2]
      have := rd (a - s.2.length) (by omega)
      rw [show s.2.length + (a - s.2.length) = a from by omega] at this
      rw [this]
      obtain ⟨j, ej⟩ : ∃ j, a - s.2.length = j + 1 := ⟨a - s.2.length - 1, by omega⟩
      rw [ej]
      show 0 = ((List.replicate n ([] : List Int)).getD j []).getD b 0
      have : (List.replicate n ([] : List Int)).getD j [] = [] := by
        simp only [List.getD, List.getElem?_replicate]
        split <;> rfl
      rw [this]; rfl
    · rw [if_neg c2]
      by_cases c9 : a = 999
      · rw [if_pos c9, c9]
        rw [cv_9, cv_9, cv_9, cv_9, if_pos rfl, hl]
        by_cases b0' : b = 0
        · rw [if_pos b0', if_pos b0']; omega
        · rw [if_neg b0', if_neg b0', if_neg b0']
          by_cases b1 : b = 1
          · rw [if_pos b1, if_pos b1, if_neg (by decide), if_pos rfl]; rfl
          · rw [if_neg b1, if_neg b1, if_neg b1]
      · rw [if_neg c9]
        unfold li_cv
        rw [if_neg c9, if_neg c9, hl]
        by_cases ca : a < s.2.length
        · rw [if_pos ca, if_pos (by omega)]
          show _ = ((s.2 ++ li_r2 s.2.length n).getD a []).getD b 0
          rw [app_at, if_pos ca]; rfl
        · rw [if_neg ca, if_neg (by omega)]
/-- instructions that leave the cells alone -/
def li_fr (i : Instr) : Bool := match i with
  | .iconst _ | .bipush _ | .sipush _ | .iload_n _ | .aload_n _ | .istore_n _ | .astore_n _ | .iinc _ _ | .iadd | .dup | .goto _ | .if_icmp _ _ | .invokespecial _ => true
  | _ => false
def li_to (M : ab_M) (u : Option ab_St) : Option ab_St := match u with
  | some u => some (u.1, u.2.1, u.2.2.1, M)
  | none => none
theorem fr_st {e : ab_E} {pc : Nat} {ls : ab_L} {st : List ab_V} (M M' : ab_M) (h : li_fr e.1 = true) : ab_st1 e pc ls st M = li_to M (ab_st1 e pc ls st M') := by
  obtain ⟨i, r⟩ := e
  cases i <;> first | (change false = true at h; cases h; done) | skip
  all_goals
    unfold ab_st1
    dsimp only
  all_goals first | rfl | (unfold ab_lda; split <;> first | rfl | (split <;> rfl)) | (unfold ab_sto; split <;> first | rfl | (split <;> rfl)) | (unfold ab_dup; split <;> first | rfl | (split <;> rfl)) | (unfold ab_i2; split <;> first | rfl | (split <;> rfl)) | (unfold ab_iinc; split <;> first | rfl | (split <;> rfl)) | (unfold ab_br2; split <;> rfl) | (unfold ab_oi; split <;> first | rfl | (split <;> rfl))
