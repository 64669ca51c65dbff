/-! HOW THE ABSTRACT MACHINE'S CELLS LIE IN THE HEAP: cell k at b0 + k; what was there before (1000 and on) at addresses 'sa' -/
abbrev ab_I4 : Type := ClassId × (ClassId × (ClassId × ClassId))
def ab_tys (I : ab_I4) : List (ClassId × FieldType) := [(I.1, .int), (I.2.1, .boolean), (I.2.2.1, .char), (I.2.2.2, .array .int)]
def ab_fv (b0 ty : Nat) (x : Int) : Value := if ty = 2 then (if x < 0 then .null else .ref (b0 + x.toNat)) else .int (Int32.ofInt x)
def ab_fs (b0 : Nat) (M : ab_M) (k : Nat) : List Value := (List.range (ab_kd k).2).map fun f => ab_fv b0 (ab_fty (ab_kd k).1 f) (M k f)
def ab_gr (b0 : Nat) (M : ab_M) (k : Nat) : Nat → Option Nat := fun j => if M k j < 0 then none else some (b0 + (M k j).toNat)
def ab_is (M : ab_M) (k : Nat) : Nat → Int32 := fun j => Int32.ofInt (M k j)
def ab_ce (I : ab_I4) (b0 : Nat) (M : ab_M) (k : Nat) : va_E :=
  if (ab_kd k).1 = 20 then .inl (I.1, (ab_kd k).2, .inl (ab_is M k))
  else if (ab_kd k).1 = 21 then .inl (I.2.1, (ab_kd k).2, .inl (ab_is M k))
  else if (ab_kd k).1 = 22 then .inl (I.2.2.1, (ab_kd k).2, .inl (ab_is M k))
  else if (ab_kd k).1 = 24 then .inl (I.2.2.2, (ab_kd k).2, .inr (.inr (.inr (.inr (ab_gr b0 M k)))))
  else .inr ((ab_kd k).1, ab_fs b0 M k)
def ab_ws (I : ab_I4) (b0 n : Nat) (M : ab_M) : va_W := (List.range n).map fun k => (b0 + k, ab_ce I b0 M k)
def ab_ad (b0 : Nat) (sa : Nat → Nat) (k : Nat) : Nat := if k < 1000 then b0 + k else sa k
def ab_cv (b0 : Nat) (sa : Nat → Nat) : ab_V → Value
  | .inl x => .int (Int32.ofInt x)
  | .inr (.inl x) => .long (Int64.ofInt x)
  | .inr (.inr k) => .ref (ab_ad b0 sa k)
def ab_vk : ab_V → Prop
  | .inl x => ab_rg x
  | .inr (.inl x) => ab_rl x
  | .inr (.inr _) => True
def ab_mok (L : Nat) (xs : Nat → Int32) (M : ab_M) : Prop := (∀ k j, k ≠ 999 → ab_rg (M k j)) ∧ 0 ≤ M 999 0 ∧ M 999 0 ≤ 995 ∧ 0 ≤ M 999 1 ∧ M 999 2 = L ∧ L ≤ 320 ∧ ∀ j, j < L → M 1000 j = (xs j).toInt
def ab_as (b0 : Nat) (sa : Nat → Nat) : Nat → ab_L → List (Nat × Value)
  | _, [] => []
  | i, none :: t => ab_as b0 sa (i + 1) t
  | i, some v :: t => (i, ab_cv b0 sa v) :: ab_as b0 sa (i + 1) t
/-- what was there before, and the words that no method's own list may hold -/
def ab_nwd : List Cond := [.declares ⟨"LoneAdjective$Rounds", "meet", "(LLoneAdjective$Town;II)V"⟩, .methodLinkNest "LoneAdjective" 9 ⟨"LoneAdjective$Reader", "<init>", "()V"⟩ "LoneAdjective", .methodLinkNest "LoneAdjective" 45 ⟨"LoneAdjective$Diary", "<init>", "()V"⟩ "LoneAdjective", .methodLinkNest "LoneAdjective" 52 ⟨"LoneAdjective$BestRound", "<init>", "()V"⟩ "LoneAdjective", .methodLinkNest "LoneAdjective$BestRound" 3 ⟨"LoneAdjective$Rounds", "<init>", "()V"⟩ "LoneAdjective", .methodLinkNest "LoneAdjective" 59 ⟨"LoneAdjective$DoneSets", "<init>", "()V"⟩ "LoneAdjective", .methodLinkNest "LoneAdjective$DoneSets" 3 ⟨"LoneAdjective$Rounds", "<init>", "()V"⟩ "LoneAdjective", .methodLinkNest "LoneAdjective" 69 ⟨"LoneAdjective$Days", "<init>", "()V"⟩ "LoneAdjective", .methodLinkNest "LoneAdjective$Days" 3 ⟨"LoneAdjective$Rounds", "<init>", "()V"⟩ "LoneAdjective", .methodLinkNest "LoneAdjective" 76 ⟨"LoneAdjective$Chains", "<init>", "()V"⟩ "LoneAdjective", .methodLinkNest "LoneAdjective" 83 ⟨"LoneAdjective$Chase", "<init>", "()V"⟩ "LoneAdjective"]
def ab_A (b0 : Nat) : Nat → Prop := fun q => b0 ≤ q
def ab_si (k : Nat) : Nat → Value := fun j => .int (Int32.ofInt ((ab_stt k).getD j 0))
def ab_G (b0 : Nat) (sa : Nat → Nat) (L : Nat) (xs : Nat → Int32) (s : State) : Prop :=
  (va_X (sa 1000) L xs s s.heap ∧ sa 1000 < s.heap.size ∧ sa 1000 < b0) ∧
  (va_T .int (sa 1001) 7 (ab_si 1001) (ab_A b0) s s.heap ∧ va_T .int (sa 1002) 7 (ab_si 1002) (ab_A b0) s s.heap ∧ va_T .int (sa 1003) 4 (ab_si 1003) (ab_A b0) s s.heap) ∧
  (va_Z "LoneAdjective$Reader" "NUMBERS" "[I" (.ref (sa 1001)) (ab_A b0) s s.heap ∧ va_Z "LoneAdjective$Reader" "MOST" "[I" (.ref (sa 1002)) (ab_A b0) s s.heap ∧ va_Z "LoneAdjective$Reader" "DEED_BOUNDS" "[I" (.ref (sa 1003)) (ab_A b0) s s.heap ∧ va_Z "java/lang/String" "COMPACT_STRINGS" "Z" (.int 1) (ab_A b0) s s.heap) ∧
  (vk_R "LoneAdjective$Reader" 50 "twpdrqo" (sa 1004) s ∧ vk_S 1 [7] [[116, 119, 112, 100, 114, 113, 111]] (fun _ => sa 1004) (fun _ => sa 1005) (ab_A b0) s s.heap) ∧
  (∀ w ∈ ab_nwd, va_Nw w s) ∧ (Cond.arrayOver (.array .int)).before #[] s = true
def ab_nw (s : State) (D : va_G) (I : ab_I4) (b0 : Nat) (sa : Nat → Nat) (L : Nat) (xs : Nat → Int32) (nL n0 s0 : Nat) (ls : ab_L) (st : List ab_V) (M : ab_M) (H : Heap) (locs : List Loc) (lc : Array Slot) : Prop :=
  ab_mok L xs M ∧ (∀ v ∈ st, ab_vk v) ∧ lv_has lc nL (ab_as b0 sa 0 ls) ∧ ls.length = nL ∧ (∀ v, some v ∈ ls → ab_vk v) ∧ va_P D vwCl (ab_ws I b0 (ab_nc M) M) H ∧ va_S (ab_A b0) s.heap H locs ∧ n0 ≤ ab_nc M ∧ s0 ≤ (M 999 1).toNat
/-- from here on the machine comes to Q -/
def ab_K (p : Program) (l : Launch) (e : Env) (R : Room) (s : State) (m : MethodId) (args : Array Value) (below : List Frame) (meth : Method) (c : Code) (Q : State → Prop) (D : va_G) (I : ab_I4) (b0 : Nat) (sa : Nat → Nat) (L : Nat) (xs : Nat → Int32) (nL n0 s0 : Nat) (pc : Nat) (ls : ab_L) (st : List ab_V) (M : ab_M) : Prop :=
  ∀ (H : Heap) (locs : List Loc) (lc : Array Slot), ab_nw s D I b0 sa L xs nL n0 s0 ls st M H locs lc → W p l e R s m args below meth c H locs (ab_nc M - n0) ((M 999 1).toNat - s0) Q (F0 m pc lc (st.map (ab_cv b0 sa)))
/-- what a method's body stands on -/
def ab_cx (p : Program) (s : State) (m : MethodId) (args : Array Value) (c : Code) (D : va_G) (I : ab_I4) (b0 : Nat) (sa : Nat → Nat) (L : Nat) (xs : Nat → Int32) (nL n0 : Nat) (cc : ByteArray) (own : String) : Prop :=
  p.tables.exec = Jvm.exec ∧ c.code = cc ∧ c.maxLocals = nL ∧ s.vm.findClass own = some m.cls ∧ (∀ w ∈ ab_tb, w.before args s = true) ∧ va_K D vwCl (ab_tys I) s ∧ ab_G b0 sa L xs s ∧ s.heap.size = b0 + n0
theorem ab_i32 {x : Int} (h : ab_rg x) : (Int32.ofInt x).toInt = x := Int32.toInt_ofInt_of_le (Int.le_trans (by decide) h.1) (Int.lt_of_le_of_lt h.2 (by decide))
theorem ab_i64 {x : Int} (h : ab_rl x) : (Int64.ofInt x).toInt = x := Int64.toInt_ofInt_of_le (Int.le_trans (by decide) h.1) (Int.lt_of_le_of_lt h.2 (by decide))
theorem ab_rgz (z : Int32) : ab_rg z.toInt := ⟨Int.le_trans (by decide) z.le_toInt, Int.le_of_lt_add_one (Int.lt_of_lt_of_le z.toInt_lt (by decide))⟩
theorem ab_rlz (z : Int64) : ab_rl z.toInt := ⟨Int.le_trans (by decide) z.le_toInt, Int.le_of_lt_add_one (Int.lt_of_lt_of_le z.toInt_lt (by decide))⟩
theorem ab_eq32 {x y : Int} (hx : ab_rg x) (hy : ab_rg y) : Int32.ofInt x = Int32.ofInt y ↔ x = y := by
  rw [← Int32.toInt_inj, ab_i32 hx, ab_i32 hy]
theorem ab_lt32 {x y : Int} (hx : ab_rg x) (hy : ab_rg y) : Int32.ofInt x < Int32.ofInt y ↔ x < y := by
  rw [Int32.lt_iff_toInt_lt, ab_i32 hx, ab_i32 hy]
theorem ab_le32 {x y : Int} (hx : ab_rg x) (hy : ab_rg y) : Int32.ofInt x ≤ Int32.ofInt y ↔ x ≤ y := by
  rw [Int32.le_iff_toInt_le, ab_i32 hx, ab_i32 hy]
theorem ab_cl32 {x : Int} (hx : ab_rg x) : (Int32.ofInt x).toNatClampNeg = x.toNat := by
  show (Int32.ofInt x).toInt.toNat = _
  rw [ab_i32 hx]
theorem ab_in32 {x : Int} {n : Nat} (hx : ab_rg x) (h0 : 0 ≤ x) (h1 : x < n) : vp_in (Int32.ofInt x) n := by
  rw [vp_in_iff, ab_i32 hx]
  exact ⟨h0, h1⟩
theorem ab_rg0 : ab_rg 0 := by decide
theorem ab_as_mem (b0 : Nat) (sa : Nat → Nat) : ∀ (ls : ab_L) (i : Nat) (q : Nat × Value), q ∈ ab_as b0 sa i ls ↔ ∃ (j : Nat) (v : ab_V), ls[j]? = some (some v) ∧ q = (i + j, ab_cv b0 sa v) := by
  intro ls
  induction ls with
  | nil => intro i q; simp [ab_as]
  | cons x t ih =>
    intro i q
    cases x with
    | none =>
      simp only [ab_as, ih]
      constructor
      · rintro ⟨j, v, h1, h2⟩
        exact ⟨j + 1, v, by simpa using h1, by rw [h2]; congr 1; omega⟩
      · rintro ⟨j, v, h1, h2⟩
        cases j with
        | zero => simp at h1
        | succ j => exact ⟨j, v, by simpa using h1, by rw [h2]; congr 1; omega⟩
    | some w =>
      simp only [ab_as, List.mem_cons, ih]
      constructor
      · rintro (h | ⟨j, v, h1, h2⟩)
        · exact ⟨0, w, by simp, by simpa using h⟩
        · exact ⟨j + 1, v, by simpa using h1, by rw [h2]; congr 1; omega⟩
      · rintro ⟨j, v, h1, h2⟩
        cases j with
        | zero => left; simp at h1; subst h1; simpa using h2
        | succ j => right; exact ⟨j, v, by simpa using h1, by rw [h2]; congr 1; omega⟩
theorem ab_getD {ls : ab_L} {n : Nat} {v : ab_V} (h : ls.getD n none = some v) : ls[n]? = some (some v) := by
  rw [List.getD_eq_getElem?_getD] at h
  cases hq : ls[n]? with
  | none => rw [hq] at h; cases h
  | some w => rw [hq] at h; simp at h; rw [h]
theorem ab_loc {b0 : Nat} {sa : Nat → Nat} {lc : Array Slot} {nL n : Nat} {ls : ab_L} {v : ab_V} (h : lv_has lc nL (ab_as b0 sa 0 ls)) (hg : ls.getD n none = some v) : lc[n]? = some (.val (ab_cv b0 sa v)) :=
  h.2.2 (n, ab_cv b0 sa v) ((ab_as_mem b0 sa ls 0 (n, ab_cv b0 sa v)).mpr ⟨n, v, ab_getD hg, by rw [Nat.zero_add]⟩)
theorem ab_cat_cv (b0 : Nat) (sa : Nat → Nat) (v : ab_V) : (ab_cv b0 sa v).category = ab_cat v := by
  rcases v with x | x | x <;> rfl
theorem ab_kl_get (ls : ab_L) (n j : Nat) : (ab_kl ls n)[j]? = some none ∨ ((ab_kl ls n)[j]? = ls[j]? ∧ ∀ x : Int, j + 1 = n → ls[j]? ≠ some (some (.inr (.inl x)))) := by
  cases n with
  | zero => exact Or.inr ⟨rfl, fun x h => by omega⟩
  | succ i =>
    by_cases hj : j = i
    · subst hj
      unfold ab_kl
      dsimp only
      cases hq : ls[j]? with
      | none =>
        have : ls.getD j none = none := by rw [List.getD_eq_getElem?_getD, hq]; rfl
        rw [this]
        exact Or.inr ⟨hq, fun x _ h => by cases h⟩
      | some w =>
        have hw : ls.getD j none = w := by rw [List.getD_eq_getElem?_getD, hq]; rfl
        rw [hw]
        have hlt : j < ls.length := (List.getElem?_eq_some_iff.mp hq).1
        rcases w with _ | x | x | x
        · exact Or.inl hq
        · exact Or.inr ⟨hq, fun y _ h => by cases h⟩
        · exact Or.inl (by dsimp only; rw [List.getElem?_set_self hlt])
        · exact Or.inr ⟨hq, fun y _ h => by cases h⟩
    · refine Or.inr ⟨?_, fun x h => by omega⟩
      unfold ab_kl
      dsimp only
      split
      · rw [List.getElem?_set_ne (by omega)]
      · rfl
theorem ab_kl_len (ls : ab_L) (n : Nat) : (ab_kl ls n).length = ls.length := by
  cases n with
  | zero => rfl
  | succ i =>
    unfold ab_kl
    dsimp only
    split
    · simp
    · rfl
theorem ab_set_len (ls : ab_L) (n : Nat) (v : ab_V) : (ab_set ls n v).length = ls.length := by
  rcases v with x | x | x <;> simp [ab_set, ab_kl_len]
theorem ab_set_mem {ls : ab_L} {n : Nat} {v w : ab_V} (h : some w ∈ ab_set ls n v) : w = v ∨ some w ∈ ls := by
  obtain ⟨j, hj⟩ := List.getElem?_of_mem h
  have key : ∀ L1 : ab_L, (∀ i : Nat, L1[i]? = some none ∨ L1[i]? = (ab_kl ls n)[i]? ∨ L1[i]? = some (some v)) → L1[j]? = some (some w) → w = v ∨ some w ∈ ls := by
    intro L1 h1 h2
    rcases h1 j with h3 | h3 | h3
    · rw [h3] at h2; cases h2
    · rw [h3] at h2
      rcases ab_kl_get ls n j with h4 | h4
      · rw [h4] at h2; cases h2
      · rw [h4.1] at h2; exact Or.inr (List.mem_of_getElem? h2)
    · rw [h3] at h2; cases h2; exact Or.inl rfl
  have s1 : ∀ (L0 : ab_L) (i k : Nat) (x : Option ab_V), (L0.set k x)[i]? = L0[i]? ∨ (L0.set k x)[i]? = some x := by
    intro L0 i k x
    by_cases hik : k = i
    · subst hik
      by_cases hl : k < L0.length
      · right; rw [List.getElem?_set_self hl]
      · left; rw [List.set_eq_of_length_le (by omega)]
    · left; rw [List.getElem?_set_ne hik]
  rcases v with x | x | x
  · refine key _ (fun i => ?_) hj
    rcases s1 (ab_kl ls n) i n (some (.inl x)) with h1 | h1
    · exact Or.inr (Or.inl h1)
    · exact Or.inr (Or.inr h1)
  · refine key _ (fun i => ?_) hj
    rcases s1 ((ab_kl ls n).set n (some (.inr (.inl x)))) i (n + 1) none with h1 | h1
    · rcases s1 (ab_kl ls n) i n (some (.inr (.inl x))) with h2 | h2
      · exact Or.inr (Or.inl (h1.trans h2))
      · exact Or.inr (Or.inr (h1.trans h2))
    · exact Or.inl h1
  · refine key _ (fun i => ?_) hj
    rcases s1 (ab_kl ls n) i n (some (.inr (.inr x))) with h1 | h1
    · exact Or.inr (Or.inl h1)
    · exact Or.inr (Or.inr h1)
theorem ab_set1_sub {b0 : Nat} {sa : Nat → Nat} {ls : ab_L} {n : Nat} {v : ab_V} (hc : ab_cat v = 1) {q : Nat × Value} (h : q ∈ ab_as b0 sa 0 (ab_set ls n v)) : q ∈ (n, ab_cv b0 sa v) :: (ab_as b0 sa 0 ls).filter (fun q => !(q.1 == n) && !(q.1 + 1 == n && q.2.category == 2)) := by
  obtain ⟨j, w, hj, rfl⟩ := (ab_as_mem b0 sa _ 0 q).mp h
  have he : ab_set ls n v = (ab_kl ls n).set n (some v) := by
    rcases v with x | x | x
    · rfl
    · cases hc
    · rfl
  rw [he] at hj
  simp only [Nat.zero_add]
  by_cases hjn : j = n
  · subst hjn
    have hl : j < (ab_kl ls j).length := by
      have := (List.getElem?_eq_some_iff.mp hj).1
      simpa using this
    rw [List.getElem?_set_self hl] at hj
    cases hj
    exact List.mem_cons_self
  · rw [List.getElem?_set_ne (by omega)] at hj
    rcases ab_kl_get ls n j with h4 | ⟨h4, h5⟩
    · rw [h4] at hj; cases hj
    · rw [h4] at hj
      refine List.mem_cons_of_mem _ (List.mem_filter.mpr ⟨(ab_as_mem b0 sa ls 0 (j, ab_cv b0 sa w)).mpr ⟨j, w, hj, by rw [Nat.zero_add]⟩, ?_⟩)
      have h6 : (j == n) = false := by simpa using hjn
      simp only [h6, Bool.not_false, Bool.true_and, Bool.not_eq_true', Bool.and_eq_false_iff]
      by_cases hj1 : j + 1 = n
      · right
        rcases w with x | x | x
        · rfl
        · exact absurd hj (h5 x hj1)
        · rfl
      · left
        simpa using hj1
theorem ab_set2_sub {b0 : Nat} {sa : Nat → Nat} {ls : ab_L} {n : Nat} {x : Int} {q : Nat × Value} (h : q ∈ ab_as b0 sa 0 (ab_set ls n (.inr (.inl x)))) : q ∈ (n, ab_cv b0 sa (.inr (.inl x))) :: (ab_as b0 sa 0 ls).filter (fun q => !(q.1 == n) && (!(q.1 == n + 1) && !(q.1 + 1 == n && q.2.category == 2))) := by
  obtain ⟨j, w, hj, rfl⟩ := (ab_as_mem b0 sa _ 0 q).mp h
  have he : ab_set ls n (.inr (.inl x)) = ((ab_kl ls n).set n (some (.inr (.inl x)))).set (n + 1) none := rfl
  rw [he] at hj
  simp only [Nat.zero_add]
  by_cases hj2 : j = n + 1
  · subst hj2
    have hl : n + 1 < ((ab_kl ls n).set n (some (.inr (.inl x)))).length := by
      have := (List.getElem?_eq_some_iff.mp hj).1
      simpa using this
    rw [List.getElem?_set_self hl] at hj
    cases hj
  rw [List.getElem?_set_ne (by omega)] at hj
  by_cases hjn : j = n
  · subst hjn
    have hl : j < (ab_kl ls j).length := by
      have := (List.getElem?_eq_some_iff.mp hj).1
      simpa using this
    rw [List.getElem?_set_self hl] at hj
    cases hj
    exact List.mem_cons_self
  · rw [List.getElem?_set_ne (by omega)] at hj
    rcases ab_kl_get ls n j with h4 | ⟨h4, h5⟩
    · rw [h4] at hj; cases hj
    · rw [h4] at hj
      refine List.mem_cons_of_mem _ (List.mem_filter.mpr ⟨(ab_as_mem b0 sa ls 0 (j, ab_cv b0 sa w)).mpr ⟨j, w, hj, by rw [Nat.zero_add]⟩, ?_⟩)
      have h6 : (j == n) = false := by simpa using hjn
      have h7 : (j == n + 1) = false := by simpa using hj2
      simp only [h6, h7, Bool.not_false, Bool.true_and, Bool.not_eq_true', Bool.and_eq_false_iff]
      by_cases hj1 : j + 1 = n
      · right
        rcases w with x | x | x
        · rfl
        · exact absurd hj (h5 x hj1)
        · rfl
      · left
        simpa using hj1
