section SO1
variable {p : Program} {l : Launch} {e : Env} {R : Room} {s : State} {m : MethodId} {args : Array Value} {below : List Frame} {meth : Method} {c : Code} {Q : State → Prop} {D : va_G} {I : ab_I4} {b0 : Nat} {sa : Nat → Nat} {L : Nat} {xs : Nat → Int32} {nL n0 s0 : Nat} {cc : ByteArray} {own : String} {pc : Nat} {ls : ab_L} {st : List ab_V} {M : ab_M}
theorem ab_lvm {lc : Array Slot} {n : Nat} {l1 l2 : List (Nat × Value)} (h : lv_has lc n l1) (hs : ∀ q, q ∈ l2 → q ∈ l1) : lv_has lc n l2 := ⟨h.1, h.2.1, fun q hq => h.2.2 q (hs q hq)⟩
theorem so_push {v : ab_V} {pc' : Nat} (hv : ab_vk v) (row : ∀ (H : Heap) (locs : List Loc) (cells slots : Nat) (lc : Array Slot) (rest : List Value), W p l e R s m args below meth c H locs cells slots Q (F0 m pc' lc (ab_cv b0 sa v :: rest)) → W p l e R s m args below meth c H locs cells slots Q (F0 m pc lc rest)) (k : ab_K p l e R s m args below meth c Q D I b0 sa L xs nL n0 s0 pc' ls (v :: st) M) : ab_K p l e R s m args below meth c Q D I b0 sa L xs nL n0 s0 pc ls st M := by
  intro H locs lc h
  obtain ⟨h1, h2, h3, h4⟩ := h
  exact row _ _ _ _ _ _ (k H locs lc ⟨h1, List.forall_mem_cons.mpr ⟨hv, h2⟩, h3, h4⟩)
theorem iv_lda {t len n : Nat} {u : ab_St} (hu : ab_lda t len n pc ls st M = some u) : ∃ v, ls.getD n none = some v ∧ ab_kv v = t ∧ u = (pc + len, ls, v :: st, M) := by
  unfold ab_lda at hu
  split at hu
  next v hv =>
    split at hu
    next ht => cases hu; exact ⟨v, hv, ht, rfl⟩
    next => cases hu
  next => cases hu
theorem so_lda {t len n : Nat} {u : ab_St} (hu : ab_lda t len n pc ls st M = some u) (row : ∀ v : ab_V, ab_kv v = t → ∀ (H : Heap) (locs : List Loc) (cells slots : Nat) (lc : Array Slot) (rest : List Value), lc[n]? = some (.val (ab_cv b0 sa v)) → W p l e R s m args below meth c H locs cells slots Q (F0 m (pc + len) lc (ab_cv b0 sa v :: rest)) → W p l e R s m args below meth c H locs cells slots Q (F0 m pc lc rest)) (k : ab_K p l e R s m args below meth c Q D I b0 sa L xs nL n0 s0 u.1 u.2.1 u.2.2.1 u.2.2.2) : ab_K p l e R s m args below meth c Q D I b0 sa L xs nL n0 s0 pc ls st M := by
  obtain ⟨v, hv, ht, rfl⟩ := iv_lda hu
  intro H locs lc h
  obtain ⟨h1, h2, h3, h4, h5, h6⟩ := h
  exact row v ht _ _ _ _ _ _ (ab_loc h3 hv) (k H locs lc ⟨h1, List.forall_mem_cons.mpr ⟨h5 v (List.mem_of_getElem? (ab_getD hv)), h2⟩, h3, h4, h5, h6⟩)
theorem iv_sto {t len n : Nat} {u : ab_St} (hu : ab_sto t len n pc ls st M = some u) : ∃ v r, st = v :: r ∧ ab_kv v = t ∧ n + ab_cat v ≤ ls.length ∧ u = (pc + len, ab_set ls n v, r, M) := by
  unfold ab_sto at hu
  split at hu
  next v r =>
    split at hu
    next ht => cases hu; exact ⟨v, r, rfl, ht.1, ht.2, rfl⟩
    next => cases hu
  next => cases hu
theorem so_sto {t len n : Nat} {u : ab_St} (hu : ab_sto t len n pc ls st M = some u) (row : ∀ v : ab_V, ab_kv v = t → ∀ (H : Heap) (locs : List Loc) (cells slots : Nat) (lc : Array Slot) (rest : List Value), lv_has lc nL (ab_as b0 sa 0 ls) → n + ab_cat v ≤ nL → (∀ lc' : Array Slot, lv_has lc' nL (ab_as b0 sa 0 (ab_set ls n v)) → W p l e R s m args below meth c H locs cells slots Q (F0 m (pc + len) lc' rest)) → W p l e R s m args below meth c H locs cells slots Q (F0 m pc lc (ab_cv b0 sa v :: rest))) (k : ab_K p l e R s m args below meth c Q D I b0 sa L xs nL n0 s0 u.1 u.2.1 u.2.2.1 u.2.2.2) : ab_K p l e R s m args below meth c Q D I b0 sa L xs nL n0 s0 pc ls st M := by
  obtain ⟨v, r, rfl, ht, hn, rfl⟩ := iv_sto hu
  intro H locs lc h
  obtain ⟨h1, h2, h3, h4, h5, h6⟩ := h
  obtain ⟨hv, h2⟩ := List.forall_mem_cons.mp h2
  refine row v ht _ _ _ _ _ _ h3 (h4 ▸ hn) (fun lc' h3' => k H locs lc' ⟨h1, h2, h3', (ab_set_len ls n v).trans h4, fun w hw => ?_, h6⟩)
  rcases ab_set_mem hw with rfl | hw
  · exact hv
  · exact h5 w hw
theorem iv_i2 {f : Int → Int → Option Int} {u : ab_St} (hu : ab_i2 f pc ls st M = some u) : ∃ x y z r, st = .inl y :: .inl x :: r ∧ f x y = some z ∧ u = (pc + 1, ls, .inl z :: r, M) := by
  unfold ab_i2 at hu
  split at hu
  next y x r =>
    split at hu
    next z hz => cases hu; exact ⟨x, y, z, r, rfl, hz, rfl⟩
    next => cases hu
  next => cases hu
theorem so_i2 {f : Int → Int → Option Int} {u : ab_St} (hu : ab_i2 f pc ls st M = some u) (row : ∀ x y z : Int, ab_rg x → ab_rg y → f x y = some z → ab_rg z ∧ ∀ (H : Heap) (locs : List Loc) (cells slots : Nat) (lc : Array Slot) (rest : List Value), W p l e R s m args below meth c H locs cells slots Q (F0 m (pc + 1) lc (.int (Int32.ofInt z) :: rest)) → W p l e R s m args below meth c H locs cells slots Q (F0 m pc lc (.int (Int32.ofInt y) :: .int (Int32.ofInt x) :: rest))) (k : ab_K p l e R s m args below meth c Q D I b0 sa L xs nL n0 s0 u.1 u.2.1 u.2.2.1 u.2.2.2) : ab_K p l e R s m args below meth c Q D I b0 sa L xs nL n0 s0 pc ls st M := by
  obtain ⟨x, y, z, r, rfl, hz, rfl⟩ := iv_i2 hu
  intro H locs lc h
  obtain ⟨h1, h2, h3⟩ := h
  obtain ⟨hy, h2⟩ := List.forall_mem_cons.mp h2
  obtain ⟨hx, h2⟩ := List.forall_mem_cons.mp h2
  obtain ⟨hz', hr⟩ := row x y z hx hy hz
  exact hr _ _ _ _ _ _ (k H locs lc ⟨h1, List.forall_mem_cons.mpr ⟨hz', h2⟩, h3⟩)
theorem iv_l2 {f : Int → Int → Option Int} {u : ab_St} (hu : ab_l2 f pc ls st M = some u) : ∃ x y z r, st = .inr (.inl y) :: .inr (.inl x) :: r ∧ f x y = some z ∧ u = (pc + 1, ls, .inr (.inl z) :: r, M) := by
  unfold ab_l2 at hu
  split at hu
  next y x r =>
    split at hu
    next z hz => cases hu; exact ⟨x, y, z, r, rfl, hz, rfl⟩
    next => cases hu
  next => cases hu
theorem so_l2 {f : Int → Int → Option Int} {u : ab_St} (hu : ab_l2 f pc ls st M = some u) (row : ∀ x y z : Int, ab_rl x → ab_rl y → f x y = some z → ab_rl z ∧ ∀ (H : Heap) (locs : List Loc) (cells slots : Nat) (lc : Array Slot) (rest : List Value), W p l e R s m args below meth c H locs cells slots Q (F0 m (pc + 1) lc (.long (Int64.ofInt z) :: rest)) → W p l e R s m args below meth c H locs cells slots Q (F0 m pc lc (.long (Int64.ofInt y) :: .long (Int64.ofInt x) :: rest))) (k : ab_K p l e R s m args below meth c Q D I b0 sa L xs nL n0 s0 u.1 u.2.1 u.2.2.1 u.2.2.2) : ab_K p l e R s m args below meth c Q D I b0 sa L xs nL n0 s0 pc ls st M := by
  obtain ⟨x, y, z, r, rfl, hz, rfl⟩ := iv_l2 hu
  intro H locs lc h
  obtain ⟨h1, h2, h3⟩ := h
  obtain ⟨hy, h2⟩ := List.forall_mem_cons.mp h2
  obtain ⟨hx, h2⟩ := List.forall_mem_cons.mp h2
  obtain ⟨hz', hr⟩ := row x y z hx hy hz
  exact hr _ _ _ _ _ _ (k H locs lc ⟨h1, List.forall_mem_cons.mpr ⟨hz', h2⟩, h3⟩)
theorem ab_cki {x z : Int} (h : ab_ck x = some z) : ab_rg x ∧ z = x := by
  unfold ab_ck at h
  split at h
  next hr => cases h; exact ⟨hr, rfl⟩
  next => cases h
theorem ab_cli {x z : Int} (h : ab_cl x = some z) : ab_rl x ∧ z = x := by
  unfold ab_cl at h
  split at h
  next hr => cases h; exact ⟨hr, rfl⟩
  next => cases h
theorem ab_divi {x y z : Int} (h : ab_div x y = some z) : y ≠ 0 ∧ ab_rg z ∧ z = x.tdiv y := by
  unfold ab_div at h
  split at h
  next => cases h
  next hy => obtain ⟨h1, rfl⟩ := ab_cki h; exact ⟨hy, h1, rfl⟩
theorem ab_remi {x y z : Int} (h : ab_rem x y = some z) : y ≠ 0 ∧ ab_rg (x.tdiv y) ∧ z = x - x.tdiv y * y := by
  unfold ab_rem at h
  split at h
  next => cases h
  next hy =>
    cases h
    by_cases h0 : y = 0
    · exact absurd (Or.inl h0) hy
    · by_cases h1 : ab_rg (x.tdiv y)
      · exact ⟨h0, h1, rfl⟩
      · exact absurd (Or.inr h1) hy
theorem ab_div32 {x y : Int} (hx : ab_rg x) (hy : ab_rg y) : Int32.ofInt x / Int32.ofInt y = Int32.ofInt (x.tdiv y) := by
  rw [Int32.ofInt_tdiv (by exact hx.1) (by exact hx.2) (by exact hy.1) (by exact hy.2)]
theorem ab_div64 {x y : Int} (hx : ab_rl x) (hy : ab_rl y) : Int64.ofInt x / Int64.ofInt y = Int64.ofInt (x.tdiv y) := by
  rw [Int64.ofInt_tdiv (by exact hx.1) (by exact hx.2) (by exact hy.1) (by exact hy.2)]
theorem ab_rem32 {x y : Int} (hx : ab_rg x) (hy : ab_rg y) (h0 : y ≠ 0) : ab_rg (x - x.tdiv y * y) := by
  have h1 : x - x.tdiv y * y = x.tmod y := by
    have := Int.tmod_add_mul_tdiv x y
    rw [Int.mul_comm] at this
    omega
  rw [h1]
  have h2 := Int.lt_tmod_of_pos
  obtain ⟨a1, a2⟩ := hx
  rcases Int.le_total 0 x with hp | hp
  · have b1 := Int.tmod_nonneg y hp
    have b2 : x.tmod y ≤ x := by
      have := Int.tmod_add_mul_tdiv x y
      have b3 : 0 ≤ y * x.tdiv y := by
        rcases Int.le_total 0 y with hy0 | hy0
        · exact Int.mul_nonneg hy0 (Int.tdiv_nonneg hp hy0)
        · exact Int.mul_nonneg_of_nonpos_of_nonpos hy0 (Int.tdiv_nonpos_of_nonneg_of_nonpos hp hy0)
      omega
    exact ⟨by omega, by omega⟩
  · have b1 : x.tmod y ≤ 0 := by
      have := Int.tmod_nonneg y (show 0 ≤ -x by omega)
      rw [Int.neg_tmod] at this
      omega
    have b2 : x ≤ x.tmod y := by
      have := Int.tmod_add_mul_tdiv x y
      have b3 : 0 ≤ y * (-x).tdiv y := by
        rcases Int.le_total 0 y with hy0 | hy0
        · exact Int.mul_nonneg hy0 (Int.tdiv_nonneg (by omega) hy0)
        · exact Int.mul_nonneg_of_nonpos_of_nonpos hy0 (Int.tdiv_nonpos_of_nonneg_of_nonpos (by omega) hy0)
      rw [Int.neg_tdiv, Int.mul_neg] at b3
      omega
    exact ⟨by omega, by omega⟩
end SO1
