/-! THE PURE SIDE: what must hold that an abstract run answers with Q -/
theorem ab_run_up : ∀ (n d m pc : Nat) (ls : ab_L) (st : List ab_V) (M : ab_M) (z : Option ab_V × ab_M), ab_run n d m pc ls st M = some z → ∀ n' d', n ≤ n' → d ≤ d' → ab_run n' d' m pc ls st M = some z := by
  intro n
  induction n with
  | zero => intro d m pc ls st M z h; cases h
  | succ n ih =>
    intro d m pc ls st M z h n' d' hn hd
    obtain ⟨k, rfl⟩ : ∃ k, n' = k + 1 := ⟨n' - 1, by omega⟩
    rw [ab_run] at h ⊢
    cases hat : ab_at m pc with
    | none => rw [hat] at h; cases h
    | some e =>
      rw [hat] at h
      dsimp only at h ⊢
      split at h
      next h0 =>
        cases hu : ab_st1 e pc ls st M with
        | none => rw [hu] at h; cases h
        | some u =>
          rw [hu] at h
          exact ih _ _ _ _ _ _ _ h k d' (by omega) hd
      next h1 =>
        cases d with
        | zero => cases h
        | succ d0 =>
          obtain ⟨j, rfl⟩ : ∃ j, d' = j + 1 := ⟨d' - 1, by omega⟩
          dsimp only at h ⊢
          cases hq : ab_args e st M with
          | none => rw [hq] at h; cases h
          | some q =>
            rw [hq] at h
            dsimp only at h ⊢
            cases hw : ab_run n d0 q.1 0 (ab_ent q.2.1 (ab_mx q.1)) [] M with
            | none => rw [hw] at h; cases h
            | some w =>
              rw [hw] at h
              rw [ih _ _ _ _ _ _ _ hw k j (by omega) (by omega)]
              exact ih _ _ _ _ _ _ _ h k (j + 1) (by omega) (by omega)
      next h2 =>
        exact h
      next => cases h
def ab_wp (d m pc : Nat) (ls : ab_L) (st : List ab_V) (M : ab_M) (Q : Option ab_V → ab_M → Prop) : Prop := ∃ n z, ab_run n d m pc ls st M = some z ∧ Q z.1 z.2
def ab_ev (d m : Nat) (as : List ab_V) (M : ab_M) (r : Option ab_V) (M' : ab_M) : Prop := ∃ n, ab_run n d m 0 (ab_ent as (ab_mx m)) [] M = some (r, M')
section WP
variable {d m pc : Nat} {ls : ab_L} {st : List ab_V} {M : ab_M} {Q : Option ab_V → ab_M → Prop}
theorem wp_st {e : ab_E} {u : ab_St} (hat : ab_at m pc = some e) (hk : e.2.1 = 0) (hu : ab_st1 e pc ls st M = some u) (h : ab_wp d m u.1 u.2.1 u.2.2.1 u.2.2.2 Q) : ab_wp d m pc ls st M Q := by
  obtain ⟨n, z, hr, hq⟩ := h
  refine ⟨n + 1, z, ?_, hq⟩
  rw [ab_run, hat]
  simp only [hk, hu]
  exact hr
theorem wp_ret {e : ab_E} {z : Option ab_V × ab_M} (hat : ab_at m pc = some e) (hk : e.2.1 = 2) (hz : ab_ret e st M = some z) (h : Q z.1 z.2) : ab_wp d m pc ls st M Q := by
  refine ⟨1, z, ?_, h⟩
  rw [ab_run, hat]
  simp only [hk]
  exact hz
theorem wp_call {e : ab_E} {q : Nat × (List ab_V × List ab_V)} {r : Option ab_V} {M1 : ab_M} (hat : ab_at m pc = some e) (hk : e.2.1 = 1) (hq : ab_args e st M = some q) (hev : ab_ev d q.1 q.2.1 M r M1) (h : ab_wp (d + 1) m (pc + 3) ls (r.toList ++ q.2.2) M1 Q) : ab_wp (d + 1) m pc ls st M Q := by
  obtain ⟨n1, h1⟩ := hev
  obtain ⟨n2, z, h2, hQ⟩ := h
  refine ⟨n1 + n2 + 1, z, ?_, hQ⟩
  rw [ab_run, hat]
  simp only [hk, hq]
  rw [ab_run_up _ _ _ _ _ _ _ _ h1 (n1 + n2) d (by omega) (Nat.le_refl _)]
  exact ab_run_up _ _ _ _ _ _ _ _ h2 (n1 + n2) (d + 1) (by omega) (Nat.le_refl _)
theorem wp_mono {Q' : Option ab_V → ab_M → Prop} (h : ab_wp d m pc ls st M Q) (hq : ∀ r M', Q r M' → Q' r M') : ab_wp d m pc ls st M Q' := by
  obtain ⟨n, z, hr, h⟩ := h
  exact ⟨n, z, hr, hq _ _ h⟩
theorem wp_up {d' : Nat} (h : ab_wp d m pc ls st M Q) (hd : d ≤ d') : ab_wp d' m pc ls st M Q := by
  obtain ⟨n, z, hr, h⟩ := h
  exact ⟨n, z, ab_run_up _ _ _ _ _ _ _ _ hr n d' (Nat.le_refl _) hd, h⟩
theorem ev_up {d' : Nat} {as : List ab_V} {r : Option ab_V} {M' : ab_M} (h : ab_ev d m as M r M') (hd : d ≤ d') : ab_ev d' m as M r M' := by
  obtain ⟨n, hr⟩ := h
  exact ⟨n, ab_run_up _ _ _ _ _ _ _ _ hr n d' (Nat.le_refl _) hd⟩
theorem ev_wp {as : List ab_V} {r : Option ab_V} {M' : ab_M} (h : ab_wp d m 0 (ab_ent as (ab_mx m)) [] M (fun r' M'' => r' = r ∧ M'' = M')) : ab_ev d m as M r M' := by
  obtain ⟨n, ⟨r', M''⟩, hr, rfl, rfl⟩ := h
  exact ⟨n, hr⟩
/-- a call whose answer is told by a condition -/
theorem wp_ev {as : List ab_V} (h : ab_wp d m 0 (ab_ent as (ab_mx m)) [] M Q) : ∃ r M', ab_ev d m as M r M' ∧ Q r M' := by
  obtain ⟨n, ⟨r', M''⟩, hr, hq⟩ := h
  exact ⟨r', M'', ⟨n, hr⟩, hq⟩
/-! rules that ask something -/
theorem w_iadd {k : Nat} {x a b : Int} (hat : ab_at m pc = some (.iadd, 0, k, x)) (hr : ab_rg (a + b)) (h : ab_wp d m (pc + 1) ls (.inl (a + b) :: st) M Q) : ab_wp d m pc ls (.inl b :: .inl a :: st) M Q :=
  wp_st hat rfl (u := (pc + 1, ls, .inl (a + b) :: st, M)) (by show ab_i2 (fun (x y : Int) => ab_ck (x + y)) pc ls (.inl b :: .inl a :: st) M = _; unfold ab_i2 ab_ck; dsimp only; rw [if_pos hr]) h
theorem w_isub {k : Nat} {x a b : Int} (hat : ab_at m pc = some (.isub, 0, k, x)) (hr : ab_rg (a - b)) (h : ab_wp d m (pc + 1) ls (.inl (a - b) :: st) M Q) : ab_wp d m pc ls (.inl b :: .inl a :: st) M Q :=
  wp_st hat rfl (u := (pc + 1, ls, .inl (a - b) :: st, M)) (by show ab_i2 (fun (x y : Int) => ab_ck (x - y)) pc ls (.inl b :: .inl a :: st) M = _; unfold ab_i2 ab_ck; dsimp only; rw [if_pos hr]) h
theorem w_imul {k : Nat} {x a b : Int} (hat : ab_at m pc = some (.imul, 0, k, x)) (hr : ab_rg (a * b)) (h : ab_wp d m (pc + 1) ls (.inl (a * b) :: st) M Q) : ab_wp d m pc ls (.inl b :: .inl a :: st) M Q :=
  wp_st hat rfl (u := (pc + 1, ls, .inl (a * b) :: st, M)) (by show ab_i2 (fun (x y : Int) => ab_ck (x * y)) pc ls (.inl b :: .inl a :: st) M = _; unfold ab_i2 ab_ck; dsimp only; rw [if_pos hr]) h
theorem w_idiv {k : Nat} {x a b : Int} (hat : ab_at m pc = some (.idiv, 0, k, x)) (hb : b ≠ 0) (hr : ab_rg (a.tdiv b)) (h : ab_wp d m (pc + 1) ls (.inl (a.tdiv b) :: st) M Q) : ab_wp d m pc ls (.inl b :: .inl a :: st) M Q :=
  wp_st hat rfl (u := (pc + 1, ls, .inl (a.tdiv b) :: st, M)) (by show ab_i2 ab_div pc ls (.inl b :: .inl a :: st) M = _; unfold ab_i2 ab_div ab_ck; dsimp only; rw [if_neg hb, if_pos hr]) h
theorem w_irem {k : Nat} {x a b : Int} (hat : ab_at m pc = some (.irem, 0, k, x)) (hb : b ≠ 0) (hr : ab_rg (a.tdiv b)) (h : ab_wp d m (pc + 1) ls (.inl (a.tmod b) :: st) M Q) : ab_wp d m pc ls (.inl b :: .inl a :: st) M Q := by
  refine wp_st hat rfl (u := (pc + 1, ls, .inl (a.tmod b) :: st, M)) ?_ h
  show ab_i2 ab_rem pc ls (.inl b :: .inl a :: st) M = _
  unfold ab_i2 ab_rem
  dsimp only
  rw [if_neg (by intro q; rcases q with q | q; exact hb q; exact q hr)]
  have : a - a.tdiv b * b = a.tmod b := by
    have := Int.tmod_add_mul_tdiv a b
    rw [Int.mul_comm] at this
    omega
  rw [this]
theorem w_iinc {k n : Nat} {x c a : Int} (hat : ab_at m pc = some (.iinc n c, 0, k, x)) (hg : ls.getD n none = some (.inl a)) (hr : ab_rg (a + c)) (h : ab_wp d m (pc + 3) (ls.set n (some (.inl (a + c)))) st M Q) : ab_wp d m pc ls st M Q :=
  wp_st hat rfl (u := (pc + 3, ls.set n (some (.inl (a + c))), st, M)) (by show ab_iinc n c pc ls st M = _; unfold ab_iinc; rw [hg]; dsimp only; rw [if_pos hr]) h
theorem w_ladd {k : Nat} {x a b : Int} (hat : ab_at m pc = some (.ladd, 0, k, x)) (hr : ab_rl (a + b)) (h : ab_wp d m (pc + 1) ls (.inr (.inl (a + b)) :: st) M Q) : ab_wp d m pc ls (.inr (.inl b) :: .inr (.inl a) :: st) M Q :=
  wp_st hat rfl (u := (pc + 1, ls, .inr (.inl (a + b)) :: st, M)) (by show ab_l2 (fun (x y : Int) => ab_cl (x + y)) pc ls (.inr (.inl b) :: .inr (.inl a) :: st) M = _; unfold ab_l2 ab_cl; dsimp only; rw [if_pos hr]) h
theorem w_lmul {k : Nat} {x a b : Int} (hat : ab_at m pc = some (.lmul, 0, k, x)) (hr : ab_rl (a * b)) (h : ab_wp d m (pc + 1) ls (.inr (.inl (a * b)) :: st) M Q) : ab_wp d m pc ls (.inr (.inl b) :: .inr (.inl a) :: st) M Q :=
  wp_st hat rfl (u := (pc + 1, ls, .inr (.inl (a * b)) :: st, M)) (by show ab_l2 (fun (x y : Int) => ab_cl (x * y)) pc ls (.inr (.inl b) :: .inr (.inl a) :: st) M = _; unfold ab_l2 ab_cl; dsimp only; rw [if_pos hr]) h
theorem w_ldiv {k : Nat} {x a b : Int} (hat : ab_at m pc = some (.ldiv, 0, k, x)) (hb : b ≠ 0) (hr : ab_rl (a.tdiv b)) (h : ab_wp d m (pc + 1) ls (.inr (.inl (a.tdiv b)) :: st) M Q) : ab_wp d m pc ls (.inr (.inl b) :: .inr (.inl a) :: st) M Q :=
  wp_st hat rfl (u := (pc + 1, ls, .inr (.inl (a.tdiv b)) :: st, M)) (by show ab_l2 (fun (x y : Int) => if y = 0 then none else ab_cl (x.tdiv y)) pc ls (.inr (.inl b) :: .inr (.inl a) :: st) M = _; unfold ab_l2 ab_cl; dsimp only; rw [if_neg hb, if_pos hr]) h
theorem w_l2i {k : Nat} {x a : Int} (hat : ab_at m pc = some (.l2i, 0, k, x)) (hr : ab_rg a) (h : ab_wp d m (pc + 1) ls (.inl a :: st) M Q) : ab_wp d m pc ls (.inr (.inl a) :: st) M Q :=
  wp_st hat rfl (u := (pc + 1, ls, .inl a :: st, M)) (by show ab_cnv 1 pc ls (.inr (.inl a) :: st) M = _; unfold ab_cnv; dsimp only; rw [if_pos ⟨rfl, hr⟩]) h
theorem w_i2c {k : Nat} {x a : Int} (hat : ab_at m pc = some (.i2c, 0, k, x)) (hr : 0 ≤ a ∧ a < 65536) (h : ab_wp d m (pc + 1) ls (.inl a :: st) M Q) : ab_wp d m pc ls (.inl a :: st) M Q :=
  wp_st hat rfl (u := (pc + 1, ls, .inl a :: st, M)) (by show ab_cnv 2 pc ls (.inl a :: st) M = _; unfold ab_cnv; dsimp only; rw [if_neg (by decide), if_pos rfl, if_pos hr]) h
theorem w_i2b {k : Nat} {x a : Int} (hat : ab_at m pc = some (.i2b, 0, k, x)) (hr : -128 ≤ a ∧ a < 256) (h : ab_wp d m (pc + 1) ls (.inl (if a < 128 then a else a - 256) :: st) M Q) : ab_wp d m pc ls (.inl a :: st) M Q :=
  wp_st hat rfl (u := (pc + 1, ls, .inl (if a < 128 then a else a - 256) :: st, M)) (by show ab_cnv 3 pc ls (.inl a :: st) M = _; unfold ab_cnv; dsimp only; rw [if_neg (by decide), if_neg (by decide), if_pos rfl, if_pos hr]) h
theorem w_if1 {k : Nat} {x a : Int} {c : Jvm.ClassFile.Cond} {off : Int} (hat : ab_at m pc = some (.ifCond c off, 0, k, x)) (ht : ab_cmp c a 0 = true → ab_wp d m k ls st M Q) (hf : ab_cmp c a 0 = false → ab_wp d m (pc + 3) ls st M Q) : ab_wp d m pc ls (.inl a :: st) M Q := by
  cases hc : ab_cmp c a 0 with
  | true => exact wp_st hat rfl (u := (k, ls, st, M)) (by show ab_br1 c k pc ls (.inl a :: st) M = _; unfold ab_br1; dsimp only; rw [if_pos hc]) (ht hc)
  | false => exact wp_st hat rfl (u := (pc + 3, ls, st, M)) (by show ab_br1 c k pc ls (.inl a :: st) M = _; unfold ab_br1; dsimp only; rw [if_neg (by rw [hc]; decide)]) (hf hc)
theorem w_if2 {k : Nat} {x a b : Int} {c : Jvm.ClassFile.Cond} {off : Int} (hat : ab_at m pc = some (.if_icmp c off, 0, k, x)) (ht : ab_cmp c a b = true → ab_wp d m k ls st M Q) (hf : ab_cmp c a b = false → ab_wp d m (pc + 3) ls st M Q) : ab_wp d m pc ls (.inl b :: .inl a :: st) M Q := by
  cases hc : ab_cmp c a b with
  | true => exact wp_st hat rfl (u := (k, ls, st, M)) (by show ab_br2 c k pc ls (.inl b :: .inl a :: st) M = _; unfold ab_br2; dsimp only; rw [if_pos hc]) (ht hc)
  | false => exact wp_st hat rfl (u := (pc + 3, ls, st, M)) (by show ab_br2 c k pc ls (.inl b :: .inl a :: st) M = _; unfold ab_br2; dsimp only; rw [if_neg (by rw [hc]; decide)]) (hf hc)
/-! cells: after the constructors there are 132 -/
def ab_obB (k f : Nat) (x : Int) : Bool := decide (k < 132 ∧ (ab_kd k).1 < 11 ∧ ab_tg x (ab_kd k).1 ∧ f < (ab_kd k).2)
def ab_arB (t k n : Nat) : Bool := decide (k < 132 ∧ ab_kd k = (t, n))
theorem ab_nc132 (hN : M 999 0 = 132) : ab_nc M = 132 := by unfold ab_nc; rw [hN]; rfl
theorem ab_obi {k f : Nat} {x : Int} (hN : M 999 0 = 132) (h : ab_obB k f x = true) : ab_ob M k f x := by
  have := of_decide_eq_true h
  exact ⟨by rw [ab_nc132 hN]; exact this.1, this.2⟩
theorem w_getI {f : Nat} {x : Int} {i k : Nat} (hat : ab_at m pc = some (.getfield i, 0, f, x)) (hN : M 999 0 = 132) (hx : x ≠ 30) (ho : ab_obB k f x = true) (ht : ab_fty (ab_kd k).1 f ≠ 2) (h : ab_wp d m (pc + 3) ls (.inl (M k f) :: st) M Q) : ab_wp d m pc ls (.inr (.inr k) :: st) M Q :=
  wp_st hat rfl (u := (pc + 3, ls, .inl (M k f) :: st, M)) (by show ab_get f x pc ls (.inr (.inr k) :: st) M = _; unfold ab_get; dsimp only; rw [if_neg hx, if_pos (ab_obi hN ho), if_neg ht]) h
theorem w_getR {f : Nat} {x : Int} {i k j : Nat} (hat : ab_at m pc = some (.getfield i, 0, f, x)) (hN : M 999 0 = 132) (hx : x ≠ 30) (ho : ab_obB k f x = true) (ht : ab_fty (ab_kd k).1 f = 2) (hj : M k f = (j : Int)) (hj2 : j < 1000) (h : ab_wp d m (pc + 3) ls (.inr (.inr j) :: st) M Q) : ab_wp d m pc ls (.inr (.inr k) :: st) M Q := by
  refine wp_st hat rfl (u := (pc + 3, ls, .inr (.inr j) :: st, M)) ?_ h
  show ab_get f x pc ls (.inr (.inr k) :: st) M = _
  unfold ab_get
  dsimp only
  rw [if_neg hx, if_pos (ab_obi hN ho), if_pos ht, if_pos (by rw [hj]; omega), hj]
  rfl
theorem w_putI {f : Nat} {x v : Int} {i k : Nat} (hat : ab_at m pc = some (.putfield i, 0, f, x)) (hN : M 999 0 = 132) (ho : ab_obB k f x = true) (ht : ab_fty (ab_kd k).1 f = 0) (h : ab_wp d m (pc + 3) ls st (ab_w M k f v) Q) : ab_wp d m pc ls (.inl v :: .inr (.inr k) :: st) M Q :=
  wp_st hat rfl (u := (pc + 3, ls, st, ab_w M k f v)) (by show ab_put f x pc ls (.inl v :: .inr (.inr k) :: st) M = _; unfold ab_put; dsimp only; rw [if_pos ⟨ab_obi hN ho, Or.inl ht⟩]) h
theorem w_putB {f : Nat} {x v : Int} {i k : Nat} (hat : ab_at m pc = some (.putfield i, 0, f, x)) (hN : M 999 0 = 132) (ho : ab_obB k f x = true) (ht : ab_fty (ab_kd k).1 f = 1) (hv : v = 0 ∨ v = 1) (h : ab_wp d m (pc + 3) ls st (ab_w M k f v) Q) : ab_wp d m pc ls (.inl v :: .inr (.inr k) :: st) M Q :=
  wp_st hat rfl (u := (pc + 3, ls, st, ab_w M k f v)) (by show ab_put f x pc ls (.inl v :: .inr (.inr k) :: st) M = _; unfold ab_put; dsimp only; rw [if_pos ⟨ab_obi hN ho, Or.inr ⟨ht, hv⟩⟩]) h
theorem w_putR {f : Nat} {x : Int} {i k j : Nat} (hat : ab_at m pc = some (.putfield i, 0, f, x)) (hN : M 999 0 = 132) (ho : ab_obB k f x = true) (ht : ab_fty (ab_kd k).1 f = 2) (hj : j < 132) (h : ab_wp d m (pc + 3) ls st (ab_w M k f j) Q) : ab_wp d m pc ls (.inr (.inr j) :: .inr (.inr k) :: st) M Q :=
  wp_st hat rfl (u := (pc + 3, ls, st, ab_w M k f j)) (by show ab_put f x pc ls (.inr (.inr j) :: .inr (.inr k) :: st) M = _; unfold ab_put; dsimp only; rw [if_pos ⟨ab_obi hN ho, ht, by rw [ab_nc132 hN]; exact hj⟩]) h
theorem ab_ari {t k n : Nat} {i : Int} (hN : M 999 0 = 132) (ha : ab_arB t k n = true) (h0 : 0 ≤ i) (h1 : i < n) : ab_ar M t k i := by
  obtain ⟨a1, a2⟩ := of_decide_eq_true ha
  refine ⟨by rw [ab_nc132 hN]; exact a1, by rw [a2], h0, by rw [a2]; exact h1⟩
/-- a place of a row of numbers -/
theorem w_ald {o : Instr} {k0 t k n : Nat} {x i : Int} (hat : ab_at m pc = some (o, 0, k0, x)) (ho : (t = 20 ∧ o = .iaload) ∨ (t = 21 ∧ o = .baload) ∨ (t = 22 ∧ o = .caload)) (hN : M 999 0 = 132) (ha : ab_arB t k n = true) (h0 : 0 ≤ i ∧ i < n) (h : ab_wp d m (pc + 1) ls (.inl (M k i.toNat) :: st) M Q) : ab_wp d m pc ls (.inl i :: .inr (.inr k) :: st) M Q := by
  have hk : k < 132 := (of_decide_eq_true ha).1
  have key : ab_ald t pc ls (.inl i :: .inr (.inr k) :: st) M = some (pc + 1, ls, .inl (M k i.toNat) :: st, M) := by
    unfold ab_ald
    dsimp only
    rw [if_pos (by omega), if_pos (ab_ari hN ha h0.1 h0.2), if_neg (by omega)]
  rcases ho with ⟨rfl, rfl⟩ | ⟨rfl, rfl⟩ | ⟨rfl, rfl⟩ <;> exact wp_st hat rfl (u := (pc + 1, ls, .inl (M k i.toNat) :: st, M)) key h
theorem w_aald {k0 k n j : Nat} {x i : Int} (hat : ab_at m pc = some (.aaload, 0, k0, x)) (hN : M 999 0 = 132) (ha : ab_arB 24 k n = true) (h0 : 0 ≤ i ∧ i < n) (hj : M k i.toNat = (j : Int)) (hj2 : j < 1000) (h : ab_wp d m (pc + 1) ls (.inr (.inr j) :: st) M Q) : ab_wp d m pc ls (.inl i :: .inr (.inr k) :: st) M Q := by
  have hk : k < 132 := (of_decide_eq_true ha).1
  refine wp_st hat rfl (u := (pc + 1, ls, .inr (.inr j) :: st, M)) ?_ h
  show ab_ald 24 pc ls (.inl i :: .inr (.inr k) :: st) M = _
  unfold ab_ald
  dsimp only
  rw [if_pos (by omega), if_pos (ab_ari hN ha h0.1 h0.2), if_pos rfl, if_pos (by rw [hj]; omega), hj]
  rfl
theorem w_sld {k0 k : Nat} {x i : Int} (hat : ab_at m pc = some (.iaload, 0, k0, x)) (hk : 1001 ≤ k ∧ k < 1004) (h0 : 0 ≤ i ∧ i < (ab_stt k).length) (h : ab_wp d m (pc + 1) ls (.inl ((ab_stt k).getD i.toNat 0) :: st) M Q) : ab_wp d m pc ls (.inl i :: .inr (.inr k) :: st) M Q := by
  refine wp_st hat rfl (u := (pc + 1, ls, .inl ((ab_stt k).getD i.toNat 0) :: st, M)) ?_ h
  show ab_ald 20 pc ls (.inl i :: .inr (.inr k) :: st) M = _
  unfold ab_ald
  dsimp only
  rw [if_neg (by omega), if_neg (by omega), if_pos ⟨Or.inl ⟨rfl, hk.2⟩, h0⟩]
theorem w_bld {k0 : Nat} {x i : Int} (hat : ab_at m pc = some (.baload, 0, k0, x)) (h0 : 0 ≤ i ∧ i < 7) (h : ab_wp d m (pc + 1) ls (.inl ((ab_stt 1005).getD i.toNat 0) :: st) M Q) : ab_wp d m pc ls (.inl i :: .inr (.inr 1005) :: st) M Q := by
  refine wp_st hat rfl (u := (pc + 1, ls, .inl ((ab_stt 1005).getD i.toNat 0) :: st, M)) ?_ h
  show ab_ald 21 pc ls (.inl i :: .inr (.inr 1005) :: st) M = _
  unfold ab_ald
  dsimp only
  rw [if_neg (by omega), if_neg (by omega), if_pos ⟨Or.inr ⟨rfl, rfl⟩, h0⟩]
theorem w_xld {k0 : Nat} {x i : Int} (hat : ab_at m pc = some (.iaload, 0, k0, x)) (h0 : 0 ≤ i ∧ i < M 999 2) (h : ab_wp d m (pc + 1) ls (.inl (M 1000 i.toNat) :: st) M Q) : ab_wp d m pc ls (.inl i :: .inr (.inr 1000) :: st) M Q := by
  refine wp_st hat rfl (u := (pc + 1, ls, .inl (M 1000 i.toNat) :: st, M)) ?_ h
  show ab_ald 20 pc ls (.inl i :: .inr (.inr 1000) :: st) M = _
  unfold ab_ald
  dsimp only
  rw [if_neg (by omega), if_pos rfl, if_pos ⟨rfl, h0⟩]
theorem w_ast {o : Instr} {k0 t k n : Nat} {x i v : Int} (hat : ab_at m pc = some (o, 0, k0, x)) (ho : (t = 20 ∧ o = .iastore) ∨ (t = 21 ∧ o = .bastore) ∨ (t = 22 ∧ o = .castore)) (hN : M 999 0 = 132) (ha : ab_arB t k n = true) (h0 : 0 ≤ i ∧ i < n) (hz : t = 21 → v = 0 ∨ v = 1) (hc : t = 22 → 0 ≤ v ∧ v < 65536) (h : ab_wp d m (pc + 1) ls st (ab_w M k i.toNat v) Q) : ab_wp d m pc ls (.inl v :: .inl i :: .inr (.inr k) :: st) M Q := by
  have key : ab_ast t pc ls (.inl v :: .inl i :: .inr (.inr k) :: st) M = some (pc + 1, ls, st, ab_w M k i.toNat v) := by
    unfold ab_ast
    dsimp only
    rw [if_pos ⟨ab_ari hN ha h0.1 h0.2, hz, hc⟩]
  rcases ho with ⟨rfl, rfl⟩ | ⟨rfl, rfl⟩ | ⟨rfl, rfl⟩ <;> exact wp_st hat rfl (u := (pc + 1, ls, st, ab_w M k i.toNat v)) key h
theorem w_len {k0 t k n : Nat} {x : Int} (hat : ab_at m pc = some (.arraylength, 0, k0, x)) (hN : M 999 0 = 132) (ha : ab_arB t k n = true) (ht : 20 ≤ t ∧ t < 25) (h : ab_wp d m (pc + 1) ls (.inl n :: st) M Q) : ab_wp d m pc ls (.inr (.inr k) :: st) M Q := by
  obtain ⟨a1, a2⟩ := of_decide_eq_true ha
  refine wp_st hat rfl (u := (pc + 1, ls, .inl n :: st, M)) ?_ h
  show ab_len pc ls (.inr (.inr k) :: st) M = _
  unfold ab_len
  dsimp only
  rw [if_pos (by omega), if_pos ⟨by rw [ab_nc132 hN]; exact a1, by rw [a2]; exact ht⟩, a2]
theorem w_cpy {i s0 d0 : Nat} {x n dp sp : Int} {n1 n2 : Nat} (hat : ab_at m pc = some (.invokestatic i, 0, 901, x)) (hN : M 999 0 = 132) (h1 : ab_arB 20 s0 n1 = true) (h2 : ab_arB 20 d0 n2 = true) (h3 : 0 ≤ n ∧ 0 ≤ sp ∧ 0 ≤ dp ∧ sp + n ≤ n1 ∧ dp + n ≤ n2) (h4 : (st.map ab_cat).sum ≤ 8) (h : ab_wp d m (pc + 3) ls st (ab_cpm M s0 d0 sp.toNat dp.toNat n.toNat) Q) : ab_wp d m pc ls (.inl n :: .inl dp :: .inr (.inr d0) :: .inl sp :: .inr (.inr s0) :: st) M Q := by
  obtain ⟨a1, a2⟩ := of_decide_eq_true h1
  obtain ⟨c1, c2⟩ := of_decide_eq_true h2
  refine wp_st hat rfl (u := (pc + 3, ls, st, ab_cpm M s0 d0 sp.toNat dp.toNat n.toNat)) ?_ h
  show ab_cpy pc ls (.inl n :: .inl dp :: .inr (.inr d0) :: .inl sp :: .inr (.inr s0) :: st) M = _
  unfold ab_cpy
  dsimp only
  rw [if_pos ⟨by rw [ab_nc132 hN]; exact a1, by rw [ab_nc132 hN]; exact c1, by rw [a2], by rw [c2], h3.1, h3.2.1, h3.2.2.1, by rw [a2]; exact h3.2.2.2.1, by rw [c2]; exact h3.2.2.2.2, h4⟩]
def ab_argsN (e : ab_E) (st : List ab_V) : Option (Nat × (List ab_V × List ab_V)) := ab_args e st (fun a b => if a = 999 ∧ b = 0 then 132 else 0)
theorem ab_argsN_eq {e : ab_E} (hN : M 999 0 = 132) : ab_args e st M = ab_argsN e st := by
  have h : ab_nc M = ab_nc (fun a b => if a = 999 ∧ b = 0 then 132 else 0) := by rw [ab_nc132 hN]; rfl
  unfold ab_argsN ab_args ab_rc
  rw [h]
theorem w_call {e : ab_E} {q : Nat × (List ab_V × List ab_V)} {r : Option ab_V} {M1 : ab_M} (hat : ab_at m pc = some e) (hk : e.2.1 = 1) (hN : M 999 0 = 132) (hq : ab_argsN e st = some q) (hev : ab_ev d q.1 q.2.1 M r M1) (h : ab_wp (d + 1) m (pc + 3) ls (r.toList ++ q.2.2) M1 Q) : ab_wp (d + 1) m pc ls st M Q :=
  wp_call hat hk (by rw [ab_argsN_eq hN]; exact hq) hev h
end WP
