abbrev li_ob (s : li_s) (k f : Nat) (x : Int) : Prop := k < s.2.length ∧ (ab_kd k).1 < 11 ∧ ab_tg x (ab_kd k).1 ∧ f < (ab_kd k).2
abbrev li_St : Type := Nat × (ab_L × (List ab_V × li_s))
def li_put (f : Nat) (x : Int) (pc : Nat) (ls : ab_L) (st : List ab_V) (s : li_s) : Option li_St := match st with
  | .inl v :: .inr (.inr k) :: r => if li_ob s k f x ∧ ab_fty (ab_kd k).1 f = 0 then some (pc + 3, ls, r, li_w s k f v) else none
  | .inr (.inr j) :: .inr (.inr k) :: r => if li_ob s k f x ∧ ab_fty (ab_kd k).1 f = 2 ∧ j < s.2.length then some (pc + 3, ls, r, li_w s k f j) else none
  | _ => none
def li_get (f : Nat) (x : Int) (pc : Nat) (ls : ab_L) (st : List ab_V) (s : li_s) : Option li_St := match st with
  | .inr (.inr k) :: r => if x ≠ 30 ∧ li_ob s k f x ∧ ab_fty (ab_kd k).1 f = 2 ∧ 0 ≤ li_at s k f ∧ li_at s k f < 1000 then some (pc + 3, ls, .inr (.inr (li_at s k f).toNat) :: r, s) else none
  | _ => none
def li_ald (pc : Nat) (ls : ab_L) (st : List ab_V) (s : li_s) : Option li_St := match st with
  | .inl i :: .inr (.inr k) :: r => if k < s.2.length ∧ (ab_kd k).1 = 24 ∧ 0 ≤ i ∧ i < (ab_kd k).2 ∧ 0 ≤ li_at s k i.toNat ∧ li_at s k i.toNat < 1000 then some (pc + 1, ls, .inr (.inr (li_at s k i.toNat).toNat) :: r, s) else none
  | _ => none
def li_ast (pc : Nat) (ls : ab_L) (st : List ab_V) (s : li_s) : Option li_St := match st with
  | .inl v :: .inl i :: .inr (.inr k) :: r => if k < s.2.length ∧ (ab_kd k).1 = 20 ∧ 0 ≤ i ∧ i < (ab_kd k).2 then some (pc + 1, ls, r, li_w s k i.toNat v) else none
  | _ => none
def li_len (pc : Nat) (ls : ab_L) (st : List ab_V) (s : li_s) : Option li_St := match st with
  | .inr (.inr k) :: r => if k < s.2.length ∧ 20 ≤ (ab_kd k).1 ∧ (ab_kd k).1 < 25 then some (pc + 1, ls, .inl (ab_kd k).2 :: r, s) else none
  | _ => none
def li_new (x : Int) (pc : Nat) (ls : ab_L) (st : List ab_V) (s : li_s) : Option li_St :=
  if s.2.length < 800 ∧ x = (ab_kd s.2.length).1 ∧ (ab_kd s.2.length).1 < 11 then some (pc + 3, ls, .inr (.inr s.2.length) :: st, li_mk s) else none
def li_nar (x : Int) (pc : Nat) (ls : ab_L) (st : List ab_V) (s : li_s) : Option li_St := match st with
  | .inl n :: r => if s.2.length < 800 ∧ x = (ab_kd s.2.length).1 ∧ (x = 20 ∨ x = 21 ∨ x = 22) ∧ n = (ab_kd s.2.length).2 ∧ n < 1000 then some (pc + 2, ls, .inr (.inr s.2.length) :: r, li_mk s) else none
  | _ => none
def li_na2 (pc : Nat) (ls : ab_L) (st : List ab_V) (s : li_s) : Option li_St := match st with
  | .inl b :: .inl n :: r => if s.2.length < 800 ∧ ab_kd s.2.length = (24, n.toNat) ∧ 0 ≤ n ∧ n < 10 ∧ 0 ≤ b ∧ b < 10 ∧ (List.range n.toNat).all (fun i => decide (ab_kd (s.2.length + 1 + i) = (20, b.toNat))) = true then some (pc + 4, ls, .inr (.inr s.2.length) :: r, li_mk2 s n.toNat b.toNat) else none
  | _ => none
def li_fs (s : li_s) (u : Option ab_St) : Option li_St := match u with
  | some u => some (u.1, u.2.1, u.2.2.1, s)
  | none => none
def li_st (e : ab_E) (pc : Nat) (ls : ab_L) (st : List ab_V) (s : li_s) : Option li_St := match e.1 with
  | .putfield _ => li_put e.2.2.1 e.2.2.2 pc ls st s
  | .getfield _ => li_get e.2.2.1 e.2.2.2 pc ls st s
  | .aaload => li_ald pc ls st s
  | .iastore => li_ast pc ls st s
  | .arraylength => li_len pc ls st s
  | .new _ => li_new e.2.2.2 pc ls st s
  | .newarray _ => li_nar e.2.2.2 pc ls st s
  | .multianewarray _ _ => li_na2 pc ls st s
  | i => if li_fr i = true then li_fs s (ab_st1 e pc ls st li_Z) else none
def li_up (B : ab_M) (u : li_St) : ab_St := (u.1, u.2.1, u.2.2.1, li_cv u.2.2.2 B)
section LI
variable {pc : Nat} {ls : ab_L} {st : List ab_V} {s : li_s} {u : li_St}
theorem w_len2 (s : li_s) (k f : Nat) (v : Int) : (li_w s k f v).2.length = s.2.length := List.length_set
theorem lo_put {f : Nat} {x : Int} (B : ab_M) (hs : s.2.length ≤ 900) (h : li_put f x pc ls st s = some u) : ab_put f x pc ls st (li_cv s B) = some (li_up B u) ∧ u.2.2.2.2.length ≤ 900 := by
  unfold li_put at h
  split at h
  · next v k r =>
    split at h
    · next c =>
      cases h
      obtain ⟨c1, c2⟩ := c
      refine ⟨?_, by rw [w_len2]; exact hs⟩
      unfold ab_put
      dsimp only
      rw [if_pos ⟨by rw [show ab_ob (li_cv s B) k f x = li_ob s k f x from by unfold ab_ob li_ob; rw [cv_nc]]; exact c1, Or.inl c2⟩, cv_w hs c1.1]
      rfl
    · cases h
  · next j k r =>
    split at h
    · next c =>
      cases h
      obtain ⟨c1, c2, c3⟩ := c
      refine ⟨?_, by rw [w_len2]; exact hs⟩
      unfold ab_put
      dsimp only
      rw [if_pos ⟨by rw [show ab_ob (li_cv s B) k f x = li_ob s k f x from by unfold ab_ob li_ob; rw [cv_nc]]; exact c1, c2, by rw [cv_nc]; exact c3⟩, cv_w hs c1.1]
      rfl
    · cases h
  · cases h
theorem lo_get {f : Nat} {x : Int} (B : ab_M) (hs : s.2.length ≤ 900) (h : li_get f x pc ls st s = some u) : ab_get f x pc ls st (li_cv s B) = some (li_up B u) ∧ u.2.2.2.2.length ≤ 900 := by
  unfold li_get at h
  split at h
  · next k r =>
    split at h
    · next c =>
      cases h
      obtain ⟨c0, c1, c2, c3⟩ := c
      refine ⟨?_, hs⟩
      unfold ab_get
      dsimp only
      rw [if_neg c0, if_pos (by rw [show ab_ob (li_cv s B) k f x = li_ob s k f x from by unfold ab_ob li_ob; rw [cv_nc]]; exact c1), if_pos c2, cv_r hs c1.1, if_pos c3]
      rfl
    · cases h
  · cases h
theorem lo_ald (B : ab_M) (hs : s.2.length ≤ 900) (h : li_ald pc ls st s = some u) : ab_ald 24 pc ls st (li_cv s B) = some (li_up B u) ∧ u.2.2.2.2.length ≤ 900 := by
  unfold li_ald at h
  split at h
  · next i k r =>
    split at h
    · next c =>
      cases h
      obtain ⟨c1, c2, c3, c4, c5⟩ := c
      refine ⟨?_, hs⟩
      unfold ab_ald
      dsimp only
      rw [if_pos (by omega), if_pos ⟨by rw [cv_nc]; exact c1, c2, c3, c4⟩, if_pos rfl, cv_r hs c1, if_pos c5]
      rfl
    · cases h
  · cases h
theorem lo_ast (B : ab_M) (hs : s.2.length ≤ 900) (h : li_ast pc ls st s = some u) : ab_ast 20 pc ls st (li_cv s B) = some (li_up B u) ∧ u.2.2.2.2.length ≤ 900 := by
  unfold li_ast at h
  split at h
  · next v i k r =>
    split at h
    · next c =>
      cases h
      obtain ⟨c1, c2, c3, c4⟩ := c
      refine ⟨?_, by rw [w_len2]; exact hs⟩
      unfold ab_ast
      dsimp only
      rw [if_pos ⟨⟨by rw [cv_nc]; exact c1, c2, c3, c4⟩, fun q => absurd q (by decide), fun q => absurd q (by decide)⟩, cv_w hs c1]
      rfl
    · cases h
  · cases h
theorem lo_len (B : ab_M) (hs : s.2.length ≤ 900) (h : li_len pc ls st s = some u) : ab_len pc ls st (li_cv s B) = some (li_up B u) ∧ u.2.2.2.2.length ≤ 900 := by
  unfold li_len at h
  split at h
  · next k r =>
    split at h
    · next c =>
      cases h
      refine ⟨?_, hs⟩
      unfold ab_len
      dsimp only
      rw [if_pos (by omega), if_pos ⟨by rw [cv_nc]; exact c.1, c.2⟩]
      rfl
    · cases h
  · cases h
theorem mk_len (s : li_s) : (li_mk s).2.length = s.2.length + 1 := List.length_append
theorem lo_new {x : Int} (B : ab_M) (hs : s.2.length ≤ 900) (h : li_new x pc ls st s = some u) : ab_new x pc ls st (li_cv s B) = some (li_up B u) ∧ u.2.2.2.2.length ≤ 900 := by
  unfold li_new at h
  split at h
  · next c =>
    cases h
    refine ⟨?_, by rw [mk_len]; omega⟩
    unfold ab_new
    rw [cv_nc, cv_n, if_pos ⟨by omega, by omega, c.2⟩, cv_mk (by omega)]
    rfl
  · cases h
theorem lo_nar {x : Int} (B : ab_M) (hs : s.2.length ≤ 900) (h : li_nar x pc ls st s = some u) : ab_nar x pc ls st (li_cv s B) = some (li_up B u) ∧ u.2.2.2.2.length ≤ 900 := by
  unfold li_nar at h
  split at h
  · next n r =>
    split at h
    · next c =>
      cases h
      refine ⟨?_, by rw [mk_len]; omega⟩
      unfold ab_nar
      dsimp only
      rw [cv_nc, cv_n, if_pos ⟨by omega, by omega, c.2⟩, cv_mk (by omega)]
      rfl
    · cases h
  · cases h
theorem lo_na2 (B : ab_M) (hs : s.2.length ≤ 900) (h : li_na2 pc ls st s = some u) : ab_na2 pc ls st (li_cv s B) = some (li_up B u) ∧ u.2.2.2.2.length ≤ 900 := by
  unfold li_na2 at h
  split at h
  · next b n r =>
    split at h
    · next c =>
      cases h
      have hn : n.toNat < 10 := by omega
      refine ⟨?_, ?_⟩
      · unfold ab_na2
        dsimp only
        rw [cv_nc, cv_n, if_pos ⟨by omega, by omega, c.2⟩, cv_mk2 (by omega)]
        rfl
      · show (s.2 ++ li_r2 s.2.length n.toNat).length ≤ 900
        rw [List.length_append, r2_len]
        omega
    · cases h
  · cases h
theorem lo_li {e : ab_E} (B : ab_M) (hs : s.2.length ≤ 900) (h : li_st e pc ls st s = some u) : ab_st1 e pc ls st (li_cv s B) = some (li_up B u) ∧ u.2.2.2.2.length ≤ 900 := by
  have free : ∀ i : Instr, e.1 = i → (if li_fr i = true then li_fs s (ab_st1 e pc ls st li_Z) else none) = some u → ab_st1 e pc ls st (li_cv s B) = some (li_up B u) ∧ u.2.2.2.2.length ≤ 900 := by
    intro i hi h
    split at h
    · next c =>
      rw [← hi] at c
      rw [fr_st (li_cv s B) li_Z c]
      cases q : ab_st1 e pc ls st li_Z with
      | none => rw [q] at h; cases h
      | some w => rw [q] at h; cases h; exact ⟨rfl, hs⟩
    · cases h
  unfold li_st at h
  split at h
  · next hi => unfold ab_st1; rw [hi]; exact lo_put B hs h
  · next hi => unfold ab_st1; rw [hi]; exact lo_get B hs h
  · next hi => unfold ab_st1; rw [hi]; exact lo_ald B hs h
  · next hi => unfold ab_st1; rw [hi]; exact lo_ast B hs h
  · next hi => unfold ab_st1; rw [hi]; exact lo_len B hs h
  · next hi => unfold ab_st1; rw [hi]; exact lo_new B hs h
  · next hi => unfold ab_st1; rw [hi]; exact lo_nar B hs h
  · next hi => unfold ab_st1; rw [hi]; exact lo_na2 B hs h
  · exact free _ rfl h
end LI
noncomputable def li_run : Nat → Nat → Nat → Nat → ab_L → List ab_V → li_s → Option (Option ab_V × li_s)
  | 0, _, _, _, _, _, _ => none
  | n + 1, d, m, pc, ls, st, s => match ab_at m pc with
    | none => none
    | some e => match e.2.1 with
      | 0 => (match li_st e pc ls st s with
        | none => none
        | some u => li_run n d m u.1 u.2.1 u.2.2.1 u.2.2.2)
      | 1 => (match d with
        | 0 => none
        | d' + 1 => (match ab_args e st (li_N s.2.length) with
          | none => none
          | some q => (match li_run n d' q.1 0 (ab_ent q.2.1 (ab_mx q.1)) [] s with
            | none => none
            | some z => li_run n (d' + 1) m (pc + 3) ls (z.1.toList ++ q.2.2) z.2)))
      | 2 => (match ab_ret e st li_Z with
        | none => none
        | some z => some (z.1, s))
      | _ => none
theorem li_args {e : ab_E} {st : List ab_V} {s : li_s} (B : ab_M) : ab_args e st (li_cv s B) = ab_args e st (li_N s.2.length) := by
  have h : ab_nc (li_cv s B) = ab_nc (li_N s.2.length) := by rw [cv_nc]; rfl
  unfold ab_args ab_rc
  rw [h]
theorem li_ret {e : ab_E} {st : List ab_V} {z : Option ab_V × ab_M} (M : ab_M) (h : ab_ret e st li_Z = some z) : ab_ret e st M = some (z.1, M) := by
  unfold ab_ret at h ⊢
  split at h
  · split at h
    · next c => cases h; rw [if_pos c]
    · cases h
  · split at h
    · next c => cases h; dsimp only; rw [if_pos c]
    · cases h
  · cases h
theorem li_sound (B : ab_M) : ∀ (n d m pc : Nat) (ls : ab_L) (st : List ab_V) (s : li_s) (z : Option ab_V × li_s), s.2.length ≤ 900 → li_run n d m pc ls st s = some z → ab_run n d m pc ls st (li_cv s B) = some (z.1, li_cv z.2 B) ∧ z.2.2.length ≤ 900 := by
  intro n
  induction n with
  | zero => intro d m pc ls st s z _ h; cases h
  | succ n ih =>
    intro d m pc ls st s z hs h
    rw [li_run] at h
    rw [ab_run]
    cases hat : ab_at m pc with
    | none => rw [hat] at h; cases h
    | some e =>
      rw [hat] at h
      dsimp only at h ⊢
      split at h
      next h0 =>
        rw [h0]
        cases hu : li_st e pc ls st s with
        | none => rw [hu] at h; cases h
        | some u =>
          rw [hu] at h
          obtain ⟨k1, k2⟩ := lo_li B hs hu
          rw [k1]
          exact ih _ _ _ _ _ _ _ k2 h
      next h1 =>
        rw [h1]
        cases d with
        | zero => cases h
        | succ d0 =>
          dsimp only at h ⊢
          rw [li_args]
          cases hq : ab_args e st (li_N s.2.length) with
          | none => rw [hq] at h; cases h
          | some q =>
            rw [hq] at h
            dsimp only at h ⊢
            cases hw : li_run n d0 q.1 0 (ab_ent q.2.1 (ab_mx q.1)) [] s with
            | none => rw [hw] at h; cases h
            | some w =>
              rw [hw] at h
              obtain ⟨k1, k2⟩ := ih _ _ _ _ _ _ _ hs hw
              rw [k1]
              exact ih _ _ _ _ _ _ _ k2 h
      next h2 =>
        rw [h2]
        cases hr : ab_ret e st li_Z with
        | none => rw [hr] at h; cases h
        | some w =>
          rw [hr] at h
          cases h
          exact ⟨li_ret _ hr, hs⟩
      next => cases h
