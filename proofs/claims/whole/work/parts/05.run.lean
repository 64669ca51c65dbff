noncomputable def ab_cds_0 : List (List (Nat × ab_E)) := [ab_c0, ab_c1, ab_c2, ab_c3, ab_c4, ab_c5, ab_c6, ab_c7, ab_c8, ab_c9, ab_c10, ab_c11, ab_c12, ab_c13, ab_c14, ab_c15, ab_c16, ab_c17, ab_c18, ab_c19]
noncomputable def ab_cds_1 : List (List (Nat × ab_E)) := [ab_c20, ab_c21, ab_c22, ab_c23, ab_c24, ab_c25, ab_c26, ab_c27, ab_c28, ab_c29, ab_c30, ab_c31, ab_c32, ab_c33, ab_c34, ab_c35, ab_c36, ab_c37, ab_c38, ab_c39]
noncomputable def ab_cds_2 : List (List (Nat × ab_E)) := [ab_c40, ab_c41, ab_c42, ab_c43, ab_c44, ab_c45, ab_c46, ab_c47, ab_c48, ab_c49, ab_c50, ab_c51, ab_c52, ab_c53, ab_c54, ab_c55, ab_c56, ab_c57, ab_c58, ab_c59]
noncomputable def ab_cds_3 : List (List (Nat × ab_E)) := [ab_c60, ab_c61, ab_c62, ab_c63, ab_c64, ab_c65, ab_c66, ab_c67, ab_c68, ab_c69, ab_c70, ab_c71, ab_c72, ab_c73, ab_c74, ab_c75, ab_c76, ab_c77, ab_c78, ab_c79]
noncomputable def ab_cds_4 : List (List (Nat × ab_E)) := [ab_c80, ab_c81, ab_c82, ab_c83, ab_c84, ab_c85, ab_c86, ab_c87, ab_c88, ab_c89, ab_c90, ab_c91, ab_c92, ab_c93, ab_c94, ab_c95, ab_c96, ab_c97, ab_c98, ab_c99]
noncomputable def ab_cds_5 : List (List (Nat × ab_E)) := [ab_c100, ab_c101, ab_c102, ab_c103, ab_c104, ab_c105, ab_c106, ab_c107, ab_c108, ab_c109, ab_c110, ab_c111, ab_c112, ab_c113, ab_c114, ab_c115, ab_c116, ab_c117, ab_c118, ab_c119]
noncomputable def ab_cds_6 : List (List (Nat × ab_E)) := [ab_c120, ab_c121, ab_c122, ab_c123, ab_c124, ab_c125, ab_c126, ab_c127, ab_c128, ab_c129, ab_c130, ab_c131, ab_c132, ab_c133, ab_c134, ab_c135, ab_c136, ab_c137, ab_c138, ab_c139]
noncomputable def ab_cds_7 : List (List (Nat × ab_E)) := [ab_c140, ab_c141, ab_c142, ab_c143, ab_c144, ab_c145, ab_c146, ab_c147, ab_c148, ab_c149, ab_c150, ab_c151, ab_c152, ab_c153, ab_c154, ab_c155, ab_c156, ab_c157, ab_c158, ab_c159]
noncomputable def ab_cds_8 : List (List (Nat × ab_E)) := [ab_c160, ab_c161, ab_c162, ab_c163, ab_c164, ab_c165, ab_c166, ab_c167, ab_c168, ab_c169, ab_c170, ab_c171, ab_c172, ab_c173, ab_c174, ab_c175, ab_c176, ab_c177, ab_c178, ab_c179]
noncomputable def ab_cds_9 : List (List (Nat × ab_E)) := [ab_c180, ab_c181, ab_c182, ab_c183, ab_c184, ab_c185, ab_c186, ab_c187, ab_c188, ab_c189, ab_c190, ab_c191, ab_c192, ab_c193, ab_c194]
noncomputable def ab_cds : List (List (Nat × ab_E)) := List.append ab_cds_0 (List.append ab_cds_1 (List.append ab_cds_2 (List.append ab_cds_3 (List.append ab_cds_4 (List.append ab_cds_5 (List.append ab_cds_6 (List.append ab_cds_7 (List.append ab_cds_8 (ab_cds_9)))))))))
def ab_mxs : List Nat := [1, 5, 5, 1, 3, 9, 4, 1, 3, 6, 6, 14, 1, 3, 3, 4, 2, 6, 1, 3, 3, 1, 6, 4, 1, 2, 3, 1, 4, 3, 1, 7, 2, 4, 5, 3, 3, 1, 5, 8, 4, 1, 2, 2, 3, 3, 3, 3, 2, 1, 2, 2, 2, 3, 2, 2, 4, 5, 3, 2, 4, 4, 4, 6, 1, 2, 3, 1, 2, 3, 3, 3, 3, 2, 2, 2, 2, 2, 3, 2, 5, 7, 4, 4, 5, 6, 6, 1, 3, 1, 2, 3, 1, 2, 3, 3, 3, 4, 3, 3, 5, 3, 2, 4, 6, 4, 2, 6, 2, 2, 2, 2, 2, 1, 2, 2, 3, 2, 3, 1, 4, 2, 3, 1, 3, 4, 3, 1, 2, 4, 4, 2, 4, 3, 3, 3, 3, 3, 2, 2, 3, 3, 2, 2, 2, 2, 2, 7, 6, 10, 5, 8, 11, 7, 4, 7, 8, 5, 6, 10, 12, 5, 3, 8, 3, 9, 9, 6, 7, 4, 7, 4, 6, 5, 3, 6, 8, 1, 2, 3, 2, 2, 3, 3, 3, 1, 2, 3, 1, 1, 1, 4, 6, 4, 4]
def ab_rts : List Nat := [0, 0, 0, 1, 1, 1, 1, 2, 2, 2, 2, 2, 3, 3, 3, 3, 3, 3, 4, 4, 4, 5, 5, 5, 6, 6, 6, 6, 6, 6, 6, 6, 6, 6, 6, 6, 6, 50, 50, 50, 50, 7, 7, 7, 7, 7, 7, 7, 7, 8, 8, 8, 8, 8, 8, 8, 8, 8, 8, 8, 8, 8, 8, 8, 9, 9, 9, 9, 9, 9, 9, 9, 9, 9, 9, 9, 9, 9, 9, 9, 9, 9, 9, 9, 9, 9, 9, 9, 9, 9, 9, 9, 9, 9, 9, 9, 9, 9, 9, 9, 9, 9, 9, 9, 9, 9, 10, 10, 10, 10, 10, 10, 10, 10, 10, 10, 10, 10, 10, 10, 10, 10, 10, 10, 10, 10, 10, 10, 10, 10, 10, 10, 10, 10, 10, 10, 10, 10, 10, 10, 10, 10, 10, 10, 10, 10, 10, 10, 10, 10, 10, 10, 10, 10, 10, 10, 10, 10, 10, 10, 10, 10, 10, 10, 10, 10, 10, 10, 10, 10, 10, 10, 10, 10, 10, 10, 10, 10, 10, 10, 10, 10, 10, 10, 10, 30, 30, 30, 30, 30, 99, 99, 99, 99, 99]
def ab_mx (m : Nat) : Nat := ab_mxs.getD m 0
def ab_rt (m : Nat) : Nat := ab_rts.getD m 0
def ab_fd : List (Nat × ab_E) → Nat → Option ab_E
  | [], _ => none
  | (q, e) :: t, pc => if q = pc then some e else ab_fd t pc
noncomputable def ab_at (m pc : Nat) : Option ab_E := ab_fd (ab_cds.getD m []) pc
def ab_sl : List ab_V → ab_L
  | [] => []
  | .inr (.inl x) :: t => some (.inr (.inl x)) :: none :: ab_sl t
  | .inl x :: t => some (.inl x) :: ab_sl t
  | .inr (.inr x) :: t => some (.inr (.inr x)) :: ab_sl t
def ab_ent (as : List ab_V) (n : Nat) : ab_L := ab_sl as ++ List.replicate (n - (ab_sl as).length) none
/-- which method of the name 'meet' a round has -/
def ab_meet (t : Nat) : Nat := if t = 0 then 2 else if t = 3 then 15 else 23
def ab_isS (i : Instr) : Bool := match i with
  | .invokestatic _ => true
  | _ => false
/-- a receiver may be asked -/
abbrev ab_rc (M : ab_M) (m r : Nat) : Prop := (r < ab_nc M ∧ (ab_kd r).1 < 11 ∧ ab_tg (ab_rt m) (ab_kd r).1) ∨ (r = 1004 ∧ ab_rt m = 30)
def ab_args (e : ab_E) (st : List ab_V) (M : ab_M) : Option (Nat × (List ab_V × List ab_V)) :=
  if st.length < e.2.2.2.toNat ∨ 8 < ((st.drop e.2.2.2.toNat).map ab_cat).sum then none
  else if ab_isS e.1 = true then (if (ab_sl (st.take e.2.2.2.toNat).reverse).length ≤ ab_mx e.2.2.1 then some (e.2.2.1, (st.take e.2.2.2.toNat).reverse, st.drop e.2.2.2.toNat) else none)
  else match (st.take e.2.2.2.toNat).reverse with
    | .inr (.inr r) :: t =>
      if e.2.2.1 = 300 then (if r < ab_nc M ∧ (ab_kd r).1 < 11 ∧ ab_tg 50 (ab_kd r).1 ∧ (ab_sl (.inr (.inr r) :: t)).length ≤ ab_mx (ab_meet (ab_kd r).1) then some (ab_meet (ab_kd r).1, .inr (.inr r) :: t, st.drop e.2.2.2.toNat) else none)
      else if 1000 ≤ e.2.2.1 then (if r < ab_nc M ∧ (ab_kd r).1 < 11 ∧ (ab_kd r).1 + 1 = e.2.2.1 / 1000 ∧ (ab_sl (.inr (.inr r) :: t)).length ≤ ab_mx (e.2.2.1 % 1000) then some (e.2.2.1 % 1000, .inr (.inr r) :: t, st.drop e.2.2.2.toNat) else none)
      else if ab_rc M e.2.2.1 r ∧ (ab_sl (.inr (.inr r) :: t)).length ≤ ab_mx e.2.2.1 then some (e.2.2.1, .inr (.inr r) :: t, st.drop e.2.2.2.toNat) else none
    | _ => none
def ab_ret (e : ab_E) (st : List ab_V) (M : ab_M) : Option (Option ab_V × ab_M) := match st with
  | [] => if e.2.2.1 = 0 then some (none, M) else none
  | [.inl v] => if e.2.2.1 = 1 ∧ (e.2.2.2 = 0 ∨ (e.2.2.2 = 1 ∧ (v = 0 ∨ v = 1)) ∨ (e.2.2.2 = 3 ∧ -128 ≤ v ∧ v < 128)) then some (some (.inl v), M) else none
  | _ => none
/-- n: steps at most; d: calls at most that stand at once -/
noncomputable def ab_run : Nat → Nat → Nat → Nat → ab_L → List ab_V → ab_M → Option (Option ab_V × ab_M)
  | 0, _, _, _, _, _, _ => none
  | n + 1, d, m, pc, ls, st, M => match ab_at m pc with
    | none => none
    | some e => match e.2.1 with
      | 0 => (match ab_st1 e pc ls st M with
        | none => none
        | some u => ab_run n d m u.1 u.2.1 u.2.2.1 u.2.2.2)
      | 1 => (match d with
        | 0 => none
        | d' + 1 => (match ab_args e st M with
          | none => none
          | some q => (match ab_run n d' q.1 0 (ab_ent q.2.1 (ab_mx q.1)) [] M with
            | none => none
            | some z => ab_run n (d' + 1) m (pc + 3) ls (z.1.toList ++ q.2.2) z.2)))
      | 2 => ab_ret e st M
      | _ => none

