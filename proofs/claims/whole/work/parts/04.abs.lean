/-! AN ABSTRACT MACHINE: the bytecode run over cells that have numbers (0, 1, .. as they are made; 1000 the script, 1001 .. 1005 what was there before), ints and longs as whole numbers (what would wrap around refuses). M 999 0: how many cells; M 999 1: their slots; M 999 2: the script's length -/
abbrev ab_V : Type := Int ⊕ (Int ⊕ Nat)
abbrev ab_M : Type := Nat → Nat → Int
abbrev ab_L : Type := List (Option ab_V)
abbrev ab_St : Type := Nat × (ab_L × (List ab_V × ab_M))
def ab_w (M : ab_M) (k j : Nat) (x : Int) : ab_M := fun a b => if a = k ∧ b = j then x else M a b
abbrev ab_rg (x : Int) : Prop := -2147483648 ≤ x ∧ x ≤ 2147483647
abbrev ab_rl (x : Int) : Prop := -9223372036854775808 ≤ x ∧ x ≤ 9223372036854775807
def ab_nc (M : ab_M) : Nat := (M 999 0).toNat
def ab_kv : ab_V → Nat
  | .inl _ => 0
  | .inr (.inl _) => 1
  | .inr (.inr _) => 2
def ab_cat : ab_V → Nat
  | .inr (.inl _) => 2
  | _ => 1
def ab_kds : List (Nat × Nat) := [(9, 16), (6, 6), (22, 250), (20, 7), (20, 4)] ++
  [(8, 16), (24, 7), (20, 7), (20, 7), (20, 7), (20, 7), (20, 7), (20, 7), (20, 7), (24, 7), (20, 7), (20, 7), (20, 7), (20, 7), (20, 7), (20, 7), (20, 7), (20, 6), (20, 6), (20, 6), (20, 6), (20, 6), (20, 6), (20, 6), (24, 6), (20, 6), (20, 6), (20, 6), (20, 6), (20, 6), (20, 6), (20, 4)] ++
  [(8, 16), (24, 7), (20, 7), (20, 7), (20, 7), (20, 7), (20, 7), (20, 7), (20, 7), (24, 7), (20, 7), (20, 7), (20, 7), (20, 7), (20, 7), (20, 7), (20, 7), (20, 6), (20, 6), (20, 6), (20, 6), (20, 6), (20, 6), (20, 6), (24, 6), (20, 6), (20, 6), (20, 6), (20, 6), (20, 6), (20, 6), (20, 4)] ++
  [(7, 6), (20, 6), (7, 6), (20, 6), (7, 6), (20, 6), (4, 3), (20, 15), (20, 15), (0, 6), (20, 6), (20, 6), (20, 6), (5, 3), (20, 6), (20, 6), (21, 64), (5, 3), (20, 6), (20, 6), (21, 64), (3, 8), (20, 6), (20, 6), (20, 6), (20, 6), (1, 2), (20, 6), (20, 6), (2, 2), (20, 98), (20, 98), (20, 6), (20, 6)] ++
  [(10, 50), (20, 250), (20, 49), (21, 49), (20, 6), (20, 6), (20, 30), (20, 36), (20, 4), (20, 10), (20, 12), (20, 30), (20, 49), (20, 12), (20, 30), (20, 36), (20, 4), (20, 384), (20, 6), (20, 6), (21, 64), (20, 6), (20, 6), (20, 49), (20, 49), (20, 6), (20, 6), (21, 2), (20, 20)]
/-- of a cell: (number of its class, fields), or (20 int, 21 boolean, 22 char, 24 rows of int; length) -/
def ab_kd (k : Nat) : Nat × Nat := ab_kds.getD k (99, 0)
/-- of a field: 0 int, 1 boolean, 2 a reference -/
def ab_fts : List (List Nat) := [[2, 2, 0, 0, 0, 2], [2, 2], [2, 2], [2, 2, 0, 0, 0, 0, 2, 2], [0, 2, 2], [2, 2, 2], [0, 0, 0, 2, 2, 2], [0, 0, 0, 0, 1, 2], [0, 0, 0, 0, 0, 2, 2, 2, 2, 2, 2, 2, 2, 2, 2, 2], [2, 0, 2, 2, 2, 2, 2, 2, 2, 2, 2, 2, 2, 2, 2, 2],
  [2, 0, 0, 0, 0, 2, 2, 2, 2, 0, 2, 0, 2, 2, 0, 2, 2, 0, 2, 0, 0, 0, 0, 0, 0, 0, 0, 2, 0, 2, 0, 2, 0, 2, 0, 2, 0, 2, 2, 2, 2, 2, 2, 2, 2, 2, 2, 0, 2, 2]]
def ab_fty (t f : Nat) : Nat := (ab_fts.getD t []).getD f 0
/-- what was there before: the class's own constant rows, the signs of its constant text -/
def ab_stt (k : Nat) : List Int := if k = 1001 then [2, 3, 2, 4, 2, 3, 1] else if k = 1002 then [1, 10, 6, 6, 250, 12, 4] else if k = 1003 then [0, 30, 999, 99] else [116, 119, 112, 100, 114, 113, 111]
/-- a receiver of the class (50: of one that is a round) -/
abbrev ab_tg (x : Int) (t : Nat) : Prop := x = t ∨ (x = 50 ∧ (t = 0 ∨ t = 3 ∨ t = 5))
/-- a cell with a field -/
abbrev ab_ob (M : ab_M) (k f : Nat) (x : Int) : Prop := k < ab_nc M ∧ (ab_kd k).1 < 11 ∧ ab_tg x (ab_kd k).1 ∧ f < (ab_kd k).2
/-- a row with a place -/
abbrev ab_ar (M : ab_M) (t k : Nat) (i : Int) : Prop := k < ab_nc M ∧ (ab_kd k).1 = t ∧ 0 ≤ i ∧ i < (ab_kd k).2
def ab_push (pc : Nat) (ls : ab_L) (st : List ab_V) (M : ab_M) (v : ab_V) : Option ab_St := some (pc, ls, v :: st, M)
def ab_i2 (f : Int → Int → Option Int) (pc : Nat) (ls : ab_L) (st : List ab_V) (M : ab_M) : Option ab_St := match st with
  | .inl y :: .inl x :: r => (match f x y with
    | some z => some (pc + 1, ls, .inl z :: r, M)
    | none => none)
  | _ => none
def ab_l2 (f : Int → Int → Option Int) (pc : Nat) (ls : ab_L) (st : List ab_V) (M : ab_M) : Option ab_St := match st with
  | .inr (.inl y) :: .inr (.inl x) :: r => (match f x y with
    | some z => some (pc + 1, ls, .inr (.inl z) :: r, M)
    | none => none)
  | _ => none
def ab_ck (x : Int) : Option Int := if ab_rg x then some x else none
def ab_cl (x : Int) : Option Int := if ab_rl x then some x else none
def ab_lda (t len n pc : Nat) (ls : ab_L) (st : List ab_V) (M : ab_M) : Option ab_St := match ls.getD n none with
  | some v => if ab_kv v = t then some (pc + len, ls, v :: st, M) else none
  | none => none
def ab_kl (ls : ab_L) (n : Nat) : ab_L := match n with
  | 0 => ls
  | i + 1 => (match ls.getD i none with
    | some (.inr (.inl _)) => ls.set i none
    | _ => ls)
def ab_set (ls : ab_L) (n : Nat) (v : ab_V) : ab_L := match v with
  | .inr (.inl _) => ((ab_kl ls n).set n (some v)).set (n + 1) none
  | _ => (ab_kl ls n).set n (some v)
def ab_sto (t len n pc : Nat) (ls : ab_L) (st : List ab_V) (M : ab_M) : Option ab_St := match st with
  | v :: r => if ab_kv v = t ∧ n + ab_cat v ≤ ls.length then some (pc + len, ab_set ls n v, r, M) else none
  | [] => none
def ab_cmp (c : Jvm.ClassFile.Cond) (x y : Int) : Bool := match c with
  | .eq => decide (x = y)
  | .ne => decide (¬ x = y)
  | .lt => decide (x < y)
  | .ge => decide (y ≤ x)
  | .gt => decide (y < x)
  | .le => decide (x ≤ y)
def ab_and (x y : Int) : Int := (Int32.ofInt x &&& Int32.ofInt y).toInt
def ab_or (x y : Int) : Int := (Int32.ofInt x ||| Int32.ofInt y).toInt
def ab_xor (x y : Int) : Int := (Int32.ofInt x ^^^ Int32.ofInt y).toInt
def ab_shl (x y : Int) : Int := (Int32.ofInt x <<< (Int32.ofInt y &&& 31)).toInt
def ab_shr (x y : Int) : Int := (Int32.ofInt x >>> (Int32.ofInt y &&& 31)).toInt
def ab_land (x y : Int) : Int := (Int64.ofInt x &&& Int64.ofInt y).toInt
def ab_div (x y : Int) : Option Int := if y = 0 then none else ab_ck (x.tdiv y)
def ab_rem (x y : Int) : Option Int := if y = 0 ∨ ¬ ab_rg (x.tdiv y) then none else some (x - x.tdiv y * y)
def ab_get (f : Nat) (x : Int) (pc : Nat) (ls : ab_L) (st : List ab_V) (M : ab_M) : Option ab_St := match st with
  | .inr (.inr k) :: r =>
    if x = 30 then (if k = 1004 then (if f = 0 then some (pc + 3, ls, .inr (.inr 1005) :: r, M) else some (pc + 3, ls, .inl 0 :: r, M)) else none)
    else if ab_ob M k f x then (if ab_fty (ab_kd k).1 f = 2 then (if 0 ≤ M k f ∧ M k f < 1000 then some (pc + 3, ls, .inr (.inr (M k f).toNat) :: r, M) else none) else some (pc + 3, ls, .inl (M k f) :: r, M)) else none
  | _ => none
def ab_put (f : Nat) (x : Int) (pc : Nat) (ls : ab_L) (st : List ab_V) (M : ab_M) : Option ab_St := match st with
  | .inl v :: .inr (.inr k) :: r => if ab_ob M k f x ∧ (ab_fty (ab_kd k).1 f = 0 ∨ (ab_fty (ab_kd k).1 f = 1 ∧ (v = 0 ∨ v = 1))) then some (pc + 3, ls, r, ab_w M k f v) else none
  | .inr (.inr j) :: .inr (.inr k) :: r => if ab_ob M k f x ∧ ab_fty (ab_kd k).1 f = 2 ∧ j < ab_nc M then some (pc + 3, ls, r, ab_w M k f j) else none
  | _ => none
def ab_ald (t pc : Nat) (ls : ab_L) (st : List ab_V) (M : ab_M) : Option ab_St := match st with
  | .inl i :: .inr (.inr k) :: r =>
    if k < 1000 then (if ab_ar M t k i then (if t = 24 then (if 0 ≤ M k i.toNat ∧ M k i.toNat < 1000 then some (pc + 1, ls, .inr (.inr (M k i.toNat).toNat) :: r, M) else none) else some (pc + 1, ls, .inl (M k i.toNat) :: r, M)) else none)
    else if k = 1000 then (if t = 20 ∧ 0 ≤ i ∧ i < M 999 2 then some (pc + 1, ls, .inl (M 1000 i.toNat) :: r, M) else none)
    else if ((t = 20 ∧ k < 1004) ∨ (t = 21 ∧ k = 1005)) ∧ 0 ≤ i ∧ i < (ab_stt k).length then some (pc + 1, ls, .inl ((ab_stt k).getD i.toNat 0) :: r, M) else none
  | _ => none
def ab_ast (t pc : Nat) (ls : ab_L) (st : List ab_V) (M : ab_M) : Option ab_St := match st with
  | .inl v :: .inl i :: .inr (.inr k) :: r => if ab_ar M t k i ∧ (t = 21 → v = 0 ∨ v = 1) ∧ (t = 22 → 0 ≤ v ∧ v < 65536) then some (pc + 1, ls, r, ab_w M k i.toNat v) else none
  | _ => none
def ab_len (pc : Nat) (ls : ab_L) (st : List ab_V) (M : ab_M) : Option ab_St := match st with
  | .inr (.inr k) :: r =>
    if k < 1000 then (if k < ab_nc M ∧ 20 ≤ (ab_kd k).1 ∧ (ab_kd k).1 < 25 then some (pc + 1, ls, .inl (ab_kd k).2 :: r, M) else none)
    else if k = 1000 then some (pc + 1, ls, .inl (M 999 2) :: r, M)
    else if k = 1005 then some (pc + 1, ls, .inl 7 :: r, M) else none
  | _ => none
/-- a new cell -/
def ab_mk (M : ab_M) : ab_M := fun a b => if a = ab_nc M then (if ab_fty (ab_kd (ab_nc M)).1 b = 2 then -1 else 0) else if a = 999 then (if b = 0 then M 999 0 + 1 else if b = 1 then M 999 1 + (ab_kd (ab_nc M)).2 else M a b) else M a b
/-- n rows behind the cell o, which names them -/
def ab_mk2 (M : ab_M) (n b : Nat) : ab_M := fun x y => if x = ab_nc M then (if y < n then ((ab_nc M + 1 + y : Nat) : Int) else 0) else if ab_nc M < x ∧ x ≤ ab_nc M + n then 0 else if x = 999 then (if y = 0 then M 999 0 + 1 + n else if y = 1 then M 999 1 + n + n * b else M x y) else M x y
def ab_new (x : Int) (pc : Nat) (ls : ab_L) (st : List ab_V) (M : ab_M) : Option ab_St :=
  if 0 ≤ M 999 0 ∧ M 999 0 < 990 ∧ x = (ab_kd (ab_nc M)).1 ∧ (ab_kd (ab_nc M)).1 < 11 then some (pc + 3, ls, .inr (.inr (ab_nc M)) :: st, ab_mk M) else none
def ab_nar (x : Int) (pc : Nat) (ls : ab_L) (st : List ab_V) (M : ab_M) : Option ab_St := match st with
  | .inl n :: r => if 0 ≤ M 999 0 ∧ M 999 0 < 990 ∧ x = (ab_kd (ab_nc M)).1 ∧ (x = 20 ∨ x = 21 ∨ x = 22) ∧ n = (ab_kd (ab_nc M)).2 ∧ n < 1000 then some (pc + 2, ls, .inr (.inr (ab_nc M)) :: r, ab_mk M) else none
  | _ => none
def ab_na2 (pc : Nat) (ls : ab_L) (st : List ab_V) (M : ab_M) : Option ab_St := match st with
  | .inl b :: .inl n :: r => if 0 ≤ M 999 0 ∧ M 999 0 < 900 ∧ ab_kd (ab_nc M) = (24, n.toNat) ∧ 0 ≤ n ∧ n < 10 ∧ 0 ≤ b ∧ b < 10 ∧ (List.range n.toNat).all (fun i => decide (ab_kd (ab_nc M + 1 + i) = (20, b.toNat))) = true then some (pc + 4, ls, .inr (.inr (ab_nc M)) :: r, ab_mk2 M n.toNat b.toNat) else none
  | _ => none
/-- System.arraycopy over rows of int -/
def ab_cpm (M : ab_M) (s d : Nat) (sp dp n : Nat) : ab_M := fun a b => if a = d ∧ dp ≤ b ∧ b < dp + n then M s (sp + (b - dp)) else M a b
def ab_cpy (pc : Nat) (ls : ab_L) (st : List ab_V) (M : ab_M) : Option ab_St := match st with
  | .inl n :: .inl dp :: .inr (.inr d) :: .inl sp :: .inr (.inr s) :: r =>
    if s < ab_nc M ∧ d < ab_nc M ∧ (ab_kd s).1 = 20 ∧ (ab_kd d).1 = 20 ∧ 0 ≤ n ∧ 0 ≤ sp ∧ 0 ≤ dp ∧ sp + n ≤ (ab_kd s).2 ∧ dp + n ≤ (ab_kd d).2 ∧ (r.map ab_cat).sum ≤ 8 then some (pc + 3, ls, r, ab_cpm M s d sp.toNat dp.toNat n.toNat) else none
  | _ => none
def ab_sw (pc : Nat) (k : Nat) (lo hi : Int) (offs : Array Int) (ls : ab_L) (st : List ab_V) (M : ab_M) : Option ab_St := match st with
  | .inl x :: r => if x < lo ∨ hi < x then some (k, ls, r, M) else (match offs[(x - lo).toNat]? with
    | some off => if 0 ≤ (pc : Int) + off then some (((pc : Int) + off).toNat, ls, r, M) else none
    | none => none)
  | _ => none
def ab_lsw (pc : Nat) (dflt : Int) (ps : Array (Int × Int)) (ls : ab_L) (st : List ab_V) (M : ab_M) : Option ab_St := match st with
  | .inl x :: r => if 0 ≤ (pc : Int) + Op.lookupswitch.offset ps.toList dflt x then some (((pc : Int) + Op.lookupswitch.offset ps.toList dflt x).toNat, ls, r, M) else none
  | _ => none
def ab_br1 (c : Jvm.ClassFile.Cond) (k pc : Nat) (ls : ab_L) (st : List ab_V) (M : ab_M) : Option ab_St := match st with
  | .inl x :: r => some (if ab_cmp c x 0 = true then k else pc + 3, ls, r, M)
  | _ => none
def ab_br2 (c : Jvm.ClassFile.Cond) (k pc : Nat) (ls : ab_L) (st : List ab_V) (M : ab_M) : Option ab_St := match st with
  | .inl y :: .inl x :: r => some (if ab_cmp c x y = true then k else pc + 3, ls, r, M)
  | _ => none
def ab_iinc (n : Nat) (c : Int) (pc : Nat) (ls : ab_L) (st : List ab_V) (M : ab_M) : Option ab_St := match ls.getD n none with
  | some (.inl x) => if ab_rg (x + c) then some (pc + 3, ls.set n (some (.inl (x + c))), st, M) else none
  | _ => none
def ab_cnv (t : Nat) (pc : Nat) (ls : ab_L) (st : List ab_V) (M : ab_M) : Option ab_St := match st with
  | .inl x :: r => if t = 0 then some (pc + 1, ls, .inr (.inl x) :: r, M) else if t = 2 then (if 0 ≤ x ∧ x < 65536 then some (pc + 1, ls, .inl x :: r, M) else none) else if t = 3 then (if -128 ≤ x ∧ x < 256 then some (pc + 1, ls, .inl (if x < 128 then x else x - 256) :: r, M) else none) else none
  | .inr (.inl x) :: r => if t = 1 ∧ ab_rg x then some (pc + 1, ls, .inl x :: r, M) else none
  | _ => none
def ab_lcmp (pc : Nat) (ls : ab_L) (st : List ab_V) (M : ab_M) : Option ab_St := match st with
  | .inr (.inl y) :: .inr (.inl x) :: r => some (pc + 1, ls, .inl (if x < y then -1 else if x = y then 0 else 1) :: r, M)
  | _ => none
def ab_dup (pc : Nat) (ls : ab_L) (st : List ab_V) (M : ab_M) : Option ab_St := match st with
  | v :: r => if ab_cat v = 1 then some (pc + 1, ls, v :: v :: r, M) else none
  | _ => none
def ab_pop (pc : Nat) (ls : ab_L) (st : List ab_V) (M : ab_M) : Option ab_St := match st with
  | v :: r => if ab_cat v = 1 then some (pc + 1, ls, r, M) else none
  | _ => none
def ab_dup2 (pc : Nat) (ls : ab_L) (st : List ab_V) (M : ab_M) : Option ab_St := match st with
  | v :: u :: r => if ab_cat v = 1 ∧ ab_cat u = 1 then some (pc + 1, ls, v :: u :: v :: u :: r, M) else none
  | _ => none
def ab_oi (pc : Nat) (ls : ab_L) (st : List ab_V) (M : ab_M) : Option ab_St := match st with
  | .inr (.inr _) :: r => if (r.map ab_cat).sum ≤ 8 then some (pc + 3, ls, r, M) else none
  | _ => none
/-- Math.max, Math.min -/
def ab_mm (b : Bool) (pc : Nat) (ls : ab_L) (st : List ab_V) (M : ab_M) : Option ab_St := match st with
  | .inl y :: .inl x :: r => if (r.map ab_cat).sum ≤ 8 then some (pc + 3, ls, .inl (if b = true then (if x < y then y else x) else (if y < x then y else x)) :: r, M) else none
  | _ => none
/-- one instruction that is no call and no return -/
def ab_st1 (e : ab_E) (pc : Nat) (ls : ab_L) (st : List ab_V) (M : ab_M) : Option ab_St := match e.1 with
  | .iconst n => some (pc + 1, ls, .inl n :: st, M)
  | .bipush n => some (pc + 2, ls, .inl n :: st, M)
  | .sipush n => some (pc + 3, ls, .inl n :: st, M)
  | .lconst n => some (pc + 1, ls, .inr (.inl n.val) :: st, M)
  | .ldc _ => some (pc + 2, ls, (if e.2.2.1 = 0 then .inl e.2.2.2 else .inr (.inr 1004)) :: st, M)
  | .ldc_w _ => some (pc + 3, ls, .inl e.2.2.2 :: st, M)
  | .ldc2_w _ => some (pc + 3, ls, .inr (.inl e.2.2.2) :: st, M)
  | .iload n => ab_lda 0 2 n pc ls st M
  | .iload_n n => ab_lda 0 1 n.val pc ls st M
  | .lload n => ab_lda 1 2 n pc ls st M
  | .lload_n n => ab_lda 1 1 n.val pc ls st M
  | .aload n => ab_lda 2 2 n pc ls st M
  | .aload_n n => ab_lda 2 1 n.val pc ls st M
  | .istore n => ab_sto 0 2 n pc ls st M
  | .istore_n n => ab_sto 0 1 n.val pc ls st M
  | .lstore n => ab_sto 1 2 n pc ls st M
  | .astore n => ab_sto 2 2 n pc ls st M
  | .astore_n n => ab_sto 2 1 n.val pc ls st M
  | .iinc n c => ab_iinc n c pc ls st M
  | .iadd => ab_i2 (fun x y => ab_ck (x + y)) pc ls st M
  | .isub => ab_i2 (fun x y => ab_ck (x - y)) pc ls st M
  | .imul => ab_i2 (fun x y => ab_ck (x * y)) pc ls st M
  | .idiv => ab_i2 ab_div pc ls st M
  | .irem => ab_i2 ab_rem pc ls st M
  | .iand => ab_i2 (fun x y => some (ab_and x y)) pc ls st M
  | .ior => ab_i2 (fun x y => some (ab_or x y)) pc ls st M
  | .ixor => ab_i2 (fun x y => some (ab_xor x y)) pc ls st M
  | .ishl => ab_i2 (fun x y => some (ab_shl x y)) pc ls st M
  | .ishr => ab_i2 (fun x y => some (ab_shr x y)) pc ls st M
  | .ladd => ab_l2 (fun x y => ab_cl (x + y)) pc ls st M
  | .lmul => ab_l2 (fun x y => ab_cl (x * y)) pc ls st M
  | .ldiv => ab_l2 (fun x y => if y = 0 then none else ab_cl (x.tdiv y)) pc ls st M
  | .land => ab_l2 (fun x y => some (ab_land x y)) pc ls st M
  | .i2l => ab_cnv 0 pc ls st M
  | .l2i => ab_cnv 1 pc ls st M
  | .i2c => ab_cnv 2 pc ls st M
  | .i2b => ab_cnv 3 pc ls st M
  | .lcmp => ab_lcmp pc ls st M
  | .dup => ab_dup pc ls st M
  | .pop => ab_pop pc ls st M
  | .dup2 => ab_dup2 pc ls st M
  | .goto _ => some (e.2.2.1, ls, st, M)
  | .ifCond c _ => ab_br1 c e.2.2.1 pc ls st M
  | .if_icmp c _ => ab_br2 c e.2.2.1 pc ls st M
  | .tableswitch _ lo hi offs => ab_sw pc e.2.2.1 lo hi offs ls st M
  | .lookupswitch d ps => ab_lsw pc d ps ls st M
  | .getfield _ => ab_get e.2.2.1 e.2.2.2 pc ls st M
  | .putfield _ => ab_put e.2.2.1 e.2.2.2 pc ls st M
  | .getstatic _ => some (pc + 3, ls, (if e.2.2.2 = 0 then .inr (.inr e.2.2.1) else .inl e.2.2.1) :: st, M)
  | .iaload => ab_ald 20 pc ls st M
  | .baload => ab_ald 21 pc ls st M
  | .caload => ab_ald 22 pc ls st M
  | .aaload => ab_ald 24 pc ls st M
  | .iastore => ab_ast 20 pc ls st M
  | .bastore => ab_ast 21 pc ls st M
  | .castore => ab_ast 22 pc ls st M
  | .arraylength => ab_len pc ls st M
  | .new _ => ab_new e.2.2.2 pc ls st M
  | .newarray _ => ab_nar e.2.2.2 pc ls st M
  | .multianewarray _ _ => ab_na2 pc ls st M
  | .invokespecial _ => ab_oi pc ls st M
  | .invokestatic _ => if e.2.2.1 = 901 then ab_cpy pc ls st M else ab_mm (decide (e.2.2.1 = 902)) pc ls st M
  | _ => none
