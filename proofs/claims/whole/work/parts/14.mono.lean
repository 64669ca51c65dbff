/-! THE COUNTS ONLY GROW, and more steps or calls do no harm -/
section MONO
variable {p : Program} {l : Launch} {e : Env} {R : Room} {s : State} {m : MethodId} {args : Array Value} {below : List Frame} {meth : Method} {c : Code} {Q : State → Prop} {D : va_G} {I : ab_I4} {b0 : Nat} {sa : Nat → Nat} {L : Nat} {xs : Nat → Int32} {nL n0 s0 : Nat} {cc : ByteArray} {own : String} {pc : Nat} {ls : ab_L} {st : List ab_V} {M : ab_M}
def ab_up (M M' : ab_M) : Prop := M 999 0 ≤ M' 999 0 ∧ M 999 1 ≤ M' 999 1 ∧ M' 999 0 ≤ 995 ∧ M' 999 2 = M 999 2 ∧ M' 1000 = M 1000
theorem ab_up_rfl (h : M 999 0 ≤ 995) : ab_up M M := ⟨Int.le_refl _, Int.le_refl _, h, rfl, rfl⟩
theorem ab_up_trans {M1 M2 : ab_M} (h1 : ab_up M M1) (h2 : ab_up M1 M2) : ab_up M M2 := ⟨Int.le_trans h1.1 h2.1, Int.le_trans h1.2.1 h2.2.1, h2.2.2.1, h2.2.2.2.1.trans h1.2.2.2.1, h2.2.2.2.2.trans h1.2.2.2.2⟩
theorem ab_up_w {k f : Nat} {v : Int} (h : M 999 0 ≤ 995) (hk : k < ab_nc M) : ab_up M (ab_w M k f v) := by
  have h9 : k ≠ 999 := by unfold ab_nc at hk; omega
  have h10 : k ≠ 1000 := by unfold ab_nc at hk; omega
  have e : ab_w M k f v 999 = M 999 := ab_w_ne (Ne.symm h9)
  refine ⟨?_, ?_, ?_, ?_, ab_w_ne (Ne.symm h10)⟩ <;> rw [e] <;> first | exact Int.le_refl _ | exact h
theorem ab_up_mk (h : M 999 0 < 990) : ab_up M (ab_mk M) := by
  have hn : ab_nc M ≤ 995 := by unfold ab_nc; omega
  refine ⟨?_, ?_, ?_, ?_, ?_⟩
  · rw [ab_mk_9 hn, if_pos rfl]; omega
  · rw [ab_mk_9 hn, if_neg (by decide), if_pos rfl]; omega
  · rw [ab_mk_9 hn, if_pos rfl]; omega
  · rw [ab_mk_9 hn, if_neg (by decide), if_neg (by decide)]
  · funext b; unfold ab_mk; rw [if_neg (by omega), if_neg (by decide)]
theorem ab_up_mk2 {n b : Nat} (h : M 999 0 < 900) (hn : n < 10) : ab_up M (ab_mk2 M n b) := by
  have hc : ab_nc M ≤ 900 := by unfold ab_nc; omega
  have e9 : ∀ y, ab_mk2 M n b 999 y = if y = 0 then M 999 0 + 1 + n else if y = 1 then M 999 1 + n + n * b else M 999 y := by
    intro y
    unfold ab_mk2
    rw [if_neg (by omega), if_neg (by omega), if_pos rfl]
  refine ⟨?_, ?_, ?_, ?_, ?_⟩
  · rw [e9, if_pos rfl]; omega
  · rw [e9, if_neg (by decide), if_pos rfl]
    have : (0 : Int) ≤ (n : Int) * (b : Int) := Int.mul_nonneg (by omega) (by omega)
    omega
  · rw [e9, if_pos rfl]; omega
  · rw [e9, if_neg (by decide), if_neg (by decide)]
  · funext y; unfold ab_mk2; rw [if_neg (by omega), if_neg (by omega), if_neg (by decide)]
theorem ab_up_st1 {en : ab_E} {u : ab_St} (h : M 999 0 ≤ 995) (hu : ab_st1 en pc ls st M = some u) : ab_up M u.2.2.2 := by
  have same : u.2.2.2 = M → ab_up M u.2.2.2 := fun q => by rw [q]; exact ab_up_rfl h
  obtain ⟨i, kd, k, x⟩ := en
  cases i with
  | iconst n => cases hu; exact same rfl
  | bipush n => cases hu; exact same rfl
  | sipush n => cases hu; exact same rfl
  | lconst n => cases hu; exact same rfl
  | ldc n => cases hu; exact same rfl
  | ldc_w n => cases hu; exact same rfl
  | ldc2_w n => cases hu; exact same rfl
  | iload n => obtain ⟨v, -, -, rfl⟩ := iv_lda hu; exact same rfl
  | iload_n n => obtain ⟨v, -, -, rfl⟩ := iv_lda hu; exact same rfl
  | lload n => obtain ⟨v, -, -, rfl⟩ := iv_lda hu; exact same rfl
  | lload_n n => obtain ⟨v, -, -, rfl⟩ := iv_lda hu; exact same rfl
  | aload n => obtain ⟨v, -, -, rfl⟩ := iv_lda hu; exact same rfl
  | aload_n n => obtain ⟨v, -, -, rfl⟩ := iv_lda hu; exact same rfl
  | istore n => obtain ⟨v, r, -, -, -, rfl⟩ := iv_sto hu; exact same rfl
  | istore_n n => obtain ⟨v, r, -, -, -, rfl⟩ := iv_sto hu; exact same rfl
  | lstore n => obtain ⟨v, r, -, -, -, rfl⟩ := iv_sto hu; exact same rfl
  | astore n => obtain ⟨v, r, -, -, -, rfl⟩ := iv_sto hu; exact same rfl
  | astore_n n => obtain ⟨v, r, -, -, -, rfl⟩ := iv_sto hu; exact same rfl
  | iinc n z =>
    have hu : ab_iinc n z pc ls st M = some u := hu
    unfold ab_iinc at hu
    split at hu
    · split at hu
      · cases hu; exact same rfl
      · cases hu
    · cases hu
  | iadd => obtain ⟨a, b, z, r, -, -, rfl⟩ := iv_i2 (f := fun x y => ab_ck (x + y)) hu; exact same rfl
  | isub => obtain ⟨a, b, z, r, -, -, rfl⟩ := iv_i2 (f := fun x y => ab_ck (x - y)) hu; exact same rfl
  | imul => obtain ⟨a, b, z, r, -, -, rfl⟩ := iv_i2 (f := fun x y => ab_ck (x * y)) hu; exact same rfl
  | idiv => obtain ⟨a, b, z, r, -, -, rfl⟩ := iv_i2 (f := ab_div) hu; exact same rfl
  | irem => obtain ⟨a, b, z, r, -, -, rfl⟩ := iv_i2 (f := ab_rem) hu; exact same rfl
  | iand => obtain ⟨a, b, z, r, -, -, rfl⟩ := iv_i2 (f := fun x y => some (ab_and x y)) hu; exact same rfl
  | ior => obtain ⟨a, b, z, r, -, -, rfl⟩ := iv_i2 (f := fun x y => some (ab_or x y)) hu; exact same rfl
  | ixor => obtain ⟨a, b, z, r, -, -, rfl⟩ := iv_i2 (f := fun x y => some (ab_xor x y)) hu; exact same rfl
  | ishl => obtain ⟨a, b, z, r, -, -, rfl⟩ := iv_i2 (f := fun x y => some (ab_shl x y)) hu; exact same rfl
  | ishr => obtain ⟨a, b, z, r, -, -, rfl⟩ := iv_i2 (f := fun x y => some (ab_shr x y)) hu; exact same rfl
  | ladd => obtain ⟨a, b, z, r, -, -, rfl⟩ := iv_l2 (f := fun x y => ab_cl (x + y)) hu; exact same rfl
  | lmul => obtain ⟨a, b, z, r, -, -, rfl⟩ := iv_l2 (f := fun x y => ab_cl (x * y)) hu; exact same rfl
  | ldiv => obtain ⟨a, b, z, r, -, -, rfl⟩ := iv_l2 (f := fun x y => if y = 0 then none else ab_cl (x.tdiv y)) hu; exact same rfl
  | land => obtain ⟨a, b, z, r, -, -, rfl⟩ := iv_l2 (f := fun x y => some (ab_land x y)) hu; exact same rfl
  | i2l =>
    have hu : ab_cnv 0 pc ls st M = some u := hu
    unfold ab_cnv at hu
    split at hu
    · simp at hu; subst hu; exact same rfl
    · simp at hu
    · cases hu
  | l2i =>
    have hu : ab_cnv 1 pc ls st M = some u := hu
    unfold ab_cnv at hu
    split at hu
    · simp at hu
    · split at hu
      · cases hu; exact same rfl
      · cases hu
    · cases hu
  | i2c =>
    have hu : ab_cnv 2 pc ls st M = some u := hu
    unfold ab_cnv at hu
    split at hu
    · simp at hu; obtain ⟨-, rfl⟩ := hu; exact same rfl
    · simp at hu
    · cases hu
  | i2b =>
    have hu : ab_cnv 3 pc ls st M = some u := hu
    unfold ab_cnv at hu
    split at hu
    · simp at hu; obtain ⟨-, rfl⟩ := hu; exact same rfl
    · simp at hu
    · cases hu
  | lcmp =>
    have hu : ab_lcmp pc ls st M = some u := hu
    unfold ab_lcmp at hu
    split at hu
    · cases hu; exact same rfl
    · cases hu
  | dup =>
    have hu : ab_dup pc ls st M = some u := hu
    unfold ab_dup at hu
    split at hu
    · split at hu
      · cases hu; exact same rfl
      · cases hu
    · cases hu
  | pop =>
    have hu : ab_pop pc ls st M = some u := hu
    unfold ab_pop at hu
    split at hu
    · split at hu
      · cases hu; exact same rfl
      · cases hu
    · cases hu
  | dup2 =>
    have hu : ab_dup2 pc ls st M = some u := hu
    unfold ab_dup2 at hu
    split at hu
    · split at hu
      · cases hu; exact same rfl
      · cases hu
    · cases hu
  | goto off => cases hu; exact same rfl
  | ifCond c' off => obtain ⟨a, r, -, rfl⟩ := iv_br1 (c := c') (k := k) hu; exact same rfl
  | if_icmp c' off => obtain ⟨a, b, r, -, rfl⟩ := iv_br2 (c := c') (k := k) hu; exact same rfl
  | tableswitch d lo hi offs =>
    have hu : ab_sw pc k lo hi offs ls st M = some u := hu
    unfold ab_sw at hu
    split at hu
    · split at hu
      · cases hu; exact same rfl
      · split at hu
        · split at hu
          · cases hu; exact same rfl
          · cases hu
        · cases hu
    · cases hu
  | lookupswitch d ps =>
    have hu : ab_lsw pc d ps ls st M = some u := hu
    unfold ab_lsw at hu
    split at hu
    · split at hu
      · cases hu; exact same rfl
      · cases hu
    · cases hu
  | getfield i =>
    have hu : ab_get k x pc ls st M = some u := hu
    unfold ab_get at hu
    split at hu
    · split at hu
      · split at hu
        · split at hu
          · cases hu; exact same rfl
          · cases hu; exact same rfl
        · cases hu
      · split at hu
        · split at hu
          · split at hu
            · cases hu; exact same rfl
            · cases hu
          · cases hu; exact same rfl
        · cases hu
    · cases hu
  | putfield i =>
    have hu : ab_put k x pc ls st M = some u := hu
    unfold ab_put at hu
    split at hu
    · split at hu
      next hc => cases hu; exact ab_up_w h hc.1.1
      next => cases hu
    · split at hu
      next hc => cases hu; exact ab_up_w h hc.1.1
      next => cases hu
    · cases hu
  | getstatic i => cases hu; exact same rfl
  | iaload => obtain ⟨i, k, r, -, (⟨-, -, (⟨-, -, -, rfl⟩ | ⟨-, rfl⟩)⟩ | ⟨-, -, -, -, rfl⟩ | ⟨-, -, -, -, rfl⟩)⟩ := iv_ald hu <;> exact same rfl
  | baload => obtain ⟨i, k, r, -, (⟨-, -, (⟨-, -, -, rfl⟩ | ⟨-, rfl⟩)⟩ | ⟨-, -, -, -, rfl⟩ | ⟨-, -, -, -, rfl⟩)⟩ := iv_ald hu <;> exact same rfl
  | caload => obtain ⟨i, k, r, -, (⟨-, -, (⟨-, -, -, rfl⟩ | ⟨-, rfl⟩)⟩ | ⟨-, -, -, -, rfl⟩ | ⟨-, -, -, -, rfl⟩)⟩ := iv_ald hu <;> exact same rfl
  | aaload => obtain ⟨i, k, r, -, (⟨-, -, (⟨-, -, -, rfl⟩ | ⟨-, rfl⟩)⟩ | ⟨-, -, -, -, rfl⟩ | ⟨-, -, -, -, rfl⟩)⟩ := iv_ald hu <;> exact same rfl
  | iastore => obtain ⟨v, i, k, r, -, ha, -, -, rfl⟩ := iv_ast hu; exact ab_up_w h ha.1
  | bastore => obtain ⟨v, i, k, r, -, ha, -, -, rfl⟩ := iv_ast hu; exact ab_up_w h ha.1
  | castore => obtain ⟨v, i, k, r, -, ha, -, -, rfl⟩ := iv_ast hu; exact ab_up_w h ha.1
  | arraylength =>
    have hu : ab_len pc ls st M = some u := hu
    unfold ab_len at hu
    split at hu
    · split at hu
      · split at hu
        · cases hu; exact same rfl
        · cases hu
      · split at hu
        · cases hu; exact same rfl
        · split at hu
          · cases hu; exact same rfl
          · cases hu
    · cases hu
  | new i =>
    have hu : ab_new x pc ls st M = some u := hu
    unfold ab_new at hu
    split at hu
    next hc => cases hu; exact ab_up_mk hc.2.1
    next => cases hu
  | newarray a =>
    have hu : ab_nar x pc ls st M = some u := hu
    unfold ab_nar at hu
    split at hu
    · split at hu
      next hc => cases hu; exact ab_up_mk hc.2.1
      next => cases hu
    · cases hu
  | multianewarray i n =>
    have hu : ab_na2 pc ls st M = some u := hu
    unfold ab_na2 at hu
    split at hu
    · split at hu
      next hc => cases hu; exact ab_up_mk2 hc.2.1 (by omega)
      next => cases hu
    · cases hu
  | invokespecial i =>
    have hu : ab_oi pc ls st M = some u := hu
    unfold ab_oi at hu
    split at hu
    · split at hu
      · cases hu; exact same rfl
      · cases hu
    · cases hu
  | invokestatic i =>
    have hu : (if k = 901 then ab_cpy pc ls st M else ab_mm (decide (k = 902)) pc ls st M) = some u := hu
    split at hu
    · unfold ab_cpy at hu
      split at hu
      · split at hu
        next hc =>
          cases hu
          have e9 := hc.2.1
          unfold ab_nc at e9
          refine ⟨?_, ?_, ?_, ?_, ab_cpm_ne (by omega)⟩ <;> dsimp only <;> rw [ab_cpm_ne (by omega)] <;> first | exact Int.le_refl _ | exact h
        next => cases hu
      · cases hu
    · unfold ab_mm at hu
      split at hu
      · split at hu
        · cases hu; exact same rfl
        · cases hu
      · cases hu
  | _ => cases hu
theorem ab_up_run : ∀ (n d mm pc : Nat) (ls : ab_L) (st : List ab_V) (M : ab_M) (z : Option ab_V × ab_M), M 999 0 ≤ 995 → ab_run n d mm pc ls st M = some z → ab_up M z.2 := by
  intro n
  induction n with
  | zero => intro d mm pc ls st M z _ hr; cases hr
  | succ n ih =>
    intro d mm pc ls st M z h hr
    rw [ab_run] at hr
    split at hr
    · cases hr
    next en hat =>
      split at hr
      · split at hr
        · cases hr
        next u hu =>
          have h1 := ab_up_st1 h hu
          exact ab_up_trans h1 (ih _ _ _ _ _ _ _ h1.2.2.1 hr)
      · split at hr
        · cases hr
        · split at hr
          · cases hr
          next q hq =>
            split at hr
            · cases hr
            next w hw =>
              have h1 := ih _ _ _ _ _ _ _ h hw
              exact ab_up_trans h1 (ih _ _ _ _ _ _ _ h1.2.2.1 hr)
      · unfold ab_ret at hr
        split at hr
        · split at hr
          · cases hr; exact ab_up_rfl h
          · cases hr
        · split at hr
          · cases hr; exact ab_up_rfl h
          · cases hr
        · cases hr
      · cases hr
end MONO
