section SO2
variable {p : Program} {l : Launch} {e : Env} {R : Room} {s : State} {m : MethodId} {args : Array Value} {below : List Frame} {meth : Method} {c : Code} {Q : State → Prop} {D : va_G} {I : ab_I4} {b0 : Nat} {sa : Nat → Nat} {L : Nat} {xs : Nat → Int32} {nL n0 s0 : Nat} {cc : ByteArray} {own : String} {pc : Nat} {ls : ab_L} {st : List ab_V} {M : ab_M}
theorem iv_br1 {c : Jvm.ClassFile.Cond} {k : Nat} {u : ab_St} (hu : ab_br1 c k pc ls st M = some u) : ∃ x r, st = .inl x :: r ∧ u = (if ab_cmp c x 0 = true then k else pc + 3, ls, r, M) := by
  unfold ab_br1 at hu
  split at hu
  next x r => cases hu; exact ⟨x, r, rfl, rfl⟩
  next => cases hu
theorem iv_br2 {c : Jvm.ClassFile.Cond} {k : Nat} {u : ab_St} (hu : ab_br2 c k pc ls st M = some u) : ∃ x y r, st = .inl y :: .inl x :: r ∧ u = (if ab_cmp c x y = true then k else pc + 3, ls, r, M) := by
  unfold ab_br2 at hu
  split at hu
  next y x r => cases hu; exact ⟨x, y, r, rfl, rfl⟩
  next => cases hu
theorem so_br1 {c' : Jvm.ClassFile.Cond} {off : Int} {k : Nat} {u : ab_St} (hx : p.tables.exec = Jvm.exec) (hb : c.code = cc) (hd : decode cc pc = .ok (.ifCond c' off, 3)) (ht : (pc : Int) + off = (k : Int)) (hu : ab_br1 c' k pc ls st M = some u) (kk : ab_K p l e R s m args below meth c Q D I b0 sa L xs nL n0 s0 u.1 u.2.1 u.2.2.1 u.2.2.2) : ab_K p l e R s m args below meth c Q D I b0 sa L xs nL n0 s0 pc ls st M := by
  obtain ⟨x, r, rfl, rfl⟩ := iv_br1 hu
  intro H locs lc h
  obtain ⟨h1, h2, h3⟩ := h
  obtain ⟨hvx, h2⟩ := List.forall_mem_cons.mp h2
  have hvx : ab_rg x := hvx
  have e0 : ∀ z : Int, ab_rg z → (Int32.ofInt z = 0 ↔ z = 0) := fun z hz => ab_eq32 hz ab_rg0
  have e1 : ∀ z : Int, ab_rg z → (Int32.ofInt z < 0 ↔ z < 0) := fun z hz => ab_lt32 hz ab_rg0
  have e2 : ∀ z : Int, ab_rg z → (0 ≤ Int32.ofInt z ↔ 0 ≤ z) := fun z hz => ab_le32 ab_rg0 hz
  have e3 : ∀ z : Int, ab_rg z → (0 < Int32.ofInt z ↔ 0 < z) := fun z hz => ab_lt32 ab_rg0 hz
  have e4 : ∀ z : Int, ab_rg z → (Int32.ofInt z ≤ 0 ↔ z ≤ 0) := fun z hz => ab_le32 hz ab_rg0
  have go : ∀ b : Bool, ab_cmp c' x 0 = b → W p l e R s m args below meth c H locs (ab_nc M - n0) ((M 999 1).toNat - s0) Q (F0 m (if b = true then k else pc + 3) lc (r.map (ab_cv b0 sa))) := by
    intro b hbq
    have := kk H locs lc ⟨h1, h2, h3⟩
    dsimp only at this
    rw [hbq] at this
    exact this
  cases c' with
  | eq => exact lv_if_eq hx hb hd ht (fun q => go true (by simp [ab_cmp, (e0 x hvx).mp q])) (fun q => go false (by simp [ab_cmp]; exact fun z => q ((e0 x hvx).mpr z)))
  | ne => exact lv_if_ne hx hb hd ht (fun q => go true (by simp [ab_cmp]; exact fun z => q ((e0 x hvx).mpr z))) (fun q => go false (by simp [ab_cmp]; exact (e0 x hvx).mp q))
  | lt => exact lv_if_lt hx hb hd ht (fun q => go true (by simp [ab_cmp]; exact (e1 x hvx).mp q)) (fun q => go false (by simp [ab_cmp]; exact Int.not_lt.mp fun z => q ((e1 x hvx).mpr z)))
  | ge => exact lv_if_ge hx hb hd ht (fun q => go true (by simp [ab_cmp]; exact (e2 x hvx).mp q)) (fun q => go false (by simp [ab_cmp]; exact Int.not_le.mp fun z => q ((e2 x hvx).mpr z)))
  | gt => exact lv_if_gt hx hb hd ht (fun q => go true (by simp [ab_cmp]; exact (e3 x hvx).mp q)) (fun q => go false (by simp [ab_cmp]; exact Int.not_lt.mp fun z => q ((e3 x hvx).mpr z)))
  | le => exact lv_if_le hx hb hd ht (fun q => go true (by simp [ab_cmp]; exact (e4 x hvx).mp q)) (fun q => go false (by simp [ab_cmp]; exact Int.not_le.mp fun z => q ((e4 x hvx).mpr z)))
theorem so_br2 {c' : Jvm.ClassFile.Cond} {off : Int} {k : Nat} {u : ab_St} (hx : p.tables.exec = Jvm.exec) (hb : c.code = cc) (hd : decode cc pc = .ok (.if_icmp c' off, 3)) (ht : (pc : Int) + off = (k : Int)) (hu : ab_br2 c' k pc ls st M = some u) (kk : ab_K p l e R s m args below meth c Q D I b0 sa L xs nL n0 s0 u.1 u.2.1 u.2.2.1 u.2.2.2) : ab_K p l e R s m args below meth c Q D I b0 sa L xs nL n0 s0 pc ls st M := by
  obtain ⟨x, y, r, rfl, rfl⟩ := iv_br2 hu
  intro H locs lc h
  obtain ⟨h1, h2, h3⟩ := h
  obtain ⟨hvy, h2⟩ := List.forall_mem_cons.mp h2
  obtain ⟨hvx, h2⟩ := List.forall_mem_cons.mp h2
  have hvx : ab_rg x := hvx
  have hvy : ab_rg y := hvy
  have e0 := ab_eq32 hvx hvy
  have e1 := ab_lt32 hvx hvy
  have e2 := ab_le32 hvy hvx
  have e3 := ab_lt32 hvy hvx
  have e4 := ab_le32 hvx hvy
  have go : ∀ b : Bool, ab_cmp c' x y = b → W p l e R s m args below meth c H locs (ab_nc M - n0) ((M 999 1).toNat - s0) Q (F0 m (if b = true then k else pc + 3) lc (r.map (ab_cv b0 sa))) := by
    intro b hbq
    have := kk H locs lc ⟨h1, h2, h3⟩
    dsimp only at this
    rw [hbq] at this
    exact this
  cases c' with
  | eq => exact lv_icmp_eq hx hb hd ht (fun q => go true (by simp [ab_cmp]; exact e0.mp q)) (fun q => go false (by simp [ab_cmp]; exact fun z => q (e0.mpr z)))
  | ne => exact lv_icmp_ne hx hb hd ht (fun q => go true (by simp [ab_cmp]; exact fun z => q (e0.mpr z))) (fun q => go false (by simp [ab_cmp]; exact e0.mp q))
  | lt => exact lv_icmp_lt hx hb hd ht (fun q => go true (by simp [ab_cmp]; exact e1.mp q)) (fun q => go false (by simp [ab_cmp]; exact Int.not_lt.mp fun z => q (e1.mpr z)))
  | ge => exact lv_icmp_ge hx hb hd ht (fun q => go true (by simp [ab_cmp]; exact e2.mp q)) (fun q => go false (by simp [ab_cmp]; exact Int.not_le.mp fun z => q (e2.mpr z)))
  | gt => exact lv_icmp_gt hx hb hd ht (fun q => go true (by simp [ab_cmp]; exact e3.mp q)) (fun q => go false (by simp [ab_cmp]; exact Int.not_lt.mp fun z => q (e3.mpr z)))
  | le => exact lv_icmp_le hx hb hd ht (fun q => go true (by simp [ab_cmp]; exact e4.mp q)) (fun q => go false (by simp [ab_cmp]; exact Int.not_le.mp fun z => q (e4.mpr z)))
theorem so_sw {d lo hi : Int} {offs : Array Int} {len k : Nat} {u : ab_St} (hx : p.tables.exec = Jvm.exec) (hb : c.code = cc) (hd : decode cc pc = .ok (.tableswitch d lo hi offs, len)) (ht : (pc : Int) + d = (k : Int)) (hu : ab_sw pc k lo hi offs ls st M = some u) (kk : ab_K p l e R s m args below meth c Q D I b0 sa L xs nL n0 s0 u.1 u.2.1 u.2.2.1 u.2.2.2) : ab_K p l e R s m args below meth c Q D I b0 sa L xs nL n0 s0 pc ls st M := by
  unfold ab_sw at hu
  split at hu
  next x r =>
    intro H locs lc h
    obtain ⟨h1, h2, h3⟩ := h
    obtain ⟨hvx, h2⟩ := List.forall_mem_cons.mp h2
    have hvx : ab_rg x := hvx
    split at hu
    next hc =>
      cases hu
      refine lv_tableOut hx hb hd ?_ ht (kk H locs lc ⟨h1, h2, h3⟩)
      rw [ab_i32 hvx]
      exact hc
    next hc =>
      split at hu
      next off ho =>
        split at hu
        next hp =>
          cases hu
          refine lv_tableIn hx hb hd ?_ ?_ (off := off) ?_ ?_ (kk H locs lc ⟨h1, h2, h3⟩)
          · rw [ab_i32 hvx]; exact fun z => hc (Or.inl z)
          · rw [ab_i32 hvx]; exact fun z => hc (Or.inr z)
          · rw [ab_i32 hvx]; exact ho
          · exact (Int.toNat_of_nonneg hp).symm
        next => cases hu
      next => cases hu
  next => cases hu
theorem so_lsw {d : Int} {ps : Array (Int × Int)} {len : Nat} {u : ab_St} (hx : p.tables.exec = Jvm.exec) (hb : c.code = cc) (hd : decode cc pc = .ok (.lookupswitch d ps, len)) (hp : (ps.toList.zip (ps.toList.drop 1)).all (fun (a, next) => a.1 < next.1) = true) (hu : ab_lsw pc d ps ls st M = some u) (kk : ab_K p l e R s m args below meth c Q D I b0 sa L xs nL n0 s0 u.1 u.2.1 u.2.2.1 u.2.2.2) : ab_K p l e R s m args below meth c Q D I b0 sa L xs nL n0 s0 pc ls st M := by
  unfold ab_lsw at hu
  split at hu
  next x r =>
    intro H locs lc h
    obtain ⟨h1, h2, h3⟩ := h
    obtain ⟨hvx, h2⟩ := List.forall_mem_cons.mp h2
    have hvx : ab_rg x := hvx
    split at hu
    next hq =>
      cases hu
      refine lv_lookup hx hb hd hp (off := Op.lookupswitch.offset ps.toList d x) ?_ ?_ (kk H locs lc ⟨h1, h2, h3⟩)
      · rw [ab_i32 hvx]
      · exact (Int.toNat_of_nonneg hq).symm
    next => cases hu
  next => cases hu
theorem so_iinc {n : Nat} {z : Int} {u : ab_St} (hx : p.tables.exec = Jvm.exec) (hb : c.code = cc) (hd : decode cc pc = .ok (.iinc n z, 3)) (hu : ab_iinc n z pc ls st M = some u) (kk : ab_K p l e R s m args below meth c Q D I b0 sa L xs nL n0 s0 u.1 u.2.1 u.2.2.1 u.2.2.2) : ab_K p l e R s m args below meth c Q D I b0 sa L xs nL n0 s0 pc ls st M := by
  unfold ab_iinc at hu
  split at hu
  next x hg =>
    split at hu
    next hr =>
      cases hu
      intro H locs lc h
      obtain ⟨h1, h2, h3, h4, h5, h6⟩ := h
      have hgx := ab_getD hg
      have hlt : n < ls.length := (List.getElem?_eq_some_iff.mp hgx).1
      obtain ⟨j, hj⟩ := List.getElem?_of_mem ((ab_as_mem b0 sa ls 0 (n, ab_cv b0 sa (.inl x))).mpr ⟨n, .inl x, hgx, by rw [Nat.zero_add]⟩)
      refine lv_iinc (x := Int32.ofInt x) (v := Int32.ofInt (x + z)) hx hb hd h3 hj (by rw [Int32.ofInt_add]) (by omega) rfl (fun lc' h3' => kk H locs lc' ⟨h1, h2, ?_, by simpa using h4, ?_, h6⟩)
      · refine ab_lvm h3' (fun q hq => ?_)
        obtain ⟨i, w, hi, rfl⟩ := (ab_as_mem b0 sa _ 0 q).mp hq
        by_cases hin : i = n
        · subst hin
          rw [List.getElem?_set_self hlt] at hi
          cases hi
          simp only [Nat.zero_add]
          exact List.mem_cons_self
        · rw [List.getElem?_set_ne (by omega)] at hi
          refine List.mem_cons_of_mem _ (List.mem_filter.mpr ⟨(ab_as_mem b0 sa ls 0 _).mpr ⟨i, w, hi, rfl⟩, ?_⟩)
          simp only [Nat.zero_add]
          have h6' : (i == n) = false := by simpa using hin
          simp only [h6', Bool.not_false, Bool.true_and, Bool.not_eq_true', Bool.and_eq_false_iff]
          by_cases hj1 : i + 1 = n
          · right
            rcases w with w | w | w
            · rfl
            · exfalso
              have q1 := h3.2.2 (i, ab_cv b0 sa (.inr (.inl w))) ((ab_as_mem b0 sa ls 0 (i, ab_cv b0 sa (.inr (.inl w)))).mpr ⟨i, _, hi, by rw [Nat.zero_add]⟩)
              have q2 := h3.2.1.1 i _ q1 rfl
              have q3 := h3.2.2 (n, ab_cv b0 sa (.inl x)) ((ab_as_mem b0 sa ls 0 (n, ab_cv b0 sa (.inl x))).mpr ⟨n, _, hgx, by rw [Nat.zero_add]⟩)
              dsimp only at q2 q3
              rw [hj1, q3] at q2
              cases q2
            · rfl
          · left
            simpa using hj1
      · intro v hv
        obtain ⟨i, hi⟩ := List.getElem?_of_mem hv
        by_cases hin : i = n
        · subst hin
          rw [List.getElem?_set_self hlt] at hi
          cases hi
          exact hr
        · rw [List.getElem?_set_ne (by omega)] at hi
          exact h5 v (List.mem_of_getElem? hi)
    next => cases hu
  next => cases hu
theorem ab_i2c {x : Int} (h0 : 0 ≤ x) (h1 : x < 65536) : ((Int32.ofInt x).toUInt32 % 65536).toInt32 = Int32.ofInt x := by
  obtain ⟨n, rfl⟩ := Int.eq_ofNat_of_zero_le h0
  have e : Int32.ofInt (n : Int) = nI n := Int32.ofInt_eq_ofNat
  rw [e, pk_char, pk_tn (by omega), Nat.mod_eq_of_lt (by omega)]
theorem ab_i2b {x : Int} (h0 : -128 ≤ x) (h1 : x < 128) : (Int32.ofInt x).toInt8.toInt32 = Int32.ofInt x := by
  apply Int32.toInt_inj.mp
  rw [Int8.toInt_toInt32, Int32.toInt_toInt8, ab_i32 ⟨by omega, by omega⟩]
  exact Int.bmod_eq_of_le (by omega) (by omega)
theorem ab_i2b2 {x : Int} (h0 : -128 ≤ x) (h1 : x < 256) : (Int32.ofInt x).toInt8.toInt32 = Int32.ofInt (if x < 128 then x else x - 256) := by
  by_cases c : x < 128
  · rw [if_pos c]
    exact ab_i2b h0 c
  · rw [if_neg c]
    apply Int32.toInt_inj.mp
    rw [Int8.toInt_toInt32, Int32.toInt_toInt8, ab_i32 ⟨by omega, by omega⟩, ab_i32 ⟨by omega, by omega⟩]
    rw [Int.bmod_def]
    split <;> omega
theorem so_cnv {i : Instr} {t : Nat} {u : ab_St} (hx : p.tables.exec = Jvm.exec) (hb : c.code = cc) (hd : decode cc pc = .ok (i, 1)) (hi : (t = 0 ∧ i = .i2l) ∨ (t = 1 ∧ i = .l2i) ∨ (t = 2 ∧ i = .i2c) ∨ (t = 3 ∧ i = .i2b)) (hu : ab_cnv t pc ls st M = some u) (kk : ab_K p l e R s m args below meth c Q D I b0 sa L xs nL n0 s0 u.1 u.2.1 u.2.2.1 u.2.2.2) : ab_K p l e R s m args below meth c Q D I b0 sa L xs nL n0 s0 pc ls st M := by
  unfold ab_cnv at hu
  split at hu
  next x r =>
    intro H locs lc h
    obtain ⟨h1, h2, h3⟩ := h
    obtain ⟨hvx, h2⟩ := List.forall_mem_cons.mp h2
    have hvx : ab_rg x := hvx
    rcases hi with ⟨rfl, rfl⟩ | ⟨rfl, rfl⟩ | ⟨rfl, rfl⟩ | ⟨rfl, rfl⟩
    · simp at hu
      subst hu
      refine lv_i2l hx hb hd ?_ (kk H locs lc ⟨h1, List.forall_mem_cons.mpr ⟨?_, h2⟩, h3⟩)
      · exact Int32.toInt64_ofInt (by exact hvx.1) (by exact hvx.2)
      · exact ⟨by have := hvx.1; omega, by have := hvx.2; omega⟩
    · simp at hu
    · simp at hu
      obtain ⟨hc, rfl⟩ := hu
      exact lv_i2c hx hb hd (ab_i2c hc.1 hc.2) (kk H locs lc ⟨h1, List.forall_mem_cons.mpr ⟨hvx, h2⟩, h3⟩)
    · simp at hu
      obtain ⟨hc, rfl⟩ := hu
      exact lv_i2b hx hb hd (ab_i2b2 hc.1 hc.2) (kk H locs lc ⟨h1, List.forall_mem_cons.mpr ⟨(by show ab_rg (if x < 128 then x else x - 256); split <;> omega), h2⟩, h3⟩)
  next x r =>
    split at hu
    next hc =>
      cases hu
      intro H locs lc h
      obtain ⟨h1, h2, h3⟩ := h
      obtain ⟨hvx, h2⟩ := List.forall_mem_cons.mp h2
      rcases hi with ⟨rfl, rfl⟩ | ⟨rfl, rfl⟩ | ⟨rfl, rfl⟩ | ⟨rfl, rfl⟩
      · exact absurd hc.1 (by decide)
      · exact lv_l2i hx hb hd Int64.toInt32_ofInt (kk H locs lc ⟨h1, List.forall_mem_cons.mpr ⟨hc.2, h2⟩, h3⟩)
      · exact absurd hc.1 (by decide)
      · exact absurd hc.1 (by decide)
    next => cases hu
  next => cases hu
theorem so_dup {u : ab_St} (hx : p.tables.exec = Jvm.exec) (hb : c.code = cc) (hd : decode cc pc = .ok (.dup, 1)) (hu : ab_dup pc ls st M = some u) (kk : ab_K p l e R s m args below meth c Q D I b0 sa L xs nL n0 s0 u.1 u.2.1 u.2.2.1 u.2.2.2) : ab_K p l e R s m args below meth c Q D I b0 sa L xs nL n0 s0 pc ls st M := by
  unfold ab_dup at hu
  split at hu
  next v r =>
    split at hu
    next hc =>
      cases hu
      intro H locs lc h
      obtain ⟨h1, h2, h3⟩ := h
      obtain ⟨hv, h2⟩ := List.forall_mem_cons.mp h2
      exact lv_dup hx hb hd ((ab_cat_cv b0 sa v).trans hc) (kk H locs lc ⟨h1, List.forall_mem_cons.mpr ⟨hv, List.forall_mem_cons.mpr ⟨hv, h2⟩⟩, h3⟩)
    next => cases hu
  next => cases hu
theorem so_pop {u : ab_St} (hx : p.tables.exec = Jvm.exec) (hb : c.code = cc) (hd : decode cc pc = .ok (.pop, 1)) (hu : ab_pop pc ls st M = some u) (kk : ab_K p l e R s m args below meth c Q D I b0 sa L xs nL n0 s0 u.1 u.2.1 u.2.2.1 u.2.2.2) : ab_K p l e R s m args below meth c Q D I b0 sa L xs nL n0 s0 pc ls st M := by
  unfold ab_pop at hu
  split at hu
  next v r =>
    split at hu
    next hc =>
      cases hu
      intro H locs lc h
      obtain ⟨h1, h2, h3⟩ := h
      obtain ⟨hv, h2⟩ := List.forall_mem_cons.mp h2
      exact lv_pop hx hb hd ((ab_cat_cv b0 sa v).trans hc) (kk H locs lc ⟨h1, h2, h3⟩)
    next => cases hu
  next => cases hu
theorem so_dup2 {u : ab_St} (hx : p.tables.exec = Jvm.exec) (hb : c.code = cc) (hd : decode cc pc = .ok (.dup2, 1)) (hu : ab_dup2 pc ls st M = some u) (kk : ab_K p l e R s m args below meth c Q D I b0 sa L xs nL n0 s0 u.1 u.2.1 u.2.2.1 u.2.2.2) : ab_K p l e R s m args below meth c Q D I b0 sa L xs nL n0 s0 pc ls st M := by
  unfold ab_dup2 at hu
  split at hu
  next v w r =>
    split at hu
    next hc =>
      cases hu
      intro H locs lc h
      obtain ⟨h1, h2, h3⟩ := h
      obtain ⟨hv, h2⟩ := List.forall_mem_cons.mp h2
      obtain ⟨hw, h2⟩ := List.forall_mem_cons.mp h2
      exact lv_dup2_11 hx hb hd ((ab_cat_cv b0 sa v).trans hc.1) ((ab_cat_cv b0 sa w).trans hc.2) (kk H locs lc ⟨h1, List.forall_mem_cons.mpr ⟨hv, List.forall_mem_cons.mpr ⟨hw, List.forall_mem_cons.mpr ⟨hv, List.forall_mem_cons.mpr ⟨hw, h2⟩⟩⟩⟩, h3⟩)
    next => cases hu
  next => cases hu
theorem so_lcmp {u : ab_St} (hx : p.tables.exec = Jvm.exec) (hb : c.code = cc) (hd : decode cc pc = .ok (.lcmp, 1)) (hu : ab_lcmp pc ls st M = some u) (kk : ab_K p l e R s m args below meth c Q D I b0 sa L xs nL n0 s0 u.1 u.2.1 u.2.2.1 u.2.2.2) : ab_K p l e R s m args below meth c Q D I b0 sa L xs nL n0 s0 pc ls st M := by
  unfold ab_lcmp at hu
  split at hu
  next y x r =>
    cases hu
    intro H locs lc h
    obtain ⟨h1, h2, h3⟩ := h
    obtain ⟨hy, h2⟩ := List.forall_mem_cons.mp h2
    obtain ⟨hvx, h2⟩ := List.forall_mem_cons.mp h2
    have hy : ab_rl y := hy
    have hvx : ab_rl x := hvx
    have := kk H locs lc ⟨h1, List.forall_mem_cons.mpr ⟨(show ab_rg (if x < y then -1 else if x = y then 0 else 1) by split; decide; split <;> decide), h2⟩, h3⟩
    have hz : Int32.ofInt (if x < y then -1 else if x = y then 0 else 1) = lg_cmp (Int64.ofInt x) (Int64.ofInt y) := by
      unfold lg_cmp
      simp only [gt_iff_lt, Int64.lt_iff_toInt_lt, ← Int64.toInt_inj, ab_i64 hvx, ab_i64 hy]
      by_cases a1 : x < y
      · rw [if_pos a1, if_neg (by omega), if_neg (by omega)]; rfl
      · rw [if_neg a1]
        by_cases a2 : x = y
        · rw [if_pos a2, if_neg (by omega), if_pos a2]; rfl
        · rw [if_neg a2, if_pos (by omega)]; rfl
    refine W.lcmp hx hb hd ?_
    rw [← hz]
    exact this
  next => cases hu
end SO2
