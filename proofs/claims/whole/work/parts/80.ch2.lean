/-- the best chain from a to b -/
def ch_r (t : Nat) (A : ab_M) (a b : Nat) (v f : Int) : Prop := (v = -1 ∧ f = -1 ∧ ∀ r, rd_v (ch_H t A a) (ch_np t A) (ch_o t A a) r → rd_sq (ch_H t A a) r ≠ (b : Int)) ∨ (∃ r, rd_v (ch_H t A a) (ch_np t A) (ch_o t A a) r ∧ rd_sq (ch_H t A a) r = (b : Int) ∧ rd_mn (ch_H t A a) r = v ∧ ((r.length : Nat) : Int) + 1 = f ∧ 0 ≤ v ∧ ∀ r', rd_v (ch_H t A a) (ch_np t A) (ch_o t A a) r' → rd_sq (ch_H t A a) r' = (b : Int) → rd_mn (ch_H t A a) r' < v ∨ (rd_mn (ch_H t A a) r' = v ∧ f ≤ ((r'.length : Nat) : Int) + 1))
theorem chr_uq {t : Nat} {A : ab_M} {a b : Nat} {v f v' f' : Int} (h : ch_r t A a b v f) (h' : ch_r t A a b v' f') : v = v' ∧ f = f' := by
  rcases h with ⟨h1, h2, h3⟩ | ⟨r, h1, h2, h3, h4, h5, h6⟩ <;> rcases h' with ⟨g1, g2, g3⟩ | ⟨r', g1, g2, g3, g4, g5, g6⟩
  · exact ⟨by omega, by omega⟩
  · exact absurd g2 (h3 r' g1)
  · exact absurd h2 (g3 r h1)
  · have a1 := h6 r' g1 g2
    have a2 := g6 r h1 h2
    clear h6 g6
    omega
theorem ch_len {t : Nat} {A : ab_M} (h : pu_inv t A) {a : Nat} (ha : a < ch_np t A) {H : rd_HH} {r : List Nat} (hv : rd_v H (ch_np t A) (ch_o t A a) r) : r.length + 1 ≤ ch_np t A := by
  have n6 := ch_np6 h
  have hn : (a :: r).Nodup := List.nodup_cons.2 ⟨fun q => ((ch_obit h (by omega) a).1 (hv.2.1 a q).2).2 rfl, hv.1⟩
  have := row_len hn (nd := ch_np t A) (fun i hi => by
    rcases List.mem_cons.1 hi with q | q
    · rw [q]; exact ha
    · exact (hv.2.1 i q).1)
  rw [List.length_cons] at this
  exact this
theorem s4 {d t : Nat} {A M : ab_M} (hd : 14 ≤ d) (h : pu_at t A M) {a : Nat} (ha : a < ch_np t A) : ∃ M', ab_ev d 4 [.inr (.inr 95), .inr (.inr t), .inl (a : Int)] M none M' ∧ pu_at t A M' ∧ ∀ b : Nat, b < 6 → ch_r t A a b (M' 96 b) (M' 97 b) := by
  have hA := h.1
  have n6 := ch_np6 hA
  have a1 : pu_at t A (pu_fil M 96 6 (-1)) := at_fil h rfl (fun f _ => by omega)
  have a2 : pu_at t A (pu_fil (pu_fil M 96 6 (-1)) 97 6 (-1)) := at_fil a1 rfl (fun f _ => by omega)
  obtain ⟨M', e, h1, h2⟩ := s5 hA ha 5 (d - 1) (ch_o t A a) 0 [] [] (pu_fil (pu_fil M 96 6 (-1)) 97 6 (-1)) (by omega) rfl (ch_o64 hA a) (by omega) a2 ⟨List.nodup_nil, fun j hj => absurd hj List.not_mem_nil, ok_nil _⟩ (fun j hj => by
    rw [ch_obit hA (by omega), Nat.zero_testBit]
    have es : rd_sq (ch_H t A a) [] = (a : Int) := rfl
    rw [es]
    constructor
    · rintro ⟨_, q⟩ (y | y)
      · cases y
      · omega
    · intro q
      refine ⟨hj, fun y => q (Or.inr (by omega))⟩) (fun j hj => ⟨hj, List.not_mem_nil⟩) (fun b hb => by
    rw [fil_s hb, fil_r (by omega), fil_s hb]
    exact Or.inl ⟨rfl, rfl, fun r hr => absurd hr List.not_mem_nil⟩)
  refine ⟨M', ev_wp (b4_0 (by omega) h.2.1 h.2.1.2.2.1 ⟨_, s193 (by omega) h.2.1 96 6 (-1) rfl rfl (by omega), a1.2.1, _, s193 (by omega) a1.2.1 97 6 (-1) rfl rfl (by omega), a2.2.1, M', e, h1.2.1, rfl, rfl⟩), h1, fun b hb => ?_⟩
  have mem : ∀ r, r ∈ [] ++ rd_dfs (ch_H t A a) (ch_np t A) 5 (ch_o t A a) [] ↔ rd_v (ch_H t A a) (ch_np t A) (ch_o t A a) r := by
    intro r
    rw [List.nil_append, dfs_mem _ n6 5 _ [] r (ch_o64 hA a) (ok_nil _)]
    constructor
    · rintro ⟨s, rfl, _, g2, g3, g4⟩
      exact ⟨g2, g3, g4⟩
    · intro hv
      have := ch_len hA ha hv
      exact ⟨r, rfl, by omega, hv.1, hv.2.1, hv.2.2⟩
  rcases h2 b hb with ⟨g1, g2, g3⟩ | ⟨r, g1, g2, g3, g4, g5, g6⟩
  · exact Or.inl ⟨g1, g2, fun r hv => g3 r ((mem r).2 hv)⟩
  · exact Or.inr ⟨r, (mem r).1 g1, g2, g3, g4, g5, fun r' hv e' => g6 r' ((mem r').2 hv) e'⟩
/-! the model -/
def ch_ld : Nat → Nat → List Nat
  | _, 0 => []
  | r, n + 1 => r % 6 :: ch_ld (r / 6) n
theorem ld_s (r n : Nat) : ch_ld r (n + 1) = r % 6 :: ch_ld (r / 6) n := rfl
theorem ld_len : ∀ n r, (ch_ld r n).length = n
  | 0, _ => rfl
  | n + 1, r => by rw [ld_s, List.length_cons, ld_len n]
theorem ld_code : ∀ (x : List Nat), (∀ i, i ∈ x → i < 6) → ∃ r, r < 6 ^ x.length ∧ ch_ld r x.length = x
  | [], _ => ⟨0, by decide, rfl⟩
  | d :: x, h => by
    obtain ⟨r, h1, h2⟩ := ld_code x (fun i hi => h i (List.mem_cons_of_mem _ hi))
    have hd := h d List.mem_cons_self
    refine ⟨6 * r + d, by rw [List.length_cons, Nat.pow_succ]; omega, ?_⟩
    rw [List.length_cons, ld_s, show (6 * r + d) / 6 = r from by omega, show (6 * r + d) % 6 = d from by omega, h2]
theorem s160 {d t : Nat} {A M : ab_M} (hd : 2 ≤ d) (h : pu_at t A M) {a b : Nat} (ha : a < ch_np t A) (hb : b < ch_np t A) (hab : a ≠ b) {r n : Nat} (hr : r < 46656) (hn : n ≤ 6) :
    ∃ v, ab_ev d 160 [.inr (.inr 103), .inl (a : Int), .inl (b : Int), .inl (r : Int), .inl (n : Int)] M (some (.inl v)) M ∧ ((v = -1 ∧ ¬ rd_v (ch_H t A a) (ch_np t A) (ch_o t A a) (ch_ld r n ++ [b])) ∨ (v = rd_mn (ch_H t A a) (ch_ld r n ++ [b]) ∧ rd_v (ch_H t A a) (ch_np t A) (ch_o t A a) (ch_ld r n ++ [b]))) := by
  have hA := h.1
  have n6 := ch_np6 hA
  have t2 := hA.2.1.2.1
  obtain ⟨m1, m2, m3, m4, m5, m6, m7, m8⟩ := hA.2.2.1
  have r9 : M 103 9 = A t 2 := (at_r h 103 9 (by omega)).trans m2
  have q110 : ∀ x y : Nat, x < 6 → y < 6 → M 110 (6 * x + y) = A (t + 25 + x) y := fun x y hx hy => (at_r h 110 _ (by omega)).trans ((hA.2.2.2.2.1 x y hx hy).2.2.1 (by unfold ch_np at ha; omega))
  have hob := fun j => ch_obit hA (a := a) (by omega) j
  have w : ab_wp d 160 0 (ab_ent [.inr (.inr 103), .inl (a : Int), .inl (b : Int), .inl (r : Int), .inl (n : Int)] (ab_mx 160)) [] M (fun r' M' => M' = M ∧ ∃ v, r' = some (.inl v) ∧ ((v = -1 ∧ ¬ rd_v (ch_H t A a) (ch_np t A) (ch_o t A a) (ch_ld r n ++ [b])) ∨ (v = rd_mn (ch_H t A a) (ch_ld r n ++ [b]) ∧ rd_v (ch_H t A a) (ch_np t A) (ch_o t A a) (ch_ld r n ++ [b])))) := by
    refine b160_0 (by omega) h.2.1 ?_
    have o0 := or_all ⟨0, by omega⟩ ⟨a, by omega⟩
    have sA : ab_shl 1 (a : Int) = ((2 ^ a : Nat) : Int) := by
      have k : ∀ i : Fin 6, ab_shl 1 ((i.val : Nat) : Int) = ((2 ^ i.val : Nat) : Int) ∧ 2 ^ i.val < 64 := by decide +kernel
      exact (k ⟨a, by omega⟩).1
    have sA64 : 2 ^ a < 64 := by
      have k : ∀ i : Fin 6, 2 ^ i.val < 64 := by decide
      exact k ⟨a, by omega⟩
    have ob := or_all ⟨2 ^ a, sA64⟩ ⟨b, by omega⟩
    have ob1 : ab_or ((2 ^ a : Nat) : Int) (ab_shl 1 (b : Int)) = ((2 ^ a ||| 2 ^ b : Nat) : Int) := ob.1
    rw [sA, ob1]
    have step81 : ∀ (p : List Nat) (seen R : Nat) (k x11 : Nat) (Q : Option ab_V → ab_M → Prop), rd_v (ch_H t A a) (ch_np t A) (ch_o t A a) p → x11 < 6 → k ≤ 6 →
        (A (t + 25 + (rd_sq (ch_H t A a) p).toNat) x11 ≠ -1 → ab_wp d 160 23 [some (.inr (.inr 103)), some (.inl (a : Int)), some (.inl (b : Int)), some (.inl (r : Int)), some (.inl (n : Int)), some (.inl (ab_or (seen : Int) (ab_shl 1 (x11 : Int)))), some (.inl (x11 : Int)), some (.inl (R : Int)), some (.inr (.inl (rd_mn (ch_H t A a) (p ++ [x11])))), none, some (.inl ((k : Int) + 1)), some (.inl (x11 : Int))] [] M Q) →
        (A (t + 25 + (rd_sq (ch_H t A a) p).toNat) x11 = -1 → Q (some (.inl (-1))) M) →
        ab_wp d 160 81 [some (.inr (.inr 103)), some (.inl (a : Int)), some (.inl (b : Int)), some (.inl (r : Int)), some (.inl (n : Int)), some (.inl (seen : Int)), some (.inl (rd_sq (ch_H t A a) p)), some (.inl (R : Int)), some (.inr (.inl (rd_mn (ch_H t A a) p))), none, some (.inl (k : Int)), some (.inl (x11 : Int))] [] M Q := by
      intro p seen R k x11 Q hv hx hk hyes hno
      have rg := ch_rg hA ha _ p rfl hv
      have e6 : (6 * rd_sq (ch_H t A a) p + (x11 : Int)).toNat = 6 * (rd_sq (ch_H t A a) p).toNat + x11 := by omega
      have qq := q110 (rd_sq (ch_H t A a) p).toNat x11 (by omega) hx
      have qr := q_rg hA (a := (rd_sq (ch_H t A a) p).toNat) (b := x11) (by omega) hx
      refine b160_81 (by omega) h.2.1 ?_
      rw [e6, qq]
      refine ⟨by clear hyes hno; omega, by clear hyes hno; omega, by clear hyes hno; omega, fun z => ?_, fun z => hno (by clear hyes hno; omega)⟩
      have mu := ch_mul rg.1 (q := A (t + 25 + (rd_sq (ch_H t A a) p).toNat) x11) (by clear hyes hno; omega)
      have em : rd_mn (ch_H t A a) (p ++ [x11]) = (rd_mn (ch_H t A a) p * A (t + 25 + (rd_sq (ch_H t A a) p).toNat) x11).tdiv 10 := by
        rw [mn_snoc]
        show ch_en t A x11 _ _ = _
        unfold ch_en
        rw [if_neg (by clear hyes hno; omega)]
      have hy := hyes (by clear hyes hno; omega)
      rw [em] at hy
      exact ⟨by unfold ab_rl; clear hyes hno hy; omega, by unfold ab_rl; clear hyes hno hy; omega, by clear hyes hno hy; omega, hy⟩
    have enq : ∀ (p : List Nat) (i : Nat), rd_ok (ch_H t A a) (p ++ [i]) → A (t + 25 + (rd_sq (ch_H t A a) p).toNat) i ≠ -1 := by
      intro p i ho z
      have := ((ok_snoc _ _ _).1 ho).2
      apply this
      show ch_en t A i _ _ = -1
      unfold ch_en
      rw [if_pos z]
    have enq2 : ∀ (p : List Nat) (i : Nat), rd_v (ch_H t A a) (ch_np t A) (ch_o t A a) p → i < 6 → A (t + 25 + (rd_sq (ch_H t A a) p).toNat) i ≠ -1 → (ch_H t A a).2.1 i (rd_sq (ch_H t A a) p) (rd_mn (ch_H t A a) p) ≠ -1 := by
      intro p i hv hi z
      have rg := ch_rg hA ha _ p rfl hv
      have qr := q_rg hA (a := (rd_sq (ch_H t A a) p).toNat) (b := i) (by omega) hi
      show ch_en t A i _ _ ≠ -1
      unfold ch_en
      rw [if_neg z]
      have := (ch_mul rg.1 (q := A (t + 25 + (rd_sq (ch_H t A a) p).toNat) i) (by omega)).2
      omega
    have key : ∀ (m : Nat) (R : Nat) (p : List Nat) (seen : Nat) (y11 : Option ab_V), ch_ld r n = p ++ ch_ld R m → p.length + m = n → R < 46656 → rd_v (ch_H t A a) (ch_np t A) (ch_o t A a) p → b ∉ p → seen < 64 → (∀ j : Nat, seen.testBit j = true ↔ (j = a ∨ j = b ∨ j ∈ p)) →
        ab_wp d 160 23 [some (.inr (.inr 103)), some (.inl (a : Int)), some (.inl (b : Int)), some (.inl (r : Int)), some (.inl (n : Int)), some (.inl (seen : Int)), some (.inl (rd_sq (ch_H t A a) p)), some (.inl (R : Int)), some (.inr (.inl (rd_mn (ch_H t A a) p))), none, some (.inl ((p.length : Nat) : Int)), y11] [] M (fun r' M' => M' = M ∧ ∃ v, r' = some (.inl v) ∧ ((v = -1 ∧ ¬ rd_v (ch_H t A a) (ch_np t A) (ch_o t A a) (ch_ld r n ++ [b])) ∨ (v = rd_mn (ch_H t A a) (ch_ld r n ++ [b]) ∧ rd_v (ch_H t A a) (ch_np t A) (ch_o t A a) (ch_ld r n ++ [b])))) := by
      intro m
      induction m with
      | zero =>
        intro R p seen y11 e hl hR hv hbp hs64 hsb
        have e : ch_ld r n = p := by rw [e]; exact List.append_nil p
        have td : (R : Int).tdiv 6 = ((R / 6 : Nat) : Int) := by
          rw [Int.tdiv_eq_ediv_of_nonneg (by omega)]
          omega
        refine b160_23 (by omega) h.2.1 ⟨fun q => by omega, fun _ => ⟨fun q => by omega, fun _ => ?_⟩⟩
        rw [td, e]
        refine ⟨by omega, fun _ => step81 p seen (R / 6) p.length b _ hv (by omega) (by omega) (fun z => ?_) (fun z => ⟨rfl, -1, rfl, Or.inl ⟨rfl, fun y => enq p b y.2.2 z⟩⟩), fun q => by omega⟩
        have v2 : rd_v (ch_H t A a) (ch_np t A) (ch_o t A a) (p ++ [b]) := v_snoc hv hbp hb ((hob b).2 ⟨hb, fun y => hab y.symm⟩) (enq2 p b hv (by omega) z)
        have rg := ch_rg hA ha _ _ rfl v2
        refine b160_23 (by omega) h.2.1 ⟨fun _ => ⟨by omega, rfl, _, rfl, Or.inr ⟨rfl, v2⟩⟩, fun q => by omega⟩
      | succ m ih =>
        intro R p seen y11 e hl hR hv hbp hs64 hsb
        have td : (R : Int).tdiv 6 = ((R / 6 : Nat) : Int) := by
          rw [Int.tdiv_eq_ediv_of_nonneg (by omega)]
          omega
        have tm : (R : Int).tmod 6 = ((R % 6 : Nat) : Int) := by
          rw [Int.tmod_eq_emod_of_nonneg (by omega)]
          omega
        have h6 : R % 6 < 6 := by omega
        have e2 : ch_ld r n = (p ++ [R % 6]) ++ ch_ld (R / 6) m := by
          rw [e, ld_s, List.append_assoc]
          rfl
        have pre : rd_v (ch_H t A a) (ch_np t A) (ch_o t A a) (ch_ld r n ++ [b]) → R % 6 < ch_np t A ∧ R % 6 ≠ a ∧ R % 6 ≠ b ∧ R % 6 ∉ p ∧ rd_ok (ch_H t A a) (p ++ [R % 6]) := by
          rintro ⟨g1, g2, g3⟩
          have mem : R % 6 ∈ ch_ld r n := by rw [e2]; simp
          have gm := g2 (R % 6) (List.mem_append.2 (Or.inl mem))
          rw [List.nodup_append] at g1
          refine ⟨gm.1, ((hob _).1 gm.2).2, fun q => g1.2.2 _ mem b (List.mem_singleton.2 rfl) q, fun q => ?_, ?_⟩
          · have g4 := g1.1
            rw [e2, List.append_assoc, List.nodup_append] at g4
            exact g4.2.2 _ q (R % 6) (by simp) rfl
          · rw [e2, List.append_assoc] at g3
            exact ok_pre _ _ _ g3
        refine b160_23 (by omega) h.2.1 ⟨fun q => by omega, fun _ => ⟨fun _ => ?_, fun q => by omega⟩⟩
        rw [td, tm]
        refine ⟨by omega, fun q => by omega, fun _ => ⟨fun q => ⟨rfl, -1, rfl, Or.inl ⟨rfl, fun y => ?_⟩⟩, fun q => ?_⟩⟩
        · have := (pre y).1
          unfold ch_np at this
          omega
        · have wk := s108 (d := d - 1) (by omega) h.2.1 (s := (seen : Int)) (i := ((R % 6 : Nat) : Int)) (by omega) (by omega)
          rw [Int.toNat_natCast, Int.toNat_natCast] at wk
          refine ⟨_, _, wk, h.2.1, fun z => ⟨rfl, -1, rfl, Or.inl ⟨rfl, fun y => ?_⟩⟩, fun z => ?_⟩
          · have g := pre y
            rcases (hsb _).1 (has_t z) with u | u | u
            · exact g.2.1 u
            · exact g.2.2.1 u
            · exact g.2.2.2.1 u
          · have zf := has_f z
            have z1 : R % 6 ≠ a := fun u => zf ((hsb _).2 (Or.inl u))
            have z2 : R % 6 ≠ b := fun u => zf ((hsb _).2 (Or.inr (Or.inl u)))
            have z3 : R % 6 ∉ p := fun u => zf ((hsb _).2 (Or.inr (Or.inr u)))
            have z4 : R % 6 < ch_np t A := by unfold ch_np; omega
            refine step81 p seen (R / 6) p.length (R % 6) _ hv h6 (by omega) (fun y => ?_) (fun y => ⟨rfl, -1, rfl, Or.inl ⟨rfl, fun u => enq p (R % 6) (pre u).2.2.2.2 y⟩⟩)
            have v2 : rd_v (ch_H t A a) (ch_np t A) (ch_o t A a) (p ++ [R % 6]) := v_snoc hv z3 z4 ((hob _).2 ⟨z4, z1⟩) (enq2 p _ hv h6 y)
            have os := or_all ⟨seen, hs64⟩ ⟨R % 6, h6⟩
            have os1 : ab_or (seen : Int) (ab_shl 1 ((R % 6 : Nat) : Int)) = ((seen ||| 2 ^ (R % 6) : Nat) : Int) := os.1
            have es : rd_sq (ch_H t A a) (p ++ [R % 6]) = ((R % 6 : Nat) : Int) := sq_snoc _ _ _
            have hl2 : (p ++ [R % 6]).length = p.length + 1 := by rw [List.length_append, List.length_singleton]
            have g := ih (R / 6) (p ++ [R % 6]) (seen ||| 2 ^ (R % 6)) (some (.inl ((R % 6 : Nat) : Int))) e2 (by omega) (by omega) v2 (fun u => by
              rcases List.mem_append.1 u with s | s
              · exact hbp s
              · exact z2 (List.mem_singleton.1 s).symm) os.2 (fun j => by
              rw [Nat.testBit_or, Nat.testBit_two_pow, Bool.or_eq_true, decide_eq_true_eq, hsb, List.mem_append, List.mem_singleton]
              constructor
              · rintro ((s | s | s) | s)
                · exact Or.inl s
                · exact Or.inr (Or.inl s)
                · exact Or.inr (Or.inr (Or.inl s))
                · exact Or.inr (Or.inr (Or.inr s.symm))
              · rintro (s | s | s | s)
                · exact Or.inl (Or.inl s)
                · exact Or.inl (Or.inr (Or.inl s))
                · exact Or.inl (Or.inr (Or.inr s))
                · exact Or.inr s.symm)
            rw [es, hl2, Int.natCast_succ, ← os1] at g
            exact g
    refine key n r [] (2 ^ a ||| 2 ^ b) _ rfl (by simp) hr ⟨List.nodup_nil, fun j hj => absurd hj List.not_mem_nil, ok_nil _⟩ List.not_mem_nil ob.2 (fun j => ?_)
    rw [Nat.testBit_or, Nat.testBit_two_pow, Nat.testBit_two_pow, Bool.or_eq_true, decide_eq_true_eq, decide_eq_true_eq]
    constructor
    · rintro (s | s)
      · exact Or.inl s.symm
      · exact Or.inr (Or.inl s.symm)
    · rintro (s | s | s)
      · exact Or.inl s.symm
      · exact Or.inr s.symm
      · exact absurd s List.not_mem_nil
  obtain ⟨r', M', e, rfl, v, rfl, hv⟩ := wp_ev w
  exact ⟨v, e, hv⟩
