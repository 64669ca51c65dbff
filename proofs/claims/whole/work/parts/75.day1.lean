/-! days and where: the class -/
def dy_H (t : Nat) (A : ab_M) : rd_HH := rd_H t A (A t 1) 0
def dy_agk (A : ab_M) (ea : Nat → Int) : Nat → Bool
  | 0 => true
  | k + 1 => dy_agk A ea k && decide (ea (A 93 k).toNat = A 94 k)
def dy_ag (t : Nat) (A : ab_M) (r : List Nat) : Bool := dy_agk A (rd_ea (dy_H t A) r) (A 90 2).toNat
theorem agk_f (A : ab_M) (ea : Nat → Int) (k : Nat) (h : dy_agk A ea k = false) : ∀ j, dy_agk A ea (k + j) = false
  | 0 => h
  | j + 1 => by
    show (dy_agk A ea (k + j) && _) = false
    rw [agk_f A ea k h j]
    rfl
def dy_pc (t : Nat) (A : ab_M) (ea : Nat → Int) (x : Int) (place begun : Int) : List Nat → Int
  | [] => place
  | i :: r => if begun ≤ x then dy_pc t A ea x (rd_hm t A i) (ea i) r else place
theorem pc_rg {t : Nat} {A : ab_M} (h : pu_inv t A) (ea : Nat → Int) (x : Int) : ∀ (r : List Nat) (place begun : Int), (∀ i, i ∈ r → i < rd_nd t A) → (0 ≤ place ∧ place < A t 0) → 0 ≤ dy_pc t A ea x place begun r ∧ dy_pc t A ea x place begun r < A t 0
  | [], _, _, _, hp => hp
  | i :: r, place, begun, hr, hp => by
    unfold dy_pc
    by_cases c : begun ≤ x
    · rw [if_pos c]
      exact pc_rg h ea x r _ _ (fun j hj => hr j (List.mem_cons_of_mem _ hj)) (hm_rg h (hr i List.mem_cons_self))
    · rw [if_neg c]; exact hp
theorem s16 {d t : Nat} {A M : ab_M} {row : List Nat} (hd : 1 ≤ d) (h : pu_at t A M) (hf : rd_rf 90 (dy_H t A) row M) : ab_ev d 16 [.inr (.inr 90)] M (some (.inl (if dy_ag t A row = true then 1 else 0))) M := by
  have t3 := h.1.2.1.2.2.1
  obtain ⟨b1, b2, b3, b4⟩ := h.1.2.2.2.2.2.2.2.2.2.1
  have r2 : M 90 2 = A 90 2 := at_r h 90 2 (by omega)
  refine ev_wp (b16_0 (by omega) h.2.1 ?_)
  refine loop_up (P := fun k => dy_agk A (rd_ea (dy_H t A) row) k = true → ab_wp d 16 2 [some (.inr (.inr 90)), some (.inl (k : Int))] [] M _) (A 90 2).toNat ?_ ?_ 0 (by omega) rfl
  · intro q
    have q : dy_ag t A row = true := q
    refine b16_2 (by omega) h.2.1 ⟨fun _ => ⟨?_, rfl⟩, fun q => by omega⟩
    rw [if_pos q]
  · intro k hk ih q
    have bk := b4 k (by omega)
    rw [Int.natCast_succ] at ih
    have r3 : M 93 k = A 93 k := at_r h 93 k (by omega)
    have r4 : M 94 k = A 94 k := at_r h 94 k (by omega)
    have e := hf.2 (A 93 k).toNat (by omega)
    have e : M 92 (A 93 k).toNat = rd_ea (dy_H t A) row (A 93 k).toNat := e
    refine b16_2 (by omega) h.2.1 ⟨fun z => by omega, fun _ => ?_⟩
    rw [Int.toNat_natCast, r3, r4, e]
    refine ⟨by omega, by omega, fun z => ⟨by omega, ih ?_⟩, fun z => ⟨?_, rfl⟩⟩
    · show (dy_agk A _ k && decide _) = true
      rw [q, decide_eq_true z]
      rfl
    · have f1 : dy_agk A (rd_ea (dy_H t A) row) (k + 1) = false := by
        show (dy_agk A _ k && decide _) = false
        rw [q, decide_eq_false z]
        rfl
      have f2 := agk_f A _ _ f1 ((A 90 2).toNat - (k + 1))
      rw [show k + 1 + ((A 90 2).toNat - (k + 1)) = (A 90 2).toNat from by omega] at f2
      have f2 : dy_ag t A row = false := f2
      rw [f2]
      rfl
theorem s17 {d t : Nat} {A M : ab_M} {row : List Nat} {x : Int} (hd : 3 ≤ d) (h : pu_at t A M) (hf : rd_rf 90 (dy_H t A) row M) (hl : row.length ≤ 6) (hr : ∀ i, i ∈ row → i < rd_nd t A) (hx : M 90 5 = x) : ab_ev d 17 [.inr (.inr 90), .inr (.inr t), .inl ((row.length : Nat) : Int)] M (some (.inl (dy_pc t A (rd_ea (dy_H t A) row) x (A t 1) 0 row))) M := by
  have ht : t = 5 ∨ t = 37 := h.2.1.2.2.1
  have t3 := h.1.2.1.2.2.1
  have hn : rd_nd t A ≤ 6 := by unfold rd_nd; omega
  have r1 : M t 1 = A t 1 := at_r h t 1 (by omega)
  refine ev_wp (b17_0 (by omega) h.2.1 h.2.1.2.2.1 ?_)
  rw [r1]
  refine loop_up (P := fun k => ∀ place begun, dy_pc t A (rd_ea (dy_H t A) row) x place begun (row.drop k) = dy_pc t A (rd_ea (dy_H t A) row) x (A t 1) 0 row → ab_wp d 17 11 [some (.inr (.inr 90)), some (.inr (.inr t)), some (.inl ((row.length : Nat) : Int)), some (.inl place), some (.inl begun), some (.inl (k : Int))] [] M _) row.length ?_ ?_ 0 (by omega) (A t 1) 0 (by rw [List.drop_zero])
  · intro place begun e
    rw [List.drop_length] at e
    exact b17_11 (by omega) h.2.1 h.2.1.2.2.1 ⟨fun _ => ⟨by rw [← e]; rfl, rfl⟩, fun q => by omega⟩
  · intro k hk ih place begun e
    rw [drop_s hk] at e
    have e : (if begun ≤ x then dy_pc t A (rd_ea (dy_H t A) row) x (rd_hm t A (row.getD k 0)) (rd_ea (dy_H t A) row (row.getD k 0)) (row.drop (k + 1)) else place) = dy_pc t A (rd_ea (dy_H t A) row) x (A t 1) 0 row := e
    rw [Int.natCast_succ] at ih
    have xk := hf.1 k hk
    have xk : M 91 k = ((row.getD k 0 : Nat) : Int) := xk
    have xn := hr _ (getD_mem hk)
    have xe := hf.2 (row.getD k 0) (by omega)
    have xe : M 92 (row.getD k 0) = rd_ea (dy_H t A) row (row.getD k 0) := xe
    have w59 := s59a (d := d - 1) (by omega) h (row.getD k 0) xn
    rw [← xk] at w59
    refine b17_11 (by omega) h.2.1 h.2.1.2.2.1 ⟨fun q => by omega, fun _ => ⟨fun q => ⟨?_, rfl⟩, fun q => ⟨by omega, ?_⟩⟩⟩
    · rw [if_neg (by omega)] at e
      rw [e]
    · rw [Int.toNat_natCast]
      refine ⟨_, M, w59, h.2.1, by omega, by omega, ?_⟩
      rw [xk, Int.toNat_natCast, xe]
      rw [if_pos (by omega)] at e
      exact ih _ _ e
theorem or_128 : ∀ s : Fin 128, ∀ i : Fin 7, ab_or ((s.val : Nat) : Int) (ab_shl 1 ((i.val : Nat) : Int)) = ((s.val ||| 2 ^ i.val : Nat) : Int) ∧ s.val ||| 2 ^ i.val < 128 := by decide +kernel
/-- which of P's places are marked in s -/
def dy_sq (P : List Nat → Int → Prop) (L : List (List Nat)) (v : Int) : Prop := ∃ s : Nat, s < 128 ∧ v = (s : Int) ∧ ∀ j : Nat, s.testBit j = true ↔ ∃ r, r ∈ L ∧ P r (j : Int)
theorem sq_keep {P : List Nat → Int → Prop} {L : List (List Nat)} {v : Int} {row : List Nat} (h : dy_sq P L v) (q : ∀ j, ¬ P row j) : dy_sq P (L ++ [row]) v := by
  obtain ⟨s, h1, h2, h3⟩ := h
  refine ⟨s, h1, h2, fun j => ?_⟩
  rw [h3]
  constructor
  · rintro ⟨r, a, b⟩
    exact ⟨r, List.mem_append.2 (Or.inl a), b⟩
  · rintro ⟨r, a, b⟩
    rcases List.mem_append.1 a with y | y
    · exact ⟨r, y, b⟩
    · rw [List.mem_singleton.1 y] at b
      exact absurd b (q _)
theorem sq_add {P : List Nat → Int → Prop} {L : List (List Nat)} {v p : Int} {row : List Nat} (h : dy_sq P L v) (hp : 0 ≤ p ∧ p < 7) (q : ∀ j, P row j ↔ j = p) : dy_sq P (L ++ [row]) (ab_or v (ab_shl 1 p)) := by
  obtain ⟨s, h1, h2, h3⟩ := h
  obtain ⟨i, rfl⟩ : ∃ i : Nat, p = (i : Int) := ⟨p.toNat, by omega⟩
  have o := or_128 ⟨s, h1⟩ ⟨i, by omega⟩
  have o1 : ab_or (s : Int) (ab_shl 1 (i : Int)) = ((s ||| 2 ^ i : Nat) : Int) := o.1
  refine ⟨s ||| 2 ^ i, o.2, by rw [h2, o1], fun j => ?_⟩
  rw [Nat.testBit_or, Nat.testBit_two_pow, Bool.or_eq_true, h3, decide_eq_true_eq]
  constructor
  · rintro (⟨r, a, b⟩ | e)
    · exact ⟨r, List.mem_append.2 (Or.inl a), b⟩
    · exact ⟨row, List.mem_append.2 (Or.inr (List.mem_singleton.2 rfl)), (q _).2 (by omega)⟩
  · rintro ⟨r, a, b⟩
    rcases List.mem_append.1 a with y | y
    · exact Or.inl ⟨r, y, b⟩
    · rw [List.mem_singleton.1 y] at b
      have := (q _).1 b
      exact Or.inr (by omega)
def dy_P (t : Nat) (A : ab_M) (x : Int) (r : List Nat) (j : Int) : Prop := dy_ag t A r = true ∧ dy_pc t A (rd_ea (dy_H t A) r) x (A t 1) 0 r = j
def dy_I (t : Nat) (A : ab_M) (x : Int) (L : List (List Nat)) (M : ab_M) : Prop := M 90 5 = x ∧ M 90 3 = (((L.filter (dy_ag t A)).length : Nat) : Int) ∧ dy_sq (dy_P t A x) L (M 90 4)
def dy_B : Nat → Nat
  | 0 => 1
  | f + 1 => 1 + 6 * dy_B f
theorem fm_len (F : Nat → List (List Nat)) (B : Nat) : ∀ n, (∀ i, i < n → (F i).length ≤ B) → ((List.range n).flatMap F).length ≤ n * B
  | 0, _ => by simp
  | n + 1, h => by
    rw [range_fm, List.length_append, Nat.add_mul, Nat.one_mul]
    have := fm_len F B n (fun i hi => h i (by omega))
    have := h n (by omega)
    omega
theorem dfs_len (H : rd_HH) {nd : Nat} (hn : nd ≤ 6) : ∀ f left row, (rd_dfs H nd f left row).length ≤ dy_B f
  | 0, _, _ => Nat.le_refl 1
  | f + 1, left, row => by
    rw [dfs_s, List.length_cons]
    have := fm_len (fun i => if left.testBit i = true ∧ H.2.1 i (rd_sq H row) (rd_mn H row) ≠ -1 then rd_dfs H nd f (rd_rm left i) (row ++ [i]) else []) (dy_B f) nd (fun i hi => by
      by_cases c : left.testBit i = true ∧ H.2.1 i (rd_sq H row) (rd_mn H row) ≠ -1
      · rw [if_pos c]; exact dfs_len H hn f _ _
      · rw [if_neg c]; exact Nat.zero_le _)
    have h2 : nd * dy_B f ≤ 6 * dy_B f := Nat.mul_le_mul_right _ hn
    show _ ≤ 1 + 6 * dy_B f
    omega
def dy_o (t : Nat) (A : ab_M) : Nat := 2 ^ rd_nd t A - 1
theorem shl_all : ∀ n : Fin 7, ab_shl 1 ((n.val : Nat) : Int) - 1 = ((2 ^ n.val - 1 : Nat) : Int) ∧ 2 ^ n.val - 1 < 64 := by decide +kernel
theorem s14 {d t : Nat} {A M : ab_M} (hd : 22 ≤ d) (h : pu_at t A M) (hq : 0 < A t 0) (x : Int) :
    ∃ M', ab_ev d 14 [.inr (.inr 90), .inr (.inr t), .inl x] M none M' ∧ pu_at t A M' ∧ dy_I t A x (rd_dfs (dy_H t A) (rd_nd t A) 6 (dy_o t A) []) M' := by
  have ht : t = 5 ∨ t = 37 := h.2.1.2.2.1
  obtain ⟨t1, t2, t3, t4, t5, t6, _⟩ := id h.1.2.1
  have t6 := t6 hq
  have hn : rd_nd t A ≤ 6 := by unfold rd_nd; omega
  have hG : pu_G 90 := Or.inr (Or.inr (Or.inr rfl))
  have a0 : pu_at t A (ab_w (ab_w (ab_w M 90 3 0) 90 4 0) 90 5 x) := at_w (at_w (at_w h (str_w h.2.1 rfl) (by omega)) (str_w (str_w h.2.1 rfl) rfl) (by omega)) (str_w (str_w (str_w h.2.1 rfl) rfl) rfl) (by omega)
  have r0 : (ab_w (ab_w (ab_w M 90 3 0) 90 4 0) 90 5 x) t 0 = A t 0 := at_r a0 t 0 (by omega)
  have r1 : (ab_w (ab_w (ab_w M 90 3 0) 90 4 0) 90 5 x) t 1 = A t 1 := at_r a0 t 1 (by omega)
  have r3 : (ab_w (ab_w (ab_w M 90 3 0) 90 4 0) 90 5 x) t 3 = A t 3 := at_r a0 t 3 (by omega)
  have sh := shl_all ⟨rd_nd t A, by omega⟩
  have sh1 : ab_shl 1 (A t 3) - 1 = ((dy_o t A : Nat) : Int) := by
    have := sh.1
    rw [show (((⟨rd_nd t A, by omega⟩ : Fin 7).val : Nat) : Int) = A t 3 from by show ((rd_nd t A : Nat) : Int) = A t 3; unfold rd_nd; omega] at this
    exact this
  have o64 : dy_o t A < 64 := sh.2
  obtain ⟨M', e, h1, h2⟩ := try_all (t := t) (A := A) (left := dy_o t A) (sq0 := A t 1) (mn0 := 0) hG (dy_I t A x) (fun L M c f v hc hi => by
      have g : ∀ f', ab_w M c f v 90 f' = M 90 f' := fun f' => by
        unfold ab_w
        rw [if_neg (by omega)]
      exact ⟨by rw [g]; exact hi.1, by rw [g]; exact hi.2.1, by rw [g]; exact hi.2.2⟩) (fun d L M1 row hd hL hM1 hl hr hmn hf hi => by
      have hf : rd_rf 90 (dy_H t A) row M1 := hf
      obtain ⟨i1, i2, i3⟩ := hi
      have hL2 := dfs_len (rd_H t A (A t 1) 0) hn 6 (dy_o t A) []
      have hB : dy_B 6 = 55987 := rfl
      have fl := List.length_filter_le (dy_ag t A) L
      by_cases c : dy_ag t A row = true
      · have w16 := s16 (d := d - 1) (by omega) hM1 hf
        rw [if_pos c] at w16
        have a2 : pu_at t A (ab_w M1 90 3 (M1 90 3 + 1)) := at_w hM1 (str_w hM1.2.1 rfl) (by omega)
        have f2 : rd_rf 90 (dy_H t A) row (ab_w M1 90 3 (M1 90 3 + 1)) := by
          refine ⟨fun k hk => ?_, fun i hi => ?_⟩
          · unfold ab_w
            rw [if_neg (by omega)]
            exact hf.1 k hk
          · unfold ab_w
            rw [if_neg (by omega)]
            exact hf.2 i hi
        have w17 := s17 (d := d - 1) (by omega) a2 f2 hl hr (x := x) i1
        have pr := pc_rg h.1 (rd_ea (dy_H t A) row) x row (A t 1) 0 hr t6
        have a3 : pu_at t A (ab_w (ab_w M1 90 3 (M1 90 3 + 1)) 90 4 (ab_or (M1 90 4) (ab_shl 1 (dy_pc t A (rd_ea (dy_H t A) row) x (A t 1) 0 row)))) := at_w a2 (str_w a2.2.1 rfl) (by omega)
        refine ⟨_, ev_wp (b15_0 (by omega) hM1.2.1 hM1.2.1.2.2.1 ⟨(1 : Int), M1, w16, hM1.2.1, fun q => absurd q (by decide), fun _ => ⟨by clear i3; omega, _, _, w17, a2.2.1, rfl, rfl⟩⟩), a3, ⟨fun k hk => ?_, fun i hi => ?_⟩, i1, ?_, ?_⟩
        · unfold ab_w
          rw [if_neg (by omega), if_neg (by omega)]
          exact hf.1 k hk
        · unfold ab_w
          rw [if_neg (by omega), if_neg (by omega)]
          exact hf.2 i hi
        · show M1 90 3 + 1 = _
          rw [List.filter_append, i2, List.length_append]
          simp [c]
        · show dy_sq _ _ (ab_or (M1 90 4) _)
          exact sq_add i3 (by omega) (fun j => ⟨fun z => z.2.symm, fun z => ⟨c, z.symm⟩⟩)
      · have w16 := s16 (d := d - 1) (by omega) hM1 hf
        rw [if_neg c] at w16
        refine ⟨M1, ev_wp (b15_0 (by omega) hM1.2.1 hM1.2.1.2.2.1 ⟨(0 : Int), M1, w16, hM1.2.1, fun _ => ⟨rfl, rfl⟩, fun q => absurd rfl q⟩), hM1, hf, i1, ?_, ?_⟩
        · rw [List.filter_append, i2, List.length_append]
          simp [c]
        · exact sq_keep i3 (fun j z => c z.1)) (d := d - 1) (M := ab_w (ab_w (ab_w M 90 3 0) 90 4 0) 90 5 x) (by omega) o64 a0 (by omega) (fun _ => t6) ⟨rfl, rfl, ⟨0, by omega, rfl, fun j => ⟨fun z => (by rw [Nat.zero_testBit] at z; cases z), fun ⟨r, a, _⟩ => absurd a List.not_mem_nil⟩⟩⟩
  refine ⟨M', ev_wp (b14_0 (by omega) h.2.1 h.2.1.2.2.1 ?_), h1, h2⟩
  rw [r0, r1, r3, sh1]
  exact ⟨fun q => by omega, fun _ => ⟨by omega, M', e, h1.2.1, rfl, rfl⟩⟩
