/-! the best round: the class -/
def rd_W (t : Nat) (A : ab_M) (r : List Nat) : Int := pu_wth t A (rd_set r)
/-- r is no better than r0; the second: worse -/
def rd_le (t : Nat) (A : ab_M) (H : rd_HH) (r r0 : List Nat) : Prop := rd_W t A r < rd_W t A r0 ∨ (rd_W t A r = rd_W t A r0 ∧ rd_mn H r0 ≤ rd_mn H r)
def rd_lt (t : Nat) (A : ab_M) (H : rd_HH) (r r0 : List Nat) : Prop := rd_W t A r < rd_W t A r0 ∨ (rd_W t A r = rd_W t A r0 ∧ rd_mn H r0 < rd_mn H r)
theorem lt_le {t : Nat} {A : ab_M} {H : rd_HH} {r r0 : List Nat} (h : rd_lt t A H r r0) : rd_le t A H r r0 := by
  unfold rd_lt at h
  unfold rd_le
  omega
def rd_bi (t : Nat) (A : ab_M) (H : rd_HH) (L : List (List Nat)) (M : ab_M) : Prop := (L = [] ∧ M 78 2 = -1) ∨ (∃ L1 r0 L2, L = L1 ++ r0 :: L2 ∧ (∀ r, r ∈ L1 → rd_lt t A H r r0) ∧ (∀ r, r ∈ L2 → rd_le t A H r r0) ∧ M 78 2 = rd_W t A r0 ∧ M 78 3 = rd_mn H r0 ∧ M 78 4 = ((r0.length : Nat) : Int) ∧ (∀ k : Nat, k < r0.length → M 81 k = ((r0.getD k 0 : Nat) : Int)))
theorem bi_new {t : Nat} {A : ab_M} {H : rd_HH} {L : List (List Nat)} {M M' : ab_M} {row : List Nat} (h : rd_bi t A H L M) (q : M 78 2 < rd_W t A row ∨ (rd_W t A row = M 78 2 ∧ rd_mn H row < M 78 3))
    (hw : 0 ≤ rd_W t A row) (e2 : M' 78 2 = rd_W t A row) (e3 : M' 78 3 = rd_mn H row) (e4 : M' 78 4 = ((row.length : Nat) : Int)) (e5 : ∀ k : Nat, k < row.length → M' 81 k = ((row.getD k 0 : Nat) : Int)) : rd_bi t A H (L ++ [row]) M' := by
  refine Or.inr ⟨L, row, [], rfl, ?_, fun r hr => absurd hr List.not_mem_nil, e2, e3, e4, e5⟩
  intro r hr
  rcases h with ⟨h1, h2⟩ | ⟨L1, r0, L2, h1, h2, h3, h4, h5, h6, h7⟩
  · rw [h1] at hr
    exact absurd hr List.not_mem_nil
  · have hle : rd_le t A H r r0 := by
      rw [h1, List.mem_append, List.mem_cons] at hr
      rcases hr with y | y | y
      · exact lt_le (h2 r y)
      · rw [y]; exact Or.inr ⟨rfl, Int.le_refl _⟩
      · exact h3 r y
    clear h2 h3 h7
    unfold rd_le at hle
    unfold rd_lt
    omega
theorem bi_keep {t : Nat} {A : ab_M} {H : rd_HH} {L : List (List Nat)} {M : ab_M} {row : List Nat} (h : rd_bi t A H L M) (q : ¬ (M 78 2 < rd_W t A row ∨ (rd_W t A row = M 78 2 ∧ rd_mn H row < M 78 3))) (hw : 0 ≤ rd_W t A row) : rd_bi t A H (L ++ [row]) M := by
  rcases h with ⟨h1, h2⟩ | ⟨L1, r0, L2, h1, h2, h3, h4, h5, h6, h7⟩
  · omega
  · refine Or.inr ⟨L1, r0, L2 ++ [row], ?_, h2, ?_, h4, h5, h6, h7⟩
    · rw [h1]; simp
    · intro r hr
      rcases List.mem_append.1 hr with y | y
      · exact h3 r y
      · rw [List.mem_singleton.1 y]
        clear h2 h3 h7
        unfold rd_le
        omega
def rd_best (t : Nat) (A : ab_M) (H : rd_HH) (nd o : Nat) (r0 : List Nat) : Prop := rd_v H nd o r0 ∧ (∀ r, rd_v H nd o r → rd_le t A H r r0) ∧ (∀ r, rd_v H nd o r → rd_W t A r = rd_W t A r0 → rd_mn H r = rd_mn H r0 → r0 = r ∨ rd_ah r0 r)
theorem best_uq {t : Nat} {A : ab_M} {H : rd_HH} {nd o : Nat} {a b : List Nat} (ha : rd_best t A H nd o a) (hb : rd_best t A H nd o b) : a = b := by
  obtain ⟨a1, a2, a3⟩ := ha
  obtain ⟨b1, b2, b3⟩ := hb
  have q1 := a2 b b1
  have q2 := b2 a a1
  unfold rd_le at q1 q2
  have e1 : rd_W t A b = rd_W t A a := by clear a2 a3 b2 b3; omega
  have e2 : rd_mn H b = rd_mn H a := by clear a2 a3 b2 b3; omega
  rcases a3 b b1 e1 e2 with z | z
  · exact z
  · rcases b3 a a1 e1.symm e2.symm with y | y
    · exact y.symm
    · exact absurd (ah_tr _ _ _ z y) (ah_irr a)
theorem s1 {d t o : Nat} {A M : ab_M} {sq0 mn0 : Int} (hd : 22 ≤ d) (h64 : o < 64) (hM : pu_at t A M) (hm : 0 ≤ mn0 ∧ mn0 ≤ 97000) (hs : 0 < rd_nd t A → 0 ≤ sq0 ∧ sq0 < A t 0) :
    ∃ M' r0, ab_ev d 1 [.inr (.inr 78), .inr (.inr t), .inl (o : Int), .inl sq0, .inl mn0] M none M' ∧ pu_at t A M' ∧ rd_best t A (rd_H t A sq0 mn0) (rd_nd t A) o r0 ∧ M' 78 2 = rd_W t A r0 ∧ M' 78 3 = rd_mn (rd_H t A sq0 mn0) r0 ∧ M' 78 4 = ((r0.length : Nat) : Int) ∧ (∀ k : Nat, k < r0.length → M' 81 k = ((r0.getD k 0 : Nat) : Int)) := by
  have t3 := hM.1.2.1.2.2.1
  have hn : rd_nd t A ≤ 6 := by unfold rd_nd; omega
  have hG : pu_G 78 := Or.inl rfl
  have a0 : pu_at t A (ab_w M 78 2 (-1)) := at_w hM (str_w hM.2.1 rfl) (by omega)
  obtain ⟨M', e, h1, h2⟩ := try_all (t := t) (A := A) (sq0 := sq0) (mn0 := mn0) hG (rd_bi t A (rd_H t A sq0 mn0)) (fun L M c f v hc hi => by
      have g : ∀ k f', k = 78 ∨ k = 81 → ab_w M c f v k f' = M k f' := fun k f' hk => by
        unfold ab_w
        rw [if_neg (by omega)]
      rcases hi with ⟨h1, h2⟩ | ⟨L1, r0, L2, h1, h2, h3, h4, h5, h6, h7⟩
      · exact Or.inl ⟨h1, by rw [g 78 2 (Or.inl rfl)]; exact h2⟩
      · refine Or.inr ⟨L1, r0, L2, h1, h2, h3, ?_, ?_, ?_, fun k hk => ?_⟩
        · rw [g 78 2 (Or.inl rfl)]; exact h4
        · rw [g 78 3 (Or.inl rfl)]; exact h5
        · rw [g 78 4 (Or.inl rfl)]; exact h6
        · rw [g 81 k (Or.inr rfl)]; exact h7 k hk) (fun d L M1 row hd _ hM1 hl hr hmn hf hi => by
      have h6 : ∀ i, i ∈ row → i < 6 := fun i hi => by have := hr i hi; omega
      have s64 := set_64 h6
      have wp := (wth_pos hM1.1 (rd_set row)).1
      have wp : 0 ≤ rd_W t A row := wp
      have sA : pu_str t (ab_w (ab_w (ab_w M1 78 2 (rd_W t A row)) 78 3 (rd_mn (rd_H t A sq0 mn0) row)) 78 4 ((row.length : Nat) : Int)) := str_w (str_w (str_w hM1.2.1 rfl) rfl) rfl
      have aN : pu_at t A (ab_cpm (ab_w (ab_w (ab_w M1 78 2 (rd_W t A row)) 78 3 (rd_mn (rd_H t A sq0 mn0) row)) 78 4 ((row.length : Nat) : Int)) 79 81 0 0 row.length) := by
        refine ⟨hM1.1, str_c sA rfl, fun k f q => ?_⟩
        unfold ab_cpm
        rw [if_neg (by omega)]
        unfold ab_w
        rw [if_neg (by omega), if_neg (by omega), if_neg (by omega)]
        exact hM1.2.2 k f q
      have fN : rd_rf 78 (rd_H t A sq0 mn0) row (ab_cpm (ab_w (ab_w (ab_w M1 78 2 (rd_W t A row)) 78 3 (rd_mn (rd_H t A sq0 mn0) row)) 78 4 ((row.length : Nat) : Int)) 79 81 0 0 row.length) := by
        refine ⟨fun k hk => ?_, fun i hi => ?_⟩
        · unfold ab_cpm
          rw [if_neg (by omega)]
          unfold ab_w
          rw [if_neg (by omega), if_neg (by omega), if_neg (by omega)]
          exact hf.1 k hk
        · unfold ab_cpm
          rw [if_neg (by omega)]
          unfold ab_w
          rw [if_neg (by omega), if_neg (by omega), if_neg (by omega)]
          exact hf.2 i hi
      have iN : (M1 78 2 < rd_W t A row ∨ (rd_W t A row = M1 78 2 ∧ rd_mn (rd_H t A sq0 mn0) row < M1 78 3)) → rd_bi t A (rd_H t A sq0 mn0) (L ++ [row]) (ab_cpm (ab_w (ab_w (ab_w M1 78 2 (rd_W t A row)) 78 3 (rd_mn (rd_H t A sq0 mn0) row)) 78 4 ((row.length : Nat) : Int)) 79 81 0 0 row.length) := by
        intro q
        refine bi_new hi q wp ?_ ?_ ?_ (fun k hk => ?_)
        · unfold ab_cpm
          rw [if_neg (by omega)]
          rfl
        · unfold ab_cpm
          rw [if_neg (by omega)]
          rfl
        · unfold ab_cpm
          rw [if_neg (by omega)]
          rfl
        · unfold ab_cpm
          rw [if_pos ⟨rfl, by omega, by omega⟩]
          unfold ab_w
          rw [if_neg (by omega), if_neg (by omega), if_neg (by omega), show 0 + (k - 0) = k from by omega]
          exact hf.1 k hk
      have w : ab_wp d 2 0 (ab_ent [.inr (.inr 78), .inr (.inr t), .inl ((row.length : Nat) : Int), .inl (rd_mn (rd_H t A sq0 mn0) row)] (ab_mx 2)) [] M1 (fun r' M' => r' = none ∧ pu_at t A M' ∧ rd_rf 78 (rd_H t A sq0 mn0) row M' ∧ rd_bi t A (rd_H t A sq0 mn0) (L ++ [row]) M') := by
        refine b2_0 (by omega) hM1.2.1 hM1.2.1.2.2.1 ⟨_, _, s40 (by omega) hG hM1 hf hl h6, hM1.2.1, _, _, s60a (by omega) hM1 s64, hM1.2.1, fun q => ⟨by omega, ?_⟩, fun q => ⟨fun z => ⟨rfl, hM1, hf, bi_keep hi ?_ wp⟩, fun z => ⟨fun y => ⟨rfl, hM1, hf, bi_keep hi ?_ wp⟩, fun y => ⟨by omega, ?_⟩⟩⟩⟩
        · rw [Int.toNat_natCast]
          exact ⟨rfl, aN, fN, iN (Or.inl q)⟩
        · unfold rd_W
          clear iN hi
          omega
        · unfold rd_W
          clear iN hi
          omega
        · rw [Int.toNat_natCast]
          exact ⟨rfl, aN, fN, iN (Or.inr ⟨z, y⟩)⟩
      obtain ⟨r, M', e, rfl, z1, z2, z3⟩ := wp_ev w
      exact ⟨M', e, z1, z2, z3⟩) (d := d - 1) (left := o) (M := ab_w M 78 2 (-1)) (by omega) h64 a0 hm hs (Or.inl ⟨rfl, rfl⟩)
  have hD : [] ∈ rd_dfs (rd_H t A sq0 mn0) (rd_nd t A) 6 o [] := (dfs_v _ hn h64 []).2 ⟨List.nodup_nil, fun j hj => absurd hj List.not_mem_nil, ok_nil _⟩
  rcases h2 with ⟨g1, g2⟩ | ⟨L1, r0, L2, g1, g2, g3, g4, g5, g6, g7⟩
  · rw [g1] at hD
    exact absurd hD List.not_mem_nil
  · have ord := dfs_ord (rd_H t A sq0 mn0) (rd_nd t A) 6 o []
    rw [g1, List.pairwise_append] at ord
    have ord2 := (List.pairwise_cons.1 ord.2.1).1
    have mem : ∀ r, rd_v (rd_H t A sq0 mn0) (rd_nd t A) o r → r ∈ L1 ∨ r = r0 ∨ r ∈ L2 := by
      intro r hv
      have := (dfs_v _ hn h64 r).2 hv
      rw [g1, List.mem_append, List.mem_cons] at this
      exact this
    refine ⟨M', r0, ev_wp (b1_0 (by omega) hM.2.1 hM.2.1.2.2.1 ⟨M', e, h1.2.1, rfl, rfl⟩), h1, ⟨(dfs_v _ hn h64 r0).1 ?_, fun r hv => ?_, fun r hv q1 q2 => ?_⟩, g4, g5, g6, g7⟩
    · rw [g1]; simp
    · rcases mem r hv with y | y | y
      · exact lt_le (g2 r y)
      · rw [y]; exact Or.inr ⟨rfl, Int.le_refl _⟩
      · exact g3 r y
    · rcases mem r hv with y | y | y
      · have := g2 r y
        unfold rd_lt at this
        clear g2 g3 g7 mem
        omega
      · exact Or.inl y.symm
      · exact Or.inr (ord2 r y)
