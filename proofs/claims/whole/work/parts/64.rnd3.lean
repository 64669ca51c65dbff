/-! the sets that a round can do: the class -/
theorem take_s {r : List Nat} {k : Nat} (h : k < r.length) : r.take (k + 1) = r.take k ++ [r.getD k 0] := by
  rw [List.take_add_one, List.getElem?_eq_getElem h]
  simp [List.getD_eq_getElem?_getD, List.getElem?_eq_getElem h]
theorem getD_mem {r : List Nat} {k : Nat} (h : k < r.length) : r.getD k 0 ∈ r := by
  rw [List.getD_eq_getElem?_getD, List.getElem?_eq_getElem h]
  exact List.getElem_mem h
theorem s40 {d t g : Nat} {A M : ab_M} {H : rd_HH} {row : List Nat} (hd : 1 ≤ d) (hg : pu_G g) (h : pu_at t A M) (hf : rd_rf g H row M) (hl : row.length ≤ 6) (hr : ∀ i, i ∈ row → i < 6) : ab_ev d 40 [.inr (.inr g), .inl ((row.length : Nat) : Int)] M (some (.inl ((rd_set row : Nat) : Int))) M := by
  refine ev_wp (b40_0 (by omega) h.2.1 hg ?_)
  refine loop_up (P := fun k => ab_wp d 40 4 [some (.inr (.inr g)), some (.inl ((row.length : Nat) : Int)), some (.inl ((rd_set (row.take k) : Nat) : Int)), some (.inl (k : Int))] [] M _) row.length ?_ ?_ 0 (by omega)
  · refine b40_4 (by omega) h.2.1 hg ⟨fun _ => ⟨?_, rfl⟩, fun q => by omega⟩
    rw [List.take_length]
  · intro k hk ih
    have hb := hr _ (getD_mem hk)
    have h64 : rd_set (row.take k) < 64 := set_64 (fun i hi => hr i (List.mem_of_mem_take hi))
    rw [take_s hk, set_snoc, Int.natCast_succ k] at ih
    refine b40_4 (by omega) h.2.1 hg ⟨fun q => by omega, fun _ => ⟨by omega, by omega, ?_⟩⟩
    rw [Int.toNat_natCast, hf.1 k hk, (or_all ⟨_, h64⟩ ⟨_, hb⟩).1]
    exact ih
theorem I_fil {g : Nat} {I : List (List Nat) → ab_M → Prop} (hI : ∀ L M c f v, (c = g + 1 ∨ c = g + 2) → I L M → I L (ab_w M c f v)) {L : List (List Nat)} {M : ab_M} (n : Nat) (v : Int) (h : I L M) : I L (pu_fil M (g + 2) n v) := by
  induction n with
  | zero => rw [fil_zero]; exact h
  | succ n ih => rw [← fil_succ]; exact hI _ _ _ _ _ (Or.inr rfl) ih
theorem G_ar {g : Nat} (h : pu_G g) : ab_arB 20 (g + 2) 6 = true := by
  rcases h with h | h | h | h <;> (subst h; rfl)
theorem try_all {t g left : Nat} {A : ab_M} {sq0 mn0 : Int} (hg : pu_G g) (I : List (List Nat) → ab_M → Prop)
    (hI : ∀ L M c f v, (c = g + 1 ∨ c = g + 2) → I L M → I L (ab_w M c f v))
    (hmeet : ∀ (d : Nat) L M row, 5 ≤ d → L.length < (rd_dfs (rd_H t A sq0 mn0) (rd_nd t A) 6 left []).length → pu_at t A M → row.length ≤ 6 → (∀ i, i ∈ row → i < rd_nd t A) → (0 ≤ rd_mn (rd_H t A sq0 mn0) row ∧ rd_mn (rd_H t A sq0 mn0) row ≤ 97000) → rd_rf g (rd_H t A sq0 mn0) row M → I L M → ∃ M', ab_ev d (ab_meet (ab_kd g).1) [.inr (.inr g), .inr (.inr t), .inl ((row.length : Nat) : Int), .inl (rd_mn (rd_H t A sq0 mn0) row)] M none M' ∧ pu_at t A M' ∧ rd_rf g (rd_H t A sq0 mn0) row M' ∧ I (L ++ [row]) M')
    {d : Nat} {M : ab_M} (hd : 20 ≤ d) (h64 : left < 64) (hM : pu_at t A M) (hm : 0 ≤ mn0 ∧ mn0 ≤ 97000) (hs : 0 < rd_nd t A → 0 ≤ sq0 ∧ sq0 < A t 0) (hi : I [] M) :
    ∃ M', ab_ev d 38 [.inr (.inr g), .inr (.inr t), .inl (left : Int), .inl sq0, .inl mn0] M none M' ∧ pu_at t A M' ∧ I (rd_dfs (rd_H t A sq0 mn0) (rd_nd t A) 6 left []) M' := by
  have hg' : g = 78 ∨ g = 82 ∨ g = 86 ∨ g = 90 := hg
  obtain ⟨na1, na2⟩ := G_na hg
  have a1 : pu_at t A (pu_fil M (g + 2) 6 (-1)) := at_fil hM na2 (fun f _ => by omega)
  obtain ⟨M', e, h1, h2, h3⟩ := go_on hg hM.1 _ I hI hmeet 6 (d - 1) left [] [] (pu_fil M (g + 2) 6 (-1)) (by omega) (by rw [List.length_nil]; omega) rfl h64 a1 (fun i hi => by cases hi) hm hs ⟨fun k hk => (by cases hk), fun i hi => fil_s hi⟩ (fun i _ => rfl) (I_fil hI 6 (-1) hi)
  exact ⟨M', ev_wp (b38_0 (by omega) hM.2.1 hg hM.2.1.2.2.1 ⟨_, s193 (by omega) hM.2.1 (g + 2) 6 (-1) (G_ar hg) na2 (by omega), a1.2.1, M', e, h1.2.1, rfl, rfl⟩), h1, h3⟩
/-- which sets of L's rows are marked -/
def rd_can (g : Nat) (M0 : ab_M) (L : List (List Nat)) (M : ab_M) : Prop := (∀ s : Nat, s < 64 → (M (g + 3) s = 0 ∨ M (g + 3) s = 1) ∧ (M (g + 3) s = 1 ↔ ∃ r, r ∈ L ∧ rd_set r = s)) ∧ (∀ k f : Nat, k < g ∨ g + 3 < k → M k f = M0 k f)
theorem D_na {g : Nat} (h : pu_D g) : pu_na (g + 3) = true ∧ pu_G g ∧ ab_meet (ab_kd g).1 = 23 := by
  rcases h with h | h
  · subst h; exact ⟨rfl, Or.inr (Or.inl rfl), rfl⟩
  · subst h; exact ⟨rfl, Or.inr (Or.inr (Or.inl rfl)), rfl⟩
theorem s22 {d t g left : Nat} {A M : ab_M} {sq0 mn0 : Int} (hd : 22 ≤ d) (hg : pu_D g) (h64 : left < 64) (hM : pu_at t A M) (hm : 0 ≤ mn0 ∧ mn0 ≤ 97000) (hs : 0 < rd_nd t A → 0 ≤ sq0 ∧ sq0 < A t 0) :
    ∃ M', ab_ev d 22 [.inr (.inr g), .inr (.inr t), .inl (left : Int), .inl sq0, .inl mn0] M none M' ∧ pu_at t A M' ∧ (∀ s : Nat, s < 64 → (M' (g + 3) s = 0 ∨ M' (g + 3) s = 1) ∧ (M' (g + 3) s = 1 ↔ ∃ r, rd_v (rd_H t A sq0 mn0) (rd_nd t A) left r ∧ rd_set r = s)) ∧ (∀ k f : Nat, k < g ∨ g + 3 < k → M' k f = M k f) := by
  have hg' : g = 82 ∨ g = 86 := hg
  obtain ⟨na3, hG, hmt⟩ := D_na hg
  have t3 := hM.1.2.1.2.2.1
  have hn : rd_nd t A ≤ 6 := by unfold rd_nd; omega
  have a1 : ∀ n, pu_at t A (pu_fil M (g + 3) n 0) := fun n => at_fil hM na3 (fun f _ => by omega)
  have key := try_all (t := t) (A := A) (sq0 := sq0) (mn0 := mn0) hG (rd_can g M) (fun L M c f v hc hi => by
      refine ⟨fun s hs => ?_, fun k f' hk => ?_⟩
      · have := hi.1 s hs
        unfold ab_w
        rw [if_neg (by omega)]
        exact this
      · have := hi.2 k f' hk
        unfold ab_w
        rw [if_neg (by omega)]
        exact this) (fun d L M1 row hd _ hM1 hl hr hmn hf hi => by
      have h6 : ∀ i, i ∈ row → i < 6 := fun i hi => by have := hr i hi; omega
      have s64 := set_64 h6
      have aw : pu_at t A (ab_w M1 (g + 3) (rd_set row) 1) := at_w hM1 (str_a hM1.2.1 na3) (by omega)
      refine ⟨_, by
        rw [hmt]
        exact ev_wp (b23_0 (by omega) hM1.2.1 hg hM1.2.1.2.2.1 ⟨_, _, s40 (by omega) hG hM1 hf hl h6, hM1.2.1, by omega, rfl, rfl⟩), ?_⟩
      rw [Int.toNat_natCast]
      refine ⟨aw, ⟨fun k hk => ?_, fun i hi => ?_⟩, fun s hs => ?_, fun k f hk => ?_⟩
      · unfold ab_w
        rw [if_neg (by omega)]
        exact hf.1 k hk
      · unfold ab_w
        rw [if_neg (by omega)]
        exact hf.2 i hi
      · have := hi.1 s hs
        unfold ab_w
        by_cases c : s = rd_set row
        · rw [if_pos ⟨rfl, c⟩]
          exact ⟨Or.inr rfl, fun _ => ⟨row, List.mem_append.2 (Or.inr (List.mem_singleton.2 rfl)), c.symm⟩, fun _ => rfl⟩
        · rw [if_neg (by omega)]
          refine ⟨this.1, fun q => ?_, ?_⟩
          · obtain ⟨r, h1, h2⟩ := this.2.1 q
            exact ⟨r, List.mem_append.2 (Or.inl h1), h2⟩
          · rintro ⟨r, h1, h2⟩
            rcases List.mem_append.1 h1 with y | y
            · exact this.2.2 ⟨r, y, h2⟩
            · rw [List.mem_singleton.1 y] at h2
              exact absurd h2.symm c
      · unfold ab_w
        rw [if_neg (by omega)]
        exact hi.2 k f hk) (d := d - 1) (left := left) (M := pu_fil M (g + 3) 64 0) (by omega) h64 (a1 64) hm hs ⟨fun s hs => by
      rw [fil_s hs]
      refine ⟨Or.inl rfl, fun q => by omega, ?_⟩
      rintro ⟨r, h1, _⟩
      exact absurd h1 (List.not_mem_nil), fun k f hk => fil_r (by omega)⟩
  obtain ⟨M', e, h1, h2⟩ := key
  refine ⟨M', ev_wp (b22_0 (by omega) hM.2.1 hg hM.2.1.2.2.1 ?_), h1, fun s hs => ⟨(h2.1 s hs).1, ?_⟩, h2.2⟩
  · have main := loop_up (P := fun k => ab_wp d 22 3 [some (.inr (.inr g)), some (.inr (.inr t)), some (.inl (left : Int)), some (.inl sq0), some (.inl mn0), some (.inl (k : Int))] [] (pu_fil M (g + 3) k 0) (fun r' M'' => r' = none ∧ M'' = M')) 64 ?_ ?_ 0 (by omega)
    · rw [fil_zero] at main
      exact main
    · exact b22_3 (by omega) (a1 _).2.1 hg hM.2.1.2.2.1 ⟨fun _ => ⟨M', e, h1.2.1, rfl, rfl⟩, fun q => by omega⟩
    · intro k hk ih
      rw [← fil_succ, Int.natCast_succ] at ih
      refine b22_3 (by omega) (a1 _).2.1 hg hM.2.1.2.2.1 ⟨fun q => by omega, fun _ => ⟨by omega, by omega, ?_⟩⟩
      rw [Int.toNat_natCast]
      exact ih
  · rw [(h2.1 s hs).2]
    constructor
    · rintro ⟨r, a, b⟩
      exact ⟨r, (dfs_v _ hn h64 r).1 a, b⟩
    · rintro ⟨r, a, b⟩
      exact ⟨r, (dfs_v _ hn h64 r).2 a, b⟩
