theorem B_zero {t : Nat} {A : ab_M} (hA : pu_inv t A) {sq0 mn0 : Int} (hm : 0 ≤ mn0 ∧ mn0 ≤ 97000) (hs : 0 < rd_nd t A → 0 ≤ sq0 ∧ sq0 < A t 0) {o set i : Nat} (hset : set < 64) (hi : i < rd_nd t A) (hb : set.testBit i = true) (ho : ∀ j, set.testBit j = true → o.testBit j = true) :
    rd_B (rd_H t A sq0 mn0) (rd_nd t A) o set i 0 (if rd_rm set i = 0 then rd_me t A i sq0 mn0 else 1000000) := by
  have t3 := hA.2.1.2.2.1
  have hn : rd_nd t A ≤ 6 := by unfold rd_nd; omega
  have hs := hs (by omega)
  have er := me_rg hA hi hs hm.1
  have nilr : ∀ r : List Nat, (∀ r' j, r = r' ++ [j] → j < 0) → r = [] := by
    intro r hr
    rcases List.eq_nil_or_concat r with q | ⟨r', j, q⟩
    · exact q
    · rw [List.concat_eq_append] at q
      have := hr r' j q
      omega
  by_cases c : rd_rm set i = 0
  · rw [if_pos c]
    refine ⟨er, fun r hv e hr => ?_, fun q => ?_⟩
    · rw [nilr r hr] at hv ⊢
      rw [mn_snoc]
      exact me_le hA hi hs hm.1 (Int.le_refl _) ((ok_snoc _ _ _).1 hv.2.2).2 (show mn0 < 1000000 by omega)
    · obtain ⟨c1, c2, c3⟩ := me_lt q
      refine ⟨[], ?_, ?_, ?_⟩
      · exact v_snoc ⟨List.nodup_nil, fun j hj => absurd hj List.not_mem_nil, ok_nil _⟩ List.not_mem_nil hi (ho i hb) c2
      · exact (set_add (r := []) (by omega) hset hb (by rw [c]; rfl) (fun j hj => absurd hj List.not_mem_nil)).2
      · rw [mn_snoc, c3]; rfl
  · rw [if_neg c]
    refine ⟨by omega, fun r hv e hr => ?_, fun q => by omega⟩
    exfalso
    rw [nilr r hr] at hv e
    exact c (set_rm (r := []) (fun j hj => absurd hj List.not_mem_nil) (by omega) hset List.not_mem_nil e).symm
theorem B_step {t : Nat} {A : ab_M} (hA : pu_inv t A) {sq0 mn0 : Int} (hm : 0 ≤ mn0 ∧ mn0 ≤ 97000) (hs : 0 < rd_nd t A → 0 ≤ sq0 ∧ sq0 < A t 0) {o set i k : Nat} (hset : set < 64) (hi : i < rd_nd t A) (hb : set.testBit i = true) (ho : ∀ j, set.testBit j = true → o.testBit j = true) (hk : k < rd_nd t A) (hkb : (rd_rm set i).testBit k = true) {E best : Int}
    (hE : rd_E (rd_H t A sq0 mn0) (rd_nd t A) o (rd_rm set i) k E) (hB : rd_B (rd_H t A sq0 mn0) (rd_nd t A) o set i k best) :
    rd_B (rd_H t A sq0 mn0) (rd_nd t A) o set i (k + 1) (if rd_me t A i (rd_hm t A k) E < best then rd_me t A i (rd_hm t A k) E else best) := by
  have t3 := hA.2.1.2.2.1
  have hn : rd_nd t A ≤ 6 := by unfold rd_nd; omega
  have hk2 := hm_rg hA hk
  have er := me_rg hA hi hk2 hE.1.1
  obtain ⟨b1, b2, b3⟩ := hB
  have low : ∀ r, rd_v (rd_H t A sq0 mn0) (rd_nd t A) o (r ++ [i]) → rd_set (r ++ [i]) = set → (∀ r' j, r = r' ++ [j] → j < k + 1) → (best ≤ rd_mn (rd_H t A sq0 mn0) (r ++ [i]) ∨ rd_me t A i (rd_hm t A k) E ≤ rd_mn (rd_H t A sq0 mn0) (r ++ [i])) := by
    intro r hv e hr
    by_cases c : ∀ r' j, r = r' ++ [j] → j < k
    · exact Or.inl (b2 r hv e c)
    · right
      rcases List.eq_nil_or_concat r with q | ⟨r', j, q⟩
      · exfalso
        apply c
        intro r' j q2
        rw [q] at q2
        simp at q2
      · rw [List.concat_eq_append] at q
        have j1 := hr r' j q
        have j2 : ¬ j < k := by
          intro z
          apply c
          intro r2 j2 q2
          rw [q] at q2
          have := List.append_inj' q2 rfl
          have e2 : j = j2 := by
            have := this.2
            simp at this
            exact this
          omega
        have ej : j = k := by omega
        subst ej
        have vp := v_pre hv
        have er2 : rd_set r = rd_rm set i := set_rm (fun x hx => by have := (vp.1.2.1 x hx).1; omega) (by omega) hset vp.2.1 e
        rw [q] at vp er2
        have g := hE.2.1 r' vp.1 er2
        have gr := (v_rg hA hm hs _ _ rfl vp.1).1
        have o2 := ((ok_snoc _ _ _).1 hv.2.2).2
        rw [mn_snoc, q]
        rw [q] at o2
        have sq := sq_snoc (rd_H t A sq0 mn0) r' j
        rw [sq] at o2 ⊢
        exact me_le hA hi hk2 hE.1.1 g o2 (by omega)
  by_cases c : rd_me t A i (rd_hm t A k) E < best
  · rw [if_pos c]
    refine ⟨er, fun r hv e hr => ?_, fun q => ?_⟩
    · rcases low r hv e hr with z | z
      · omega
      · exact z
    · obtain ⟨c1, c2, c3⟩ := me_lt q
      obtain ⟨r', v', s', m'⟩ := hE.2.2 c1
      have h6 : ∀ x, x ∈ r' ++ [k] → x < 6 := fun x hx => by have := (v'.2.1 x hx).1; omega
      obtain ⟨n1, n2⟩ := set_add (by omega) hset hb s' h6
      have e1 : rd_sq (rd_H t A sq0 mn0) (r' ++ [k]) = rd_hm t A k := sq_snoc _ _ _
      have e2 : (rd_H t A sq0 mn0).2.1 i (rd_sq (rd_H t A sq0 mn0) (r' ++ [k])) (rd_mn (rd_H t A sq0 mn0) (r' ++ [k])) = rd_end t A i (rd_hm t A k) E := by rw [e1, m']; rfl
      refine ⟨r' ++ [k], v_snoc v' n1 hi (ho i hb) (by rw [e2]; exact c2), n2, ?_⟩
      rw [mn_snoc, e2, c3]
  · rw [if_neg c]
    refine ⟨b1, fun r hv e hr => ?_, b3⟩
    rcases low r hv e hr with z | z
    · exact z
    · omega
theorem B_skip {t : Nat} {A : ab_M} (hA : pu_inv t A) {sq0 mn0 : Int} {o set i k : Nat} (hset : set < 64) (hi : i < rd_nd t A) (hkb : ¬ (rd_rm set i).testBit k = true) {best : Int} (hB : rd_B (rd_H t A sq0 mn0) (rd_nd t A) o set i k best) :
    rd_B (rd_H t A sq0 mn0) (rd_nd t A) o set i (k + 1) best := by
  have t3 := hA.2.1.2.2.1
  have hn : rd_nd t A ≤ 6 := by unfold rd_nd; omega
  obtain ⟨b1, b2, b3⟩ := hB
  refine ⟨b1, fun r hv e hr => b2 r hv e (fun r' j q => ?_), b3⟩
  have j1 := hr r' j q
  by_cases c : j = k
  · exfalso
    apply hkb
    have vp := v_pre hv
    have er2 : rd_set r = rd_rm set i := set_rm (fun x hx => by have := (vp.1.2.1 x hx).1; omega) (by omega) hset vp.2.1 e
    rw [← er2, set_bit, q, c]
    simp
  · omega
/-- what the row of ends holds so far -/
def rd_en (H : rd_HH) (nd o : Nat) (M0 : ab_M) (s i : Nat) (M : ab_M) : Prop := (∀ s' i' : Nat, 1 ≤ s' → i' < 6 → (s' < s ∨ (s' = s ∧ i' < i)) → rd_E H nd o s' i' (M 120 (6 * s' + i'))) ∧ (∀ k f : Nat, k ≠ 120 → M k f = M0 k f)
theorem en_w {H : rd_HH} {nd o : Nat} {M0 : ab_M} {s i : Nat} {M : ab_M} {v : Int} (h : rd_en H nd o M0 s i M) (hi : i < 6) : rd_en H nd o M0 s i (ab_w M 120 (6 * s + i) v) := by
  refine ⟨fun s' i' h1 h2 h3 => ?_, fun k f hk => ?_⟩
  · have := h.1 s' i' h1 h2 h3
    unfold ab_w
    rw [if_neg (by omega)]
    exact this
  · unfold ab_w
    rw [if_neg (by omega)]
    exact h.2 k f hk
theorem en_ww {H : rd_HH} {nd o : Nat} {M0 : ab_M} {s i : Nat} {M : ab_M} {v : Int} (h : rd_en H nd o M0 s i M) (hi : i < 6) (hv : rd_E H nd o s i v) : rd_en H nd o M0 s (i + 1) (ab_w M 120 (6 * s + i) v) := by
  refine ⟨fun s' i' h1 h2 h3 => ?_, (en_w h hi).2⟩
  by_cases c : s' = s ∧ i' = i
  · obtain ⟨rfl, rfl⟩ := c
    rw [ab_w_eq]
    exact hv
  · exact (en_w h hi).1 s' i' h1 h2 (by omega)
theorem s149 {d t : Nat} {A M : ab_M} (hd : 4 ≤ d) (h : pu_at t A M) {sq0 mn0 : Int} {o : Nat} (hm : 0 ≤ mn0 ∧ mn0 ≤ 97000) (hs : 0 < rd_nd t A → 0 ≤ sq0 ∧ sq0 < A t 0) (ho : o < 64) (hon : ∀ j, o.testBit j = true → j < rd_nd t A) :
    ∃ M', ab_ev d 149 [.inr (.inr 103), .inl mn0, .inl sq0, .inl (o : Int)] M none M' ∧ pu_at t A M' ∧ (∀ s i : Nat, 1 ≤ s → s < 64 → i < 6 → rd_E (rd_H t A sq0 mn0) (rd_nd t A) o s i (M' 120 (6 * s + i))) ∧ (∀ k f : Nat, k ≠ 120 → M' k f = M k f) := by
  have hA := h.1
  have t3 := hA.2.1.2.2.1
  have hn : rd_nd t A ≤ 6 := by unfold rd_nd; omega
  obtain ⟨m1, m2, m3, m4, m5, m6, m7, m8⟩ := hA.2.2.1
  have w : ab_wp d 149 0 (ab_ent [.inr (.inr 103), .inl mn0, .inl sq0, .inl (o : Int)] (ab_mx 149)) [] M (fun r M' => r = none ∧ pu_at t A M' ∧ rd_en (rd_H t A sq0 mn0) (rd_nd t A) o M 64 0 M') := by
    refine b149_0 (by omega) h.2.1 ?_
    refine loop_up (P := fun s => 1 ≤ s → ∀ M1 y5 y6 y7 y8 y9, pu_at t A M1 → rd_en (rd_H t A sq0 mn0) (rd_nd t A) o M s 0 M1 → ab_wp d 149 3 [some (.inr (.inr 103)), some (.inl mn0), some (.inl sq0), some (.inl (o : Int)), some (.inl (s : Int)), y5, y6, y7, y8, y9] [] M1 _) 64 ?_ ?_ 1 (by omega) (by omega) M _ _ _ _ _ h ⟨fun s' i' h1 h2 h3 => by omega, fun k f _ => rfl⟩
    · intro _ M1 y5 y6 y7 y8 y9 a1 e1
      exact b149_3 (by omega) a1.2.1 ⟨fun _ => ⟨rfl, a1, e1⟩, fun q => by omega⟩
    · intro s hs64 ihs hs1 M1 y5 y6 y7 y8 y9 a1 e1
      have ihs := ihs (by omega)
      rw [Int.natCast_succ] at ihs
      refine b149_3 (by omega) a1.2.1 ⟨fun q => by omega, fun _ => ?_⟩
      refine loop_up (P := fun i => ∀ M1 y6 y7 y8 y9, pu_at t A M1 → rd_en (rd_H t A sq0 mn0) (rd_nd t A) o M s i M1 → ab_wp d 149 13 [some (.inr (.inr 103)), some (.inl mn0), some (.inl sq0), some (.inl (o : Int)), some (.inl (s : Int)), some (.inl (i : Int)), y6, y7, y8, y9] [] M1 _) 6 ?_ ?_ 0 (by omega) M1 _ _ _ _ a1 e1
      · intro M1 y6 y7 y8 y9 a1 e1
        refine b149_13 (by omega) a1.2.1 ⟨fun _ => ⟨by omega, ihs _ _ _ _ _ _ a1 ⟨fun s' i' h1 h2 h3 => e1.1 s' i' h1 h2 (by omega), e1.2⟩⟩, fun q => by omega⟩
      · intro i hi6 ihi M1 y6 y7 y8 y9 a1 e1
        rw [Int.natCast_succ] at ihi
        have ei : (6 * (s : Int) + (i : Int)).toNat = 6 * s + i := by omega
        have a2 : ∀ v, pu_at t A (ab_w M1 120 (6 * s + i) v) := fun v => at_w a1 (str_a a1.2.1 rfl) (by omega)
        have wh : ∀ M', pu_at t A M' → ab_ev (d - 1) 108 [.inl (s : Int), .inl (i : Int)] M' (some (.inl (if s.testBit i then 1 else 0))) M' := by
          intro M' a'
          have := s108 (d := d - 1) (by omega) a'.2.1 (s := (s : Int)) (i := (i : Int)) (by omega) (by omega)
          rw [Int.toNat_natCast, Int.toNat_natCast] at this
          exact this
        refine b149_13 (by omega) a1.2.1 ⟨fun q => by omega, fun _ => ⟨by omega, by omega, by omega, ?_⟩⟩
        rw [ei]
        refine ⟨_, _, wh _ (a2 _), (a2 _).2.1, fun q => ⟨by omega, ihi _ _ _ _ _ (a2 _) (en_ww e1 hi6 (E_none ?_))⟩, fun q => ?_⟩
        · exact fun z => has_f q z.1
        · have qb := has_t q
          rw [sub_int hs64 ho]
          refine ⟨fun z => ⟨by omega, ihi _ _ _ _ _ (a2 _) (en_ww e1 hi6 (E_none ?_))⟩, fun z => ?_⟩
          · intro y
            have := (sub_zero hs64).2 y.2
            omega
          · have hsub := (sub_zero (o := o) hs64).1 (by omega)
            have hin := hon i (hsub i qb)
            have rm := rm_all ⟨s, hs64⟩ ⟨i, hi6⟩
            have rm : ab_and (s : Int) (ab_xor (ab_shl 1 (i : Int)) (-1)) = ((rd_rm s i : Nat) : Int) := rm
            rw [rm]
            have hrm := rm_64 (i := i) hs64
            have hlt : rd_rm s i < s := by
              have h1 : rd_rm s i ≤ s := Nat.and_le_left
              have h2 : rd_rm s i ≠ s := by
                intro e
                have := rm_bit hs64 hi6 i
                rw [e, qb] at this
                simp at this
              omega
            have b0 := B_zero hA hm hs hs64 hin qb hsub
            have main : ∀ (best : Int) M2 y9, pu_at t A M2 → rd_en (rd_H t A sq0 mn0) (rd_nd t A) o M s i M2 → rd_B (rd_H t A sq0 mn0) (rd_nd t A) o s i 0 best → ab_wp d 149 88 [some (.inr (.inr 103)), some (.inl mn0), some (.inl sq0), some (.inl (o : Int)), some (.inl (s : Int)), some (.inl (i : Int)), some (.inl ((rd_rm s i : Nat) : Int)), some (.inl best), some (.inl 0), y9] [] M2 (fun r M' => r = none ∧ pu_at t A M' ∧ rd_en (rd_H t A sq0 mn0) (rd_nd t A) o M 64 0 M') := by
              intro best M2 y9 a2 e2 hb
              have r3 : M2 103 11 = A t 3 := (at_r a2 103 11 (by omega)).trans m3
              refine loop_up (P := fun k => ∀ best y9, rd_B (rd_H t A sq0 mn0) (rd_nd t A) o s i k best → ab_wp d 149 88 [some (.inr (.inr 103)), some (.inl mn0), some (.inl sq0), some (.inl (o : Int)), some (.inl (s : Int)), some (.inl (i : Int)), some (.inl ((rd_rm s i : Nat) : Int)), some (.inl best), some (.inl (k : Int)), y9] [] M2 _) (rd_nd t A) ?_ ?_ 0 (by omega) best y9 hb
              · intro best y9 hb
                refine b149_88 (by omega) a2.2.1 ⟨fun _ => ⟨by omega, by omega, by omega, by omega, ?_⟩, fun q => by unfold rd_nd at q; omega⟩
                rw [ei]
                exact ihi _ _ _ _ _ (at_w a2 (str_a a2.2.1 rfl) (by omega)) (en_ww e2 hi6 (B_E hb))
              · intro k hk ihk best y9 hb
                rw [Int.natCast_succ] at ihk
                have hk' : (k : Int) < A t 3 := by unfold rd_nd at hk; omega
                have b1 := hb.1
                have ek : (6 * ((rd_rm s i : Nat) : Int) + (k : Int)).toNat = 6 * rd_rm s i + k := by omega
                have wk := s108 (d := d - 1) (by omega) a2.2.1 (s := ((rd_rm s i : Nat) : Int)) (i := (k : Int)) (by omega) (by omega)
                rw [Int.toNat_natCast, Int.toNat_natCast] at wk
                refine b149_88 (by omega) a2.2.1 ⟨fun q => by omega, fun _ => ⟨_, _, wk, a2.2.1, fun q => ⟨fun _ => ⟨by omega, ihk _ _ (B_skip hA hs64 hin (has_f q) hb)⟩, fun z => by omega⟩, fun q => ⟨by omega, by omega, by omega, ?_⟩⟩⟩
                have qk := has_t q
                have hpos : 1 ≤ rd_rm s i := by
                  by_cases c : rd_rm s i = 0
                  · rw [c, Nat.zero_testBit] at qk; cases qk
                  · omega
                have hE := e2.1 (rd_rm s i) k hpos (by omega) (by omega)
                have st := B_step hA hm hs hs64 hin qb hsub hk qk hE hb
                rw [ek]
                refine ⟨_, _, s139 (by omega) a2 k hk, a2.2.1, _, _, s148 (by omega) a2 i hin (hm_rg hA hk) hE.1, a2.2.1, fun z => ⟨by omega, ?_⟩, fun z => ⟨by omega, ?_⟩⟩
                · rw [if_neg (by omega)] at st
                  exact ihk _ _ st
                · rw [if_pos z] at st
                  exact ihk _ _ st
            refine ⟨fun y => main _ _ _ (a2 _) (en_w e1 hi6) ?_, fun y => ⟨_, _, s148 (by omega) (a2 _) i hin (hs (by omega)) (by omega), (a2 _).2.1, main _ _ _ (a2 _) (en_w e1 hi6) ?_⟩⟩
            · rw [if_neg (by omega)] at b0
              exact b0
            · rw [if_pos (by omega)] at b0
              exact b0
  obtain ⟨r, M', e, rfl, h1, h2⟩ := wp_ev w
  exact ⟨M', e, h1, fun s i a b c => h2.1 s i a c (by omega), h2.2⟩
/-- V is the least end of a round of these deeds -/
def rd_L (H : rd_HH) (nd o set : Nat) (V : Int) : Prop := (0 ≤ V ∧ V ≤ 1000000) ∧ (∀ r, rd_v H nd o r → rd_set r = set → V ≤ rd_mn H r) ∧ (V < 1000000 → ∃ r, rd_v H nd o r ∧ rd_set r = set ∧ rd_mn H r = V)
theorem set_nil {r : List Nat} (h : rd_set r = 0) : r = [] := by
  cases r with
  | nil => rfl
  | cons i r =>
    have := set_bit (i :: r) i
    rw [h, Nat.zero_testBit] at this
    simp at this
def rd_K (H : rd_HH) (nd o set k : Nat) (V : Int) : Prop := (0 ≤ V ∧ V ≤ 1000000) ∧ (∀ r i, i < k → rd_v H nd o (r ++ [i]) → rd_set (r ++ [i]) = set → V ≤ rd_mn H (r ++ [i])) ∧ (V < 1000000 → ∃ r, rd_v H nd o r ∧ rd_set r = set ∧ rd_mn H r = V)
theorem K_skip {H : rd_HH} {nd o set k : Nat} {V : Int} (h : rd_K H nd o set k V) (q : ¬ set.testBit k = true) : rd_K H nd o set (k + 1) V := by
  refine ⟨h.1, fun r i hi hv e => ?_, h.2.2⟩
  by_cases c2 : i = k
  · exfalso
    apply q
    rw [← e, set_bit, c2]
    simp
  · exact h.2.1 r i (by have := hi; clear h; omega) hv e
theorem K_step {H : rd_HH} {nd o set k : Nat} {V E : Int} (h : rd_K H nd o set k V) (hE : rd_E H nd o set k E) : rd_K H nd o set (k + 1) (if E < V then E else V) := by
  obtain ⟨h1, h2, h3⟩ := h
  obtain ⟨g1, g2, g3⟩ := hE
  by_cases c : E < V
  · rw [if_pos c]
    refine ⟨g1, fun r i hi hv e => ?_, fun q => ?_⟩
    · clear h3 g3
      by_cases c2 : i = k
      · subst c2
        exact g2 r hv e
      · have := h2 r i (by omega) hv e
        omega
    · obtain ⟨r, a, b, c⟩ := g3 q
      exact ⟨_, a, b, c⟩
  · rw [if_neg c]
    refine ⟨h1, fun r i hi hv e => ?_, h3⟩
    clear h3 g3
    by_cases c2 : i = k
    · subst c2
      have := g2 r hv e
      omega
    · exact h2 r i (by omega) hv e
theorem s150 {d t : Nat} {A M : ab_M} (hd : 2 ≤ d) (h : pu_at t A M) {H : rd_HH} {o : Nat} (hE : ∀ s i : Nat, 1 ≤ s → s < 64 → i < 6 → rd_E H (rd_nd t A) o s i (M 120 (6 * s + i))) {set : Nat} (hset : set < 64) (x : Int) :
    ∃ V, ab_ev d 150 [.inr (.inr 103), .inl (set : Int), .inl x] M (some (.inl V)) M ∧ (set = 0 → V = x) ∧ (set ≠ 0 → rd_L H (rd_nd t A) o set V) := by
  have hA := h.1
  have t3 := hA.2.1.2.2.1
  have hn : rd_nd t A ≤ 6 := by unfold rd_nd; omega
  obtain ⟨m1, m2, m3, m4, m5, m6, m7, m8⟩ := hA.2.2.1
  have r3 : M 103 11 = A t 3 := (at_r h 103 11 (by omega)).trans m3
  have wk : ∀ k : Nat, k < 6 → ab_ev (d - 1) 108 [.inl (set : Int), .inl (k : Int)] M (some (.inl (if set.testBit k then 1 else 0))) M := by
    intro k hk
    have := s108 (d := d - 1) (by omega) h.2.1 (s := (set : Int)) (i := (k : Int)) (by omega) (by omega)
    rw [Int.toNat_natCast, Int.toNat_natCast] at this
    exact this
  have w : ab_wp d 150 0 (ab_ent [.inr (.inr 103), .inl (set : Int), .inl x] (ab_mx 150)) [] M (fun r M' => M' = M ∧ ∃ V, r = some (.inl V) ∧ (set = 0 → V = x) ∧ (set ≠ 0 → rd_L H (rd_nd t A) o set V)) := by
    by_cases c : set = 0
    · refine b150_0 (by omega) h.2.1 ⟨fun q => by omega, fun _ => ?_⟩
      refine loop_up (P := fun k => ab_wp d 150 14 [some (.inr (.inr 103)), some (.inl (set : Int)), some (.inl x), some (.inl x), some (.inl (k : Int))] [] M _) (rd_nd t A) ?_ ?_ 0 (by omega)
      · exact b150_14 (by omega) h.2.1 ⟨fun _ => ⟨rfl, x, rfl, fun _ => rfl, fun q => absurd c q⟩, fun q => by unfold rd_nd at q; omega⟩
      · intro k hk ih
        rw [Int.natCast_succ] at ih
        refine b150_14 (by omega) h.2.1 ⟨fun q => by unfold rd_nd at hk; omega, fun _ => ⟨_, _, wk k (by omega), h.2.1, fun q => ⟨by omega, ih⟩, fun q => ?_⟩⟩
        have := has_t q
        rw [c, Nat.zero_testBit] at this
        cases this
    · refine b150_0 (by omega) h.2.1 ⟨fun _ => ?_, fun q => by omega⟩
      refine loop_up (P := fun k => ∀ V : Int, rd_K H (rd_nd t A) o set k V → ab_wp d 150 14 [some (.inr (.inr 103)), some (.inl (set : Int)), some (.inl x), some (.inl V), some (.inl (k : Int))] [] M _) (rd_nd t A) ?_ ?_ 0 (by omega) 1000000 ⟨by omega, fun r i hi => by omega, fun q => by omega⟩
      · intro V hK
        refine b150_14 (by omega) h.2.1 ⟨fun _ => ⟨rfl, V, rfl, fun q => absurd q c, fun _ => ⟨hK.1, fun r hv e => ?_, hK.2.2⟩⟩, fun q => by unfold rd_nd at q; omega⟩
        rcases List.eq_nil_or_concat r with q | ⟨r', j, q⟩
        · rw [q] at e
          exact absurd e.symm c
        · rw [List.concat_eq_append] at q
          rw [q] at hv e ⊢
          exact hK.2.1 r' j (v_pre hv).2.2.1 hv e
      · intro k hk ih V hK
        rw [Int.natCast_succ] at ih
        have ek : (6 * (set : Int) + (k : Int)).toNat = 6 * set + k := by omega
        have hEk := hE set k (by omega) hset (by omega)
        refine b150_14 (by omega) h.2.1 ⟨fun q => by unfold rd_nd at hk; omega, fun _ => ⟨_, _, wk k (by omega), h.2.1, fun q => ⟨by omega, ih V (K_skip hK (has_f q))⟩, fun q => ⟨by omega, by omega, by omega, ?_⟩⟩⟩
        have st := K_step hK hEk
        rw [ek]
        refine ⟨fun z => ⟨by omega, ih V ?_⟩, fun z => ⟨by omega, ih _ ?_⟩⟩
        · rw [if_neg (by omega)] at st
          exact st
        · rw [if_pos z] at st
          exact st
  obtain ⟨r, M', e, rfl, V, rfl, h1, h2⟩ := wp_ev w
  exact ⟨V, e, h1, h2⟩
