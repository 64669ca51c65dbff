/-! days and where: the model -/
def dy_Hm (t : Nat) (A : ab_M) : rd_HH := rd_H t A (A 103 4) 0
theorem s175 {d t : Nat} {A M : ab_M} (hd : 4 ≤ d) (h : pu_at t A M) (hs : 0 < rd_nd t A → 0 ≤ A 103 4 ∧ A 103 4 < A t 0) {x : List Nat} (hx : rd_gd (rd_nd t A) x) (hr : rd_mr 121 x M) :
    ∃ M' v, ab_ev d 175 [.inr (.inr 103), .inl ((x.length : Nat) : Int)] M (some (.inl v)) M' ∧ pu_at t A M' ∧ (∀ k f : Nat, k ≠ 128 → k ≠ 129 → M' k f = M k f) ∧
      ((v = 0 ∧ ¬ (rd_ok (dy_Hm t A) x ∧ dy_agk A (rd_ea (dy_Hm t A) x) (A 90 2).toNat = true)) ∨ (v = 1 ∧ rd_ok (dy_Hm t A) x ∧ dy_agk A (rd_ea (dy_Hm t A) x) (A 90 2).toNat = true ∧ ∀ k : Nat, k < x.length → M' 128 k = rd_mn (dy_Hm t A) (x.take k))) := by
  have t3 := h.1.2.1.2.2.1
  have hn : rd_nd t A ≤ 6 := by unfold rd_nd; omega
  have len := row_len hx.1 hx.2
  obtain ⟨b1, b2, b3, b4⟩ := h.1.2.2.2.2.2.2.2.2.2.1
  have r4 : M 103 4 = A 103 4 := at_r h 103 4 (by omega)
  have w : ab_wp d 175 0 (ab_ent [.inr (.inr 103), .inl ((x.length : Nat) : Int)] (ab_mx 175)) [] M (fun r' M' => ∃ v, r' = some (.inl v) ∧ pu_at t A M' ∧ (∀ k f : Nat, k ≠ 128 → k ≠ 129 → M' k f = M k f) ∧
      ((v = 0 ∧ ¬ (rd_ok (dy_Hm t A) x ∧ dy_agk A (rd_ea (dy_Hm t A) x) (A 90 2).toNat = true)) ∨ (v = 1 ∧ rd_ok (dy_Hm t A) x ∧ dy_agk A (rd_ea (dy_Hm t A) x) (A 90 2).toNat = true ∧ ∀ k : Nat, k < x.length → M' 128 k = rd_mn (dy_Hm t A) (x.take k)))) := by
    refine b175_0 (by omega) h.2.1 ?_
    rw [r4]
    have a1 : ∀ n, pu_at t A (pu_fil M 129 n (-1)) := fun n => at_fil h rfl (fun f _ => by omega)
    have main := loop_up (P := fun k => ab_wp d 175 10 [some (.inr (.inr 103)), some (.inl ((x.length : Nat) : Int)), some (.inl 0), some (.inl (A 103 4)), some (.inl (k : Int)), none] [] (pu_fil M 129 k (-1)) (fun r' M' => ∃ v, r' = some (.inl v) ∧ pu_at t A M' ∧ (∀ k f : Nat, k ≠ 128 → k ≠ 129 → M' k f = M k f) ∧
      ((v = 0 ∧ ¬ (rd_ok (dy_Hm t A) x ∧ dy_agk A (rd_ea (dy_Hm t A) x) (A 90 2).toNat = true)) ∨ (v = 1 ∧ rd_ok (dy_Hm t A) x ∧ dy_agk A (rd_ea (dy_Hm t A) x) (A 90 2).toNat = true ∧ ∀ k : Nat, k < x.length → M' 128 k = rd_mn (dy_Hm t A) (x.take k))))) 6 ?_ ?_ 0 (by omega)
    · rw [fil_zero] at main
      exact main
    · refine b175_10 (by omega) (a1 _).2.1 ⟨fun _ => ?_, fun q => by omega⟩
      refine loop_up (P := fun k => ∀ M1, pu_at t A M1 → (∀ k f : Nat, k ≠ 128 → k ≠ 129 → M1 k f = M k f) → rd_ok (dy_Hm t A) (x.take k) → (∀ j : Nat, j < k → M1 128 j = rd_mn (dy_Hm t A) (x.take j)) → (∀ i : Nat, i < 6 → M1 129 i = rd_ea (dy_Hm t A) (x.take k) i) → ab_wp d 175 34 [some (.inr (.inr 103)), some (.inl ((x.length : Nat) : Int)), some (.inl (rd_mn (dy_Hm t A) (x.take k))), some (.inl (rd_sq (dy_Hm t A) (x.take k))), some (.inl (k : Int)), none] [] M1 _) x.length ?_ ?_ 0 (by omega) _ (a1 6) (fun k f _ q => fil_r q) (ok_nil _) (fun j hj => by omega) (fun i hi => fil_s hi)
      · intro M1 p1 fr ok bg ea
        rw [List.take_length] at ok ea ⊢
        have r17 : M1 103 17 = A 90 2 := (at_r p1 103 17 (by omega)).trans b1.symm
        refine b175_34 (by omega) p1.2.1 ⟨fun _ => ?_, fun q => by omega⟩
        refine loop_up (P := fun j => ab_wp d 175 107 [some (.inr (.inr 103)), some (.inl ((x.length : Nat) : Int)), some (.inl (rd_mn (dy_Hm t A) x)), some (.inl (rd_sq (dy_Hm t A) x)), some (.inl (if dy_agk A (rd_ea (dy_Hm t A) x) j = true then 1 else 0)), some (.inl (j : Int))] [] M1 _) (A 90 2).toNat ?_ ?_ 0 (by omega)
        · refine b175_107 (by omega) p1.2.1 ⟨fun _ => ⟨?_, _, rfl, p1, fr, ?_⟩, fun q => by omega⟩
          · split
            · exact Or.inr rfl
            · exact Or.inl rfl
          · by_cases c : dy_agk A (rd_ea (dy_Hm t A) x) (A 90 2).toNat = true
            · rw [if_pos c]; exact Or.inr ⟨rfl, ok, c, bg⟩
            · rw [if_neg c]; exact Or.inl ⟨rfl, fun z => c z.2⟩
        · intro j hj ih
          have bj := b4 j (by omega)
          rw [Int.natCast_succ] at ih
          have e1 : (2 * (j : Int)).toNat = 2 * j := by omega
          have e2 : (2 * (j : Int) + 1).toNat = 2 * j + 1 := by omega
          have r1 : M1 113 (2 * j) = A 93 j := (at_r p1 113 _ (by omega)).trans bj.1
          have r2 : M1 113 (2 * j + 1) = A 94 j := (at_r p1 113 _ (by omega)).trans bj.2.1
          have r3 := ea (A 93 j).toNat (by omega)
          have st : dy_agk A (rd_ea (dy_Hm t A) x) (j + 1) = (dy_agk A (rd_ea (dy_Hm t A) x) j && decide (rd_ea (dy_Hm t A) x (A 93 j).toNat = A 94 j)) := rfl
          rw [st] at ih
          refine b175_107 (by omega) p1.2.1 ⟨fun q => by omega, fun _ => ⟨fun q => ⟨by omega, ?_⟩, fun q => ?_⟩⟩
          · have c : dy_agk A (rd_ea (dy_Hm t A) x) j = false := by
              cases hc : dy_agk A (rd_ea (dy_Hm t A) x) j with
              | false => rfl
              | true => rw [hc, if_pos rfl] at q; omega
            rw [c] at ih
            exact ih
          · have c : dy_agk A (rd_ea (dy_Hm t A) x) j = true := by
              cases hc : dy_agk A (rd_ea (dy_Hm t A) x) j with
              | true => rfl
              | false => rw [hc] at q; exact absurd rfl q
            rw [c, Bool.true_and] at ih
            rw [e1, e2, r1, r2, r3]
            refine ⟨by omega, by omega, by omega, by omega, by omega, fun z => ⟨by omega, ?_⟩, fun z => ⟨by omega, ?_⟩⟩
            · rw [decide_eq_false z] at ih
              exact ih
            · rw [decide_eq_true z] at ih
              exact ih
      · intro k hk ih M1 p1 fr ok bg ea
        rw [Int.natCast_succ, take_s hk] at ih
        have xk := hr k hk
        have xm := getD_mem hk
        have xn := hx.2 _ xm
        have gt := gd_take (k := k) hx
        have sq := sq_rg h.1 (mn0 := 0) hs (x.take k) gt.2 (by omega)
        have mr := ok_rg h.1 (show (0 : Int) ≤ 0 ∧ (0 : Int) ≤ 97000 by omega) hs gt ok
        have x1 : M1 121 k = ((x.getD k 0 : Nat) : Int) := by rw [fr 121 k (by omega) (by omega)]; exact xk
        have p2 : pu_at t A (ab_w M1 128 k (rd_mn (dy_Hm t A) (x.take k))) := at_w p1 (str_a p1.2.1 rfl) (by omega)
        have x2 : ab_w M1 128 k (rd_mn (dy_Hm t A) (x.take k)) 121 k = ((x.getD k 0 : Nat) : Int) := x1
        have w148 := s148 (d := d - 1) (by omega) p2 (x.getD k 0) xn (sq := rd_sq (dy_Hm t A) (x.take k)) (mn := rd_mn (dy_Hm t A) (x.take k)) sq ⟨mr.1, by have := mr.2; show rd_mn (rd_H t A (A 103 4) 0) (x.take k) ≤ 1000000; omega⟩
        rw [← x1] at w148
        have en : (dy_Hm t A).2.1 (x.getD k 0) (rd_sq (dy_Hm t A) (x.take k)) (rd_mn (dy_Hm t A) (x.take k)) = rd_end t A (x.getD k 0) (rd_sq (dy_Hm t A) (x.take k)) (rd_mn (dy_Hm t A) (x.take k)) := rfl
        have w0 : rd_mn (dy_Hm t A) (x.take k) < 1000000 := by
          have := mr.2
          show rd_mn (rd_H t A (A 103 4) 0) (x.take k) < 1000000
          omega
        refine b175_34 (by omega) p1.2.1 ⟨fun q => by omega, fun _ => ⟨by omega, ?_⟩⟩
        rw [Int.toNat_natCast]
        refine ⟨_, _, w148, p2.2.1, fun q => ?_, fun q => ⟨0, rfl, p2, fun k' f h1 h2 => ?_, Or.inl ⟨rfl, fun z => ?_⟩⟩⟩
        · rw [x2, Int.toNat_natCast]
          obtain ⟨q1, q2, q3⟩ := me_lt q
          have p3 : pu_at t A (ab_w (ab_w M1 128 k (rd_mn (dy_Hm t A) (x.take k))) 129 (x.getD k 0) (rd_me t A (x.getD k 0) (rd_sq (dy_Hm t A) (x.take k)) (rd_mn (dy_Hm t A) (x.take k)))) := at_w p2 (str_a p2.2.1 rfl) (by omega)
          refine ⟨by omega, _, _, s139 (by omega) p3 _ xn, p3.2.1, by omega, ?_⟩
          have es : rd_sq (dy_Hm t A) (x.take k ++ [x.getD k 0]) = rd_hm t A (x.getD k 0) := sq_snoc _ _ _
          have em : rd_mn (dy_Hm t A) (x.take k ++ [x.getD k 0]) = rd_me t A (x.getD k 0) (rd_sq (dy_Hm t A) (x.take k)) (rd_mn (dy_Hm t A) (x.take k)) := by rw [mn_snoc, en, q3]
          rw [es, em] at ih
          refine ih _ p3 (fun k' f h1 h2 => ?_) ((ok_snoc _ _ _).2 ⟨ok, by rw [en]; exact q2⟩) (fun j hj => ?_) (fun i hi => ?_)
          · unfold ab_w
            rw [if_neg (by omega), if_neg (by omega)]
            exact fr k' f h1 h2
          · unfold ab_w
            rw [if_neg (by omega)]
            by_cases cj : j = k
            · rw [if_pos ⟨rfl, cj⟩, cj]
            · rw [if_neg (by omega)]
              exact bg j (by omega)
          · rw [ea_snoc, en, ← q3]
            unfold ab_w pu_u
            by_cases ci : i = x.getD k 0
            · rw [if_pos ⟨rfl, ci⟩, if_pos ci]
            · rw [if_neg (by omega), if_neg (by omega), if_neg ci]
              exact ea i hi
        · unfold ab_w
          rw [if_neg (by omega)]
          exact fr k' f h1 h2
        · have zz : x = x.take (k + 1) ++ x.drop (k + 1) := (List.take_append_drop (k + 1) x).symm
          have z1 := z.1
          rw [zz] at z1
          have z2 := ok_pre _ _ _ z1
          rw [take_s hk] at z2
          have z3 := ((ok_snoc _ _ _).1 z2).2
          rw [en] at z3
          unfold rd_me at q
          rw [if_neg (by omega), if_neg z3] at q
          have := end_rg h.1 xn sq mr.1 z3
          have e9 : rd_end t A (x.getD k 0) (rd_sq (dy_Hm t A) (x.take k)) (rd_mn (dy_Hm t A) (x.take k)) ≤ 999 := this.2
          omega
    · intro k hk ih
      rw [← fil_succ, Int.natCast_succ] at ih
      refine b175_10 (by omega) (a1 _).2.1 ⟨fun q => by omega, fun _ => ⟨by omega, by omega, ?_⟩⟩
      rw [Int.toNat_natCast]
      exact ih
  obtain ⟨r', M', e, v, rfl, h1, h2, h3⟩ := wp_ev w
  exact ⟨M', v, e, h1, h2, h3⟩
