/-- one value on both sides: P in moves, Q in turns -/
theorem th_eq {P Q : Nat → Prop} (pq : ∀ k, Q k ↔ P (2 * k)) (pm : ∀ k, P k → ∀ j, k ≤ j → P j) (stop : ∀ k, Q k → Q 42) {m x : Int} (hm : 0 ≤ m ∧ m ≤ 1000) (h1 : P m.toNat) (h2 : ∀ k : Nat, P k → m ≤ (k : Int)) (hv : th_v Q 60 x) : x = (m + 1).tdiv 2 ∧ x < 1000000 := by
  obtain ⟨v1, v2, v3⟩ := hv
  rw [Int.tdiv_eq_ediv_of_nonneg (by omega)]
  have q0 : Q ((m + 1) / 2).toNat := (pq _).2 (pm _ h1 _ (by omega))
  have q42 := stop _ q0
  have l42 := h2 _ ((pq 42).1 q42)
  have xl := v3 ((m + 1) / 2).toNat (by omega) q0
  have qx := v2 (by omega)
  have lx := h2 _ ((pq _).1 qx)
  omega
theorem th_none {Q : Nat → Prop} (h : ∀ k, ¬ Q k) {x : Int} (hv : th_v Q 60 x) : x = 1000000 := by
  obtain ⟨v1, v2, v3⟩ := hv
  apply Classical.byContradiction
  intro q
  exact h _ (v2 (by omega))
theorem c_thief {t : Nat} {A : ab_M} (h : pu_inv t A) (x y z u : Int) : pu_both 85 168 [.inl x, .inl y, .inl z, .inl u] t A := by
  have hA := at_rfl h
  have t1 := h.2.1.1
  have hn : th_n t A ≤ 7 := by unfold th_n; omega
  obtain ⟨m1, m2, m3, m4, m5, m6, m7, m8⟩ := h.2.2.1
  have w51 := fun x => s51 (d := 28) (by omega) h.1 h.1.2.2.1 x
  have w109 : ∀ M, pu_at t A M → ∀ x, ab_ev 28 109 [.inr (.inr 103), .inl x] M (some (.inl (if 0 ≤ x ∧ x < A t 0 then 1 else 0))) M := by
    intro M hM x
    have r3 : M 103 3 = A t 0 := (at_r hM 103 3 (by omega)).trans m1
    have := s109 (d := 28) (by omega) hM.2.1 (by omega) x
    rw [r3] at this
    exact this
  have fail : ¬ (0 ≤ x ∧ x < A t 0) ∨ ¬ (0 ≤ y ∧ y < A t 0) ∨ ¬ (0 ≤ z ∧ z < A t 0) → pu_both 85 168 [.inl x, .inl y, .inl z, .inl u] t A := by
    intro hno
    refine both_at (-1000000001) ?_ (fun M hM => ?_)
    · refine b85_0 (by omega) h.1 ⟨_, _, w51 x, h.1, fun _ => ⟨rfl, hA⟩, fun q1 => ⟨_, _, w51 y, h.1, fun _ => ⟨rfl, hA⟩, fun q2 => ⟨_, _, w51 z, h.1, fun q3 => ?_, fun _ => ⟨rfl, hA⟩⟩⟩⟩
      exfalso
      rcases hno with o | o | o
      · rw [if_neg o] at q1; exact q1 rfl
      · rw [if_neg o] at q2; exact q2 rfl
      · rw [if_neg o] at q3; exact q3 rfl
    · refine b168_0 (by omega) hM.2.1 ⟨_, _, w109 M hM x, hM.2.1, fun _ => ⟨rfl, hM⟩, fun q1 => ⟨_, _, w109 M hM y, hM.2.1, fun _ => ⟨rfl, hM⟩, fun q2 => ⟨_, _, w109 M hM z, hM.2.1, fun q3 => ?_, fun _ => ⟨rfl, hM⟩⟩⟩⟩
      exfalso
      rcases hno with o | o | o
      · rw [if_neg o] at q1; exact q1 rfl
      · rw [if_neg o] at q2; exact q2 rfl
      · rw [if_neg o] at q3; exact q3 rfl
  by_cases cx : 0 ≤ x ∧ x < A t 0
  · by_cases cy : 0 ≤ y ∧ y < A t 0
    · by_cases cz : 0 ≤ z ∧ z < A t 0
      · have vx := w51 x
        have vy := w51 y
        have vz := w51 z
        rw [if_pos cx] at vx
        rw [if_pos cy] at vy
        rw [if_pos cz] at vz
        have ux : ∀ M, pu_at t A M → ab_ev 28 109 [.inr (.inr 103), .inl x] M (some (.inl 1)) M := fun M hM => by have := w109 M hM x; rw [if_pos cx] at this; exact this
        have uy : ∀ M, pu_at t A M → ab_ev 28 109 [.inr (.inr 103), .inl y] M (some (.inl 1)) M := fun M hM => by have := w109 M hM y; rw [if_pos cy] at this; exact this
        have uz : ∀ M, pu_at t A M → ab_ev 28 109 [.inr (.inr 103), .inl z] M (some (.inl 1)) M := fun M hM => by have := w109 M hM z; rw [if_pos cz] at this; exact this
        by_cases cu : 0 ≤ u ∧ u ≤ 1
        · obtain ⟨p, rfl⟩ : ∃ p : Nat, x = (p : Int) := ⟨x.toNat, by omega⟩
          obtain ⟨w, rfl⟩ : ∃ w : Nat, y = (w : Int) := ⟨y.toNat, by omega⟩
          obtain ⟨g, rfl⟩ : ∃ g : Nat, z = (g : Int) := ⟨z.toNat, by omega⟩
          have hp : p < th_n t A := by unfold th_n; omega
          have hw : w < th_n t A := by unfold th_n; omega
          have hg : g < th_n t A := by unfold th_n; omega
          have hl : ∀ a, th_ld t A a a := fun a => Or.inl rfl
          obtain ⟨M4, e4, p4, f4⟩ := s9 (d := 28) (by omega) hA hg
          have f4 := f4 p w hp hw
          have pqE : ∀ k, th_E (th_n t A) g (th_ld t A) k p w ↔ th_p t A g 1 (2 * k) p w 0 := fun k => by
            unfold th_p
            rw [if_pos rfl]
            exact E_e hl k p w hp hw
          have pqK : ∀ k, th_K (th_n t A) g (th_ld t A) k p w ↔ th_p t A g 2 (2 * k) p w 0 := fun k => by
            unfold th_p
            rw [if_neg (by decide)]
            exact K_c hl k p w hp hw
          refine both_at (if u = 0 then M4 99 (th_i p w 0) else if M4 99 (th_i p w 0) = 0 then -1 else (M4 100 (th_i p w 0) + 1).tdiv 2) ?_ (fun M hM => ?_)
          · have ii : th_i p w 0 < 98 := by unfold th_i; omega
            have rg : 0 ≤ M4 100 (th_i p w 0) ∧ M4 100 (th_i p w 0) ≤ 1000 ∨ M4 99 (th_i p w 0) = 0 := by
              rcases f4 with s | s
              · exact Or.inl s.2.1
              · exact Or.inr s.1
            have td : M4 99 (th_i p w 0) ≠ 0 → ab_rg (M4 100 (th_i p w 0) + 1) ∧ ab_rg ((M4 100 (th_i p w 0) + 1).tdiv 2) := by
              intro q
              have := rg.resolve_right q
              rw [Int.tdiv_eq_ediv_of_nonneg (by omega)]
              omega
            refine b85_0 (by omega) h.1 ⟨(1 : Int), A, vx, h.1, fun q => absurd q (by decide), fun _ => ⟨(1 : Int), A, vy, h.1, fun q => absurd q (by decide), fun _ => ⟨(1 : Int), A, vz, h.1, fun _ => ⟨fun q => by omega, fun _ => ⟨fun _ => ⟨M4, e4, p4.2.1, _, _, s8 (v := 0) (by omega) p4.2.1 (by omega) (by omega) (by omega), p4.2.1, fun q => ⟨by omega, ?_⟩, fun q => ⟨by omega, ?_, p4⟩⟩, fun q => by omega⟩⟩, fun q => absurd q (by decide)⟩⟩⟩
            · rw [Int.toNat_natCast]
              refine ⟨fun q2 => ⟨(td q2).1, (td q2).2, ?_, p4⟩, fun q2 => ⟨?_, p4⟩⟩
              · rw [if_neg q, if_neg q2]
              · rw [if_neg q, if_pos q2]
            · rw [Int.toNat_natCast, if_pos q]
          · have w107 := s107 (d := 28) (by omega) hM.2.1 u 0 1
            rw [if_pos cu] at w107
            obtain ⟨M5, e5, p5, k5⟩ := s167 (d := 28) (by omega) hM hg
            obtain ⟨es, cs⟩ := k5 p w hp hw
            unfold th_es at es
            unfold th_cs at cs
            have e7 : (7 * (p : Int) + (w : Int)).toNat = 7 * p + w := by omega
            have fin : ∀ c : Int, c = M4 99 (th_i p w 0) → (c = 1 → M5 126 (7 * p + w) = (M4 100 (th_i p w 0) + 1).tdiv 2) → (c = 2 → M5 127 (7 * p + w) = (M4 100 (th_i p w 0) + 1).tdiv 2) → (c = 0 ∨ c = 1 ∨ c = 2) → ab_wp 29 168 87 [some (.inr (.inr 103)), some (.inl (p : Int)), some (.inl (w : Int)), some (.inl (g : Int)), some (.inl u), some (.inl (7 * (p : Int) + (w : Int))), none] [.inl c] M5 (fun r' M' => r' = some (.inl (if u = 0 then M4 99 (th_i p w 0) else if M4 99 (th_i p w 0) = 0 then -1 else (M4 100 (th_i p w 0) + 1).tdiv 2)) ∧ pu_at t A M') := by
              intro c hc h1 h2 h3
              refine b168_87 (by omega) p5.2.1 ?_
              rw [e7, ← hc]
              refine ⟨fun q => ⟨fun a => ⟨fun b => ⟨?_, p5⟩, fun b => ⟨by omega, ?_, p5⟩⟩, fun a => ⟨by omega, ?_, p5⟩⟩, fun q => ⟨?_, p5⟩⟩
              · rw [if_neg q, if_pos (by omega)]
              · rw [if_neg q, if_neg (by omega), h2 b]
              · rw [if_neg q, if_neg (by omega), h1 a]
              · rw [if_pos q]
            refine b168_0 (by omega) hM.2.1 ⟨(1 : Int), M, ux M hM, hM.2.1, fun q => absurd q (by decide), fun _ => ⟨(1 : Int), M, uy M hM, hM.2.1, fun q => absurd q (by decide), fun _ => ⟨(1 : Int), M, uz M hM, hM.2.1, fun _ => ⟨(1 : Int), M, w107, hM.2.1, fun _ => ⟨M5, e5, p5.2.1, by omega, by omega, by omega, ?_⟩, fun q => absurd q (by decide)⟩, fun q => absurd q (by decide)⟩⟩⟩
            rw [e7]
            rcases f4 with ⟨s1, s2, s3, s4⟩ | ⟨s1, s2⟩
            · rcases s1 with s1 | s1
              · rw [s1] at s3 s4
                have r := th_eq (P := fun k => th_p t A g 1 k p w 0) (Q := fun k => th_E (th_n t A) g (th_ld t A) k p w) pqE (fun k hk j hj => p_le hk hj) (fun k q => E_stop hn hp hw q) s2 s3 s4 es
                exact ⟨fun q => by clear es cs k5; omega, fun _ => fin 1 s1.symm (fun _ => r.1) (fun q => absurd q (by decide)) (Or.inr (Or.inl rfl))⟩
              · rw [s1] at s3 s4
                have r := th_eq (P := fun k => th_p t A g 2 k p w 0) (Q := fun k => th_K (th_n t A) g (th_ld t A) k p w) pqK (fun k hk j hj => p_le hk hj) (fun k q => K_stop hn hp hw q) s2 s3 s4 cs
                have nE := th_none (Q := fun k => th_E (th_n t A) g (th_ld t A) k p w) (fun k q => p_no ((pqE k).1 q) s3) es
                exact ⟨fun _ => ⟨fun q => by clear es cs k5; omega, fun _ => fin 2 s1.symm (fun q => absurd q (by decide)) (fun _ => r.1) (Or.inr (Or.inr rfl))⟩, fun q => by clear es cs k5; omega⟩
            · have nE := th_none (Q := fun k => th_E (th_n t A) g (th_ld t A) k p w) (fun k q => (s2 _).1 ((pqE k).1 q)) es
              have nK := th_none (Q := fun k => th_K (th_n t A) g (th_ld t A) k p w) (fun k q => (s2 _).2 ((pqK k).1 q)) cs
              exact ⟨fun _ => ⟨fun _ => fin 0 s1.symm (fun q => absurd q (by decide)) (fun q => absurd q (by decide)) (Or.inl rfl), fun q => by clear es cs k5; omega⟩, fun q => by clear es cs k5; omega⟩
        · refine both_at (-1000000002) ?_ (fun M hM => ?_)
          · exact b85_0 (by omega) h.1 ⟨(1 : Int), A, vx, h.1, fun q => absurd q (by decide), fun _ => ⟨(1 : Int), A, vy, h.1, fun q => absurd q (by decide), fun _ => ⟨(1 : Int), A, vz, h.1, fun _ => ⟨fun _ => ⟨rfl, hA⟩, fun _ => ⟨fun q => by omega, fun _ => ⟨rfl, hA⟩⟩⟩, fun q => absurd q (by decide)⟩⟩⟩
          · have w107 := s107 (d := 28) (by omega) hM.2.1 u 0 1
            rw [if_neg cu] at w107
            exact b168_0 (by omega) hM.2.1 ⟨(1 : Int), M, ux M hM, hM.2.1, fun q => absurd q (by decide), fun _ => ⟨(1 : Int), M, uy M hM, hM.2.1, fun q => absurd q (by decide), fun _ => ⟨(1 : Int), M, uz M hM, hM.2.1, fun _ => ⟨(0 : Int), M, w107, hM.2.1, fun q => absurd rfl q, fun _ => ⟨rfl, hM⟩⟩, fun q => absurd q (by decide)⟩⟩⟩
      · exact fail (Or.inr (Or.inr cz))
    · exact fail (Or.inr (Or.inl cy))
  · exact fail (Or.inl cx)
