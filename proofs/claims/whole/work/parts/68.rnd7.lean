theorem or_64 : ∀ a b : Fin 64, ab_or ((a.val : Nat) : Int) ((b.val : Nat) : Int) = ((a.val ||| b.val : Nat) : Int) ∧ a.val ||| b.val < 64 := by decide +kernel
/-- where a set fits, asked of the model -/
theorem can_m {d t : Nat} {A M : ab_M} (hd : 2 ≤ d) (h : pu_at t A M) {sq : Int} (hs : 0 < rd_nd t A → 0 ≤ sq ∧ sq < A t 0) (hE : ∀ s i : Nat, 1 ≤ s → s < 64 → i < 6 → rd_E (rd_H t A sq (A 69 0)) (rd_nd t A) (pu_set t A 0) s i (M 120 (6 * s + i))) {s : Nat} (h64 : s < 64) :
    ∃ V, ab_ev d 150 [.inr (.inr 103), .inl (s : Int), .inl 0] M (some (.inl V)) M ∧ (V < 1000000 ↔ rd_cs t A sq s) := by
  obtain ⟨V, e, h0, h1⟩ := s150 hd h hE h64 0
  obtain ⟨a1, _⟩ := now_of h.1.2.2.2.2.2.1
  refine ⟨V, e, L_cs h0 h1 (fun r hv => ?_)⟩
  have := (v_rg h.1 a1.2 hs _ _ rfl hv).1
  clear h1
  omega
/-- looked at: first sets below k, and second sets below l beside k -/
def rd_tm (t : Nat) (A : ab_M) (x : Int) (k l : Nat) (v : Int) : Prop := (∃ s1 s2, rd_cs t A (A 69 1) s1 ∧ rd_cs t A x s2 ∧ s1 &&& s2 = 0 ∧ v = pu_wth t A s1 + pu_wth t A s2) ∧ (∀ s1 s2, (s1 < k ∨ (s1 = k ∧ s2 < l)) → rd_cs t A (A 69 1) s1 → rd_cs t A x s2 → s1 &&& s2 = 0 → pu_wth t A s1 + pu_wth t A s2 ≤ v)
theorem two_m {t : Nat} {A M : ab_M} (h : pu_at t A M) (x : Int) (hx : 0 ≤ x ∧ x < A t 0) : ab_wp 29 156 0 (ab_ent [.inr (.inr 103), .inl x] (ab_mx 156)) [] M (fun r' M' => (∃ v, r' = some (.inl v) ∧ rd_tw t A x v) ∧ pu_at t A M') := by
  have ht : t = 5 ∨ t = 37 := h.2.1.2.2.1
  have q0 := pu_set_64 h.1 0
  obtain ⟨a1, a2, a3, a4, a5, a6⟩ := now_of h.1.2.2.2.2.2.1
  have a2 := a2 (by omega)
  obtain ⟨t1, _⟩ := h.1.2.1
  obtain ⟨m1, m2, m3, m4, m5, m6, m7, m8⟩ := h.1.2.2.1
  have r1 : M 103 3 = A t 0 := (at_r h 103 3 (by omega)).trans m1
  have w109 := s109 (d := 28) (by omega) h.2.1 (by omega) x
  rw [if_pos (by omega)] at w109
  have r112 : M 112 0 = A 69 0 := (at_r h 112 0 (by omega)).trans a1.1
  obtain ⟨M3, e3, p3, c3, f3⟩ := s149 (d := 28) (by omega) h (sq0 := x) (mn0 := A 69 0) a1.2 (fun _ => hx) q0 (fun j hj => set_bit_lt hj)
  refine b156_0 (by omega) h.2.1 ⟨_, _, w109, h.2.1, fun _ => ⟨_, _, s129a (by omega) h 0, h.2.1, M3, by rw [r112]; exact e3, p3.2.1, ?_⟩, fun q => by omega⟩
  refine loop_up (P := fun k => ∀ M3, pu_at t A M3 → (∀ s i : Nat, 1 ≤ s → s < 64 → i < 6 → rd_E (rd_H t A x (A 69 0)) (rd_nd t A) (pu_set t A 0) s i (M3 120 (6 * s + i))) → (∀ s : Nat, s < k → (M3 123 s = 0 ∨ M3 123 s = 1) ∧ (M3 123 s = 1 ↔ rd_cs t A x s)) → ab_wp 29 156 31 [some (.inr (.inr 103)), some (.inl x), some (.inl ((pu_set t A 0 : Nat) : Int)), some (.inl (k : Int)), none, none, none, none] [] M3 _) 64 ?_ ?_ 0 (by omega) M3 p3 c3 (fun s hs => by omega)
  · intro M3 p3 _ hc
    have r112' : M3 112 0 = A 69 0 := (at_r p3 112 0 (by omega)).trans a1.1
    have r112p : M3 112 1 = A 69 1 := (at_r p3 112 1 (by omega)).trans a2.1
    obtain ⟨M4, e4, p4, c4, f4⟩ := s149 (d := 28) (by omega) p3 (sq0 := A 69 1) (mn0 := A 69 0) a1.2 (fun _ => a2.2) q0 (fun j hj => set_bit_lt hj)
    have hc4 : ∀ s : Nat, s < 64 → (M4 123 s = 0 ∨ M4 123 s = 1) ∧ (M4 123 s = 1 ↔ rd_cs t A x s) := fun s hs => by
      rw [f4 123 s (by omega)]
      exact hc s hs
    refine b156_31 (by omega) p3.2.1 ⟨fun _ => ⟨M4, by rw [r112', r112p]; exact e4, p4.2.1, ?_⟩, fun q => by omega⟩
    refine loop_up (P := fun k => ∀ v y5 y6 y7, rd_tm t A x k 0 v → ab_wp 29 156 95 [some (.inr (.inr 103)), some (.inl x), some (.inl ((pu_set t A 0 : Nat) : Int)), some (.inl v), some (.inl (k : Int)), y5, y6, y7] [] M4 _) 64 ?_ ?_ 0 (by omega) 0 _ _ _ ⟨(tk_zero t A x).1, fun s1 s2 q => by omega⟩
    · intro v y5 y6 y7 hv
      refine b156_95 (by omega) p4.2.1 ⟨fun _ => ⟨⟨v, rfl, hv.1, fun s1 s2 c1 c2 d => hv.2 s1 s2 ?_ c1 c2 d⟩, p4⟩, fun q => by omega⟩
      have := (cs_sub h.1 c1).1
      omega
    · intro k hk ih v y5 y6 y7 hv
      rw [Int.natCast_succ] at ih
      obtain ⟨V, eV, hV⟩ := can_m (d := 28) (by omega) p4 (fun _ => a2.2) c4 hk
      have nxt : ∀ v x5 x6 y7, rd_tm t A x (k + 1) 0 v → ab_wp 29 156 95 [some (.inr (.inr 103)), some (.inl x), some (.inl ((pu_set t A 0 : Nat) : Int)), some (.inl v), some (.inl ((k : Int) + 1)), x5, x6, y7] [] M4 (fun r' M' => (∃ v, r' = some (.inl v) ∧ rd_tw t A x v) ∧ pu_at t A M') := ih
      have no : ¬ rd_cs t A (A 69 1) k → ab_wp 29 156 133 [some (.inr (.inr 103)), some (.inl x), some (.inl ((pu_set t A 0 : Nat) : Int)), some (.inl v), some (.inl (k : Int)), some (.inl 0), some (.inl 0), y7] [] M4 (fun r' M' => (∃ v, r' = some (.inl v) ∧ rd_tw t A x v) ∧ pu_at t A M') := by
        intro hno
        refine b156_133 (by omega) p4.2.1 ⟨fun q => by omega, fun _ => ⟨fun _ => ⟨by omega, nxt _ _ _ _ ⟨hv.1, fun s1 s2 q c1 c2 d => ?_⟩⟩, fun q => by omega⟩⟩
        by_cases e : s1 = k
        · subst e; exact absurd c1 hno
        · exact hv.2 s1 s2 (by omega) c1 c2 d
      refine b156_95 (by omega) p4.2.1 ⟨fun q => by omega, fun _ => ⟨fun q => no ?_, fun q => ⟨V, _, eV, p4.2.1, fun z => no ?_, fun z => ?_⟩⟩⟩
      · intro z
        rw [sub_int hk q0, (cs_sub h.1 z).2.1] at q
        exact q rfl
      · intro y
        have := hV.2 y
        omega
      · have cs := hV.1 z
        refine loop_up (P := fun l => ∀ v y7, rd_tm t A x k l v → ab_wp 29 156 133 [some (.inr (.inr 103)), some (.inl x), some (.inl ((pu_set t A 0 : Nat) : Int)), some (.inl v), some (.inl (k : Int)), some (.inl 1), some (.inl (l : Int)), y7] [] M4 _) 64 ?_ ?_ 0 (by omega) v y7 hv
        · intro v y7 hv
          refine b156_133 (by omega) p4.2.1 ⟨fun _ => ⟨by omega, nxt _ _ _ _ ⟨hv.1, fun s1 s2 q c1 c2 d => hv.2 s1 s2 ?_ c1 c2 d⟩⟩, fun q => by omega⟩
          have := (cs_sub h.1 c2).1
          omega
        · intro l hl ihl v y7 hv
          rw [Int.natCast_succ] at ihl
          have cl := hc4 l hl
          have v0 : 0 ≤ v := by
            obtain ⟨s1, s2, _, _, _, e⟩ := hv.1
            have := wth_pos h.1 s1
            have := wth_pos h.1 s2
            omega
          have zero : ¬ (rd_cs t A x l ∧ k &&& l = 0) → ab_wp 29 156 176 [some (.inr (.inr 103)), some (.inl x), some (.inl ((pu_set t A 0 : Nat) : Int)), some (.inl v), some (.inl (k : Int)), some (.inl 1), some (.inl (l : Int)), y7] [.inl 0] M4 (fun r' M' => (∃ v, r' = some (.inl v) ∧ rd_tw t A x v) ∧ pu_at t A M') := by
            intro hno
            refine b156_176 (by omega) p4.2.1 ⟨fun _ => ⟨by omega, ihl _ _ ⟨hv.1, fun s1 s2 q c1 c2 d => ?_⟩⟩, fun q => by omega⟩
            by_cases e : s1 = k ∧ s2 = l
            · obtain ⟨rfl, rfl⟩ := e
              exact absurd ⟨c2, d⟩ hno
            · exact hv.2 s1 s2 (by omega) c1 c2 d
          refine b156_133 (by omega) p4.2.1 ⟨fun q => by omega, fun _ => ⟨fun q => by omega, fun _ => ⟨by omega, fun q => zero ?_, fun q => ⟨fun y => zero ?_, fun y => ?_⟩⟩⟩⟩
          · intro y
            rw [Int.toNat_natCast, cl.2.2 y.1] at q
            omega
          · intro u
            exact y ((and_zero hk hl).2 u.2)
          · have dz := (and_zero hk hl).1 y
            rw [Int.toNat_natCast] at q
            have cl2 := cl.2.1 (by omega)
            have o := or_64 ⟨k, hk⟩ ⟨l, hl⟩
            have o1 : ab_or (k : Int) (l : Int) = ((k ||| l : Nat) : Int) := o.1
            have w130 := s130a (d := 28) (by omega) p4 o.2
            rw [wth_or dz] at w130
            rw [o1]
            refine ⟨_, _, w130, p4.2.1, b156_176 (by omega) p4.2.1 ⟨fun u => ⟨by omega, ihl _ _ ⟨hv.1, fun s1 s2 q c1 c2 d => ?_⟩⟩, fun u => ⟨by omega, ihl _ _ ⟨⟨k, l, cs, cl2, dz, rfl⟩, fun s1 s2 q c1 c2 d => ?_⟩⟩⟩⟩
            · by_cases e : s1 = k ∧ s2 = l
              · obtain ⟨rfl, rfl⟩ := e
                exact u
              · exact hv.2 s1 s2 (by omega) c1 c2 d
            · by_cases e : s1 = k ∧ s2 = l
              · obtain ⟨rfl, rfl⟩ := e
                exact Int.le_refl _
              · have := hv.2 s1 s2 (by omega) c1 c2 d
                omega
  · intro k hk ih M3 p3 c3 hc
    rw [Int.natCast_succ] at ih
    have step : ∀ b : Int, (b = 0 ∨ b = 1) → (b = 1 ↔ rd_cs t A x k) → ab_wp 29 156 66 [some (.inr (.inr 103)), some (.inl x), some (.inl ((pu_set t A 0 : Nat) : Int)), some (.inl (k : Int)), none, none, none, none] [.inl b, .inl (k : Int), .inr (.inr 123)] M3 (fun r' M' => (∃ v, r' = some (.inl v) ∧ rd_tw t A x v) ∧ pu_at t A M') := by
      intro b hb hb2
      refine b156_66 (by omega) p3.2.1 ⟨by omega, hb, by omega, ih _ (at_w p3 (str_a p3.2.1 rfl) (by omega)) (fun s i h1 h2 h3 => ?_) (fun s hs => ?_)⟩
      · rw [Int.toNat_natCast]
        unfold ab_w
        rw [if_neg (by omega)]
        exact c3 s i h1 h2 h3
      · rw [Int.toNat_natCast]
        unfold ab_w
        by_cases e : s = k
        · rw [if_pos ⟨rfl, e⟩, e]
          exact ⟨hb, hb2⟩
        · rw [if_neg (by omega)]
          exact hc s (by omega)
    obtain ⟨V, eV, hV⟩ := can_m (d := 28) (by omega) p3 (fun _ => hx) c3 hk
    refine b156_31 (by omega) p3.2.1 ⟨fun q => by omega, fun _ => ⟨fun q => step 0 (Or.inl rfl) ⟨fun z => by omega, fun z => ?_⟩, fun q => ⟨V, _, eV, p3.2.1, fun z => step 0 (Or.inl rfl) ⟨fun y => by omega, fun y => ?_⟩, fun z => step 1 (Or.inr rfl) ⟨fun _ => hV.1 z, fun _ => rfl⟩⟩⟩⟩
    · exfalso
      rw [sub_int hk q0, (cs_sub h.1 z).2.1] at q
      exact q rfl
    · have := hV.2 y
      omega
theorem c_two {t : Nat} {A : ab_M} (h : pu_inv t A) (x : Int) : pu_both 80 156 [.inl x] t A := by
  have ht : t = 5 ∨ t = 37 := h.1.2.2.1
  obtain ⟨t1, _⟩ := h.2.1
  obtain ⟨m1, m2, m3, m4, m5, m6, m7, m8⟩ := h.2.2.1
  by_cases c : 0 ≤ x ∧ x < A t 0
  · exact both_rel (rd_tw t A x) (fun v v' a b => tw_uq a b) (two_c h x c) (fun M hM => two_m hM x c)
  · refine both_at (-1000000001) ?_ (fun M hM => ?_)
    · have w51 := s51 (d := 28) (by omega) h.1 h.1.2.2.1 x
      rw [if_neg c] at w51
      exact b80_0 (by omega) h.1 ⟨_, _, w51, h.1, fun q => by omega, fun _ => ⟨rfl, at_rfl h⟩⟩
    · have r1 : M 103 3 = A t 0 := (at_r hM 103 3 (by omega)).trans m1
      have w109 := s109 (d := 28) (by omega) hM.2.1 (by omega) x
      rw [if_neg (by omega)] at w109
      exact b156_0 (by omega) hM.2.1 ⟨_, _, w109, hM.2.1, fun q => by omega, fun _ => ⟨rfl, hM⟩⟩
