/-! the first row of the best: the model -/
def rd_S (t : Nat) (A : ab_M) (w e : Int) (x : List Nat) : Prop := rd_v (rd_H t A (A 112 1) (A 69 0)) (rd_nd t A) (pu_set t A 0) x ∧ rd_W t A x = w ∧ rd_mn (rd_H t A (A 112 1) (A 69 0)) x = e
def rd_pr (n r : Nat) (x : List Nat) : Prop := ∃ n' r', x = rd_dg r' n' ∧ r' < 6 ^ n' ∧ (n' < n ∨ (n' = n ∧ r' < r))
def rd_fi (t : Nat) (A : ab_M) (w e : Int) (n r : Nat) (f many : Int) (M : ab_M) : Prop := (f < 0 ∧ ∀ x, rd_pr n r x → ¬ rd_S t A w e x) ∨ (0 ≤ f ∧ ∃ b, rd_mr 122 b M ∧ many = ((b.length : Nat) : Int) ∧ b.length ≤ 6 ∧ rd_S t A w e b ∧ ∀ x, rd_pr n r x → rd_S t A w e x → b = x ∨ rd_ah b x)
theorem pr_s {n r : Nat} {x : List Nat} (h : rd_pr n (r + 1) x) : rd_pr n r x ∨ x = rd_dg r n := by
  obtain ⟨n', r', e, h1, h2⟩ := h
  by_cases c : n' = n ∧ r' = r
  · right; rw [e, c.1, c.2]
  · left; exact ⟨n', r', e, h1, by omega⟩
theorem pr_n {n : Nat} {x : List Nat} (h : rd_pr (n + 1) 0 x) : rd_pr n (6 ^ n) x := by
  obtain ⟨n', r', e, h1, h2⟩ := h
  refine ⟨n', r', e, h1, ?_⟩
  by_cases c : n' = n
  · right; subst c; exact ⟨rfl, h1⟩
  · left; omega
theorem fi_n {t : Nat} {A : ab_M} {w e : Int} {n : Nat} {f many : Int} {M : ab_M} (h : rd_fi t A w e n (6 ^ n) f many M) : rd_fi t A w e (n + 1) 0 f many M := by
  rcases h with ⟨h1, h2⟩ | ⟨h1, b, h2, h3, h4, h5, h6⟩
  · exact Or.inl ⟨h1, fun x hx => h2 x (pr_n hx)⟩
  · exact Or.inr ⟨h1, b, h2, h3, h4, h5, fun x hx => h6 x (pr_n hx)⟩
theorem fi_skip {t : Nat} {A : ab_M} {w e : Int} {n r : Nat} {f many : Int} {M M' : ab_M} (h : rd_fi t A w e n r f many M) (hM : ∀ k, M' 122 k = M 122 k) (q : ¬ rd_S t A w e (rd_dg r n)) : rd_fi t A w e n (r + 1) f many M' := by
  rcases h with ⟨h1, h2⟩ | ⟨h1, b, h2, h3, h4, h5, h6⟩
  · refine Or.inl ⟨h1, fun x hx => ?_⟩
    rcases pr_s hx with y | y
    · exact h2 x y
    · rw [y]; exact q
  · refine Or.inr ⟨h1, b, fun k hk => by rw [hM]; exact h2 k hk, h3, h4, h5, fun x hx hS => ?_⟩
    rcases pr_s hx with y | y
    · exact h6 x y hS
    · rw [y] at hS; exact absurd hS q
theorem fi_new {t : Nat} {A : ab_M} {w e : Int} {n r : Nat} {f many : Int} {M M' : ab_M} (h : rd_fi t A w e n r f many M) (hS : rd_S t A w e (rd_dg r n)) (hn : n ≤ 6) (hM : rd_mr 122 (rd_dg r n) M') (q : f < 0 ∨ ∀ b, rd_mr 122 b M → many = ((b.length : Nat) : Int) → b.length ≤ 6 → rd_ah (rd_dg r n) b) : rd_fi t A w e n (r + 1) (r : Int) (n : Int) M' := by
  refine Or.inr ⟨by omega, rd_dg r n, hM, by rw [dg_len], by rw [dg_len]; exact hn, hS, fun x hx hS' => ?_⟩
  rcases pr_s hx with y | y
  · rcases h with ⟨h1, h2⟩ | ⟨h1, b, h2, h3, h4, h5, h6⟩
    · exact absurd hS' (h2 x y)
    · rcases q with z | z
      · omega
      · have zb := z b h2 h3 h4
        rcases h6 x y hS' with u | u
        · rw [← u]; exact Or.inr zb
        · exact Or.inr (ah_tr _ _ _ zb u)
  · exact Or.inl y.symm
theorem fi_keep {t : Nat} {A : ab_M} {w e : Int} {n r : Nat} {f many : Int} {M M' : ab_M} (h : rd_fi t A w e n r f many M) (hM : ∀ k, M' 122 k = M 122 k) (hf : 0 ≤ f) (q : ∀ b, rd_mr 122 b M → many = ((b.length : Nat) : Int) → b.length ≤ 6 → ¬ rd_ah (rd_dg r n) b) : rd_fi t A w e n (r + 1) f many M' := by
  rcases h with ⟨h1, h2⟩ | ⟨h1, b, h2, h3, h4, h5, h6⟩
  · omega
  · refine Or.inr ⟨h1, b, fun k hk => by rw [hM]; exact h2 k hk, h3, h4, h5, fun x hx hS => ?_⟩
    rcases pr_s hx with y | y
    · exact h6 x y hS
    · rcases ah_tot b x with z | z | z
      · exact Or.inl z
      · exact Or.inr z
      · rw [y] at z
        exact absurd z (q b h2 h3 h4)
theorem s152 {d t : Nat} {A M : ab_M} (hd : 5 ≤ d) (h : pu_at t A M) (hs : 0 < rd_nd t A → 0 ≤ A 112 1 ∧ A 112 1 < A t 0) (w e : Int) (he : e < 1000000) (hex : ∃ x, rd_S t A w e x) :
    ∃ M' b, ab_ev d 152 [.inr (.inr 103), .inl w, .inl e, .inl ((pu_set t A 0 : Nat) : Int)] M (some (.inl ((b.length : Nat) : Int))) M' ∧ pu_at t A M' ∧ rd_mr 122 b M' ∧ rd_S t A w e b ∧ ∀ x, rd_S t A w e x → b = x ∨ rd_ah b x := by
  have t3 := h.1.2.1.2.2.1
  have hn : rd_nd t A ≤ 6 := by unfold rd_nd; omega
  have q0 := pu_set_64 h.1 0
  obtain ⟨m1, m2, m3, m4, m5, m6, m7, m8⟩ := h.1.2.2.1
  have w' : ab_wp d 152 0 (ab_ent [.inr (.inr 103), .inl w, .inl e, .inl ((pu_set t A 0 : Nat) : Int)] (ab_mx 152)) [] M (fun r' M' => ∃ f many, r' = some (.inl many) ∧ pu_at t A M' ∧ rd_fi t A w e (rd_nd t A + 1) 0 f many M') := by
    refine b152_0 (by omega) h.2.1 ?_
    refine loop_up (P := fun n => ∀ (M1 : ab_M) (f many : Int) y7 y8 y9 y10, pu_at t A M1 → rd_fi t A w e n 0 f many M1 → ab_wp d 152 9 [some (.inr (.inr 103)), some (.inl w), some (.inl e), some (.inl ((pu_set t A 0 : Nat) : Int)), some (.inl f), some (.inl many), some (.inl (n : Int)), y7, y8, y9, y10] [] M1 _) (rd_nd t A + 1) ?_ ?_ 0 (by omega) M (-1) 0 _ _ _ _ h (Or.inl ⟨by omega, fun x hx => ?_⟩)
    · intro M1 f many y7 y8 y9 y10 a1 hf
      have r3 : M1 103 11 = A t 3 := (at_r a1 103 11 (by omega)).trans m3
      exact b152_9 (by omega) a1.2.1 ⟨fun _ => ⟨f, many, rfl, a1, hf⟩, fun q => by clear hf; unfold rd_nd at q; omega⟩
    · intro n hnn ih M1 f many y7 y8 y9 y10 a1 hf
      have r3 : M1 103 11 = A t 3 := (at_r a1 103 11 (by omega)).trans m3
      rw [Int.natCast_succ] at ih
      have hn6 : n ≤ 6 := by omega
      have h6n : (6 : Nat) ^ n ≤ 6 ^ 6 := Nat.pow_le_pow_right (by omega) hn6
      refine b152_9 (by omega) a1.2.1 ⟨fun q => by clear hf; unfold rd_nd at hnn; omega, fun _ => ?_⟩
      refine loop_up (P := fun k => ab_wp d 152 24 [some (.inr (.inr 103)), some (.inl w), some (.inl e), some (.inl ((pu_set t A 0 : Nat) : Int)), some (.inl f), some (.inl many), some (.inl (n : Int)), some (.inl ((6 ^ k : Nat) : Int)), some (.inl (k : Int)), y9, y10] [] M1 _) n ?_ ?_ 0 (by omega)
      · refine b152_24 (by omega) a1.2.1 ⟨fun _ => ?_, fun q => by omega⟩
        refine loop_up (P := fun r => ∀ (M1 : ab_M) (f many : Int) y9 y10, pu_at t A M1 → rd_fi t A w e n r f many M1 → ab_wp d 152 47 [some (.inr (.inr 103)), some (.inl w), some (.inl e), some (.inl ((pu_set t A 0 : Nat) : Int)), some (.inl f), some (.inl many), some (.inl (n : Int)), some (.inl ((6 ^ n : Nat) : Int)), some (.inl (r : Int)), y9, y10] [] M1 _) (6 ^ n) ?_ ?_ 0 (Nat.zero_le _) M1 f many _ _ a1 hf
        · intro M1 f many y9 y10 a1 hf
          exact b152_47 (by omega) a1.2.1 ⟨fun _ => ⟨by clear hf; omega, ih _ _ _ _ _ _ _ a1 (fi_n hf)⟩, fun q => by clear hf; omega⟩
        · intro r hr ihr M1 f many y9 y10 a1 hf
          rw [Int.natCast_succ] at ihr
          have rgr : ab_rg ((r : Int) + 1) := by clear hf ih ihr; omega
          obtain ⟨M2, v, e2, a2, fr2, mr2, hv⟩ := s153 (d := d - 1) (by omega) a1 hn6 hr
          have l2 := dg_len n r
          have k122 : ∀ k, M2 122 k = M1 122 k := fun k => fr2 122 k (by omega)
          refine b152_47 (by omega) a1.2.1 ⟨fun q => by clear hf; omega, fun _ => ⟨v, M2, e2, a2.2.1, fun q => ⟨rgr, ihr _ _ _ _ _ a2 (fi_skip hf k122 ?_)⟩, fun q => ?_⟩⟩
          · rcases hv with y | y
            · intro z
              exact y.2 ⟨z.1.1, fun i hi => (z.1.2.1 i hi).1⟩
            · omega
          · have hv := hv.resolve_left (fun y => by omega)
            obtain ⟨ev, gd⟩ := hv
            have h6 : ∀ i, i ∈ rd_dg r n → i < 6 := dg_lt n r
            have s64 := set_64 h6
            rw [ev, sub_int s64 q0]
            refine ⟨fun z => ⟨rgr, ihr _ _ _ _ _ a2 (fi_skip hf k122 ?_)⟩, fun z => ⟨_, _, s130a (by omega) a2 s64, a2.2.1, fun y => ⟨rgr, ihr _ _ _ _ _ a2 (fi_skip hf k122 (fun u => y u.2.1))⟩, fun y => ?_⟩⟩
            · intro u
              apply z
              have : rd_sub (rd_set (rd_dg r n)) (pu_set t A 0) = 0 := (sub_zero s64).2 (fun j hj => by
                rw [set_bit] at hj
                exact (u.1.2.1 j (of_decide_eq_true hj)).2)
              rw [this]
              rfl
            · have hsub := (sub_zero (o := pu_set t A 0) s64).1 (by omega)
              obtain ⟨v3, e3, h3⟩ := s151 (d := d - 1) (by omega) a2 hs gd mr2 e
              rw [l2] at e3
              refine ⟨v3, M2, e3, a2.2.1, fun u => ⟨rgr, ihr _ _ _ _ _ a2 (fi_skip hf k122 ?_)⟩, fun u => ?_⟩
              · intro hS
                have := h3.2 (by rw [mm_ok hS.1.2.2]; exact hS.2.2)
                exact this u
              · have hmm := h3.1 u
                have hok : rd_ok (rd_H t A (A 112 1) (A 69 0)) (rd_dg r n) := by
                  apply Classical.byContradiction
                  intro hno
                  rw [mm_no hno] at hmm
                  clear hf ih ihr
                  omega
                have hS : rd_S t A w e (rd_dg r n) := ⟨⟨gd.1, fun i hi => ⟨gd.2 i hi, hsub i (by rw [set_bit]; exact decide_eq_true hi)⟩, hok⟩, y, by rw [← mm_ok hok]; exact hmm⟩
                have copy : ∀ (f0 many0 : Int) y9, (f0 < 0 ∨ ∀ b, rd_mr 122 b M1 → many0 = ((b.length : Nat) : Int) → b.length ≤ 6 → rd_ah (rd_dg r n) b) → rd_fi t A w e n r f0 many0 M1 → ab_wp d 152 127 [some (.inr (.inr 103)), some (.inl w), some (.inl e), some (.inl ((pu_set t A 0 : Nat) : Int)), some (.inl (r : Int)), some (.inl (n : Int)), some (.inl (n : Int)), some (.inl ((6 ^ n : Nat) : Int)), some (.inl (r : Int)), some (.inl y9), some (.inl 0)] [] M2 (fun r' M' => ∃ f many, r' = some (.inl many) ∧ pu_at t A M' ∧ rd_fi t A w e (rd_nd t A + 1) 0 f many M') := by
                  intro f0 many0 y9 hq hf0
                  refine loop_up (P := fun k => ∀ M3, pu_at t A M3 → (∀ j, M3 121 j = M2 121 j) → (∀ j : Nat, j < k → M3 122 j = M2 121 j) → ab_wp d 152 127 [some (.inr (.inr 103)), some (.inl w), some (.inl e), some (.inl ((pu_set t A 0 : Nat) : Int)), some (.inl (r : Int)), some (.inl (n : Int)), some (.inl (n : Int)), some (.inl ((6 ^ n : Nat) : Int)), some (.inl (r : Int)), some (.inl y9), some (.inl (k : Int))] [] M3 _) n ?_ ?_ 0 (by omega) M2 a2 (fun _ => rfl) (fun j hj => by omega)
                  · intro M3 a3 _ h122
                    refine b152_127 (by omega) a3.2.1 ⟨fun _ => ⟨rgr, ihr _ _ _ _ _ a3 (fi_new hf0 hS hn6 ?_ hq)⟩, fun q => by omega⟩
                    intro k hk
                    rw [l2] at hk
                    rw [h122 k hk]
                    exact mr2 k (by rw [l2]; exact hk)
                  · intro k hk ihk M3 a3 h121 h122
                    rw [Int.natCast_succ] at ihk
                    refine b152_127 (by omega) a3.2.1 ⟨fun q => by omega, fun _ => ⟨by omega, by omega, ihk _ (at_w a3 (str_a a3.2.1 rfl) (by omega)) (fun j => ?_) (fun j hj => ?_)⟩⟩
                    · unfold ab_w
                      rw [if_neg (by omega)]
                      exact h121 j
                    · rw [Int.toNat_natCast]
                      unfold ab_w
                      by_cases cj : j = k
                      · rw [if_pos ⟨rfl, cj⟩, cj, h121]
                      · rw [if_neg (by omega)]
                        exact h122 j (by omega)
                refine ⟨fun f0 => copy _ _ _ (Or.inl f0) hf, fun f0 => ?_⟩
                rcases hf with ⟨g1, _⟩ | ⟨g1, b, g2, g3, g4, g5, g6⟩
                · omega
                · have mb : rd_mr 122 b M2 := fun k hk => by rw [k122]; exact g2 k hk
                  obtain ⟨v4, e4, h4⟩ := s154 (d := d - 1) (by omega) a2 mr2 mb (by omega) g4
                  rw [l2, ← g3] at e4
                  have same : ∀ b', rd_mr 122 b' M1 → many = ((b'.length : Nat) : Int) → b' = b := by
                    intro b' hb' hm'
                    have hl : b'.length = b.length := by clear g5 g6; omega
                    apply List.ext_getElem hl
                    intro k h1 h2
                    have x1 := hb' k h1
                    have x2 := g2 k h2
                    rw [List.getD_eq_getElem?_getD, List.getElem?_eq_getElem h1] at x1
                    rw [List.getD_eq_getElem?_getD, List.getElem?_eq_getElem h2] at x2
                    simp only [Option.getD_some] at x1 x2
                    clear g5 g6
                    omega
                  have hf : rd_fi t A w e n r f many M1 := Or.inr ⟨g1, b, g2, g3, g4, g5, g6⟩
                  refine ⟨v4, M2, e4, a2.2.1, fun u4 => ⟨rgr, ihr _ _ _ _ _ a2 (fi_keep hf k122 f0 (fun b' hb' hm' _ z4 => ?_))⟩, fun u4 => copy _ _ _ (Or.inr (fun b' hb' hm' _ => ?_)) hf⟩
                  · rw [same b' hb' hm'] at z4
                    exact h4.2 z4 u4
                  · rw [same b' hb' hm']
                    exact h4.1 u4
      · intro k hk ihk
        rw [Int.natCast_succ, Nat.pow_succ] at ihk
        have h6k : (6 : Nat) ^ k ≤ 6 ^ 6 := Nat.pow_le_pow_right (by omega) (by omega)
        obtain ⟨N, eN⟩ : ∃ N : Nat, 6 ^ k = N := ⟨_, rfl⟩
        rw [eN] at h6k ihk ⊢
        refine b152_24 (by omega) a1.2.1 ⟨fun q => by omega, fun _ => ⟨by clear hf; omega, by omega, ?_⟩⟩
        rw [show (N : Int) * 6 = ((N * 6 : Nat) : Int) from by omega]
        exact ihk
    · intro _
      obtain ⟨n', r', _, _, h2⟩ := hx
      omega
  obtain ⟨r', M', e', f, many, rfl, a', hf⟩ := wp_ev w'
  have all : ∀ x, rd_S t A w e x → rd_pr (rd_nd t A + 1) 0 x := by
    intro x hS
    have hl := row_len hS.1.1 (fun i hi => (hS.1.2.1 i hi).1)
    obtain ⟨r, h1, h2⟩ := dg_code x.length x rfl (fun i hi => by have := (hS.1.2.1 i hi).1; omega)
    exact ⟨x.length, r, h2.symm, h1, Or.inl (by omega)⟩
  rcases hf with ⟨g1, g2⟩ | ⟨g1, b, g2, g3, g4, g5, g6⟩
  · obtain ⟨x, hS⟩ := hex
    exact absurd hS (g2 x (all x hS))
  · refine ⟨M', b, ?_, a', g2, g5, fun x hS => g6 x (all x hS) hS⟩
    rw [← g3]
    exact e'
