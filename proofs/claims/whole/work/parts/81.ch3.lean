def ch_pr (n r : Nat) (y : List Nat) : Prop := ∃ n' r', y = ch_ld r' n' ∧ r' < 6 ^ n' ∧ (n' < n ∨ (n' = n ∧ r' < r))
theorem cpr_s {n r : Nat} {x : List Nat} (h : ch_pr n (r + 1) x) : ch_pr n r x ∨ x = ch_ld r n := by
  obtain ⟨n', r', e, h1, h2⟩ := h
  by_cases c : n' = n ∧ r' = r
  · right; rw [e, c.1, c.2]
  · left; exact ⟨n', r', e, h1, by omega⟩
theorem cpr_n {n : Nat} {x : List Nat} (h : ch_pr (n + 1) 0 x) : ch_pr n (6 ^ n) x := by
  obtain ⟨n', r', e, h1, h2⟩ := h
  refine ⟨n', r', e, h1, ?_⟩
  by_cases c : n' = n
  · right; subst c; exact ⟨rfl, h1⟩
  · left; omega
def ch_mi (t : Nat) (A : ab_M) (a b n r : Nat) (most few : Int) : Prop := (most = -1 ∧ few = -1 ∧ ∀ y, ch_pr n r y → ¬ rd_v (ch_H t A a) (ch_np t A) (ch_o t A a) (y ++ [b])) ∨ (∃ y, rd_v (ch_H t A a) (ch_np t A) (ch_o t A a) (y ++ [b]) ∧ rd_mn (ch_H t A a) (y ++ [b]) = most ∧ ((y.length : Nat) : Int) + 2 = few ∧ y.length ≤ n ∧ 0 ≤ most ∧ ∀ y', ch_pr n r y' → rd_v (ch_H t A a) (ch_np t A) (ch_o t A a) (y' ++ [b]) → rd_mn (ch_H t A a) (y' ++ [b]) < most ∨ (rd_mn (ch_H t A a) (y' ++ [b]) = most ∧ few ≤ ((y'.length : Nat) : Int) + 2))
theorem mi_n {t : Nat} {A : ab_M} {a b n : Nat} {m f : Int} (h : ch_mi t A a b n (6 ^ n) m f) : ch_mi t A a b (n + 1) 0 m f := by
  rcases h with ⟨h1, h2, h3⟩ | ⟨y, h1, h2, h3, h4, h5, h6⟩
  · exact Or.inl ⟨h1, h2, fun y hy => h3 y (cpr_n hy)⟩
  · exact Or.inr ⟨y, h1, h2, h3, by omega, h5, fun y' hy' => h6 y' (cpr_n hy')⟩
theorem mi_keep {t : Nat} {A : ab_M} {a b n r : Nat} {m f : Int} (h : ch_mi t A a b n r m f) (q : rd_v (ch_H t A a) (ch_np t A) (ch_o t A a) (ch_ld r n ++ [b]) → rd_mn (ch_H t A a) (ch_ld r n ++ [b]) ≤ m) (hm : rd_v (ch_H t A a) (ch_np t A) (ch_o t A a) (ch_ld r n ++ [b]) → 0 ≤ rd_mn (ch_H t A a) (ch_ld r n ++ [b])) : ch_mi t A a b n (r + 1) m f := by
  rcases h with ⟨h1, h2, h3⟩ | ⟨y, h1, h2, h3, h4, h5, h6⟩
  · refine Or.inl ⟨h1, h2, fun y hy => ?_⟩
    rcases cpr_s hy with z | z
    · exact h3 y z
    · intro u
      rw [z] at u
      have := q u
      have := hm u
      clear h3
      omega
  · refine Or.inr ⟨y, h1, h2, h3, h4, h5, fun y' hy' hv => ?_⟩
    rcases cpr_s hy' with z | z
    · exact h6 y' z hv
    · rw [z] at hv ⊢
      have := q hv
      rw [ld_len]
      clear h6
      omega
theorem mi_new {t : Nat} {A : ab_M} {a b n r : Nat} {m f : Int} (h : ch_mi t A a b n r m f) (hv : rd_v (ch_H t A a) (ch_np t A) (ch_o t A a) (ch_ld r n ++ [b])) (q : m < rd_mn (ch_H t A a) (ch_ld r n ++ [b])) (hm : 0 ≤ rd_mn (ch_H t A a) (ch_ld r n ++ [b])) : ch_mi t A a b n (r + 1) (rd_mn (ch_H t A a) (ch_ld r n ++ [b])) ((n : Int) + 2) := by
  refine Or.inr ⟨ch_ld r n, hv, rfl, by rw [ld_len], by rw [ld_len]; exact Nat.le_refl _, hm, fun y' hy' hv' => ?_⟩
  rcases cpr_s hy' with z | z
  · left
    rcases h with ⟨h1, h2, h3⟩ | ⟨y, h1, h2, h3, h4, h5, h6⟩
    · exact absurd hv' (h3 y' z)
    · have := h6 y' z hv'
      clear h6
      omega
  · right
    rw [z, ld_len]
    exact ⟨rfl, Int.le_refl _⟩
theorem mi_r {t : Nat} {A : ab_M} (hA : pu_inv t A) {a b : Nat} (ha : a < ch_np t A) (hab : a ≠ b) {n : Nat} (hn : ch_np t A < n + 2) {m f : Int} (h : ch_mi t A a b n 0 m f) : ch_r t A a b m f := by
  have n6 := ch_np6 hA
  have all : ∀ r, rd_v (ch_H t A a) (ch_np t A) (ch_o t A a) r → rd_sq (ch_H t A a) r = (b : Int) → ∃ y, r = y ++ [b] ∧ ch_pr n 0 y := by
    intro r hv e
    rcases List.eq_nil_or_concat r with q | ⟨y, i, q⟩
    · rw [q] at e
      have e : (a : Int) = (b : Int) := e
      omega
    · rw [List.concat_eq_append] at q
      rw [q, sq_snoc] at e
      have e : (i : Int) = (b : Int) := e
      have ei : i = b := by omega
      rw [ei] at q
      have hl := ch_len hA ha hv
      rw [q, List.length_append, List.length_singleton] at hl
      obtain ⟨c, h1, h2⟩ := ld_code y (fun j hj => by
        have := (hv.2.1 j (by rw [q]; exact List.mem_append.2 (Or.inl hj))).1
        omega)
      exact ⟨y, q, y.length, c, h2.symm, h1, Or.inl (by omega)⟩
  rcases h with ⟨h1, h2, h3⟩ | ⟨y, h1, h2, h3, h4, h5, h6⟩
  · refine Or.inl ⟨h1, h2, fun r hv e => ?_⟩
    obtain ⟨y, q, hp⟩ := all r hv e
    rw [q] at hv
    exact h3 y hp hv
  · refine Or.inr ⟨y ++ [b], h1, sq_snoc _ _ _, h2, ?_, h5, fun r' hv e => ?_⟩
    · rw [List.length_append, List.length_singleton]
      clear h6
      omega
    · obtain ⟨y', q, hp⟩ := all r' hv e
      rw [q] at hv ⊢
      have := h6 y' hp hv
      rw [List.length_append, List.length_singleton]
      clear h6
      omega
theorem c_chain {t : Nat} {A : ab_M} (h : pu_inv t A) (x y z : Int) : pu_both 82 159 [.inl x, .inl y, .inl z] t A := by
  have hA := at_rfl h
  have n6 := ch_np6 h
  have t2 := h.2.1.2.1
  obtain ⟨m1, m2, m3, m4, m5, m6, m7, m8⟩ := h.2.2.1
  have w53 := s53 (d := 28) (by omega) h.1 h.1.2.2.1 x y
  by_cases c : (0 ≤ x ∧ x < A t 2) ∧ (0 ≤ y ∧ y < A t 2) ∧ x ≠ y
  · rw [if_pos c] at w53
    have w136 : ∀ M, pu_at t A M → ab_ev 28 136 [.inr (.inr 103), .inl x, .inl y] M (some (.inl 1)) M := by
      intro M hM
      have r9 : M 103 9 = A t 2 := (at_r hM 103 9 (by omega)).trans m2
      have := s136 (d := 28) (by omega) hM.2.1 (by omega) x y
      rw [r9, if_pos c] at this
      exact this
    by_cases cz : 0 ≤ z ∧ z ≤ 1
    · obtain ⟨a, rfl⟩ : ∃ a : Nat, x = (a : Int) := ⟨x.toNat, by omega⟩
      obtain ⟨b, rfl⟩ : ∃ b : Nat, y = (b : Int) := ⟨y.toNat, by omega⟩
      have ha : a < ch_np t A := by unfold ch_np; omega
      have hb : b < ch_np t A := by unfold ch_np; omega
      have hab : a ≠ b := by omega
      refine both_rel (fun v => ∃ m f, ch_r t A a b m f ∧ v = if z = 0 then m else f) ?_ ?_ (fun M hM => ?_)
      · rintro v v' ⟨m, f, h1, h2⟩ ⟨m', f', h1', h2'⟩
        obtain ⟨e1, e2⟩ := chr_uq h1 h1'
        rw [h2, h2', e1, e2]
      · obtain ⟨M2, e2, p2, c2⟩ := s4 (d := 28) (by omega) hA ha
        have c2 := c2 b (by omega)
        refine b82_0 (by omega) h.1 ⟨(1 : Int), A, w53, h.1, fun _ => ⟨fun q => by omega, fun _ => ⟨fun _ => ⟨M2, e2, p2.2.1, fun q => ⟨by omega, ⟨_, rfl, _, _, c2, ?_⟩, p2⟩, fun q => ⟨by omega, ⟨_, rfl, _, _, c2, ?_⟩, p2⟩⟩, fun q => by omega⟩⟩, fun q => absurd q (by decide)⟩
        · rw [if_neg q, Int.toNat_natCast]
        · rw [if_pos q, Int.toNat_natCast]
      · have w107 := s107 (d := 28) (by omega) hM.2.1 z 0 1
        rw [if_pos cz] at w107
        have r9 : M 103 9 = A t 2 := (at_r hM 103 9 (by omega)).trans m2
        refine b159_0 (by omega) hM.2.1 ⟨(1 : Int), M, w136 M hM, hM.2.1, fun _ => ⟨(1 : Int), M, w107, hM.2.1, fun _ => ?_, fun q => absurd q (by decide)⟩, fun q => absurd q (by decide)⟩
        refine loop_up (P := fun n => ∀ (m f : Int) y8 y9, ch_mi t A a b n 0 m f → ab_wp 29 159 37 [some (.inr (.inr 103)), some (.inl (a : Int)), some (.inl (b : Int)), some (.inl z), some (.inl m), some (.inl f), some (.inl ((6 ^ n : Nat) : Int)), some (.inl (n : Int)), y8, y9] [] M _) (ch_np t A - 1) ?_ ?_ 0 (by omega) (-1) (-1) _ _ (Or.inl ⟨rfl, rfl, fun y hy => ?_⟩)
        · intro m f y8 y9 hm
          have hr := mi_r h ha hab (n := ch_np t A - 1) (by omega) hm
          refine b159_37 (by omega) hM.2.1 ⟨by clear hm; omega, fun _ => ⟨fun q => ⟨⟨_, rfl, _, _, hr, by rw [if_neg q]⟩, hM⟩, fun q => ⟨⟨_, rfl, _, _, hr, by rw [if_pos q]⟩, hM⟩⟩, fun q => by clear hm hr; unfold ch_np at q; omega⟩
        · intro n hn ih m f y8 y9 hm
          rw [Int.natCast_succ, Nat.pow_succ] at ih
          have h6n : (6 : Nat) ^ n ≤ 6 ^ 6 := Nat.pow_le_pow_right (by omega) (by omega)
          refine b159_37 (by omega) hM.2.1 ⟨by clear hm; omega, fun q => by clear hm; unfold ch_np at hn; omega, fun _ => ?_⟩
          refine loop_up (P := fun r => ∀ (m f : Int) y9, ch_mi t A a b n r m f → ab_wp 29 159 51 [some (.inr (.inr 103)), some (.inl (a : Int)), some (.inl (b : Int)), some (.inl z), some (.inl m), some (.inl f), some (.inl ((6 ^ n : Nat) : Int)), some (.inl (n : Int)), some (.inl (r : Int)), y9] [] M _) (6 ^ n) ?_ ?_ 0 (Nat.zero_le _) m f _ hm
          · intro m f y9 hm
            have hm2 := mi_n hm
            obtain ⟨N, eN⟩ : ∃ N : Nat, 6 ^ n = N := ⟨_, rfl⟩
            rw [eN] at h6n ih ⊢
            refine b159_51 (by omega) hM.2.1 ⟨fun _ => ⟨by clear hm hm2; omega, by clear hm hm2; omega, ?_⟩, fun q => by clear hm hm2; omega⟩
            rw [show (N : Int) * 6 = ((N * 6 : Nat) : Int) from by omega]
            exact ih _ _ _ _ hm2
          · intro r hr ihr m f y9 hm
            rw [Int.natCast_succ] at ihr
            obtain ⟨v, ev, hv⟩ := s160 (d := 28) (by omega) hM ha hb hab (r := r) (n := n) (by omega) (by omega)
            have rgr : ab_rg ((r : Int) + 1) := by clear hm ih ihr; omega
            have pos : rd_v (ch_H t A a) (ch_np t A) (ch_o t A a) (ch_ld r n ++ [b]) → 0 ≤ rd_mn (ch_H t A a) (ch_ld r n ++ [b]) := fun hv => (ch_rg h ha _ _ rfl hv).1.1
            have mge : -1 ≤ m := by
              rcases hm with g | ⟨_, _, _, _, _, g, _⟩
              · clear ih ihr; omega
              · clear ih ihr; omega
            refine b159_51 (by omega) hM.2.1 ⟨fun q => by clear hm ih ihr; omega, fun _ => ⟨v, M, ev, hM.2.1, fun q => ⟨rgr, ihr _ _ _ (mi_keep hm (fun u => ?_) pos)⟩, fun q => ⟨by clear hm ih ihr; omega, rgr, ?_⟩⟩⟩
            · rcases hv with s | s
              · exact absurd u s.2
              · clear hm ih ihr; omega
            · rcases hv with s | s
              · clear hm ih ihr; omega
              · rw [s.1]
                exact ihr _ _ _ (mi_new hm s.2 (by clear hm ih ihr; omega) (pos s.2))
        · obtain ⟨n', r', _, _, h2⟩ := hy
          omega
    · refine both_at (-1000000002) ?_ (fun M hM => ?_)
      · exact b82_0 (by omega) h.1 ⟨(1 : Int), A, w53, h.1, fun _ => ⟨fun _ => ⟨rfl, hA⟩, fun _ => ⟨fun q => by omega, fun _ => ⟨rfl, hA⟩⟩⟩, fun q => absurd q (by decide)⟩
      · have w107 := s107 (d := 28) (by omega) hM.2.1 z 0 1
        rw [if_neg cz] at w107
        exact b159_0 (by omega) hM.2.1 ⟨(1 : Int), M, w136 M hM, hM.2.1, fun _ => ⟨(0 : Int), M, w107, hM.2.1, fun q => absurd rfl q, fun _ => ⟨rfl, hM⟩⟩, fun q => absurd q (by decide)⟩
  · rw [if_neg c] at w53
    refine both_at (-1000000001) ?_ (fun M hM => ?_)
    · exact b82_0 (by omega) h.1 ⟨(0 : Int), A, w53, h.1, fun q => absurd rfl q, fun _ => ⟨rfl, hA⟩⟩
    · have r9 : M 103 9 = A t 2 := (at_r hM 103 9 (by omega)).trans m2
      have w136 := s136 (d := 28) (by omega) hM.2.1 (by omega) x y
      rw [r9, if_neg c] at w136
      exact b159_0 (by omega) hM.2.1 ⟨(0 : Int), M, w136, hM.2.1, fun q => absurd rfl q, fun _ => ⟨rfl, hM⟩⟩
