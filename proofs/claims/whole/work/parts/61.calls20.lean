theorem slm_step {t : Nat} {A M : ab_M} {k : Nat} (hk : sl_m t A M k) {w : Nat} {v : Int} (ew : (sl_hi (sl_f (A (t + 18)) (sl_k (A (t + 18)) (A t 2).toNat k).1) (-1) (A t 2).toNat).toNat = w) (hw : (w : Int) < A t 2) (ev : v = sl_v (sl_f (A (t + 18)) (sl_k (A (t + 18)) (A t 2).toNat k).1) (sl_hi (sl_f (A (t + 18)) (sl_k (A (t + 18)) (A t 2).toNat k).1) (sl_hi (sl_f (A (t + 18)) (sl_k (A (t + 18)) (A t 2).toNat k).1) (-1) (A t 2).toNat) (A t 2).toNat)) : sl_m t A (ab_w (ab_w M 124 w (M 124 w + 1)) 125 w (M 125 w + v)) (k + 1) := by
  intro p hp
  have h1 := hk p hp
  have h2 := hk w hw
  refine ⟨?_, ?_⟩
  · show ab_w _ _ _ _ 124 p = pu_u _ _ _ p
    unfold ab_w pu_u
    rw [ew]
    by_cases c : p = w
    · rw [if_neg (by omega), if_pos ⟨rfl, c⟩, if_pos c, h2.1]
    · rw [if_neg (by omega), if_neg (by omega), if_neg c, h1.1]
  · show ab_w _ _ _ _ 125 p = pu_u _ _ _ p
    unfold ab_w pu_u
    rw [ew, ← ev]
    by_cases c : p = w
    · rw [if_pos ⟨rfl, c⟩, if_pos c, h2.2]
    · rw [if_neg (by omega), if_neg (by omega), if_neg c, h1.2]
theorem s163_turn {t : Nat} {A M : ab_M} {Q : Option ab_V → ab_M → Prop} (h : pu_at t A M) {k : Nat} {x1 x2 x3 : Int} (hx : x1 ≤ 9) (hk9 : (k : Int) < x1) (hp0 : 0 < A t 2) (hk : sl_m t A M k) (y5 y6 y7 : Option ab_V)
    (hQ : ∀ M' y5 y6 y7, pu_at t A M' → sl_m t A M' (k + 1) → ab_wp 29 163 73 [some (.inr (.inr 103)), some (.inl x1), some (.inl x2), some (.inl x3), some (.inl ((k : Int) + 1)), y5, y6, y7] [] M' Q) :
    ab_wp 29 163 73 [some (.inr (.inr 103)), some (.inl x1), some (.inl x2), some (.inl x3), some (.inl (k : Int)), y5, y6, y7] [] M Q := by
  obtain ⟨_, t2, _, _, _, _, t7, _⟩ := h.1.2.1
  obtain ⟨m1, m2, m3, m4, m5, m6, m7, m8⟩ := h.1.2.2.1
  have r9 : M 103 9 = A t 2 := (at_r h 103 9 (by omega)).trans m2
  have rg := sl_rg (bid := A (t + 18)) (n := (A t 2).toNat) (fun p hp => by have := t7 p (by omega); omega)
  obtain ⟨f, ef⟩ : ∃ f, f = sl_f (A (t + 18)) (sl_k (A (t + 18)) (A t 2).toNat k).1 := ⟨_, rfl⟩
  have w162 : ∀ p : Nat, (p : Int) < A t 2 → ab_ev 28 162 [.inr (.inr 103), .inl (p : Int)] M (some (.inl (f p))) M := by
    intro p hp
    rw [ef]
    exact s162 (by omega) h p hp (hk p hp).1 (by have := (rg k p).1; omega)
  have fp : ∀ p, 0 ≤ f p := by intro p; rw [ef]; exact sl_f_pos _ _ _
  refine b163_73 (by omega) h.2.1 ⟨fun q => by omega, fun _ => ?_⟩
  refine loop_up (P := fun i => 1 ≤ i → ab_wp 29 163 85 [some (.inr (.inr 103)), some (.inl x1), some (.inl x2), some (.inl x3), some (.inl (k : Int)), some (.inl (sl_hi f (-1) i)), some (.inl (i : Int)), y7] [] M Q) (A t 2).toNat ?_ ?_ 1 (by omega) (by omega)
  · intro _
    have p1 : 0 ≤ sl_hi f (-1) (A t 2).toNat := by
      have := hi_pos f ((A t 2).toNat - 1)
      rw [show (A t 2).toNat - 1 + 1 = (A t 2).toNat from by omega] at this
      exact this
    have p2 := hi_rg f (-1) (A t 2).toNat
    obtain ⟨w, ew⟩ : ∃ w : Nat, (sl_hi f (-1) (A t 2).toNat).toNat = w := ⟨_, rfl⟩
    have ew2 : sl_hi f (-1) (A t 2).toNat = (w : Int) := by omega
    refine b163_85 (by omega) h.2.1 ⟨fun _ => ?_, fun q => by omega⟩
    refine loop_up (P := fun i => ab_wp 29 163 130 [some (.inr (.inr 103)), some (.inl x1), some (.inl x2), some (.inl x3), some (.inl (k : Int)), some (.inl (sl_hi f (-1) (A t 2).toNat)), some (.inl (sl_v f (sl_hi f (sl_hi f (-1) (A t 2).toNat) i))), some (.inl (i : Int))] [] M Q) (A t 2).toNat ?_ ?_ 0 (by omega)
    · have c1 := hk w (by omega)
      have g1 := rg k w
      have g2 := (rg (k + 1) w).2
      have hc := slm_step (M := M) hk (w := w) (v := sl_v f (sl_hi f (sl_hi f (-1) (A t 2).toNat) (A t 2).toNat)) (by rw [← ef]; exact ew) (by omega) (by rw [← ef])
      have ec := (hc w (by omega)).2
      have ec' : ab_w (ab_w M 124 w (M 124 w + 1)) 125 w (M 125 w + sl_v f (sl_hi f (sl_hi f (-1) (A t 2).toNat) (A t 2).toNat)) 125 w = M 125 w + sl_v f (sl_hi f (sl_hi f (-1) (A t 2).toNat) (A t 2).toNat) := by
        unfold ab_w
        rw [if_pos ⟨rfl, rfl⟩]
      refine b163_130 (by omega) h.2.1 ⟨fun _ => ?_, fun q => by omega⟩
      rw [ew]
      exact ⟨by omega, by omega, by omega, by omega, hQ _ _ _ _ (at_w (at_w h (str_a h.2.1 rfl) (by omega)) (str_a (str_a h.2.1 rfl) rfl) (by omega)) hc⟩
    · intro i hi ih
      have rgi := hi_rg f (sl_hi f (-1) (A t 2).toNat) i
      have fi := fp i
      rw [hi_s, Int.natCast_succ] at ih
      refine b163_130 (by omega) h.2.1 ⟨fun q => by omega, fun _ => ⟨fun q => ⟨by omega, ?_⟩, fun q => ⟨_, _, w162 i (by omega), h.2.1, fun z => ⟨by omega, ?_⟩, fun z => ⟨_, _, w162 i (by omega), h.2.1, by omega, ?_⟩⟩⟩⟩
      · rw [if_pos q] at ih
        exact ih
      · rw [if_neg q] at ih
        by_cases c : sl_hi f (sl_hi f (-1) (A t 2).toNat) i = -1
        · rw [if_pos (Or.inl c)] at ih
          have e1 : sl_v f (i : Int) = sl_v f (sl_hi f (sl_hi f (-1) (A t 2).toNat) i) := by
            unfold sl_v at z ⊢
            rw [if_pos c] at z
            rw [if_pos c, if_neg (by omega), Int.toNat_natCast]
            omega
          rw [e1] at ih
          exact ih
        · have z2 := z
          unfold sl_v at z2
          rw [if_neg c] at z2
          rw [if_neg (by omega)] at ih
          exact ih
      · rw [if_neg q] at ih
        have e1 : sl_v f (i : Int) = f i := by
          unfold sl_v
          rw [if_neg (by omega), Int.toNat_natCast]
        by_cases c : sl_hi f (sl_hi f (-1) (A t 2).toNat) i = -1
        · rw [if_pos (Or.inl c), e1] at ih
          exact ih
        · have z2 := z
          unfold sl_v at z2
          rw [if_neg c] at z2
          rw [if_pos (Or.inr z2), e1] at ih
          exact ih
  · intro i hi ih hi1
    have ih := ih (by omega)
    have p1 : 0 ≤ sl_hi f (-1) i := by
      have := hi_pos f (i - 1)
      rw [show i - 1 + 1 = i from by omega] at this
      exact this
    have p2 := hi_rg f (-1) i
    have w := w162 (sl_hi f (-1) i).toNat (by omega)
    rw [show (((sl_hi f (-1) i).toNat : Nat) : Int) = sl_hi f (-1) i from by omega] at w
    rw [hi_s, Int.natCast_succ, if_neg (by omega)] at ih
    refine b163_85 (by omega) h.2.1 ⟨fun q => by omega, fun _ => ⟨_, _, w162 i (by omega), h.2.1, _, _, w, h.2.1, fun z => ⟨by omega, ?_⟩, fun z => ⟨by omega, ?_⟩⟩⟩
    · rw [if_neg (by omega)] at ih
      exact ih
    · rw [if_pos (Or.inr z)] at ih
      exact ih
theorem c_sold {t : Nat} {A : ab_M} (h : pu_inv t A) (x p y : Int) : pu_both 84 163 [.inl x, .inl p, .inl y] t A := by
  have ht : t = 5 ∨ t = 37 := h.1.2.2.1
  obtain ⟨_, t2, _, t4, _⟩ := id h.2.1
  obtain ⟨m1, m2, m3, m4, m5, m6, m7, m8⟩ := h.2.2.1
  have hA := at_rfl h
  have w52 := s52 (d := 28) (by omega) h.1 h.1.2.2.1 p
  by_cases c : 0 ≤ p ∧ p < A t 2
  · rw [if_pos c] at w52
    have w110 : ∀ M, pu_at t A M → ab_ev 28 110 [.inr (.inr 103), .inl p] M (some (.inl 1)) M := by
      intro M hM
      have r9 : M 103 9 = A t 2 := (at_r hM 103 9 (by omega)).trans m2
      have w := s110 (d := 28) (by omega) hM.2.1 (by omega) p
      rw [if_pos (by omega)] at w
      exact w
    by_cases c2 : 1 ≤ x ∧ x ≤ 9
    · by_cases c3 : 0 ≤ y ∧ y ≤ 1
      · obtain ⟨n, rfl⟩ : ∃ n : Nat, x = (n : Int) := ⟨x.toNat, by omega⟩
        obtain ⟨w, rfl⟩ : ∃ w : Nat, p = (w : Int) := ⟨p.toNat, by omega⟩
        refine both_at (if y = 0 then (sl_k (A (t + 18)) (A t 2).toNat n).1 w else (sl_k (A (t + 18)) (A t 2).toNat n).2 w) ?_ (fun M hM => ?_)
        · have hF1 : pu_at t A (pu_fil A 101 6 0) := at_fil hA rfl (fun f _ => by omega)
          have hF2 : pu_at t A (pu_fil (pu_fil A 101 6 0) 102 6 0) := at_fil hF1 rfl (fun f _ => by omega)
          have v1 := s193 (d := 28) (by omega) h.1 101 6 0 rfl rfl (by omega)
          have v2 := s193 (d := 28) (by omega) hF1.2.1 102 6 0 rfl rfl (by omega)
          refine b84_0 (by omega) h.1 ⟨_, _, w52, h.1, fun _ => ⟨fun q => by omega, fun _ => ⟨fun q => by omega, fun _ => ⟨fun q => by omega, fun _ => ⟨fun _ => ⟨_, v1, hF1.2.1, _, v2, hF2.2.1, ?_⟩, fun q => by omega⟩⟩⟩⟩, fun q => by omega⟩
          refine loop_up (P := fun k => ∀ M, pu_at t A M → sl_c t A M k → ab_wp 29 84 56 [some (.inr (.inr 0)), some (.inl (n : Int)), some (.inl (w : Int)), some (.inl y), some (.inl (k : Int))] [] M _) n ?_ ?_ 0 (by omega) _ hF2 ?_
          · intro M hM hk
            have hw := hk w (by omega)
            refine b84_56 (by omega) hM.2.1 ⟨fun _ => ⟨fun q => ⟨by omega, ?_, hM⟩, fun q => ⟨by omega, ?_, hM⟩⟩, fun q => by omega⟩
            · rw [if_neg q, Int.toNat_natCast, hw.2]
            · rw [if_pos q, Int.toNat_natCast, hw.1]
          · intro k hk9 ih M hM hk
            rw [Int.natCast_succ] at ih
            obtain ⟨M', e, hM', hk'⟩ := s101 (d := 28) (by omega) hM (by omega) (by omega) hk
            exact b84_56 (by omega) hM.2.1 ⟨fun q => by omega, fun _ => ⟨M', e, hM'.2.1, by omega, ih M' hM' hk'⟩⟩
          · intro i hi
            exact ⟨by rw [fil_r (by omega), fil_s hi]; rfl, fil_s hi⟩
        · have w107 := s107 (d := 28) (by omega) hM.2.1 (n : Int) 1 9
          rw [if_pos c2] at w107
          have w107' := s107 (d := 28) (by omega) hM.2.1 y 0 1
          rw [if_pos c3] at w107'
          refine b163_0 (by omega) hM.2.1 ⟨_, _, w110 M hM, hM.2.1, fun _ => ⟨_, _, w107, hM.2.1, fun q => by omega, fun _ => ⟨_, _, w107', hM.2.1, fun _ => ?_, fun q => by omega⟩⟩, fun q => by omega⟩
          refine loop_up (P := fun i => ∀ M, pu_at t A M → (∀ p : Nat, p < i → M 124 p = 0 ∧ M 125 p = 0) → ab_wp 29 163 39 [some (.inr (.inr 103)), some (.inl (n : Int)), some (.inl (w : Int)), some (.inl y), some (.inl (i : Int)), none, none, none] [] M _) (A t 2).toNat ?_ ?_ 0 (by omega) _ hM (fun p hp => by omega)
          · intro M hM hz
            have r9 : M 103 9 = A t 2 := (at_r hM 103 9 (by omega)).trans m2
            refine b163_39 (by omega) hM.2.1 ⟨fun _ => ?_, fun q => by omega⟩
            refine loop_up (P := fun k => ∀ M y5 y6 y7, pu_at t A M → sl_m t A M k → ab_wp 29 163 73 [some (.inr (.inr 103)), some (.inl (n : Int)), some (.inl (w : Int)), some (.inl y), some (.inl (k : Int)), y5, y6, y7] [] M _) n ?_ ?_ 0 (by omega) _ _ _ _ hM ?_
            · intro M y5 y6 y7 hM hk
              have hw := hk w (by omega)
              refine b163_73 (by omega) hM.2.1 ⟨fun _ => ⟨fun q => ⟨by omega, ?_, hM⟩, fun q => ⟨by omega, ?_, hM⟩⟩, fun q => by omega⟩
              · rw [if_neg q, Int.toNat_natCast, hw.2]
              · rw [if_pos q, Int.toNat_natCast, hw.1]
            · intro k hk9 ih M y5 y6 y7 hM hk
              rw [Int.natCast_succ] at ih
              exact s163_turn hM (by omega) (by omega) (by omega) hk _ _ _ (fun M' y5 y6 y7 hM' hk' => ih M' y5 y6 y7 hM' hk')
            · intro i hi
              exact hz i (by omega)
          · intro i hi ih M hM hz
            have r9 : M 103 9 = A t 2 := (at_r hM 103 9 (by omega)).trans m2
            rw [Int.natCast_succ] at ih
            refine b163_39 (by omega) hM.2.1 ⟨fun q => by omega, fun _ => ⟨by omega, by omega, ih _ (at_w (at_w hM (str_a hM.2.1 rfl) (by omega)) (str_a (str_a hM.2.1 rfl) rfl) (by omega)) ?_⟩⟩
            intro p hp
            rw [Int.toNat_natCast]
            unfold ab_w
            by_cases z : p = i
            · rw [if_neg (by omega), if_pos ⟨rfl, z⟩, if_pos ⟨rfl, z⟩]
              exact ⟨rfl, rfl⟩
            · rw [if_neg (by omega), if_neg (by omega), if_neg (by omega), if_neg (by omega)]
              exact hz p (by omega)
      · refine both_at (-1000000002) ?_ (fun M hM => ?_)
        · refine b84_0 (by omega) h.1 ⟨_, _, w52, h.1, fun _ => ⟨fun q => by omega, fun _ => ⟨fun q => by omega, fun _ => ⟨fun q => ⟨rfl, hA⟩, fun _ => ⟨fun q => by omega, fun _ => ⟨rfl, hA⟩⟩⟩⟩⟩, fun q => by omega⟩
        · have w107 := s107 (d := 28) (by omega) hM.2.1 x 1 9
          rw [if_pos c2] at w107
          have w107' := s107 (d := 28) (by omega) hM.2.1 y 0 1
          rw [if_neg c3] at w107'
          exact b163_0 (by omega) hM.2.1 ⟨_, _, w110 M hM, hM.2.1, fun _ => ⟨_, _, w107, hM.2.1, fun q => by omega, fun _ => ⟨_, _, w107', hM.2.1, fun q => by omega, fun _ => ⟨rfl, hM⟩⟩⟩, fun q => by omega⟩
    · refine both_at (-1000000002) ?_ (fun M hM => ?_)
      · refine b84_0 (by omega) h.1 ⟨_, _, w52, h.1, fun _ => ⟨fun _ => ⟨rfl, hA⟩, fun _ => ⟨fun _ => ⟨rfl, hA⟩, fun q => by omega⟩⟩, fun q => by omega⟩
      · have w107 := s107 (d := 28) (by omega) hM.2.1 x 1 9
        rw [if_neg c2] at w107
        exact b163_0 (by omega) hM.2.1 ⟨_, _, w110 M hM, hM.2.1, fun _ => ⟨_, _, w107, hM.2.1, fun _ => ⟨rfl, hM⟩, fun q => by omega⟩, fun q => by omega⟩
  · rw [if_neg c] at w52
    refine both_at (-1000000001) ?_ (fun M hM => ?_)
    · exact b84_0 (by omega) h.1 ⟨_, _, w52, h.1, fun q => by omega, fun _ => ⟨rfl, hA⟩⟩
    · have r9 : M 103 9 = A t 2 := (at_r hM 103 9 (by omega)).trans m2
      have w := s110 (d := 28) (by omega) hM.2.1 (by omega) p
      rw [if_neg (by omega)] at w
      exact b163_0 (by omega) hM.2.1 ⟨_, _, w, hM.2.1, fun q => by omega, fun _ => ⟨rfl, hM⟩⟩
