/-! how far squares are apart: both -/
def fw_c (x : Int) : Int := if x = 1000000 then -1 else x
theorem c_inf : fw_c 1000000 = -1 := rfl
theorem c_fin {x : Int} (h : x ≠ 1000000) : fw_c x = x := by unfold fw_c; rw [if_neg h]
def fw_x (W : Nat → Nat → Int) (m a b a' b' : Nat) : Int := if a' < a ∨ (a' = a ∧ b' < b) then fw W (m + 1) a' b' else fw W m a' b'
def fw_cl (t n : Nat) (M0 : ab_M) (X : Nat → Nat → Int) (M : ab_M) : Prop := pu_str t M ∧ (∀ k f : Nat, ¬ (t + 10 ≤ k ∧ k < t + 17) → M k f = M0 k f) ∧ ∀ a b : Nat, a < n → b < n → M (t + 10 + a) b = fw_c (X a b)
theorem row_na10 {t : Nat} (ht : pu_T t) {a : Nat} (ha : a < 7) : pu_na (t + 10 + a) = true := by
  have e : ∀ a : Fin 7, pu_na (5 + 10 + a.val) = true ∧ pu_na (37 + 10 + a.val) = true := by decide
  have ht' : t = 5 ∨ t = 37 := ht
  rcases ht' with rfl | rfl
  · exact (e ⟨a, ha⟩).1
  · exact (e ⟨a, ha⟩).2
theorem s57 {d t n : Nat} {M0 M : ab_M} {W : Nat → Nat → Int} (hd : 1 ≤ d) (hn : n ≤ 7) (hW : fw_ok n W) {m a b : Nat} (hm : m < n) (ha : a < n) (hb : b < n) (h : fw_cl t n M0 (fw_x W m a b) M) :
    ∃ M', ab_ev d 57 [.inr (.inr t), .inl (a : Int), .inl (m : Int), .inl (b : Int)] M none M' ∧ fw_cl t n M0 (fw_x W m a (b + 1)) M' := by
  obtain ⟨hS, fr, val⟩ := h
  have ht : t = 5 ∨ t = 37 := hS.2.2.1
  have rm := fw_row hW m a b
  have v1 : M (t + 10 + a) m = fw_c (fw W m a m) := by
    rw [val a m ha hm]
    unfold fw_x
    split
    · rw [rm.1]
    · rfl
  have v2 : M (t + 10 + m) b = fw_c (fw W m m b) := by
    rw [val m b hm hb]
    unfold fw_x
    split
    · rw [rm.2]
    · rfl
  have v3 : M (t + 10 + a) b = fw_c (fw W m a b) := by
    rw [val a b ha hb]
    unfold fw_x
    rw [if_neg (by omega)]
  have g1 := fw_big hW (m := m) (by omega) a m
  have g2 := fw_big hW (m := m) (by omega) m b
  have g3 := fw_big hW (m := m) (by omega) a b
  have keep : fw W (m + 1) a b = fw W m a b → fw_cl t n M0 (fw_x W m a (b + 1)) M := by
    intro e
    refine ⟨hS, fr, fun a' b' ha' hb' => ?_⟩
    rw [val a' b' ha' hb']
    unfold fw_x
    by_cases c : a' = a ∧ b' = b
    · obtain ⟨rfl, rfl⟩ := c
      rw [if_neg (by omega), if_pos (by omega), e]
    · by_cases c2 : a' < a ∨ (a' = a ∧ b' < b)
      · rw [if_pos c2, if_pos (by omega)]
      · rw [if_neg c2, if_neg (by omega)]
  have put : ∀ v : Int, v = fw W (m + 1) a b → v ≠ 1000000 → fw_cl t n M0 (fw_x W m a (b + 1)) (ab_w M (t + 10 + a) b v) := by
    intro v ev hv
    refine ⟨str_a hS (row_na10 hS.2.2.1 (by omega)), fun k f hk => ?_, fun a' b' ha' hb' => ?_⟩
    · unfold ab_w
      rw [if_neg (by omega)]
      exact fr k f hk
    · unfold ab_w
      by_cases c : a' = a ∧ b' = b
      · obtain ⟨rfl, rfl⟩ := c
        rw [if_pos ⟨rfl, rfl⟩]
        unfold fw_x
        rw [if_pos (by omega), ← ev, c_fin hv]
      · rw [if_neg (by omega), val a' b' ha' hb']
        unfold fw_x
        by_cases c2 : a' < a ∨ (a' = a ∧ b' < b)
        · rw [if_pos c2, if_pos (by omega)]
        · rw [if_neg c2, if_neg (by omega)]
  have w : ab_wp d 57 0 (ab_ent [.inr (.inr t), .inl (a : Int), .inl (m : Int), .inl (b : Int)] (ab_mx 57)) [] M (fun r M' => r = none ∧ fw_cl t n M0 (fw_x W m a (b + 1)) M') := by
    refine b57_0 (by omega) hS hS.2.2.1 ?_
    rw [Int.toNat_natCast, Int.toNat_natCast, Int.toNat_natCast, v1, v2, v3]
    refine ⟨by omega, by omega, fun q => ⟨rfl, keep ?_⟩, fun q => ⟨by omega, fun q2 => ?_, fun q2 => ⟨rfl, keep ?_⟩⟩⟩
    · have e1 : fw W m a m = 1000000 := by
        apply Classical.byContradiction
        intro z
        rw [c_fin z] at q
        omega
      rw [fw_s, if_neg (by omega)]
    · have n1 : fw W m a m ≠ 1000000 := fun z => q (by rw [z]; rfl)
      have n2 : fw W m m b ≠ 1000000 := fun z => q2 (by rw [z]; rfl)
      rw [c_fin n1, c_fin n2]
      refine ⟨by omega, fun z => ⟨rfl, put _ ?_ (by omega)⟩, fun z => ?_⟩
      · have e3 : fw W m a b = 1000000 := by
          apply Classical.byContradiction
          intro y
          rw [c_fin y] at z
          omega
        rw [fw_s, if_pos (by omega)]
      · have n3 : fw W m a b ≠ 1000000 := fun y => z (by rw [y]; rfl)
        rw [c_fin n3]
        refine ⟨fun y => ⟨rfl, keep ?_⟩, fun y => ⟨rfl, put _ ?_ (by omega)⟩⟩
        · rw [fw_s, if_neg (by omega)]
        · rw [fw_s, if_pos (by omega)]
    · have e2 : fw W m m b = 1000000 := by
        apply Classical.byContradiction
        intro z
        rw [c_fin z] at q2
        omega
      rw [fw_s, if_neg (by omega)]
  obtain ⟨r, M', e, rfl, h1⟩ := wp_ev w
  exact ⟨M', e, h1⟩
theorem s56 {d t n : Nat} {M : ab_M} {W : Nat → Nat → Int} (hd : 2 ≤ d) (hS : pu_str t M) (hn : n ≤ 7) (hW : fw_ok n W) (h0 : M t 0 = (n : Int)) (hw : ∀ a b : Nat, a < n → b < n → a ≠ b → M (t + 2 + a) b = fw_c (W a b)) :
    ∃ M', ab_ev d 56 [.inr (.inr t)] M none M' ∧ fw_cl t n M (fw W n) M' := by
  have ht : t = 5 ∨ t = 37 := hS.2.2.1
  have w : ab_wp d 56 0 (ab_ent [.inr (.inr t)] (ab_mx 56)) [] M (fun r M' => r = none ∧ fw_cl t n M (fw W n) M') := by
    refine b56_0 (by omega) hS hS.2.2.1 ?_
    refine loop_up (P := fun a => ∀ M1 y2, pu_str t M1 → (∀ k f : Nat, ¬ (t + 10 ≤ k ∧ k < t + 17) → M1 k f = M k f) → (∀ a' b' : Nat, a' < a → b' < n → M1 (t + 10 + a') b' = fw_c (W a' b')) → ab_wp d 56 2 [some (.inr (.inr t)), some (.inl (a : Int)), y2, none] [] M1 _) n ?_ ?_ 0 (by omega) M _ hS (fun _ _ _ => rfl) (fun a' b' q => by omega)
    · intro M1 y2 s1 fr hv
      have r0 : M1 t 0 = (n : Int) := (fr t 0 (by omega)).trans h0
      refine b56_2 (by omega) s1 s1.2.2.1 ⟨fun _ => ?_, fun q => by omega⟩
      refine loop_up (P := fun m => ∀ M1 y2 y3, fw_cl t n M (fw W m) M1 → ab_wp d 56 59 [some (.inr (.inr t)), some (.inl (m : Int)), y2, y3] [] M1 _) n ?_ ?_ 0 (by omega) M1 _ _ ⟨s1, fr, fun a b ha hb => hv a b ha hb⟩
      · intro M1 y2 y3 hc
        have r0 : M1 t 0 = (n : Int) := (hc.2.1 t 0 (by omega)).trans h0
        exact b56_59 (by omega) hc.1 hc.1.2.2.1 ⟨fun _ => ⟨rfl, hc⟩, fun q => by omega⟩
      · intro m hm ih M1 y2 y3 hc
        have r0 : M1 t 0 = (n : Int) := (hc.2.1 t 0 (by omega)).trans h0
        rw [Int.natCast_succ] at ih
        refine b56_59 (by omega) hc.1 hc.1.2.2.1 ⟨fun q => by omega, fun _ => ?_⟩
        refine loop_up (P := fun a => ∀ M1 y3, fw_cl t n M (fw_x W m a 0) M1 → ab_wp d 56 69 [some (.inr (.inr t)), some (.inl (m : Int)), some (.inl (a : Int)), y3] [] M1 _) n ?_ ?_ 0 (by omega) M1 _ ⟨hc.1, hc.2.1, fun a b ha hb => by rw [hc.2.2 a b ha hb]; unfold fw_x; rw [if_neg (by omega)]⟩
        · intro M1 y3 hc
          have r0 : M1 t 0 = (n : Int) := (hc.2.1 t 0 (by omega)).trans h0
          exact b56_69 (by omega) hc.1 hc.1.2.2.1 ⟨fun _ => ⟨by omega, ih _ _ _ ⟨hc.1, hc.2.1, fun a b ha hb => by rw [hc.2.2 a b ha hb]; unfold fw_x; rw [if_pos (by omega)]⟩⟩, fun q => by omega⟩
        · intro a ha iha M1 y3 hc
          have r0 : M1 t 0 = (n : Int) := (hc.2.1 t 0 (by omega)).trans h0
          rw [Int.natCast_succ] at iha
          refine b56_69 (by omega) hc.1 hc.1.2.2.1 ⟨fun q => by omega, fun _ => ?_⟩
          refine loop_up (P := fun b => ∀ M1, fw_cl t n M (fw_x W m a b) M1 → ab_wp d 56 79 [some (.inr (.inr t)), some (.inl (m : Int)), some (.inl (a : Int)), some (.inl (b : Int))] [] M1 _) n ?_ ?_ 0 (by omega) M1 hc
          · intro M1 hc
            have r0 : M1 t 0 = (n : Int) := (hc.2.1 t 0 (by omega)).trans h0
            refine b56_79 (by omega) hc.1 hc.1.2.2.1 ⟨fun _ => ⟨by omega, iha _ _ ⟨hc.1, hc.2.1, fun a' b' ha' hb' => ?_⟩⟩, fun q => by omega⟩
            rw [hc.2.2 a' b' ha' hb']
            unfold fw_x
            by_cases c : a' < a ∨ (a' = a ∧ b' < n)
            · rw [if_pos c, if_pos (by omega)]
            · rw [if_neg c, if_neg (by omega)]
          · intro b hb ihb M1 hc
            have r0 : M1 t 0 = (n : Int) := (hc.2.1 t 0 (by omega)).trans h0
            rw [Int.natCast_succ] at ihb
            obtain ⟨M2, e2, h2⟩ := s57 (d := d - 1) (by omega) hn hW hm ha hb hc
            exact b56_79 (by omega) hc.1 hc.1.2.2.1 ⟨fun q => by omega, fun _ => ⟨M2, e2, h2.1, by omega, ihb M2 h2⟩⟩
    · intro a ha ih M1 y2 s1 fr hv
      have r0 : M1 t 0 = (n : Int) := (fr t 0 (by omega)).trans h0
      rw [Int.natCast_succ] at ih
      refine b56_2 (by omega) s1 s1.2.2.1 ⟨fun q => by omega, fun _ => ?_⟩
      refine loop_up (P := fun b => ∀ M1, pu_str t M1 → (∀ k f : Nat, ¬ (t + 10 ≤ k ∧ k < t + 17) → M1 k f = M k f) → (∀ a' b' : Nat, (a' < a ∧ b' < n ∨ a' = a ∧ b' < b) → M1 (t + 10 + a') b' = fw_c (W a' b')) → ab_wp d 56 12 [some (.inr (.inr t)), some (.inl (a : Int)), some (.inl (b : Int)), none] [] M1 _) n ?_ ?_ 0 (by omega) M1 s1 fr (fun a' b' q => hv a' b' (by omega) (by omega))
      · intro M1 s1 fr hv
        have r0 : M1 t 0 = (n : Int) := (fr t 0 (by omega)).trans h0
        exact b56_12 (by omega) s1 s1.2.2.1 ⟨fun _ => ⟨by omega, ih _ _ s1 fr (fun a' b' q q2 => hv a' b' (by omega))⟩, fun q => by omega⟩
      · intro b hb ihb M1 s1 fr hv
        have r0 : M1 t 0 = (n : Int) := (fr t 0 (by omega)).trans h0
        rw [Int.natCast_succ] at ihb
        have put : ∀ v : Int, v = fw_c (W a b) → ab_wp d 56 12 [some (.inr (.inr t)), some (.inl (a : Int)), some (.inl ((b : Int) + 1)), none] [] (ab_w M1 (t + 10 + a) b v) (fun r M' => r = none ∧ fw_cl t n M (fw W n) M') := by
          intro v ev
          refine ihb _ (str_a s1 (row_na10 s1.2.2.1 (by omega))) (fun k f hk => ?_) (fun a' b' q => ?_)
          · unfold ab_w
            rw [if_neg (by omega)]
            exact fr k f hk
          · unfold ab_w
            by_cases c : a' = a ∧ b' = b
            · rw [if_pos (by omega), c.1, c.2, ev]
            · rw [if_neg (by omega)]
              exact hv a' b' (by omega)
        refine b56_12 (by omega) s1 s1.2.2.1 ⟨fun q => by omega, fun _ => ?_⟩
        rw [Int.toNat_natCast, Int.toNat_natCast]
        refine ⟨by omega, fun q => ⟨by omega, by omega, put _ ?_⟩, fun q => ⟨by omega, by omega, put _ ?_⟩⟩
        · rw [fr (t + 2 + a) b (by omega)]
          exact hw a b ha hb (by omega)
        · rw [(hW a b).1 (by omega), c_fin (by decide)]
  obtain ⟨r, M', e, rfl, h1⟩ := wp_ev w
  exact ⟨M', e, h1⟩
theorem s125 {d t n : Nat} {M : ab_M} {W : Nat → Nat → Int} (hd : 1 ≤ d) (hS : pu_str t M) (hn : n ≤ 7) (hW : fw_ok n W) (hw : ∀ a b : Nat, a < 7 → b < 7 → a ≠ b → W a b = if M 115 (7 * a + b) ≤ 0 then 1000000 else M 115 (7 * a + b)) :
    ∃ M', ab_ev d 125 [.inr (.inr 103)] M none M' ∧ pu_str t M' ∧ (∀ k f : Nat, k ≠ 105 → k ≠ 106 → M' k f = M k f) ∧ (∀ k : Nat, k < 49 → M' 106 k = if M 115 k ≤ 0 then 0 else 1) ∧ (∀ a b : Nat, a < 7 → b < 7 → M' 105 (7 * a + b) = fw W 7 a b) := by
  have w : ab_wp d 125 0 (ab_ent [.inr (.inr 103)] (ab_mx 125)) [] M (fun r M' => r = none ∧ pu_str t M' ∧ (∀ k f : Nat, k ≠ 105 → k ≠ 106 → M' k f = M k f) ∧ (∀ k : Nat, k < 49 → M' 106 k = if M 115 k ≤ 0 then 0 else 1) ∧ (∀ a b : Nat, a < 7 → b < 7 → M' 105 (7 * a + b) = fw W 7 a b)) := by
    refine b125_0 (by omega) hS ?_
    refine loop_up (P := fun k => ∀ M1, pu_str t M1 → (∀ k f : Nat, k ≠ 105 → k ≠ 106 → M1 k f = M k f) → (∀ x : Nat, x < k → M1 106 x = if M 115 x ≤ 0 then 0 else 1) → (∀ x : Nat, x < k → M1 105 x = W (x / 7) (x % 7)) → ab_wp d 125 2 [some (.inr (.inr 103)), some (.inl (k : Int)), none, none] [] M1 _) 49 ?_ ?_ 0 (by omega) M hS (fun _ _ _ _ => rfl) (fun x q => by omega) (fun x q => by omega)
    · intro M1 s1 fr h6 h5
      refine b125_2 (by omega) s1 ⟨fun _ => ?_, fun q => by omega⟩
      refine loop_up (P := fun m => ∀ M1 y2 y3, pu_str t M1 → (∀ k f : Nat, k ≠ 105 → k ≠ 106 → M1 k f = M k f) → (∀ x : Nat, x < 49 → M1 106 x = if M 115 x ≤ 0 then 0 else 1) → (∀ x : Nat, x < 49 → M1 105 x = fw W m (x / 7) (x % 7)) → ab_wp d 125 77 [some (.inr (.inr 103)), some (.inl (m : Int)), y2, y3] [] M1 _) 7 ?_ ?_ 0 (by omega) M1 _ _ s1 fr h6 h5
      · intro M1 y2 y3 s1 fr h6 h5
        refine b125_77 (by omega) s1 ⟨fun _ => ⟨rfl, s1, fr, h6, fun a b ha hb => ?_⟩, fun q => by omega⟩
        have := h5 (7 * a + b) (by omega)
        rw [show (7 * a + b) / 7 = a from by omega, show (7 * a + b) % 7 = b from by omega] at this
        exact this
      · intro m hm ih M1 y2 y3 s1 fr h6 h5
        rw [Int.natCast_succ] at ih
        refine b125_77 (by omega) s1 ⟨fun q => by omega, fun _ => ?_⟩
        refine loop_up (P := fun k => ∀ M1 y3, pu_str t M1 → (∀ k f : Nat, k ≠ 105 → k ≠ 106 → M1 k f = M k f) → (∀ x : Nat, x < 49 → M1 106 x = if M 115 x ≤ 0 then 0 else 1) → (∀ x : Nat, x < 49 → M1 105 x = if x < k then fw W (m + 1) (x / 7) (x % 7) else fw W m (x / 7) (x % 7)) → ab_wp d 125 85 [some (.inr (.inr 103)), some (.inl (m : Int)), some (.inl (k : Int)), y3] [] M1 _) 49 ?_ ?_ 0 (by omega) M1 _ s1 fr h6 (fun x hx => by rw [if_neg (by omega)]; exact h5 x hx)
        · intro M1 y3 s1 fr h6 h5
          exact b125_85 (by omega) s1 ⟨fun _ => ⟨by omega, ih _ _ _ s1 fr h6 (fun x hx => by rw [h5 x hx, if_pos hx])⟩, fun q => by omega⟩
        · intro k hk ihk M1 y3 s1 fr h6 h5
          rw [Int.natCast_succ] at ihk
          have td : (k : Int).tdiv 7 = ((k / 7 : Nat) : Int) := by
            rw [Int.tdiv_eq_ediv_of_nonneg (by omega)]
            omega
          have tm : (k : Int).tmod 7 = ((k % 7 : Nat) : Int) := by
            rw [Int.tmod_eq_emod_of_nonneg (by omega)]
            omega
          have e1 : (((k / 7 : Nat) : Int) * 7 + (m : Int)).toNat = 7 * (k / 7) + m := by omega
          have e2 : (7 * (m : Int) + ((k % 7 : Nat) : Int)).toNat = 7 * m + k % 7 := by omega
          have rm := fw_row hW m (k / 7) (k % 7)
          have v1 : M1 105 (7 * (k / 7) + m) = fw W m (k / 7) m := by
            rw [h5 _ (by omega), show (7 * (k / 7) + m) / 7 = k / 7 from by omega, show (7 * (k / 7) + m) % 7 = m from by omega]
            split
            · exact rm.1
            · rfl
          have v2 : M1 105 (7 * m + k % 7) = fw W m m (k % 7) := by
            rw [h5 _ (by omega), show (7 * m + k % 7) / 7 = m from by omega, show (7 * m + k % 7) % 7 = k % 7 from by omega]
            split
            · exact rm.2
            · rfl
          have v3 : M1 105 k = fw W m (k / 7) (k % 7) := by
            rw [h5 k hk, if_neg (by omega)]
          have g1 := fw_rg hW m (k / 7) m
          have g2 := fw_rg hW m m (k % 7)
          have put : ∀ (v : Int) y3, v = fw W (m + 1) (k / 7) (k % 7) → ab_wp d 125 85 [some (.inr (.inr 103)), some (.inl (m : Int)), some (.inl ((k : Int) + 1)), y3] [] (ab_w M1 105 k v) (fun r M' => r = none ∧ pu_str t M' ∧ (∀ k f : Nat, k ≠ 105 → k ≠ 106 → M' k f = M k f) ∧ (∀ k : Nat, k < 49 → M' 106 k = if M 115 k ≤ 0 then 0 else 1) ∧ (∀ a b : Nat, a < 7 → b < 7 → M' 105 (7 * a + b) = fw W 7 a b)) := by
            intro v y3 ev
            refine ihk _ _ (str_a s1 rfl) (fun k' f a b => ?_) (fun x hx => ?_) (fun x hx => ?_)
            · unfold ab_w
              rw [if_neg (by omega)]
              exact fr k' f a b
            · have := h6 x hx
              unfold ab_w
              rw [if_neg (by omega)]
              exact this
            · by_cases c : x = k
              · rw [c, ab_w_eq, if_pos (by omega), ev]
              · have := h5 x hx
                have e : ab_w M1 105 k v 105 x = M1 105 x := by
                  unfold ab_w
                  rw [if_neg (by omega)]
                rw [e, this]
                by_cases c2 : x < k
                · rw [if_pos c2, if_pos (by omega)]
                · rw [if_neg c2, if_neg (by omega)]
          refine b125_85 (by omega) s1 ⟨fun q => by omega, fun _ => ?_⟩
          rw [td, tm, e1, e2, v1, v2, Int.toNat_natCast, v3]
          refine ⟨by omega, by omega, by omega, by omega, by omega, by omega, by omega, by omega, by omega, fun q => ⟨by omega, put _ _ ?_⟩, fun q => ⟨by omega, put _ _ ?_⟩⟩
          · rw [fw_s, if_neg (by omega)]
          · rw [fw_s, if_pos q]
    · intro k hk ih M1 s1 fr h6 h5
      rw [Int.natCast_succ] at ih
      have td : (k : Int).tdiv 7 = ((k / 7 : Nat) : Int) := by
        rw [Int.tdiv_eq_ediv_of_nonneg (by omega)]
        omega
      have tm : (k : Int).tmod 7 = ((k % 7 : Nat) : Int) := by
        rw [Int.tmod_eq_emod_of_nonneg (by omega)]
        omega
      have r115 : M1 115 k = M 115 k := fr 115 k (by omega) (by omega)
      have fin : ∀ (f6 v : Int), f6 = (if M 115 k ≤ 0 then 0 else 1) → v = W (k / 7) (k % 7) → ab_wp d 125 68 [some (.inr (.inr 103)), some (.inl (k : Int)), none, none] [.inl v, .inl (k : Int), .inr (.inr 105)] (ab_w M1 106 k f6) (fun r M' => r = none ∧ pu_str t M' ∧ (∀ k f : Nat, k ≠ 105 → k ≠ 106 → M' k f = M k f) ∧ (∀ k : Nat, k < 49 → M' 106 k = if M 115 k ≤ 0 then 0 else 1) ∧ (∀ a b : Nat, a < 7 → b < 7 → M' 105 (7 * a + b) = fw W 7 a b)) := by
        intro f6 v e6 ev
        have s2 : pu_str t (ab_w M1 106 k f6) := str_a s1 rfl
        refine b125_68 (by omega) s2 ⟨by omega, by omega, ?_⟩
        rw [Int.toNat_natCast]
        refine ih _ (str_a s2 rfl) (fun k' f a b => ?_) (fun x hx => ?_) (fun x hx => ?_)
        · unfold ab_w
          rw [if_neg (by omega), if_neg (by omega)]
          exact fr k' f a b
        · by_cases c : x = k
          · have e : ab_w (ab_w M1 106 k f6) 105 k v 106 x = f6 := by
              unfold ab_w
              rw [if_neg (by omega), if_pos ⟨rfl, c⟩]
            rw [e, e6, c]
          · have e : ab_w (ab_w M1 106 k f6) 105 k v 106 x = M1 106 x := by
              unfold ab_w
              rw [if_neg (by omega), if_neg (by omega)]
            rw [e]
            exact h6 x (by omega)
        · by_cases c : x = k
          · rw [c, ab_w_eq, ev]
          · have e : ab_w (ab_w M1 106 k f6) 105 k v 105 x = M1 105 x := by
              unfold ab_w
              rw [if_neg (by omega), if_neg (by omega)]
            rw [e]
            exact h5 x (by omega)
      have mid : ∀ f6 : Int, (f6 = 0 ∨ f6 = 1) → f6 = (if M 115 k ≤ 0 then 0 else 1) → ab_wp d 125 27 [some (.inr (.inr 103)), some (.inl (k : Int)), none, none] [.inl f6, .inl (k : Int), .inr (.inr 106)] M1 (fun r M' => r = none ∧ pu_str t M' ∧ (∀ k f : Nat, k ≠ 105 → k ≠ 106 → M' k f = M k f) ∧ (∀ k : Nat, k < 49 → M' 106 k = if M 115 k ≤ 0 then 0 else 1) ∧ (∀ a b : Nat, a < 7 → b < 7 → M' 105 (7 * a + b) = fw W 7 a b)) := by
        intro f6 hf e6
        have ek : 7 * (k / 7) + k % 7 = k := by omega
        refine b125_27 (by omega) s1 ?_
        rw [td, tm, Int.toNat_natCast, r115]
        refine ⟨by omega, hf, by omega, fun q => ⟨by omega, fun z => fin _ _ e6 ?_, fun z => fin _ _ e6 ?_⟩, fun q => fin _ _ e6 ?_⟩
        · rw [hw (k / 7) (k % 7) (by omega) (by omega) (by omega), ek, if_pos z]
        · rw [hw (k / 7) (k % 7) (by omega) (by omega) (by omega), ek, if_neg (by omega)]
        · rw [(hW _ _).1 (by omega)]
      refine b125_2 (by omega) s1 ⟨fun q => by omega, fun _ => ?_⟩
      rw [Int.toNat_natCast, r115]
      exact ⟨by omega, fun q => mid 0 (Or.inl rfl) (by rw [if_pos q]), fun q => mid 1 (Or.inr rfl) (by rw [if_neg (by omega)])⟩
  obtain ⟨r, M', e, rfl, h1⟩ := wp_ev w
  exact ⟨M', e, h1⟩
