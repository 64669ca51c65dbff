theorem s186 {d t : Nat} {M : ab_M} (hd : 6 ≤ d) (hS : pu_str t M) {c : Int} (hc : 0 ≤ c ∧ c ≤ 255) : ab_ev d 186 [.inr (.inr 1004), .inl c] M (some (.inl (pa_ix c))) M := by
  have w188 : ab_ev (d - 3) 188 [.inr (.inr 1004)] M (some (.inl 0)) M := ev_wp (b188_0 (by omega) hS ⟨rfl, rfl⟩)
  have w189 : ab_ev (d - 2) 189 [.inr (.inr 1004)] M (some (.inl 1)) M := ev_wp (b189_0 (by omega) hS ⟨rfl, rfl⟩)
  have sh : ab_shr 7 0 = 7 := by decide +kernel
  have w185 : ab_ev (d - 2) 185 [.inr (.inr 1004)] M (some (.inl 7)) M := ev_wp (b185_0 (by omega) hS ⟨_, _, w188, hS, by rw [sh], rfl⟩)
  have w190 : ab_ev (d - 3) 190 [.inl c] M (some (.inl 1)) M := ev_wp (b190_0 (by omega) hS ⟨fun q => by omega, fun _ => ⟨fun q => by omega, fun _ => ⟨rfl, rfl⟩⟩⟩)
  have w192 : ab_ev (d - 3) 192 [.inr (.inr 1005), .inl c, .inl 0, .inl 7] M (some (.inl (pa_ix c))) M := by
    refine ev_wp (b192_0 (by omega) hS ⟨by omega, ?_⟩)
    refine loop_up (P := fun i => (∀ j, j < i → (ab_stt 1005).getD j 0 ≠ (if c < 128 then c else c - 256)) → ab_wp (d - 3) 192 7 [some (.inr (.inr 1005)), some (.inl c), some (.inl 0), some (.inl 7), some (.inl (if c < 128 then c else c - 256)), some (.inl (i : Int))] [] M _) 7 ?_ ?_ 0 (by omega) (fun j hj => by omega)
    · intro hj
      refine b192_7 (by omega) hS ⟨fun _ => ⟨?_, rfl⟩, fun q => by omega⟩
      have h0 : (116 : Int) ≠ (if c < 128 then c else c - 256) := hj 0 (by omega)
      have h1 : (119 : Int) ≠ (if c < 128 then c else c - 256) := hj 1 (by omega)
      have h2 : (112 : Int) ≠ (if c < 128 then c else c - 256) := hj 2 (by omega)
      have h3 : (100 : Int) ≠ (if c < 128 then c else c - 256) := hj 3 (by omega)
      have h4 : (114 : Int) ≠ (if c < 128 then c else c - 256) := hj 4 (by omega)
      have h5 : (113 : Int) ≠ (if c < 128 then c else c - 256) := hj 5 (by omega)
      have h6 : (111 : Int) ≠ (if c < 128 then c else c - 256) := hj 6 (by omega)
      have e : pa_ix c = -1 := by
        by_cases q : c < 128
        · rw [if_pos q] at h0 h1 h2 h3 h4 h5 h6
          unfold pa_ix
          rw [if_neg (fun z => h0 z.symm), if_neg (fun z => h1 z.symm), if_neg (fun z => h2 z.symm), if_neg (fun z => h3 z.symm), if_neg (fun z => h4 z.symm), if_neg (fun z => h5 z.symm), if_neg (fun z => h6 z.symm)]
        · unfold pa_ix
          rw [if_neg (by omega), if_neg (by omega), if_neg (by omega), if_neg (by omega), if_neg (by omega), if_neg (by omega), if_neg (by omega)]
      rw [e]
    · intro i hi ih hj
      rw [Int.natCast_succ] at ih
      refine b192_7 (by omega) hS ⟨fun q => by omega, fun _ => ⟨by omega, fun q => ⟨by omega, ih (fun j hj2 => ?_)⟩, fun q => ⟨?_, rfl⟩⟩⟩
      · by_cases e : j = i
        · rw [e]; rw [Int.toNat_natCast] at q; exact q
        · exact hj j (by omega)
      · rw [Int.toNat_natCast] at q
        have cc : c < 128 ∧ c = (ab_stt 1005).getD i 0 := by
          have : i = 0 ∨ i = 1 ∨ i = 2 ∨ i = 3 ∨ i = 4 ∨ i = 5 ∨ i = 6 := by omega
          have p : (0 : Int) < (ab_stt 1005).getD i 0 := by
            rcases this with rfl | rfl | rfl | rfl | rfl | rfl | rfl <;> decide
          by_cases z : c < 128
          · rw [if_pos z] at q; exact ⟨z, q.symm⟩
          · rw [if_neg z] at q; omega
        have : i = 0 ∨ i = 1 ∨ i = 2 ∨ i = 3 ∨ i = 4 ∨ i = 5 ∨ i = 6 := by omega
        rw [cc.2]
        rcases this with rfl | rfl | rfl | rfl | rfl | rfl | rfl <;> rfl
  have w191 : ab_ev (d - 2) 191 [.inr (.inr 1005), .inl c, .inl 0, .inl 7] M (some (.inl (pa_ix c))) M :=
    ev_wp (b191_0 (by omega) hS ⟨_, _, w190, hS, fun _ => ⟨fun _ => ⟨_, _, w192, hS, rfl, rfl⟩, fun q => absurd q (by decide)⟩, fun q => absurd q (by decide)⟩)
  have w187 : ab_ev (d - 1) 187 [.inr (.inr 1004), .inl c, .inl 0] M (some (.inl (pa_ix c))) M :=
    ev_wp (b187_0 (by omega) hS ⟨_, _, w189, hS, fun q => absurd q (by decide), fun _ => ⟨_, _, w185, hS, _, _, w191, hS, rfl, rfl⟩⟩)
  exact ev_wp (b186_0 (by omega) hS ⟨_, _, w187, hS, rfl, rfl⟩)
theorem ix_rg (c : Int) : pa_ix c = -1 ∨ (0 ≤ pa_ix c ∧ pa_ix c ≤ 6) := by
  unfold pa_ix
  repeat' split
  all_goals omega
theorem n1_inl {T : Nat → Int} {n : Nat} {lo hi : Int} {ag : Int → Bool} {p : Nat} {e : Int × Nat} (h : pa_n1 T n lo hi ag p = .inl e) : 1 ≤ e.1 ∧ e.1 ≤ 4 ∧ (p ≤ n → e.2 ≤ n) := by
  have s := sk_rg T n p
  unfold pa_n1 at h
  split at h
  · cases h; exact ⟨by dsimp only; omega, by dsimp only; omega, s.2⟩
  · split at h
    · cases h; exact ⟨by dsimp only; omega, by dsimp only; omega, s.2⟩
    · split at h
      · cases h; exact ⟨by dsimp only; omega, by dsimp only; omega, s.2⟩
      · cases h
theorem nums_inl {T : Nat → Int} {n : Nat} {S : ab_M} {cl : Nat} : ∀ r k a p e, pa_nums T n S cl r k a p = .inl e → 1 ≤ e.1 ∧ e.1 ≤ 4 ∧ (p ≤ n → e.2 ≤ n) := by
  intro r
  induction r with
  | zero => intro k a p e h; cases h
  | succ r ih =>
    intro k a p e h
    rw [nums_s] at h
    cases q : pa_n1 T n (pa_lo cl k) (pa_hi S cl k (a 0)) (pa_ag S cl k (a 0)) p with
    | inl f => rw [q] at h; cases h; exact n1_inl q
    | inr y =>
      rw [q] at h
      have := ih _ _ _ e h
      exact ⟨this.1, this.2.1, fun z => this.2.2 ((n1_inr q).2.2.2.2 z)⟩
theorem lo_pos (cl k : Nat) : 0 ≤ pa_lo cl k := by
  unfold pa_lo
  repeat' split
  all_goals omega
/-- one clause at i -/
def pa_stp (T : Nat → Int) (n : Nat) (S : ab_M) (i : Nat) : (Int × Nat) ⊕ (ab_M × Nat) := if pa_ix (T i) = -1 ∨ (pa_ix (T i) ≠ 0 ∧ S 0 7 = 0) then .inl (1, i) else pa_cl T n S (pa_ix (T i)).toNat i
theorem run_s (T : Nat → Int) (n f : Nat) (S : ab_M) (i : Nat) : pa_run T n (f + 1) S i = if n ≤ i then .inr S else match pa_stp T n S i with
    | .inl e => .inl e
    | .inr z => pa_run T n f z.1 z.2 := by
  show (if n ≤ i then _ else if _ then _ else _) = _
  unfold pa_stp
  by_cases c : n ≤ i
  · rw [if_pos c, if_pos c]
  · rw [if_neg c, if_neg c]
    by_cases q : pa_ix (T i) = -1 ∨ (pa_ix (T i) ≠ 0 ∧ S 0 7 = 0)
    · rw [if_pos q, if_pos q]
    · rw [if_neg q, if_neg q]
      rfl
theorem stp_inl {T : Nat → Int} {n : Nat} {S : ab_M} {i : Nat} {e : Int × Nat} (h : pa_stp T n S i = .inl e) (hi : i < n) : 1 ≤ e.1 ∧ e.1 ≤ 4 ∧ e.2 ≤ n := by
  unfold pa_stp at h
  split at h
  · cases h; exact ⟨by dsimp only; omega, by dsimp only; omega, by dsimp only; omega⟩
  · unfold pa_cl at h
    split at h
    · cases h; exact ⟨by dsimp only; omega, by dsimp only; omega, by dsimp only; omega⟩
    · cases q : pa_nums T n S (pa_ix (T i)).toNat (pa_nn (pa_ix (T i)).toNat) 0 (fun _ => 0) (i + 1) with
      | inl f =>
        rw [q] at h
        cases h
        have := nums_inl _ _ _ _ _ q
        exact ⟨this.1, this.2.1, this.2.2 (by omega)⟩
      | inr z =>
        rw [q] at h
        dsimp only at h
        split at h
        · cases h
        · cases h
          have := nums_inr _ _ _ _ _ q
          exact ⟨by dsimp only; omega, by dsimp only; omega, (sk_rg T n z.2).2 (this.2.2.2 (by omega))⟩
theorem tk_0 (S : ab_M) (a : Nat → Int) : pa_tk S 0 a = ab_w (ab_w (ab_w S 0 0 (a 0)) 0 1 (a 1)) 0 7 1 := rfl
theorem tk_1 (S : ab_M) (a : Nat → Int) : pa_tk S 1 a = ab_w (ab_w (ab_w S 1 (7 * (a 0).toNat + (a 1).toNat) (a 2)) 1 (7 * (a 1).toNat + (a 0).toNat) (a 2)) 0 5 (S 0 5 + 1) := rfl
theorem tk_2 (S : ab_M) (a : Nat → Int) : pa_tk S 2 a = ab_w (ab_w (ab_w S 2 (S 0 2).toNat (a 0)) 3 (S 0 2).toNat (a 1)) 0 2 (S 0 2 + 1) := rfl
theorem tk_3 (S : ab_M) (a : Nat → Int) : pa_tk S 3 a = ab_w (ab_w (ab_w (ab_w (ab_w (ab_w S 4 (5 * (S 0 3).toNat) (a 0)) 4 (5 * (S 0 3).toNat + 1) (a 1)) 4 (5 * (S 0 3).toNat + 2) (a 2)) 4 (5 * (S 0 3).toNat + 3) (a 3)) 4 (5 * (S 0 3).toNat + 4) (-1)) 0 3 (S 0 3 + 1) := rfl
theorem tk_4 (S : ab_M) (a : Nat → Int) : pa_tk S 4 a = ab_w S 4 (5 * (a 0).toNat + 4) (a 1) := rfl
theorem tk_5 (S : ab_M) (a : Nat → Int) : pa_tk S 5 a = ab_w (ab_w S 5 (6 * (a 0).toNat + (a 1).toNat) (a 2)) 0 6 (S 0 6 + 1) := rfl
theorem tk_6 (S : ab_M) (a : Nat → Int) : pa_tk S 6 a = ab_w (ab_w S 6 (S 0 4).toNat (a 0)) 0 4 (S 0 4 + 1) := rfl
theorem stp_inr {T : Nat → Int} {n : Nat} {S : ab_M} {i : Nat} {z : ab_M × Nat} (h : pa_stp T n S i = .inr z) (hi : i < n) (ho : pa_ok S) : i < z.2 ∧ z.2 ≤ n ∧ pa_ok z.1 ∧ z.1 0 7 = 1 := by
  unfold pa_stp at h
  split at h
  · cases h
  · next hne =>
    have hne1 : pa_ix (T i) ≠ -1 := fun q => hne (Or.inl q)
    have hrg := ix_rg (T i)
    have h7 : (pa_ix (T i)).toNat ≠ 0 → S 0 7 = 1 := by
      intro q
      have o7 := ho.2.2.2.2.2.2.1
      apply Classical.byContradiction
      intro z
      exact hne (Or.inr ⟨by omega, by omega⟩)
    unfold pa_cl at h
    split at h
    · cases h
    · next hf =>
      cases q : pa_nums T n S (pa_ix (T i)).toNat (pa_nn (pa_ix (T i)).toNat) 0 (fun _ => 0) (i + 1) with
      | inl f => rw [q] at h; cases h
      | inr y =>
        rw [q] at h
        dsimp only at h
        split at h
        · next hs =>
          cases h
          have nm := nums_inr _ _ _ _ _ q
          have s1 := sk_rg T n y.2
          have s2 := sk_rg T n (pa_sk T n y.2 + 1)
          have tk := tk_ok ho (by omega) h7 hf (fun j hj => nm.2.1 j (Nat.zero_le _) (by omega))
          refine ⟨by dsimp only; omega, s2.2 (by omega), tk, ?_⟩
          show pa_tk S (pa_ix (T i)).toNat y.1 0 7 = 1
          have cs : (pa_ix (T i)).toNat = 0 ∨ (pa_ix (T i)).toNat ≠ 0 := by omega
          rcases cs with c0 | c0
          · rw [c0, tk_0, ab_w_eq]
          · have e7 := h7 c0
            have cs2 : (pa_ix (T i)).toNat = 1 ∨ (pa_ix (T i)).toNat = 2 ∨ (pa_ix (T i)).toNat = 3 ∨ (pa_ix (T i)).toNat = 4 ∨ (pa_ix (T i)).toNat = 5 ∨ (pa_ix (T i)).toNat = 6 := by omega
            rcases cs2 with c | c | c | c | c | c <;> rw [c]
            · rw [tk_1, w_ne (by omega), w_ne (by omega), w_ne (by omega)]; exact e7
            · rw [tk_2, w_ne (by omega), w_ne (by omega), w_ne (by omega)]; exact e7
            · rw [tk_3, w_ne (by omega), w_ne (by omega), w_ne (by omega), w_ne (by omega), w_ne (by omega), w_ne (by omega)]; exact e7
            · rw [tk_4, w_ne (by omega)]; exact e7
            · rw [tk_5, w_ne (by omega), w_ne (by omega)]; exact e7
            · rw [tk_6, w_ne (by omega), w_ne (by omega)]; exact e7
        · cases h
