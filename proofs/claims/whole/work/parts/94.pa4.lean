theorem pv_rg {T : Nat → Int} {f : Nat} : ∀ k, (∀ j, j < k → 48 ≤ T (f + j) ∧ T (f + j) ≤ 57) → k ≤ 3 → 0 ≤ pa_pv T f k ∧ pa_pv T f k ≤ 999 := by
  intro k h hk
  have : k = 0 ∨ k = 1 ∨ k = 2 ∨ k = 3 := by omega
  rcases this with rfl | rfl | rfl | rfl
  · show 0 ≤ (0 : Int) ∧ (0 : Int) ≤ 999
    omega
  · have h0 := h 0 (by omega)
    show 0 ≤ (0 * 10 + (T (f + 0) - 48) : Int) ∧ (0 * 10 + (T (f + 0) - 48) : Int) ≤ 999
    omega
  · have h0 := h 0 (by omega)
    have h1 := h 1 (by omega)
    show 0 ≤ ((0 * 10 + (T (f + 0) - 48)) * 10 + (T (f + 1) - 48) : Int) ∧ ((0 * 10 + (T (f + 0) - 48)) * 10 + (T (f + 1) - 48) : Int) ≤ 999
    omega
  · have h0 := h 0 (by omega)
    have h1 := h 1 (by omega)
    have h2 := h 2 (by omega)
    show 0 ≤ (((0 * 10 + (T (f + 0) - 48)) * 10 + (T (f + 1) - 48)) * 10 + (T (f + 2) - 48) : Int) ∧ (((0 * 10 + (T (f + 0) - 48)) * 10 + (T (f + 1) - 48)) * 10 + (T (f + 2) - 48) : Int) ≤ 999
    omega
/-- what a read number leaves behind -/
def pa_o31 (k : Nat) (z : (Int × Nat) ⊕ (Int × Nat)) (M M' : ab_M) : Prop := (∀ c f : Nat, ¬ (c = 1 ∧ (f = 1 ∨ f = 2)) → ¬ (c = 4 ∧ f = k) → M' c f = M c f) ∧ (match z with
  | .inl e => M' 1 2 = e.1 ∧ M' 1 1 = ((e.2 : Nat) : Int)
  | .inr y => M' 1 2 = 0 ∧ M' 1 1 = ((y.2 : Nat) : Int) ∧ M' 4 k = y.1)
theorem s31 {d t u n : Nat} {T : Nat → Int} {S M : ab_M} (hd : 2 ≤ d) (hS : pu_str t M) (hu : pu_T u) (ht : pa_tx T n M) (hr : pa_rc u S M) (ho : pa_ok S) {cl k p : Nat} (hc : cl ≤ 6) (hk : k < pa_nn cl) {a : Nat → Int} (ha : k ≠ 0 → M 4 0 = a 0 ∧ 0 ≤ a 0 ∧ a 0 ≤ pa_hi S cl 0 0) (hp : M 1 1 = (p : Int)) (hpn : p ≤ n) (hf : M 1 2 = 0) :
    ∃ M', ab_ev d 31 [.inr (.inr 1), .inr (.inr u), .inl (cl : Int), .inl (k : Int)] M none M' ∧ pu_str t M' ∧ pa_o31 k (pa_n1 T n (pa_lo cl k) (pa_hi S cl k (a 0)) (pa_ag S cl k (a 0)) p) M M' := by
  have hu' : u = 5 ∨ u = 37 := hu
  have n4 : pa_nn cl ≤ 4 := by
    unfold pa_nn
    split <;> first | omega | (split <;> first | omega | (split <;> first | omega | (split <;> first | omega | (split <;> first | omega | (split <;> omega)))))
  have hi7 : pa_hi S cl 0 0 ≤ 100 := by
    obtain ⟨o0, o2, o3, o4, _⟩ := ho
    have e : ∀ i : Fin 7, (2 : Int) ^ i.val ≤ 64 := by decide
    have e := e ⟨(S 0 3).toNat, by omega⟩
    dsimp only at e
    unfold pa_hi
    split
    · simp
    · split
      · simp; omega
      · split
        · simp; omega
        · split
          · simp; omega
          · split
            · simp; omega
            · split
              · simp; omega
              · omega
  obtain ⟨F, eF⟩ : ∃ F : Nat, pa_sk T n p = F := ⟨_, rfl⟩
  have sg := sk_rg T n p
  rw [eF] at sg
  obtain ⟨n5, h0, hT⟩ := id ht
  have w : ab_wp d 31 0 (ab_ent [.inr (.inr 1), .inr (.inr u), .inl (cl : Int), .inl (k : Int)] (ab_mx 31)) [] M (fun r M' => r = none ∧ pu_str t M' ∧ pa_o31 k (pa_n1 T n (pa_lo cl k) (pa_hi S cl k (a 0)) (pa_ag S cl k (a 0)) p) M M') := by
    have w27 := s27e (d := d - 1) (by omega) hS ht hp hpn
    rw [eF] at w27
    refine b31_0 (by omega) hS hu ⟨_, w27, str_w hS rfl, ?_⟩
    rw [ab_w_eq]
    have tail : ∀ (i : Nat) (M1 : ab_M) (x5 : Int), F ≤ i → i ≤ n → pu_str t M1 → (∀ c f : Nat, ¬ (c = 1 ∧ f = 1) → M1 c f = M c f) → M1 1 1 = (i : Int) → (∀ j, j < i - F → 48 ≤ T (F + j) ∧ T (F + j) ≤ 57) → pa_dg T n F = i → x5 = pa_pv T F (if i - F < 3 then i - F else 3) →
        (ab_rg (M1 1 1 - (F : Int)) ∧ (M1 1 1 - (F : Int) ≠ 0 → (3 < M1 1 1 - (F : Int) → ab_wp d 31 138 [some (.inr (.inr 1)), some (.inr (.inr u)), some (.inl (cl : Int)), some (.inl (k : Int)), some (.inl (F : Int)), some (.inl x5), some (.inl (M1 1 1 - (F : Int)))] [] M1 (fun r M' => r = none ∧ pu_str t M' ∧ pa_o31 k (pa_n1 T n (pa_lo cl k) (pa_hi S cl k (a 0)) (pa_ag S cl k (a 0)) p) M M')) ∧ (M1 1 1 - (F : Int) ≤ 3 → ∃ r1 M2, ab_ev (d - 1) 32 [.inl (cl : Int), .inl (k : Int)] M1 (some (.inl r1)) M2 ∧ pu_str t M2 ∧ (x5 < r1 → ab_wp d 31 138 [some (.inr (.inr 1)), some (.inr (.inr u)), some (.inl (cl : Int)), some (.inl (k : Int)), some (.inl (F : Int)), some (.inl x5), some (.inl (M1 1 1 - (F : Int)))] [] M2 (fun r M' => r = none ∧ pu_str t M' ∧ pa_o31 k (pa_n1 T n (pa_lo cl k) (pa_hi S cl k (a 0)) (pa_ag S cl k (a 0)) p) M M')) ∧ (r1 ≤ x5 → ∃ r2 M3, ab_ev (d - 1) 33 [.inr (.inr 1), .inr (.inr u), .inl (cl : Int), .inl (k : Int)] M2 (some (.inl r2)) M3 ∧ pu_str t M3 ∧ (x5 ≤ r2 → ∃ r3 M4, ab_ev (d - 1) 34 [.inr (.inr 1), .inr (.inr u), .inl (cl : Int), .inl (k : Int), .inl x5] M3 (some (.inl r3)) M4 ∧ pu_str t M4 ∧ (r3 = 0 → ab_wp d 31 163 [some (.inr (.inr 1)), some (.inr (.inr u)), some (.inl (cl : Int)), some (.inl (k : Int)), some (.inl (F : Int)), some (.inl x5), some (.inl (M1 1 1 - (F : Int)))] [] M4 (fun r M' => r = none ∧ pu_str t M' ∧ pa_o31 k (pa_n1 T n (pa_lo cl k) (pa_hi S cl k (a 0)) (pa_ag S cl k (a 0)) p) M M')) ∧ (r3 ≠ 0 → ab_wp d 31 163 [some (.inr (.inr 1)), some (.inr (.inr u)), some (.inl (cl : Int)), some (.inl (k : Int)), some (.inl (F : Int)), some (.inl x5), some (.inl (M1 1 1 - (F : Int)))] [] (ab_w M4 1 2 4) (fun r M' => r = none ∧ pu_str t M' ∧ pa_o31 k (pa_n1 T n (pa_lo cl k) (pa_hi S cl k (a 0)) (pa_ag S cl k (a 0)) p) M M'))) ∧ (r2 < x5 → ab_wp d 31 138 [some (.inr (.inr 1)), some (.inr (.inr u)), some (.inl (cl : Int)), some (.inl (k : Int)), some (.inl (F : Int)), some (.inl x5), some (.inl (M1 1 1 - (F : Int)))] [] M3 (fun r M' => r = none ∧ pu_str t M' ∧ pa_o31 k (pa_n1 T n (pa_lo cl k) (pa_hi S cl k (a 0)) (pa_ag S cl k (a 0)) p) M M'))))) ∧ (M1 1 1 - (F : Int) = 0 → ab_wp d 31 163 [some (.inr (.inr 1)), some (.inr (.inr u)), some (.inl (cl : Int)), some (.inl (k : Int)), some (.inl (F : Int)), some (.inl x5), some (.inl (M1 1 1 - (F : Int)))] [] (ab_w M1 1 2 1) (fun r M' => r = none ∧ pu_str t M' ∧ pa_o31 k (pa_n1 T n (pa_lo cl k) (pa_hi S cl k (a 0)) (pa_ag S cl k (a 0)) p) M M'))) := by
      intro i M1 x5 hFi hin s1 fr m1 hdig hdg e5
      have rc1 : pa_rc u S M1 := rc_fr hr (fun k f h1 h2 => fr k f (by omega))
      have m12 : M1 1 2 = 0 := (fr 1 2 (by omega)).trans hf
      have bad : ∀ c : Int, c ≠ 0 → pa_n1 T n (pa_lo cl k) (pa_hi S cl k (a 0)) (pa_ag S cl k (a 0)) p = .inl (c, F) → ab_wp d 31 163 [some (.inr (.inr 1)), some (.inr (.inr u)), some (.inl (cl : Int)), some (.inl (k : Int)), some (.inl (F : Int)), some (.inl x5), some (.inl (M1 1 1 - (F : Int)))] [] (ab_w M1 1 2 c) (fun r M' => r = none ∧ pu_str t M' ∧ pa_o31 k (pa_n1 T n (pa_lo cl k) (pa_hi S cl k (a 0)) (pa_ag S cl k (a 0)) p) M M') := by
        intro c hc0 e
        have s2 : pu_str t (ab_w M1 1 2 c) := str_w s1 rfl
        refine b31_163 (by omega) s2 hu ?_
        rw [ab_w_eq, Int.toNat_natCast]
        refine ⟨by omega, fun _ => ⟨rfl, str_w (str_a s2 rfl) rfl, ?_⟩, fun q => absurd q hc0⟩
        rw [e]
        refine ⟨fun c' f h1 h2 => ?_, ?_, ?_⟩
        · rw [w_ne (by omega), w_ne (by omega), w_ne (by omega)]
          exact fr c' f (by omega)
        · show ab_w _ 1 1 _ 1 2 = c
          rw [w_ne (by omega), w_ne (by omega), ab_w_eq]
        · show ab_w _ 1 1 _ 1 1 = _
          rw [ab_w_eq]
      have bad2 : pa_n1 T n (pa_lo cl k) (pa_hi S cl k (a 0)) (pa_ag S cl k (a 0)) p = .inl (2, F) → ab_wp d 31 138 [some (.inr (.inr 1)), some (.inr (.inr u)), some (.inl (cl : Int)), some (.inl (k : Int)), some (.inl (F : Int)), some (.inl x5), some (.inl (M1 1 1 - (F : Int)))] [] M1 (fun r M' => r = none ∧ pu_str t M' ∧ pa_o31 k (pa_n1 T n (pa_lo cl k) (pa_hi S cl k (a 0)) (pa_ag S cl k (a 0)) p) M M') := fun e => b31_138 (by omega) s1 hu (bad 2 (by decide) e)
      have n1 : pa_n1 T n (pa_lo cl k) (pa_hi S cl k (a 0)) (pa_ag S cl k (a 0)) p = if i = F then .inl (1, F) else if 3 < i - F ∨ pa_pv T F (i - F) < pa_lo cl k ∨ pa_hi S cl k (a 0) < pa_pv T F (i - F) then .inl (2, F) else if pa_ag S cl k (a 0) (pa_pv T F (i - F)) = true then .inl (4, F) else .inr (pa_pv T F (i - F), i) := by
        unfold pa_n1
        rw [eF, hdg]
      refine ⟨by omega, fun q => ⟨fun z => bad2 ?_, fun z => ?_⟩, fun q => bad 1 (by decide) ?_⟩
      · rw [n1, if_neg (by omega), if_pos (Or.inl (by omega))]
      · have e6 : x5 = pa_pv T F (i - F) := by
          rw [e5]
          by_cases c : i - F < 3
          · rw [if_pos c]
          · rw [if_neg c, show i - F = 3 from by omega]
        have rg := pv_rg (T := T) (f := F) (i - F) hdig (by omega)
        refine ⟨_, _, s32 (by omega) s1 hc, s1, fun y => bad2 ?_, fun y => ⟨_, _, s33 (by omega) s1 hu rc1 ho hc hk (a := a 0) (fun _ k0 => ?_), s1, fun x => ?_, fun x => bad2 ?_⟩⟩
        · rw [n1, if_neg (by omega), if_pos (Or.inr (Or.inl (by omega)))]
        · have := ha k0
          rw [fr 4 0 (by omega)]
          exact ⟨this.1, by omega⟩
        · refine ⟨_, _, s34 (by omega) s1 hu rc1 ho hc (a := a 0) (fun k0 => ?_) ⟨by omega, x⟩, s1, fun v => ?_, fun v => bad 4 (by decide) ?_⟩
          · have := ha k0
            rw [fr 4 0 (by omega)]
            exact this
          · have nag : ¬ pa_ag S cl k (a 0) x5 = true := by
              intro o
              rw [if_pos o] at v
              exact absurd v (by decide)
            refine b31_163 (by omega) s1 hu ?_
            rw [Int.toNat_natCast]
            refine ⟨by omega, fun o => absurd m12 o, fun _ => ⟨rfl, str_w (str_a s1 rfl) rfl, ?_⟩⟩
            rw [n1, if_neg (by omega), if_neg (by omega), ← e6, if_neg nag]
            refine ⟨fun c' f h1 h2 => ?_, ?_, ?_, ?_⟩
            · rw [w_ne (by omega), w_ne (by omega)]
              exact fr c' f (by omega)
            · show ab_w _ 1 1 _ 1 2 = 0
              rw [w_ne (by omega), w_ne (by omega)]
              exact m12
            · show ab_w _ 1 1 _ 1 1 = _
              rw [ab_w_eq]
              exact m1
            · show ab_w _ 1 1 _ 4 k = x5
              rw [w_ne (by omega), ab_w_eq]
          · have yag : pa_ag S cl k (a 0) x5 = true := by
              apply Classical.byContradiction
              intro o
              rw [if_neg o] at v
              exact v rfl
            rw [n1, if_neg (by omega), if_neg (by omega), ← e6, if_pos yag]
        · rw [n1, if_neg (by omega), if_pos (Or.inr (Or.inr (by omega)))]
      · rw [n1, if_pos (by omega)]
    have key : ∀ (r i : Nat) (M1 : ab_M), i + r = n → F ≤ i → pu_str t M1 → (∀ c f : Nat, ¬ (c = 1 ∧ f = 1) → M1 c f = M c f) → M1 1 1 = (i : Int) → (∀ j, j < i - F → 48 ≤ T (F + j) ∧ T (F + j) ≤ 57) → pa_dg T n i = pa_dg T n F →
        ab_wp d 31 13 [some (.inr (.inr 1)), some (.inr (.inr u)), some (.inl (cl : Int)), some (.inl (k : Int)), some (.inl (F : Int)), some (.inl (pa_pv T F (if i - F < 3 then i - F else 3))), none] [] M1 (fun r M' => r = none ∧ pu_str t M' ∧ pa_o31 k (pa_n1 T n (pa_lo cl k) (pa_hi S cl k (a 0)) (pa_ag S cl k (a 0)) p) M M') := by
      intro r
      induction r with
      | zero =>
        intro i M1 hi hFi s1 fr m1 hdig hdg
        have r0 : M1 1 0 = (n : Int) := (fr 1 0 (by omega)).trans h0
        have ed : pa_dg T n i = i := by rw [dg_e, if_neg (by omega)]
        exact b31_13 (by omega) s1 hu ⟨fun _ => tail i M1 _ hFi (by omega) s1 fr m1 hdig (by omega) rfl, fun q => by omega⟩
      | succ r ih =>
        intro i M1 hi hFi s1 fr m1 hdig hdg
        have r0 : M1 1 0 = (n : Int) := (fr 1 0 (by omega)).trans h0
        have Ti := hT i (by omega)
        have r2 : M1 2 i = T i := (fr 2 i (by omega)).trans Ti.1
        have w30 := s30 (d := d - 1) (by omega) s1 (T i)
        refine b31_13 (by omega) s1 hu ⟨fun q => by omega, fun _ => ?_⟩
        rw [m1, Int.toNat_natCast, r2]
        by_cases c : 48 ≤ T i ∧ T i ≤ 57
        · rw [if_pos c] at w30
          have ed : pa_dg T n i = pa_dg T n (i + 1) := by
            have := dg_e T n i
            rw [if_pos ⟨by omega, c⟩] at this
            exact this
          have hd2 : ∀ j, j < i + 1 - F → 48 ≤ T (F + j) ∧ T (F + j) ≤ 57 := by
            intro j hj
            by_cases e : j = i - F
            · rw [e, show F + (i - F) = i from by omega]; exact c
            · exact hdig j (by omega)
          have g := ih (i + 1) (ab_w M1 1 1 ((i : Int) + 1)) (by omega) (by omega) (str_w s1 rfl) (fun c f q => by rw [w_ne q]; exact fr c f q) (by rw [ab_w_eq, Int.natCast_succ]) hd2 (by omega)
          refine ⟨by omega, (1 : Int), M1, w30, s1, fun q => absurd q (by decide), fun _ => ?_⟩
          rw [m1, Int.toNat_natCast, r2]
          refine ⟨by omega, fun q => ⟨by omega, ?_⟩, fun q => ?_⟩
          · rw [show (if i + 1 - F < 3 then i + 1 - F else 3) = (if i - F < 3 then i - F else 3) from by rw [if_neg (by omega), if_neg (by omega)]] at g
            exact g
          · have pr := pv_rg (T := T) (f := F) (i - F) hdig (by omega)
            have e1 : (if i - F < 3 then i - F else 3) = i - F := if_pos (by omega)
            have e2 : (if i + 1 - F < 3 then i + 1 - F else 3) = (i - F) + 1 := by
              by_cases c3 : i + 1 - F < 3
              · rw [if_pos c3]; omega
              · rw [if_neg c3]; omega
            rw [e2, pv_s, show F + (i - F) = i from by omega] at g
            rw [e1]
            exact ⟨by omega, by omega, by omega, by omega, by omega, g⟩
        · rw [if_neg c] at w30
          have ed : pa_dg T n i = i := by rw [dg_e, if_neg (fun z => c z.2)]
          have tl := tail i M1 _ hFi (by omega) s1 fr m1 hdig (by omega) rfl
          rw [m1] at tl
          refine ⟨by omega, (0 : Int), M1, w30, s1, fun _ => ?_, fun q => absurd rfl q⟩
          rw [m1]
          exact tl
    have g := key (n - F) F (ab_w M 1 1 (F : Int)) (by omega) (Nat.le_refl _) (str_w hS rfl) (fun c f q => w_ne q) (ab_w_eq _ _ _ _) (fun j hj => by omega) rfl
    rw [show (if F - F < 3 then F - F else 3) = 0 from by rw [Nat.sub_self]; rfl] at g
    exact g
  obtain ⟨r, M', e, rfl, h1, h2⟩ := wp_ev w
  exact ⟨M', e, h1, h2⟩
