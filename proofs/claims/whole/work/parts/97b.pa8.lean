theorem ar_rows {u : Nat} (hu : pu_T u) : (∀ a : Nat, a < 7 → ab_arB 20 (u + 2 + a) 7 = true) ∧ (∀ a : Nat, a < 6 → ab_arB 20 (u + 25 + a) 6 = true) ∧ ab_arB 20 (u + 23) 6 = true := by
  have e1 : ∀ a : Fin 7, ab_arB 20 (5 + 2 + a.val) 7 = true ∧ ab_arB 20 (37 + 2 + a.val) 7 = true := by decide
  have e2 : ∀ a : Fin 6, ab_arB 20 (5 + 25 + a.val) 6 = true ∧ ab_arB 20 (37 + 25 + a.val) 6 = true := by decide
  have hu' : u = 5 ∨ u = 37 := hu
  rcases hu' with rfl | rfl
  · exact ⟨fun a ha => (e1 ⟨a, ha⟩).1, fun a ha => (e2 ⟨a, ha⟩).1, by decide⟩
  · exact ⟨fun a ha => (e1 ⟨a, ha⟩).2, fun a ha => (e2 ⟨a, ha⟩).2, by decide⟩
theorem s50 {d t u : Nat} {M : ab_M} (hd : 2 ≤ d) (hS : pu_str t M) (hu : pu_T u) : ∃ M', ab_ev d 50 [.inr (.inr u)] M none M' ∧ pu_str t M' ∧ pa_rc u pa_S0 M' ∧ (∀ c f : Nat, ¬ (u ≤ c ∧ c ≤ u + 31) → M' c f = M c f) := by
  have hu' : u = 5 ∨ u = 37 := hu
  obtain ⟨ar1, ar2, ar3⟩ := ar_rows hu
  have w : ab_wp d 50 0 (ab_ent [.inr (.inr u)] (ab_mx 50)) [] M (fun r M' => r = none ∧ pu_str t M' ∧ pa_rc u pa_S0 M' ∧ (∀ c f : Nat, ¬ (u ≤ c ∧ c ≤ u + 31) → M' c f = M c f)) := by
    refine b50_0 (by omega) hS hu ?_
    have s1 : pu_str t (ab_w (ab_w (ab_w (ab_w (ab_w M u 0 0) u 1 (-1)) u 2 0) u 3 0) u 4 0) := str_w (str_w (str_w (str_w (str_w hS (fT (P := fun z => pu_nr z 0 = true) hu rfl rfl)) (fT (P := fun z => pu_nr z 1 = true) hu rfl rfl)) (fT (P := fun z => pu_nr z 2 = true) hu rfl rfl)) (fT (P := fun z => pu_nr z 3 = true) hu rfl rfl)) (fT (P := fun z => pu_nr z 4 = true) hu rfl rfl)
    refine loop_up (P := fun k => ∀ M1, pu_str t M1 → (∀ c f : Nat, ¬ (u ≤ c ∧ c ≤ u + 31) → M1 c f = M c f) → (M1 u 0 = 0 ∧ M1 u 1 = -1 ∧ M1 u 2 = 0 ∧ M1 u 3 = 0 ∧ M1 u 4 = 0) → (∀ a b : Nat, a < k → b < 7 → M1 (u + 2 + a) b = -1) → ab_wp d 50 27 [some (.inr (.inr u)), some (.inl (k : Int))] [] M1 _) 7 ?_ ?_ 0 (by omega) _ s1 (fun c f q => by rw [w_ne (by omega), w_ne (by omega), w_ne (by omega), w_ne (by omega), w_ne (by omega)]) ⟨by rw [w_ne (by omega), w_ne (by omega), w_ne (by omega), w_ne (by omega), ab_w_eq], by rw [w_ne (by omega), w_ne (by omega), w_ne (by omega), ab_w_eq], by rw [w_ne (by omega), w_ne (by omega), ab_w_eq], by rw [w_ne (by omega), ab_w_eq], ab_w_eq _ _ _ _⟩ (fun a b q => by omega)
    · intro M1 s1 fr f1 w1
      refine b50_27 (by omega) s1 hu ⟨fun _ => ?_, fun q => by omega⟩
      refine loop_up (P := fun k => ∀ M1, pu_str t M1 → (∀ c f : Nat, ¬ (u ≤ c ∧ c ≤ u + 31) → M1 c f = M c f) → (M1 u 0 = 0 ∧ M1 u 1 = -1 ∧ M1 u 2 = 0 ∧ M1 u 3 = 0 ∧ M1 u 4 = 0) → (∀ a b : Nat, a < 7 → b < 7 → M1 (u + 2 + a) b = -1) → (∀ a b : Nat, a < k → b < 6 → M1 (u + 25 + a) b = -1) → ab_wp d 50 51 [some (.inr (.inr u)), some (.inl (k : Int))] [] M1 _) 6 ?_ ?_ 0 (by omega) M1 s1 fr f1 w1 (fun a b q => by omega)
      · intro M1 s1 fr f1 w1 o1
        have na : pu_na (u + 23) = true := fT (P := fun z => pu_na (z + 23) = true) hu rfl rfl
        refine b50_51 (by omega) s1 hu ⟨fun _ => ⟨_, s193 (by omega) s1 (u + 23) 6 (-1) ar3 na (by omega), str_fil _ _ s1 na, rfl, str_fil _ _ s1 na, ?_, fun c f q => by rw [fil_r (by omega)]; exact fr c f q⟩, fun q => by omega⟩
        refine ⟨⟨?_, ?_, ?_, ?_, ?_⟩, fun a b ha hb => ?_, fun p hp => ?_, fun i hi => ?_, fun i hi => ?_, fun a b ha hb => ?_, fun o ho => ?_⟩
        · rw [fil_r (by omega), f1.1]; rfl
        · rw [fil_r (by omega), f1.2.1]; rfl
        · rw [fil_r (by omega), f1.2.2.1]; rfl
        · rw [fil_r (by omega), f1.2.2.2.1]; rfl
        · rw [fil_r (by omega), f1.2.2.2.2]; rfl
        · rw [fil_r (by omega), w1 a b ha hb]; rfl
        · have : (p : Int) < 0 := hp
          omega
        · have : (i : Int) < 0 := hi
          omega
        · rw [fil_s hi]; rfl
        · rw [fil_r (by omega), o1 a b ha hb]; rfl
        · have : (o : Int) < 0 := ho
          omega
      · intro k hk ih M1 s1 fr f1 w1 o1
        rw [Int.natCast_succ] at ih
        have na := row_na25 hu hk
        refine b50_51 (by omega) s1 hu ⟨fun q => by omega, fun _ => ⟨by omega, _, by rw [Int.toNat_natCast]; exact s193 (by omega) s1 (u + 25 + k) 6 (-1) (ar2 k hk) na (by omega), str_fil _ _ s1 na, by omega, ih _ (str_fil _ _ s1 na) (fun c f q => by rw [fil_r (by omega)]; exact fr c f q) ?_ (fun a b ha hb => by rw [fil_r (by omega)]; exact w1 a b ha hb) (fun a b ha hb => ?_)⟩⟩
        · rw [fil_r (by omega), fil_r (by omega), fil_r (by omega), fil_r (by omega), fil_r (by omega)]; exact f1
        · by_cases c : a = k
          · rw [c, fil_s hb]
          · rw [fil_r (by omega)]; exact o1 a b (by omega) hb
    · intro k hk ih M1 s1 fr f1 w1
      rw [Int.natCast_succ] at ih
      have na := row_na2 hu hk
      refine b50_27 (by omega) s1 hu ⟨fun q => by omega, fun _ => ⟨by omega, _, by rw [Int.toNat_natCast]; exact s193 (by omega) s1 (u + 2 + k) 7 (-1) (ar1 k hk) na (by omega), str_fil _ _ s1 na, by omega, ih _ (str_fil _ _ s1 na) (fun c f q => by rw [fil_r (by omega)]; exact fr c f q) ?_ (fun a b ha hb => ?_)⟩⟩
      · rw [fil_r (by omega), fil_r (by omega), fil_r (by omega), fil_r (by omega), fil_r (by omega)]; exact f1
      · by_cases c : a = k
        · rw [c, fil_s hb]
        · rw [fil_r (by omega)]; exact w1 a b (by omega) hb
  obtain ⟨r, M', e, rfl, h1, h2, h3⟩ := wp_ev w
  exact ⟨M', e, h1, h2, h3⟩
theorem S0_ok : pa_ok pa_S0 := by
  have z : ∀ f, f ≠ 1 → pa_S0 0 f = 0 := by
    intro f hf
    show (if f = 1 then (-1 : Int) else 0) = 0
    rw [if_neg hf]
  have m : pa_S0 0 1 = -1 := rfl
  have w : ∀ f, pa_S0 1 f = -1 := fun f => rfl
  have q4 : ∀ f, pa_S0 4 f = -1 := fun f => rfl
  have q5 : ∀ f, pa_S0 5 f = -1 := fun f => rfl
  unfold pa_ok
  rw [z 0 (by decide), z 2 (by decide), z 3 (by decide), z 4 (by decide), z 5 (by decide), z 6 (by decide), z 7 (by decide), m]
  refine ⟨by omega, by omega, by omega, by omega, by omega, by omega, by omega, fun _ => by omega, fun q => by omega, fun a b _ _ => Or.inl (w _), fun p hp => by omega, fun i hi => by omega, fun i _ => q4 _, fun a b _ _ => ?_, fun o ho => by omega⟩
  rw [q5]
  omega
def pa_o26 (u : Nat) (z : (Int × Nat) ⊕ ab_M) (r : Int) (M M' : ab_M) : Prop := pa_fm u M M' ∧ (match z with
  | .inl e => r = e.1 ∧ M' 1 1 = ((e.2 : Nat) : Int)
  | .inr S => r = 0 ∧ pa_rc u S M')
theorem s26 {d t u n : Nat} {T : Nat → Int} {M : ab_M} (hd : 9 ≤ d) (hS : pu_str t M) (hu : pu_T u) (ht : pa_tx T n M) : ∃ M' r, ab_ev d 26 [.inr (.inr 1), .inr (.inr u)] M (some (.inl r)) M' ∧ pu_str t M' ∧ pa_o26 u (pa_run T n 250 pa_S0 (pa_sk T n 0)) r M M' := by
  have hu' : u = 5 ∨ u = 37 := hu
  have w : ab_wp d 26 0 (ab_ent [.inr (.inr 1), .inr (.inr u)] (ab_mx 26)) [] M (fun r' M' => ∃ r, r' = some (.inl r) ∧ pu_str t M' ∧ pa_o26 u (pa_run T n 250 pa_S0 (pa_sk T n 0)) r M M') := by
    have s1 : pu_str t (ab_w (ab_w M 1 1 0) 1 2 0) := str_w (str_w hS rfl) rfl
    have s2 : pu_str t (pu_fil (ab_w (ab_w M 1 1 0) 1 2 0) 3 7 0) := str_fil _ _ s1 rfl
    obtain ⟨M3, e3, s3, rc3, f3⟩ := s50 (d := d - 1) (by omega) s2 hu
    have g3 : ∀ c f : Nat, c < 5 → M3 c f = pu_fil (ab_w (ab_w M 1 1 0) 1 2 0) 3 7 0 c f := fun c f q => f3 c f (by omega)
    have t3 : pa_tx T n M3 := tx_w ht (by rw [g3 1 0 (by omega), fil_r (by omega), w_ne (by omega), w_ne (by omega)]) (fun j => by rw [g3 2 j (by omega), fil_r (by omega), w_ne (by omega), w_ne (by omega)])
    have m3 : M3 1 1 = ((0 : Nat) : Int) := by rw [g3 1 1 (by omega), fil_r (by omega), w_ne (by omega), ab_w_eq]; rfl
    have w27 := s27e (d := d - 1) (by omega) s3 t3 m3 (Nat.zero_le _)
    refine b26_0 (by omega) hS hu ⟨_, s193 (by omega) s1 3 7 0 rfl rfl (by omega), s2, M3, e3, s3, _, w27, str_w s3 rfl, ?_⟩
    have key : ∀ (f k i : Nat) (S M1 : ab_M), k + f = 250 → pu_str t M1 → pa_fm u M M1 → pa_rc u S M1 → pa_cn S M1 k → pa_ok S → M1 1 1 = (i : Int) → i ≤ n → M1 1 2 = 0 → pa_run T n f S i = pa_run T n 250 pa_S0 (pa_sk T n 0) → ab_wp d 26 28 [some (.inr (.inr 1)), some (.inr (.inr u)), some (.inl (k : Int))] [] M1 (fun r' M' => ∃ r, r' = some (.inl r) ∧ pu_str t M' ∧ pa_o26 u (pa_run T n 250 pa_S0 (pa_sk T n 0)) r M M') := by
      intro f
      induction f with
      | zero =>
        intro k i S M1 hk s1 fr rc cn ok m1 hin m12 er
        have er : pa_run T n 250 pa_S0 (pa_sk T n 0) = .inr S := er.symm
        refine b26_28 (by omega) s1 hu ⟨fun _ => ⟨0, by rw [m12], s1, ?_⟩, fun q => by omega⟩
        rw [er]
        exact ⟨fr, rfl, rc⟩
      | succ f ih =>
        intro k i S M1 hk s1 fr rc cn ok m1 hin m12 er
        have t1 : pa_tx T n M1 := tx_w ht (fr 1 0 (by omega) (by omega) (by omega) (by omega)) (fun j => fr 2 j (by omega) (by omega) (by omega) (by omega))
        have r10 : M1 1 0 = (n : Int) := t1.2.1
        rw [run_s] at er
        refine b26_28 (by omega) s1 hu ⟨fun q => by omega, fun _ => ?_⟩
        rw [m1, r10]
        refine ⟨fun q => ⟨0, by rw [m12], s1, ?_⟩, fun q => ⟨fun z => absurd m12 z, fun _ => ?_⟩⟩
        · rw [if_pos (by omega)] at er
          rw [← er]
          exact ⟨fr, rfl, rc⟩
        · rw [if_neg (by omega)] at er
          obtain ⟨M2, e2, s2, o2⟩ := s28 (d := d - 1) (kk := k) (by omega) s1 hu t1 rc ok cn (by omega) m1 (by omega) m12
          refine ⟨M2, e2, s2, by omega, ?_⟩
          have trf : pa_fm u M1 M2 → pa_fm u M M2 := fun h c f a1 a2 a3 a4 => (h c f a1 a2 a3 a4).trans (fr c f a1 a2 a3 a4)
          cases q2 : pa_stp T n S i with
          | inl e =>
            rw [q2] at er o2
            have er : pa_run T n 250 pa_S0 (pa_sk T n 0) = .inl e := er.symm
            obtain ⟨b0, b1, b2⟩ := o2
            have ne := stp_inl q2 (by omega)
            have t2 : M2 1 0 = (n : Int) := (b0 1 0 (by omega) (by omega) (by omega) (by omega)).trans r10
            have res : ∃ r, some (Sum.inl (M2 1 2)) = some (Sum.inl r : ab_V) ∧ pu_str t M2 ∧ pa_o26 u (pa_run T n 250 pa_S0 (pa_sk T n 0)) r M M2 := by
              refine ⟨_, rfl, s2, ?_⟩
              rw [er]
              exact ⟨trf b0, b1, b2⟩
            exact b26_28 (by omega) s2 hu ⟨fun _ => res, fun _ => ⟨fun _ => res, fun _ => ⟨fun _ => res, fun z => by omega⟩⟩⟩
          | inr z =>
            rw [q2] at er o2
            obtain ⟨b0, b1, b2, b3, b4⟩ := o2
            have iv := stp_inr q2 (by omega) ok
            have g := ih (k + 1) z.2 z.1 M2 (by omega) s2 (trf b0) b3 b4 iv.2.2.1 b2 iv.2.1 b1 er
            rw [Int.natCast_succ] at g
            exact g
    have sg := sk_rg T n 0
    refine key 250 0 (pa_sk T n 0) pa_S0 (ab_w M3 1 1 ((pa_sk T n 0 : Nat) : Int)) (by omega) (str_w s3 rfl) (fun c f a1 a2 a3 a4 => ?_) (rc_fr rc3 (fun k f a b => w_ne (by omega))) ?_ S0_ok (ab_w_eq _ _ _ _) (sg.2 (Nat.zero_le _)) ?_ rfl
    · rw [w_ne (by omega), f3 c f a4, fil_r (by omega), w_ne (by omega), w_ne (by omega)]
    · have e : ∀ j : Nat, j < 7 → ab_w M3 1 1 ((pa_sk T n 0 : Nat) : Int) 3 j = 0 := fun j hj => by rw [w_ne (by omega), g3 3 j (by omega), fil_s hj]
      unfold pa_cn
      rw [e 0 (by omega), e 1 (by omega), e 2 (by omega), e 3 (by omega), e 4 (by omega), e 5 (by omega), e 6 (by omega)]
      exact ⟨rfl, rfl, rfl, rfl, by omega, rfl, rfl⟩
    · rw [w_ne (by omega), g3 1 2 (by omega), fil_r (by omega), ab_w_eq]
  obtain ⟨r', M', e, r, rfl, h1, h2⟩ := wp_ev w
  exact ⟨M', r, e, h1, h2⟩
