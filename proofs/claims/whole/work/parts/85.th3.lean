theorem i_inj {p w v p' w' v' : Nat} (hw : w < 7) (hv : v < 2) (hw' : w' < 7) (hv' : v' < 2) (e : th_i p w v = th_i p' w' v') : p = p' ∧ w = w' ∧ v = v' := by
  unfold th_i at e
  omega
/-- at level L + 1, before place (p, w, v): what is behind is decided for L + 1, the rest for L -/
def th_at (t : Nat) (A : ab_M) (g L p w v : Nat) (a : Int) (M : ab_M) : Prop := ∀ p' w' v' : Nat, p' < th_n t A → w' < th_n t A → v' < 2 → ((th_i p' w' v' < th_i p w v → th_s t A g (L + 1) p' w' v' (M 99 (th_i p' w' v')) (M 100 (th_i p' w' v')) ∧ (a = 0 → M 99 (th_i p' w' v') ≠ 0 → M 100 (th_i p' w' v') ≤ (L : Int))) ∧ (¬ th_i p' w' v' < th_i p w v → th_s t A g L p' w' v' (M 99 (th_i p' w' v')) (M 100 (th_i p' w' v'))))
theorem at_h {t : Nat} {A : ab_M} {g L p w v : Nat} {a : Int} {M : ab_M} (h : th_at t A g L p w v a M) : ∀ p' w' v' : Nat, p' < th_n t A → w' < th_n t A → v' < 2 → th_h t A g L p' w' v' (M 99 (th_i p' w' v')) (M 100 (th_i p' w' v')) := by
  intro p' w' v' hp hw hv
  by_cases c : th_i p' w' v' < th_i p w v
  · exact Or.inr ((h p' w' v' hp hw hv).1 c).1
  · exact Or.inl ((h p' w' v' hp hw hv).2 c)
theorem at_step {t : Nat} {A : ab_M} (hn : th_n t A ≤ 7) {g L p w v : Nat} {a r : Int} {M M' : ab_M} (hp : p < th_n t A) (hw : w < th_n t A) (hv : v < 2) (h : th_at t A g L p w v a M) (ha : a = 0 ∨ a = 1) (hr : r = 0 ∨ r = 1)
    (fr : ∀ k f : Nat, ¬ ((k = 99 ∨ k = 100) ∧ f = th_i p w v) → M' k f = M k f) (hs : th_s t A g (L + 1) p w v (M' 99 (th_i p w v)) (M' 100 (th_i p w v))) (h0 : r = 0 → M' 99 (th_i p w v) ≠ 0 → M' 100 (th_i p w v) ≤ (L : Int)) :
    (ab_or a r = 0 ∨ ab_or a r = 1) ∧ ∀ p2 w2 v2, th_i p2 w2 v2 = th_i p w v + 1 → th_at t A g L p2 w2 v2 (ab_or a r) M' := by
  obtain ⟨_, ⟨b1, b2, b3, b4⟩⟩ := bit_tab
  have oz : ab_or a r = 0 → a = 0 ∧ r = 0 := by
    rcases ha with rfl | rfl <;> rcases hr with rfl | rfl
    · intro _; exact ⟨rfl, rfl⟩
    · rw [b2]; intro q; omega
    · rw [b3]; intro q; omega
    · rw [b4]; intro q; omega
  refine ⟨?_, ?_⟩
  · rcases ha with rfl | rfl <;> rcases hr with rfl | rfl
    · exact Or.inl b1
    · exact Or.inr b2
    · exact Or.inr b3
    · exact Or.inr b4
  · intro p2 w2 v2 e p' w' v' hp' hw' hv'
    rw [e]
    by_cases c : th_i p' w' v' = th_i p w v
    · obtain ⟨rfl, rfl, rfl⟩ := i_inj (by omega) hv' (by omega) hv c
      exact ⟨fun _ => ⟨hs, fun z => h0 (oz z).2⟩, fun q => by omega⟩
    · rw [fr 99 _ (by omega), fr 100 _ (by omega)]
      have g := h p' w' v' hp' hw' hv'
      exact ⟨fun q => ⟨(g.1 (by omega)).1, fun z => (g.1 (by omega)).2 (oz z).1⟩, fun q => g.2 (by omega)⟩
theorem s10 {d t : Nat} {A M : ab_M} (hd : 4 ≤ d) (h : pu_at t A M) {g L : Nat} (hL : L < 200) (hall : ∀ p w v : Nat, p < th_n t A → w < th_n t A → v < 2 → th_s t A g L p w v (M 99 (th_i p w v)) (M 100 (th_i p w v))) :
    ∃ M' r, ab_ev d 10 [.inr (.inr 98), .inr (.inr t), .inl ((L : Int) + 1)] M (some (.inl r)) M' ∧ pu_at t A M' ∧ (∀ p w v : Nat, p < th_n t A → w < th_n t A → v < 2 → th_s t A g (L + 1) p w v (M' 99 (th_i p w v)) (M' 100 (th_i p w v)) ∧ (r = 0 → M' 99 (th_i p w v) ≠ 0 → M' 100 (th_i p w v) ≤ (L : Int))) := by
  have ht : t = 5 ∨ t = 37 := h.2.1.2.2.1
  have t1 := h.1.2.1.1
  have hn : th_n t A ≤ 7 := by unfold th_n; omega
  have wd : ab_wp d 10 0 (ab_ent [.inr (.inr 98), .inr (.inr t), .inl ((L : Int) + 1)] (ab_mx 10)) [] M (fun r' M' => ∃ r, r' = some (.inl r) ∧ pu_at t A M' ∧ (∀ p w v : Nat, p < th_n t A → w < th_n t A → v < 2 → th_s t A g (L + 1) p w v (M' 99 (th_i p w v)) (M' 100 (th_i p w v)) ∧ (r = 0 → M' 99 (th_i p w v) ≠ 0 → M' 100 (th_i p w v) ≤ (L : Int)))) := by
    refine b10_0 (by omega) h.2.1 h.2.1.2.2.1 ?_
    refine loop_up (P := fun p => ∀ (a : Int) M1 y5, (a = 0 ∨ a = 1) → pu_at t A M1 → th_at t A g L p 0 0 a M1 → ab_wp d 10 5 [some (.inr (.inr 98)), some (.inr (.inr t)), some (.inl ((L : Int) + 1)), some (.inl a), some (.inl (p : Int)), y5] [] M1 _) (th_n t A) ?_ ?_ 0 (by omega) 0 M _ (Or.inl rfl) h (fun p' w' v' hp hw hv => ⟨fun q => by unfold th_i at q; omega, fun _ => hall p' w' v' hp hw hv⟩)
    · intro a M1 y5 ha a1 hat
      have r0 : M1 t 0 = A t 0 := at_r a1 t 0 (by omega)
      refine b10_5 (by omega) a1.2.1 a1.2.1.2.2.1 ⟨fun _ => ⟨ha, a, rfl, a1, fun p w v hp hw hv => ?_⟩, fun q => by unfold th_n at q; omega⟩
      exact (hat p w v hp hw hv).1 (by unfold th_i; omega)
    · intro p hp ih a M1 y5 ha a1 hat
      have r0 : M1 t 0 = A t 0 := at_r a1 t 0 (by omega)
      rw [Int.natCast_succ] at ih
      have hp' : (p : Int) < A t 0 := by unfold th_n at hp; omega
      refine b10_5 (by omega) a1.2.1 a1.2.1.2.2.1 ⟨fun q => by omega, fun _ => ?_⟩
      refine loop_up (P := fun w => ∀ (a : Int) M1, (a = 0 ∨ a = 1) → pu_at t A M1 → th_at t A g L p w 0 a M1 → ab_wp d 10 17 [some (.inr (.inr 98)), some (.inr (.inr t)), some (.inl ((L : Int) + 1)), some (.inl a), some (.inl (p : Int)), some (.inl (w : Int))] [] M1 _) (th_n t A) ?_ ?_ 0 (by omega) a M1 ha a1 hat
      · intro a M1 ha a1 hat
        have r0 : M1 t 0 = A t 0 := at_r a1 t 0 (by omega)
        refine b10_17 (by omega) a1.2.1 a1.2.1.2.2.1 ⟨fun _ => ⟨by omega, ih _ _ _ ha a1 (fun p' w' v' hp2 hw2 hv2 => ?_)⟩, fun q => by unfold th_n at q; omega⟩
        have g1 := hat p' w' v' hp2 hw2 hv2
        by_cases c : th_i p' w' v' < th_i p (th_n t A) 0
        · exact ⟨fun _ => g1.1 c, fun q => by unfold th_i at q c; omega⟩
        · exact ⟨fun q => by unfold th_i at q c; omega, fun _ => g1.2 c⟩
      · intro w hw ihw a M1 ha a1 hat
        have r0 : M1 t 0 = A t 0 := at_r a1 t 0 (by omega)
        rw [Int.natCast_succ] at ihw
        have hw' : (w : Int) < A t 0 := by unfold th_n at hw; omega
        obtain ⟨M2, r2, e2, a2, f2, s2, k2, z2⟩ := s11 (d := d - 1) (by omega) a1 (g := g) (L := L) (p := p) (w := w) (v := 0) hp hw (by omega) hL (at_h hat) ((hat p w 0 hp hw (by omega)).2 (by omega))
        obtain ⟨o2, hat2⟩ := at_step hn hp hw (by omega) hat ha k2 f2 s2 z2
        have hat2 := hat2 p w 1 (by unfold th_i; omega)
        obtain ⟨M3, r3, e3, a3, f3, s3, k3, z3⟩ := s11 (d := d - 1) (by omega) a2 (g := g) (L := L) (p := p) (w := w) (v := 1) hp hw (by omega) hL (at_h hat2) ((hat2 p w 1 hp hw (by omega)).2 (by omega))
        obtain ⟨o3, hat3⟩ := at_step hn hp hw (by omega) hat2 o2 k3 f3 s3 z3
        have hat3 := hat3 p (w + 1) 0 (by unfold th_i; omega)
        exact b10_17 (by omega) a1.2.1 a1.2.1.2.2.1 ⟨fun q => by omega, fun _ => ⟨r2, M2, e2, a2.2.1, r3, M3, e3, a3.2.1, by omega, ihw _ _ o3 a3 hat3⟩⟩
  obtain ⟨r', M', e, r, rfl, h1, h2⟩ := wp_ev wd
  exact ⟨M', r, e, h1, h2⟩
/-- how it ends, in the end -/
def th_f (t : Nat) (A : ab_M) (g p w : Nat) (e m : Int) : Prop := ((e = 1 ∨ e = 2) ∧ (0 ≤ m ∧ m ≤ 1000) ∧ th_p t A g e m.toNat p w 0 ∧ ∀ k : Nat, th_p t A g e k p w 0 → m ≤ (k : Int)) ∨ (e = 0 ∧ ∀ k, ¬ th_p t A g 1 k p w 0 ∧ ¬ th_p t A g 2 k p w 0)
theorem e_stable {n g L : Nat} {ld : Nat → Nat → Prop} (hs : ∀ p w v : Nat, p < n → w < n → v < 2 → th_e n g ld (L + 1) p w v → th_e n g ld L p w v) : ∀ k p w v : Nat, p < n → w < n → v < 2 → th_e n g ld (L + k) p w v → th_e n g ld L p w v := by
  intro k
  induction k with
  | zero => intro p w v _ _ _ h; exact h
  | succ k ih =>
    intro p w v hp hw hv h
    refine hs p w v hp hw hv ?_
    rcases h with h | ⟨h1, h2, h3, h4⟩
    · exact Or.inl h
    · refine Or.inr ⟨h1, h2, fun q => ?_, fun q to a b => ih p to 0 hp a (by omega) (h4 q to a b)⟩
      obtain ⟨to, a, b, c⟩ := h3 q
      exact ⟨to, a, b, ih to w 1 a hw (by omega) c⟩
theorem c_stable {n g L : Nat} {ld : Nat → Nat → Prop} (hs : ∀ p w v : Nat, p < n → w < n → v < 2 → th_c n g ld (L + 1) p w v → th_c n g ld L p w v) : ∀ k p w v : Nat, p < n → w < n → v < 2 → th_c n g ld (L + k) p w v → th_c n g ld L p w v := by
  intro k
  induction k with
  | zero => intro p w v _ _ _ h; exact h
  | succ k ih =>
    intro p w v hp hw hv h
    refine hs p w v hp hw hv ?_
    rcases h with h | ⟨h1, h2, h3, h4⟩
    · exact Or.inl h
    · refine Or.inr ⟨h1, h2, fun q to a b => ih to w 1 a hw (by omega) (h3 q to a b), fun q => ?_⟩
      obtain ⟨to, a, b, c⟩ := h4 q
      exact ⟨to, a, b, ih p to 0 hp a (by omega) c⟩
theorem f_early {t : Nat} {A M : ab_M} {g L : Nat} (hL : L < 200) (hall : ∀ p w v : Nat, p < th_n t A → w < th_n t A → v < 2 → th_s t A g (L + 1) p w v (M 99 (th_i p w v)) (M 100 (th_i p w v)) ∧ (M 99 (th_i p w v) ≠ 0 → M 100 (th_i p w v) ≤ (L : Int))) : ∀ p w : Nat, p < th_n t A → w < th_n t A → th_f t A g p w (M 99 (th_i p w 0)) (M 100 (th_i p w 0)) := by
  have st : ∀ (c : Int), (c = 1 ∨ c = 2) → ∀ p w v : Nat, p < th_n t A → w < th_n t A → v < 2 → th_p t A g c (L + 1) p w v → th_p t A g c L p w v := by
    intro c hc p w v hp hw hv h
    obtain ⟨a1, a2⟩ := hall p w v hp hw hv
    rcases a1 with ⟨s1, s2, s3, s4⟩ | ⟨s1, s2, s3, s4⟩
    · by_cases e : M 99 (th_i p w v) = c
      · rw [e] at s3
        have := a2 (by omega)
        exact p_le s3 (by omega)
      · exact (p_no' s1 hc e s3 h).elim
    · rcases hc with rfl | rfl
      · exact absurd h s3
      · exact absurd h s4
  have stE : ∀ k p w v : Nat, p < th_n t A → w < th_n t A → v < 2 → th_p t A g 1 (L + k) p w v → th_p t A g 1 L p w v := by
    intro k p w v hp hw hv h
    unfold th_p at h ⊢
    rw [if_pos rfl] at h ⊢
    refine e_stable (fun p w v hp hw hv q => ?_) k p w v hp hw hv h
    have := st 1 (Or.inl rfl) p w v hp hw hv (by unfold th_p; rw [if_pos rfl]; exact q)
    unfold th_p at this
    rw [if_pos rfl] at this
    exact this
  have stC : ∀ k p w v : Nat, p < th_n t A → w < th_n t A → v < 2 → th_p t A g 2 (L + k) p w v → th_p t A g 2 L p w v := by
    intro k p w v hp hw hv h
    unfold th_p at h ⊢
    rw [if_neg (by decide)] at h ⊢
    refine c_stable (fun p w v hp hw hv q => ?_) k p w v hp hw hv h
    have := st 2 (Or.inr rfl) p w v hp hw hv (by unfold th_p; rw [if_neg (by decide)]; exact q)
    unfold th_p at this
    rw [if_neg (by decide)] at this
    exact this
  intro p w hp hw
  rcases (hall p w 0 hp hw (by omega)).1 with ⟨s1, s2, s3, s4⟩ | ⟨s1, s2, s3, s4⟩
  · exact Or.inl ⟨s1, by omega, s3, s4⟩
  · refine Or.inr ⟨s1, fun k => ⟨fun q => s3 ?_, fun q => s4 ?_⟩⟩
    · exact p_le (stE k p w 0 hp hw (by omega) (p_le q (by omega))) (by omega)
    · exact p_le (stC k p w 0 hp hw (by omega) (p_le q (by omega))) (by omega)
theorem f_late {t : Nat} {A : ab_M} (h : pu_inv t A) {g p w : Nat} {e m : Int} (hp : p < th_n t A) (hw : w < th_n t A) (hs : th_s t A g 98 p w 0 e m) : th_f t A g p w e m := by
  have t1 := h.2.1.1
  have hn : th_n t A ≤ 7 := by unfold th_n; omega
  have hl : ∀ a, th_ld t A a a := fun a => Or.inl rfl
  rcases hs with ⟨s1, s2, s3, s4⟩ | ⟨s1, s2, s3, s4⟩
  · exact Or.inl ⟨s1, by omega, s3, s4⟩
  · refine Or.inr ⟨s1, fun k => ⟨fun q => s3 ?_, fun q => s4 ?_⟩⟩
    · unfold th_p at q ⊢
      rw [if_pos rfl] at q ⊢
      have a1 := (E_e hl k p w hp hw).2 (e_le q (by omega))
      have a2 := (E_e hl 42 p w hp hw).1 (E_stop hn hp hw a1)
      exact e_le a2 (by omega)
    · unfold th_p at q ⊢
      rw [if_neg (by decide)] at q ⊢
      have a1 := (K_c hl k p w hp hw).2 (c_le q (by omega))
      have a2 := (K_c hl 42 p w hp hw).1 (K_stop hn hp hw a1)
      exact c_le a2 (by omega)
theorem s9 {d t : Nat} {A M : ab_M} (hd : 6 ≤ d) (h : pu_at t A M) {g : Nat} (hg : g < th_n t A) : ∃ M', ab_ev d 9 [.inr (.inr 98), .inr (.inr t), .inl (g : Int)] M none M' ∧ pu_at t A M' ∧ (∀ p w : Nat, p < th_n t A → w < th_n t A → th_f t A g p w (M' 99 (th_i p w 0)) (M' 100 (th_i p w 0))) := by
  have ht : t = 5 ∨ t = 37 := h.2.1.2.2.1
  have t1 := h.1.2.1.1
  have hn : th_n t A ≤ 7 := by unfold th_n; omega
  have a1 : pu_at t A (pu_fil M 99 98 0) := at_fil h rfl (fun f _ => by omega)
  have a2 : pu_at t A (pu_fil (pu_fil M 99 98 0) 100 98 0) := at_fil a1 rfl (fun f _ => by omega)
  have wd : ab_wp d 9 0 (ab_ent [.inr (.inr 98), .inr (.inr t), .inl (g : Int)] (ab_mx 9)) [] M (fun r' M' => r' = none ∧ pu_at t A M' ∧ (∀ p w : Nat, p < th_n t A → w < th_n t A → th_f t A g p w (M' 99 (th_i p w 0)) (M' 100 (th_i p w 0)))) := by
    refine b9_0 (by omega) h.2.1 h.2.1.2.2.1 ⟨_, s193 (by omega) h.2.1 99 98 0 rfl rfl (by omega), a1.2.1, _, s193 (by omega) a1.2.1 100 98 0 rfl rfl (by omega), a2.2.1, ?_⟩
    refine loop_up (P := fun p => ∀ M1 y4 y5, pu_at t A M1 → (∀ f : Nat, f < 98 → M1 100 f = 0) → (∀ p' w' v' : Nat, p' < p → w' < th_n t A → v' < 2 → M1 99 (th_i p' w' v') = if p' = w' then 2 else if p' = g then 1 else 0) → ab_wp d 9 18 [some (.inr (.inr 98)), some (.inr (.inr t)), some (.inl (g : Int)), some (.inl (p : Int)), y4, y5] [] M1 _) (th_n t A) ?_ ?_ 0 (by omega) _ _ _ a2 (fun f hf => fil_s hf) (fun p' w' v' hp => by omega)
    · intro M1 y4 y5 p1 hm he
      have r0 : M1 t 0 = A t 0 := at_r p1 t 0 (by omega)
      refine b9_18 (by omega) p1.2.1 p1.2.1.2.2.1 ⟨fun _ => ?_, fun q => by unfold th_n at q; omega⟩
      have s0 : ∀ p w v : Nat, p < th_n t A → w < th_n t A → v < 2 → th_s t A g 0 p w v (M1 99 (th_i p w v)) (M1 100 (th_i p w v)) := by
        intro p w v hp hw hv
        rw [he p w v hp hw hv, hm _ (by unfold th_i; omega)]
        by_cases c : p = w
        · rw [if_pos c]
          refine Or.inl ⟨Or.inr rfl, by omega, ?_, fun k _ => by omega⟩
          unfold th_p
          rw [if_neg (by decide)]
          exact c
        · rw [if_neg c]
          by_cases c2 : p = g
          · rw [if_pos c2]
            refine Or.inl ⟨Or.inl rfl, by omega, ?_, fun k _ => by omega⟩
            unfold th_p
            rw [if_pos rfl]
            exact ⟨c, c2⟩
          · rw [if_neg c2]
            refine Or.inr ⟨rfl, rfl, fun q => ?_, fun q => ?_⟩
            · unfold th_p at q
              rw [if_pos rfl] at q
              exact c2 q.2
            · unfold th_p at q
              rw [if_neg (by decide)] at q
              exact c q
      refine loop_up (P := fun L => ∀ M1 (x3 : Int), pu_at t A M1 → (x3 ≠ 0 → ∀ p w v : Nat, p < th_n t A → w < th_n t A → v < 2 → th_s t A g L p w v (M1 99 (th_i p w v)) (M1 100 (th_i p w v))) → (x3 = 0 → ∀ p w : Nat, p < th_n t A → w < th_n t A → th_f t A g p w (M1 99 (th_i p w 0)) (M1 100 (th_i p w 0))) → ab_wp d 9 105 [some (.inr (.inr 98)), some (.inr (.inr t)), some (.inl (g : Int)), some (.inl x3), some (.inl ((L : Int) + 1)), y5] [] M1 _) 98 ?_ ?_ 0 (by omega) M1 1 p1 (fun _ => s0) (fun q => absurd q (by decide))
      · intro M1 x3 p1 h1 h2
        refine b9_105 (by omega) p1.2.1 p1.2.1.2.2.1 ⟨fun _ => ⟨rfl, p1, fun p w hp hw => ?_⟩, fun q => by omega⟩
        by_cases c : x3 = 0
        · exact h2 c p w hp hw
        · exact f_late h.1 hp hw (h1 c p w 0 hp hw (by omega))
      · intro L hL ih M1 x3 p1 h1 h2
        rw [Int.natCast_succ] at ih
        refine b9_105 (by omega) p1.2.1 p1.2.1.2.2.1 ⟨fun q => by omega, fun _ => ⟨fun q => ⟨rfl, p1, h2 q⟩, fun q => ?_⟩⟩
        obtain ⟨M2, r, e2, p2, k2⟩ := s10 (d := d - 1) (by omega) p1 (g := g) (L := L) (by omega) (h1 q)
        refine ⟨r, M2, e2, p2.2.1, by omega, ih _ _ p2 (fun _ p w v hp hw hv => (k2 p w v hp hw hv).1) (fun z => f_early (L := L) (by omega) (fun p w v hp hw hv => ⟨(k2 p w v hp hw hv).1, (k2 p w v hp hw hv).2 z⟩))⟩
    · intro p hp ih M1 y4 y5 p1 hm he
      have r0 : M1 t 0 = A t 0 := at_r p1 t 0 (by omega)
      rw [Int.natCast_succ] at ih
      have hp' : (p : Int) < A t 0 := by unfold th_n at hp; omega
      refine b9_18 (by omega) p1.2.1 p1.2.1.2.2.1 ⟨fun q => by omega, fun _ => ?_⟩
      refine loop_up (P := fun w => ∀ M1 y5, pu_at t A M1 → (∀ f : Nat, f < 98 → M1 100 f = 0) → (∀ p' w' v' : Nat, (p' < p ∧ w' < th_n t A ∨ p' = p ∧ w' < w) → v' < 2 → M1 99 (th_i p' w' v') = if p' = w' then 2 else if p' = g then 1 else 0) → ab_wp d 9 29 [some (.inr (.inr 98)), some (.inr (.inr t)), some (.inl (g : Int)), some (.inl (p : Int)), some (.inl (w : Int)), y5] [] M1 _) (th_n t A) ?_ ?_ 0 (by omega) M1 _ p1 hm (fun p' w' v' hpw hv => he p' w' v' (by omega) (by omega) hv)
      · intro M1 y5 p1 hm he
        have r0 : M1 t 0 = A t 0 := at_r p1 t 0 (by omega)
        exact b9_29 (by omega) p1.2.1 p1.2.1.2.2.1 ⟨fun _ => ⟨by omega, ih _ _ _ p1 hm (fun p' w' v' a b c => he p' w' v' (by omega) c)⟩, fun q => by unfold th_n at q; omega⟩
      · intro w hw ihw M1 y5 p1 hm he
        have r0 : M1 t 0 = A t 0 := at_r p1 t 0 (by omega)
        rw [Int.natCast_succ] at ihw
        have hw' : (w : Int) < A t 0 := by unfold th_n at hw; omega
        have set : ∀ e : Int, (e = if p = w then 2 else if p = g then 1 else 0) → ab_wp d 9 58 [some (.inr (.inr 98)), some (.inr (.inr t)), some (.inl (g : Int)), some (.inl (p : Int)), some (.inl (w : Int)), y5] [.inl e] M1 (fun r' M' => r' = none ∧ pu_at t A M' ∧ (∀ p w : Nat, p < th_n t A → w < th_n t A → th_f t A g p w (M' 99 (th_i p w 0)) (M' 100 (th_i p w 0)))) := by
          intro e ee
          have p2 : pu_at t A (ab_w M1 99 (th_i p w 0) e) := at_w p1 (str_a p1.2.1 rfl) (by omega)
          refine b9_58 (by omega) p1.2.1 p1.2.1.2.2.1 ⟨_, _, s8 (v := 0) (by omega) p1.2.1 (by omega) (by omega) (by omega), p1.2.1, by unfold th_i; omega, ?_⟩
          rw [Int.toNat_natCast]
          refine ⟨_, _, s8 (v := 1) (by omega) p2.2.1 (by omega) (by omega) (by omega), p2.2.1, by unfold th_i; omega, by omega, ?_⟩
          rw [Int.toNat_natCast]
          refine ihw _ _ (at_w p2 (str_a p2.2.1 rfl) (by omega)) (fun f hf => ?_) (fun p' w' v' hpw hv => ?_)
          · unfold ab_w
            rw [if_neg (by omega), if_neg (by omega)]
            exact hm f hf
          · unfold ab_w
            by_cases c1 : th_i p' w' v' = th_i p w 1
            · obtain ⟨rfl, rfl, rfl⟩ := i_inj (by omega) hv (by omega) (by omega) c1
              rw [if_pos ⟨rfl, rfl⟩, ee]
            · rw [if_neg (fun z => c1 z.2)]
              by_cases c0 : th_i p' w' v' = th_i p w 0
              · obtain ⟨rfl, rfl, rfl⟩ := i_inj (by omega) hv (by omega) (by omega) c0
                rw [if_pos ⟨rfl, rfl⟩, ee]
              · rw [if_neg (fun z => c0 z.2)]
                refine he p' w' v' ?_ hv
                by_cases cc : p' = p ∧ w' = w
                · exfalso
                  obtain ⟨rfl, rfl⟩ := cc
                  have : v' = 0 ∨ v' = 1 := by omega
                  rcases this with z | z
                  · subst z; exact c0 rfl
                  · subst z; exact c1 rfl
                · omega
        refine b9_29 (by omega) p1.2.1 p1.2.1.2.2.1 ⟨fun q => by omega, fun _ => ⟨fun q => ⟨fun z => set 0 ?_, fun z => set 1 ?_⟩, fun q => set 2 ?_⟩⟩
        · rw [if_neg (by omega), if_neg (by omega)]
        · rw [if_neg (by omega), if_pos (by omega)]
        · rw [if_pos (by omega)]
  obtain ⟨r', M', e, rfl, h1, h2⟩ := wp_ev wd
  exact ⟨M', e, h1, h2⟩
