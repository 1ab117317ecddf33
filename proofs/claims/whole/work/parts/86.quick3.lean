/-! quick, cheap, gap: both sides -/
section Q3
variable {E : zE} {d : Nat} {h : zS}
theorem c_tailX {h0 : zS} {t y : Nat} {S : zAb} {Q : Int → zS → Prop} (hC : okC (aC S)) (wX : XInv h0 t S) (e : zEq (fun c => c ≠ 31) h0 h) (hs : spH h (cn (aC S)) (spO (aC S) (aN S) y))
    (H0 : (¬ ∃ g z c m, wyH (aC S) (aN S) y g z c m) → ∀ h1, XInv h1 t (sW S 0 (aWf S)) → zEq (fun c => 89 ≤ c) h0 h1 → Q (-1) h1)
    (H1 : ∀ g z c m, wyH (aC S) (aN S) y g z c m → ∀ h1, XInv h1 t (sW S (m + 1) (wyW (aC S) (aN S) y g z)) → zEq (fun c => 89 ≤ c) h0 h1 → Q c h1) :
    zCl E (d + 5) m_X7_layLeast [vo 30, vo t] h (fun y5 h4 => ((z_lcmp y5 4000000000000000000) ≠ 0 → (Q (w32 y5) h4)) ∧ ((z_lcmp y5 4000000000000000000) = 0 → (Q (-1) h4))) := by
  have kd := (city_lt wX.1.2.1).2
  have wC := wX.2.2.2.1
  have F : ∀ h1, zEq (fun c => c ≠ 30 ∧ c ≠ 32 ∧ c ≠ 33) h h1 → zEq (fun c => c < 30 ∨ 33 < c) h0 h1 := fun h1 q => (e.wk (fun c q => by omega)).tr (q.wk (fun c q => by omega))
  have G : ∀ h1 n f, XWay h1 n f → zEq (fun c => c ≠ 30 ∧ c ≠ 32 ∧ c ≠ 33) h h1 → XInv h1 t (sW S n f) := fun h1 n f x q => wX.sW (zEw.of (F h1 q) (fun c i q => by have := q.1; unfold XK at this; omega)) x
  refine c_layLeast (N := aN S) (y := y) wX.1.2.1 hC ⟨by rw [e.I (by omega)]; exact wC.1, by rw [e.I (by omega)]; exact wC.2.2.1, by rw [e.I (by omega)]; exact wC.2.2.2.1⟩ hs (fun ne h1 l1 q1 => ⟨fun c => absurd (lc_0.mpr rfl) c, fun _ => ?_⟩) (fun g z c m w h1 x1 q1 => ⟨fun _ => ?_, fun c => ?_⟩)
  · exact H0 ne h1 (G h1 0 _ ⟨l1, fun i hi => by omega⟩ q1) ((F h1 q1).wk (fun c q => by omega))
  · have := w.2.2.2.2.2.2.2
    rw [w32_id (by omega) (by omega)]
    exact H1 g z c m w h1 (G h1 _ _ x1 q1) ((F h1 q1).wk (fun c q => by omega))
  · have := w.2.2.2.2.2.2.2
    have := lc_0.mp c
    omega
theorem c_tailM {h0 : zS} {y : Nat} {S : zAb} {Q : Int → zS → Prop} (hy : y ≤ 2) (hS : okS S) (wM : MInv h0 S) (e : zEw (fun c i => ¬ (c = 89 ∧ i = 37)) h0 h) (z0 : zEq (fun c => c < 89) h0 h)
    (H0 : (¬ ∃ g z c m, wyH (aC S) (aN S) y g z c m) → ∀ h1, MInv h1 (sW S 0 (aWf S)) → zEq (fun c => c < 89) h0 h1 → Q (-1) h1)
    (H1 : ∀ g z c m, wyH (aC S) (aN S) y g z c m → ∀ h1, MInv h1 (sW S (m + 1) (wyW (aC S) (aN S) y g z)) → zEq (fun c => c < 89) h0 h1 → Q c h1) :
    zCi E (d + 6) m_X10_layWay [vo 89, vi y] h Q := by
  have e' : zEw (fun c i => ¬ (c = 89 ∧ i = 37) ∧ c ≠ 105 ∧ c ≠ 106 ∧ c ≠ 107) h0 h := e.wk (fun c i q => q.1)
  have G : ∀ h1 n f, MWay h1 n f → zEw (fun c i => ¬ (c = 89 ∧ i = 37) ∧ c ≠ 105 ∧ c ≠ 106 ∧ c ≠ 107) h h1 → MInv h1 (sW S n f) := fun h1 n f x q => wM.sW ((e'.tr q).wk (fun c i q => by have := q.1; unfold MK at this; omega)) x
  refine c_M_layWay hy hS.2.1 hS.2.2.1 (MCity_w wM.2.2.1 e') (MEarn_w wM.2.2.2.1 e') (fun ne h1 l1 q1 z1 => ?_) (fun g z c m w h1 x1 q1 z1 => ?_)
  · exact H0 ne h1 (G h1 0 _ ⟨l1, fun i hi => by omega⟩ q1) (z0.tr z1)
  · exact H1 g z c m w h1 (G h1 _ _ x1 q1) (z0.tr z1)
theorem wyH_u {C : zCt} {N : zEn} {y g z c m g' z' c' m' : Nat} (a : wyH C N y g z c m) (b : wyH C N y g' z' c' m') : g' = g ∧ z' = z ∧ c' = c ∧ m' = m := by
  obtain ⟨a1, a2, a3, a4, a5, a6, a7, a8⟩ := a
  obtain ⟨b1, b2, b3, b4, b5, b6, b7, b8⟩ := b
  have e1 : g' = g := by omega
  have e2 : z' = z := by omega
  subst e1
  subst e2
  have := D_u b5 a5 (by omega) (by omega)
  exact ⟨rfl, rfl, this.1, this.2⟩
theorem p_quick (w : zGo h) : zPair E m_X9_quick m_X10_quick [] h := by
  obtain ⟨t, S, hS, wX, wM⟩ := w
  have hC := hS.2.1
  have sp : spO (aC S) (aN S) 0 = spD (aC S) := by unfold spO; rw [if_neg (by omega), if_pos rfl]
  by_cases G : ∃ g z c m, wyH (aC S) (aN S) 0 g z c m
  · obtain ⟨g, z, c, m, w⟩ := G
    refine p_of (S := S) (S' := sW S (m + 1) (wyW (aC S) (aN S) 0 g z)) (r := c) (t := t) (hS.sW (by have := w.2.2.2.2.2.2.1; omega)) wM (fun Q HQ => ?_) (fun h1 Q w1 HQ => ?_)
    · refine v_X9_quick ⟨t, wX.1.1, wX.1.2.1, ?_⟩
      refine c_stepByDays wX.1.2.1 hC wX.2.2.2.1 (fun h2 s2 e2 => ⟨t, by rw [e2.R (by omega)]; exact wX.1.1, wX.1.2.1, ?_⟩)
      refine c_tailX (y := 0) hC wX e2 (by rw [sp]; exact s2) (fun ne => absurd ⟨g, z, c, m, w⟩ ne) (fun g' z' c' m' w' h4 x4 z4 => ?_)
      obtain ⟨e1, e2, e3, e4⟩ := wyH_u w w'
      subst e1; subst e2; subst e3; subst e4
      exact HQ h4 t x4 z4
    · refine v_X10_quick ?_
      refine c_tailM (y := 0) (by omega) hS w1 zEw.rf zEq.rf (fun ne => absurd ⟨g, z, c, m, w⟩ ne) (fun g' z' c' m' w' h4 x4 z4 => ?_)
      obtain ⟨e1, e2, e3, e4⟩ := wyH_u w w'
      subst e1; subst e2; subst e3; subst e4
      exact HQ h4 x4 z4
  · refine p_of (S := S) (S' := sW S 0 (aWf S)) (r := -1) (t := t) (hS.sW (by omega)) wM (fun Q HQ => ?_) (fun h1 Q w1 HQ => ?_)
    · refine v_X9_quick ⟨t, wX.1.1, wX.1.2.1, ?_⟩
      refine c_stepByDays wX.1.2.1 hC wX.2.2.2.1 (fun h2 s2 e2 => ⟨t, by rw [e2.R (by omega)]; exact wX.1.1, wX.1.2.1, ?_⟩)
      exact c_tailX (y := 0) hC wX e2 (by rw [sp]; exact s2) (fun _ h4 x4 z4 => HQ h4 t x4 z4) (fun g' z' c' m' w' => absurd ⟨g', z', c', m', w'⟩ G)
    · refine v_X10_quick ?_
      exact c_tailM (y := 0) (by omega) hS w1 zEw.rf zEq.rf (fun _ h4 x4 z4 => HQ h4 x4 z4) (fun g' z' c' m' w' => absurd ⟨g', z', c', m', w'⟩ G)
theorem p_cheap (w : zGo h) : zPair E m_X9_cheap m_X10_cheap [] h := by
  obtain ⟨t, S, hS, wX, wM⟩ := w
  have hC := hS.2.1
  have sp : spO (aC S) (aN S) 1 = spK (aC S) := by unfold spO; rw [if_neg (by omega), if_neg (by omega)]
  by_cases G : ∃ g z c m, wyH (aC S) (aN S) 1 g z c m
  · obtain ⟨g, z, c, m, w⟩ := G
    refine p_of (S := S) (S' := sW S (m + 1) (wyW (aC S) (aN S) 1 g z)) (r := c) (t := t) (hS.sW (by have := w.2.2.2.2.2.2.1; omega)) wM (fun Q HQ => ?_) (fun h1 Q w1 HQ => ?_)
    · refine v_X9_cheap ⟨t, wX.1.1, wX.1.2.1, ?_⟩
      refine c_stepByKeeps wX.1.2.1 hC wX.2.2.2.1 (fun h2 s2 e2 => ⟨t, by rw [e2.R (by omega)]; exact wX.1.1, wX.1.2.1, ?_⟩)
      refine c_tailX (y := 1) hC wX e2 (by rw [sp]; exact s2) (fun ne => absurd ⟨g, z, c, m, w⟩ ne) (fun g' z' c' m' w' h4 x4 z4 => ?_)
      obtain ⟨e1, e2, e3, e4⟩ := wyH_u w w'
      subst e1; subst e2; subst e3; subst e4
      exact HQ h4 t x4 z4
    · refine v_X10_cheap ?_
      refine c_tailM (y := 1) (by omega) hS w1 zEw.rf zEq.rf (fun ne => absurd ⟨g, z, c, m, w⟩ ne) (fun g' z' c' m' w' h4 x4 z4 => ?_)
      obtain ⟨e1, e2, e3, e4⟩ := wyH_u w w'
      subst e1; subst e2; subst e3; subst e4
      exact HQ h4 x4 z4
  · refine p_of (S := S) (S' := sW S 0 (aWf S)) (r := -1) (t := t) (hS.sW (by omega)) wM (fun Q HQ => ?_) (fun h1 Q w1 HQ => ?_)
    · refine v_X9_cheap ⟨t, wX.1.1, wX.1.2.1, ?_⟩
      refine c_stepByKeeps wX.1.2.1 hC wX.2.2.2.1 (fun h2 s2 e2 => ⟨t, by rw [e2.R (by omega)]; exact wX.1.1, wX.1.2.1, ?_⟩)
      exact c_tailX (y := 1) hC wX e2 (by rw [sp]; exact s2) (fun _ h4 x4 z4 => HQ h4 t x4 z4) (fun g' z' c' m' w' => absurd ⟨g', z', c', m', w'⟩ G)
    · refine v_X10_cheap ?_
      exact c_tailM (y := 1) (by omega) hS w1 zEw.rf zEq.rf (fun _ h4 x4 z4 => HQ h4 x4 z4) (fun g' z' c' m' w' => absurd ⟨g', z', c', m', w'⟩ G)
/-- gap, the class -/
theorem c_gapX {t : Nat} {S : zAb} {Q : Int → zS → Prop} (hS : okS S) (wX : XInv h t S)
    (H0 : (¬ ∃ g z : Nat, cga (aC S) = g ∧ cse (aC S) = z ∧ g < cn (aC S) ∧ z < cn (aC S) ∧ thN (aC S) (aN S) g = true ∧ thN (aC S) (aN S) z = true) → ∀ h1, XInv h1 t (sW S 0 (aWf S)) → zEq (fun c => 89 ≤ c) h h1 → Q (-1) h1)
    (H1 : ∀ g z : Nat, cga (aC S) = g → cse (aC S) = z → g < cn (aC S) → z < cn (aC S) → thN (aC S) (aN S) g = true → thN (aC S) (aN S) z = true → ∀ h2, spH h2 (cn (aC S)) (spU (aC S) (aN S)) → zEq (fun c => c ≠ 31) h h2 → zCl E 7 m_X7_layLeast [vo 30, vo t] h2 (fun y5 h4 => ((z_lcmp y5 4000000000000000000) ≠ 0 → (Q (w32 y5) h4)) ∧ ((z_lcmp y5 4000000000000000000) = 0 → (Q (-1) h4)))) : zCi E 8 m_X9_gap [vo 0] h Q := by
  have hC := hS.2.1
  have hN := hS.2.2.1
  have hn12 := hC.1
  have wC := wX.2.2.2.1
  have wN := wX.2.2.2.2.2.1
  have kd := (city_lt wX.1.2.1).2
  have fg : (¬ ∃ g z : Nat, cga (aC S) = g ∧ cse (aC S) = z ∧ g < cn (aC S) ∧ z < cn (aC S) ∧ thN (aC S) (aN S) g = true ∧ thN (aC S) (aN S) z = true) → zCv E 7 m_X7_forget [vo 30] h (fun h4 => Q (-1) h4) := by
    intro ne
    refine v_X7_forget ?_
    intro h1 e1
    have W1 : zEw (fun c i => ¬ (c = 30 ∧ i = 4)) h h1 := by rw [e1]; exact zEw_I (by simp)
    obtain ⟨v1, n1, q1⟩ := st_cp e1
    clear e1
    exact H0 ne h1 (wX.sW (W1.wk (fun c i q => q.2.1)) ⟨v1, fun i hi => by omega⟩) (q1.wk (fun c q => by omega))
  refine v_X9_gap ⟨t, wX.1.1, wX.1.2.1, ?_⟩
  refine c_hasEnds wX.1.2.1 ⟨wC.1, wC.2.2.1, wC.2.2.2.1⟩ (fun c => ⟨fun e => by omega, fun _ => ⟨t, wX.1.1, wX.1.2.1, ?_⟩⟩) (fun c => ⟨fun _ => fg ?_, fun e => absurd rfl e⟩)
  · obtain ⟨g, hg⟩ : ∃ g : Nat, cga (aC S) = g := ⟨(cga (aC S)).toNat, by omega⟩
    obtain ⟨z, hz⟩ : ∃ z : Nat, cse (aC S) = z := ⟨(cse (aC S)).toNat, by omega⟩
    have hgn : g < cn (aC S) := by omega
    have hzn : z < cn (aC S) := by omega
    rw [wC.2.2.1, hg]
    refine c_thereX hn12 wN hgn ?_
    cases tg : thN (aC S) (aN S) g with
    | false =>
      refine ⟨fun _ => fg ?_, fun e => absurd rfl e⟩
      rintro ⟨g', z', e1, _, _, _, t1, _⟩
      have : g' = g := by omega
      rw [this, tg] at t1; cases t1
    | true =>
    refine ⟨fun e => by simp at e, fun _ => ⟨t, wX.1.1, wX.1.2.1, ?_⟩⟩
    rw [wC.2.2.2.1, hz]
    refine c_thereX hn12 wN hzn ?_
    cases tz : thN (aC S) (aN S) z with
    | false =>
      refine ⟨fun e => absurd rfl e, fun _ => fg ?_⟩
      rintro ⟨g', z', _, e2, _, _, _, t2⟩
      have : z' = z := by omega
      rw [this, tz] at t2; cases t2
    | true =>
    refine ⟨fun _ => ⟨t, wX.1.1, wX.1.2.1, ?_⟩, fun e => by simp at e⟩
    refine c_stepByAcq wX.1.2.1 hC wC.1 hN wN (fun h2 s2 e2 => ⟨t, by rw [e2.R (by omega)]; exact wX.1.1, wX.1.2.1, ?_⟩)
    exact H1 g z hg hz hgn hzn tg tz h2 s2 e2
  · rintro ⟨g, z, e1, e2, e3, e4, _⟩
    exact c ⟨⟨by omega, by omega⟩, by omega, by omega⟩
/-- gap, the model -/
theorem c_gapM {S : zAb} {Q : Int → zS → Prop} (hS : okS S) (wM : MInv h S)
    (H0 : (¬ ∃ g z : Nat, cga (aC S) = g ∧ cse (aC S) = z ∧ g < cn (aC S) ∧ z < cn (aC S) ∧ thN (aC S) (aN S) g = true ∧ thN (aC S) (aN S) z = true) → ∀ h1, MInv h1 (sW S 0 (aWf S)) → zEq (fun c => c < 89) h h1 → Q (-1) h1)
    (H1 : ∀ g z : Nat, cga (aC S) = g → cse (aC S) = z → g < cn (aC S) → z < cn (aC S) → thN (aC S) (aN S) g = true → thN (aC S) (aN S) z = true → ∀ h2, zEw (fun c i => ¬ (c = 89 ∧ i = 37)) h h2 → zEq (fun c => c < 89) h h2 → zCi E 7 m_X10_layWay [vo 89, vi 2] h2 Q) : zCi E 8 m_X10_gap [vo 89] h Q := by
  have hC := hS.2.1
  have hN := hS.2.2.1
  have hn12 := hC.1
  have hga := hC.2.2.1
  have hse := hC.2.2.2.1
  refine v_X10_gap ?_
  intro h1 e1
  have W1 : zEw (fun c i => ¬ (c = 89 ∧ i = 37)) h h1 := by rw [e1]; exact zEw_I (by simp)
  have Z1 : zEq (fun c => c < 89) h h1 := by rw [e1]; exact zEq_I (by omega)
  have v1 := (st_cp e1).1
  clear e1
  have W1' : zEw (fun c i => ¬ (c = 89 ∧ i = 37) ∧ c ≠ 105 ∧ c ≠ 106 ∧ c ≠ 107) h h1 := W1.wk (fun c i q => q.1)
  have wC := MCity_w wM.2.2.1 W1'
  have wN := MEarn_w wM.2.2.2.1 W1'
  have fg : (¬ ∃ g z : Nat, cga (aC S) = g ∧ cse (aC S) = z ∧ g < cn (aC S) ∧ z < cn (aC S) ∧ thN (aC S) (aN S) g = true ∧ thN (aC S) (aN S) z = true) → Q (-1) h1 := fun ne => H0 ne h1 (wM.sW (W1.wk (fun c i q => q.2.1)) ⟨v1, fun i hi => by omega⟩) Z1
  rw [wC.2.2.1, wC.2.2.2.1]
  refine ⟨fun c => fg ?_, fun c => ⟨fun c2 => fg ?_, fun c2 => ?_⟩⟩
  · rintro ⟨g, z, e1, _⟩; omega
  · rintro ⟨g, z, _, e1, _⟩; omega
  · obtain ⟨g, hg⟩ : ∃ g : Nat, cga (aC S) = g := ⟨(cga (aC S)).toNat, by omega⟩
    obtain ⟨z, hz⟩ : ∃ z : Nat, cse (aC S) = z := ⟨(cse (aC S)).toNat, by omega⟩
    have hgn : g < cn (aC S) := by omega
    have hzn : z < cn (aC S) := by omega
    rw [hg]
    refine c_M_isThere hn12 wN hgn ?_
    cases tg : thN (aC S) (aN S) g with
    | false =>
      refine ⟨fun _ => fg ?_, fun e => absurd rfl e⟩
      rintro ⟨g', z', e1, _, _, _, t1, _⟩
      have : g' = g := by omega
      rw [this, tg] at t1; cases t1
    | true =>
    refine ⟨fun e => by simp at e, fun _ => ?_⟩
    rw [wC.2.2.2.1, hz]
    refine c_M_isThere hn12 wN hzn ?_
    cases tz : thN (aC S) (aN S) z with
    | false =>
      refine ⟨fun e => absurd rfl e, fun _ => fg ?_⟩
      rintro ⟨g', z', _, e2, _, _, _, t2⟩
      have : z' = z := by omega
      rw [this, tz] at t2; cases t2
    | true =>
    refine ⟨fun _ => ?_, fun e => by simp at e⟩
    exact H1 g z hg hz hgn hzn tg tz h1 W1 Z1
theorem p_gap (w : zGo h) : zPair E m_X9_gap m_X10_gap [] h := by
  obtain ⟨t, S, hS, wX, wM⟩ := w
  have hC := hS.2.1
  have sp : spO (aC S) (aN S) 2 = spU (aC S) (aN S) := by unfold spO; rw [if_pos rfl]
  by_cases G0 : ∃ g z : Nat, cga (aC S) = g ∧ cse (aC S) = z ∧ g < cn (aC S) ∧ z < cn (aC S) ∧ thN (aC S) (aN S) g = true ∧ thN (aC S) (aN S) z = true
  · by_cases G : ∃ g z c m, wyH (aC S) (aN S) 2 g z c m
    · obtain ⟨g, z, c, m, w⟩ := G
      refine p_of (S := S) (S' := sW S (m + 1) (wyW (aC S) (aN S) 2 g z)) (r := c) (t := t) (hS.sW (by have := w.2.2.2.2.2.2.1; omega)) wM (fun Q HQ => ?_) (fun h1 Q w1 HQ => ?_)
      · refine c_gapX hS wX (fun ne => absurd G0 ne) (fun _ _ _ _ _ _ _ _ h2 s2 e2 => ?_)
        refine c_tailX (y := 2) hC wX e2 (by rw [sp]; exact s2) (fun ne => absurd ⟨g, z, c, m, w⟩ ne) (fun g' z' c' m' w' h4 x4 z4 => ?_)
        obtain ⟨e1, e2, e3, e4⟩ := wyH_u w w'
        subst e1; subst e2; subst e3; subst e4
        exact HQ h4 t x4 z4
      · refine c_gapM hS w1 (fun ne => absurd G0 ne) (fun _ _ _ _ _ _ _ _ h2 W2 Z2 => ?_)
        refine c_tailM (y := 2) (by omega) hS w1 W2 Z2 (fun ne => absurd ⟨g, z, c, m, w⟩ ne) (fun g' z' c' m' w' h4 x4 z4 => ?_)
        obtain ⟨e1, e2, e3, e4⟩ := wyH_u w w'
        subst e1; subst e2; subst e3; subst e4
        exact HQ h4 x4 z4
    · refine p_of (S := S) (S' := sW S 0 (aWf S)) (r := -1) (t := t) (hS.sW (by omega)) wM (fun Q HQ => ?_) (fun h1 Q w1 HQ => ?_)
      · refine c_gapX hS wX (fun ne => absurd G0 ne) (fun _ _ _ _ _ _ _ _ h2 s2 e2 => ?_)
        exact c_tailX (y := 2) hC wX e2 (by rw [sp]; exact s2) (fun _ h4 x4 z4 => HQ h4 t x4 z4) (fun g' z' c' m' w' => absurd ⟨g', z', c', m', w'⟩ G)
      · refine c_gapM hS w1 (fun ne => absurd G0 ne) (fun _ _ _ _ _ _ _ _ h2 W2 Z2 => ?_)
        exact c_tailM (y := 2) (by omega) hS w1 W2 Z2 (fun _ h4 x4 z4 => HQ h4 x4 z4) (fun g' z' c' m' w' => absurd ⟨g', z', c', m', w'⟩ G)
  · refine p_of (S := S) (S' := sW S 0 (aWf S)) (r := -1) (t := t) (hS.sW (by omega)) wM (fun Q HQ => ?_) (fun h1 Q w1 HQ => ?_)
    · exact c_gapX hS wX (fun _ h4 x4 z4 => HQ h4 t x4 z4) (fun g z e1 e2 e3 e4 e5 e6 => absurd ⟨g, z, e1, e2, e3, e4, e5, e6⟩ G0)
    · exact c_gapM hS w1 (fun _ h4 x4 z4 => HQ h4 x4 z4) (fun g z e1 e2 e3 e4 e5 e6 => absurd ⟨g, z, e1, e2, e3, e4, e5, e6⟩ G0)
end Q3
