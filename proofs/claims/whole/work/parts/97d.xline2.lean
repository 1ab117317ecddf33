/-! the class: gives, from, to, luck; a line -/
section XG
variable {E : zE} {d : Nat} {h : zS}
theorem c_readGives {t n : Nat} {b : Nat → Nat} {D : zDf} {T : zTk} {Q : zS → Prop} (K : rK t n b) (hD : okD D) (hgl : cgl (dC D) < 30) (wD : XDr h t D) (w : XRd h t n b (.inr T))
    (HQ : ∀ h1, XRd h1 t n b (rgS n b D T) → (∀ T', rgS n b D T = .inr T' → XDr h1 t (rgD n b D T)) → zE3 (dWW t) h h1 → Q h1) : zCv E (d + 3) m_X6_readGives [vo 2] h Q := by
  have k4 := city_lt K.1
  have hn12 := hD.1.1
  have hRt : ∀ h2 s, XRd h2 t n b s → hR h2 2 1 = some t := fun h2 s q => by cases s <;> exact q.1
  refine v_X6_readGives ?_
  refine c_readKnown K hD (fun _ => wD) w (fun y2 h1 w1 z1 e1 => ?_)
  have wD1 := wD.w K.1 e1
  have eR : rgS n b D T = rg2 n b D (dF D T) (knS n b D (.inr T)) := rfl
  cases s1 : knS n b D (.inr T) with
  | inl e =>
    rw [s1] at w1
    refine ⟨fun c => ?_, fun _ => HQ h1 ?_ (fun T' q => ?_) (e1.wk (fun c i q => q.1))⟩
    · rw [w1.2.1] at c; exact absurd c w1.2.2.2
    · rw [eR, s1]; exact w1
    · rw [eR, s1] at q; cases q
  | inr T1 =>
    have yv := z1 T1 s1
    rw [s1] at w1
    obtain ⟨Ta, a1, a2, a3, g, a4, a5⟩ := knS_r s1
    cases a1
    have yv : y2 = (g : Int) := yv.trans a4
    subst yv
    rw [s1, rg2_i, a4] at eR
    have x1 := w1.2.2.2.1
    rw [w1.2.1]
    refine ⟨fun _ => ?_, fun e => absurd rfl e⟩
    rw [x1.2.1]
    -- behind the look at the other one
    have look : zAt E (d + 2 + 1) 0 0 m_X6_readGives 43 [vo 2, vi (g : Int), vn, vn] [vi (gvO D T1)] g0 h1 (zPv Q) := by
      have bad : gvB D g T1 → zWv E (d + 2 + 1) m_X6_readGives 66 [vo 2, vn, vn, vn] h1 Q := by
        intro gb
        rw [if_pos (bD_t.mpr gb)] at eR
        refine r_X6_readGives_66 ?_
        exact c_refuse w1 (by omega) (fun h2 w2 e2 => HQ h2 (by rw [eR]; exact w2) (fun T' q => by rw [eR] at q; cases q) ((e1.tr e2).wk (fun c i q => q.1)))
      have good : ¬ gvB D g T1 → zWv E (d + 2 + 1) m_X6_readGives 72 [vo 2, vi (g : Int), vn, vn] h1 Q := by
        intro gb
        rw [if_neg (fun q => gb (bD_t.mp q))] at eR
        refine r_X6_readGives_72 ?_
        refine c_readKnown K hD (fun _ => wD1) w1 (fun y2 h2 w2 z2 e2 => ?_)
        refine c_rpass K w2 (fun h3 w3 e3 => ?_)
        refine c_readNumber K w3 (fun y5 h4 w4 z4 e4 => ?_)
        have E4 := e1.tr (e2.tr (e3.tr e4))
        have wD4 := wD.w K.1 E4
        cases s4 : nmS n b 1 9 (psS n b 9 (knS n b D (.inr T1))) with
        | inl e =>
          rw [s4] at w4
          refine ⟨fun _ => r_X6_readGives_125 (HQ h4 (by rw [eR, s4]; exact w4) (fun T' q => by rw [eR, s4] at q; cases q) (E4.wk (fun c i q => q.1))), fun c => ?_⟩
          rw [w4.2.1] at c; exact absurd c w4.2.2.2
        | inr T4 =>
          have v5 := z4 T4 s4
          rw [s4] at w4
          obtain ⟨T3, b1, _, _⟩ := nmS_r s4
          obtain ⟨T2, c1, _, _⟩ := psS_r b1
          have v2 := z2 T2 c1
          obtain ⟨Tb, d1, d2, d3, o, d4, d5⟩ := knS_r c1
          cases d1
          have v2 : y2 = (o : Int) := v2.trans d4
          subst v2
          refine ⟨fun c => by rw [w4.2.1] at c; exact absurd rfl c, fun _ => ⟨t, w4.1, K.1, ?_⟩⟩
          refine c_pair (by omega) (by omega) ⟨by omega, ?_⟩
          simp only [Int.toNat_natCast]
          intro h10 x10
          have z10 : zE3 (fun c i => ¬ (c = t + 7 ∧ i = 12 * g + o)) h4 h10 := by rw [x10]; exact zE3.I (fun q => q ⟨rfl, rfl⟩)
          have v10 := (st_cp x10).1
          clear x10
          have w10 : XRd h10 t n b (.inr T4) := w4.w (z10.wk (fun c i q => by omega))
          refine ⟨t, w10.1, K.1, ?_⟩
          have gl10 : hI h10 t 1 = (cgl (dC D) : Int) := by rw [(z10 _ _ (by omega)).1]; exact wD4.2.1
          rw [gl10, w32s (by omega)]
          intro h12 x12
          have z12 : zE3 (fun c i => ¬ (c = t ∧ i = 1)) h10 h12 := by rw [x12]; exact zE3.I (fun q => q ⟨rfl, rfl⟩)
          have v12 := (st_cp x12).1
          clear x12
          have w12 : XRd h12 t n b (.inr T4) := w10.w (z12.wk (fun c i q => by omega))
          refine r_X6_readGives_125 (HQ h12 (by rw [eR, s4]; exact w12) (fun T' _ => ?_) ((E4.wk (fun c i q => q.1)).tr ((z10.wk (fun c i q => by have := q.2; omega)).tr (z12.wk (fun c i q => by have := q.2; omega)))))
          have eD : rgD n b D T = setG D g o y5 := by
            unfold rgD
            rw [a4, ← a3, d4, v5]
            simp only [Int.toNat_natCast]
          rw [eD]
          obtain ⟨f1, f2, f3, f4, f5, f6, f7, f8⟩ := wD4
          have Z : ∀ c i, ¬ (c = t + 7 ∧ i = 12 * g + o) → ¬ (c = t ∧ i = 1) → hI h12 c i = hI h4 c i ∧ hL h12 c i = hL h4 c i := fun c i q1 q2 => ⟨(z12 c i q2).1.trans (z10 c i q1).1, (z12 c i q2).2.1.trans (z10 c i q1).2.1⟩
          refine ⟨by rw [(Z t 0 (by omega) (by omega)).1]; exact f1, v12, by rw [(Z t 2 (by omega) (by omega)).1]; exact f3, by rw [(Z t 3 (by omega) (by omega)).1]; exact f4, by rw [(Z t 4 (by omega) (by omega)).1]; exact f5, fun i hi => ?_, fun x y hx hy => ?_, by rw [(Z 2 2 (by omega) (by omega)).1]; exact f8⟩
          · rw [(Z (t + 1) i (by omega) (by omega)).2, (Z (t + 2) i (by omega) (by omega)).1, (Z (t + 3) i (by omega) (by omega)).1, (Z (t + 4) i (by omega) (by omega)).1, (Z (t + 5) i (by omega) (by omega)).1, (Z (t + 6) i (by omega) (by omega)).1]
            exact f6 i hi
          · show hI h12 (t + 7) (12 * x + y) = if x = g ∧ y = o then y5 else ctk (dC D) x y
            by_cases e : x = g ∧ y = o
            · rw [if_pos e, e.1, e.2, (z12 _ _ (by omega)).1]; exact v10
            · rw [if_neg e, (Z _ _ (by omega) (by omega)).1]; exact f7 x y hx hy
      refine r_X6_readGives_43 ⟨fun c => good (fun q => q.1 c), fun c => ⟨fun c2 => bad ⟨c, .inl c2⟩, fun c2 => ⟨t, w1.1, K.1, ?_⟩⟩⟩
      have t13 : tcd T1 = 13 := by
        refine Classical.byContradiction (fun q => c ?_)
        unfold gvO; rw [if_neg q]
      have go : gvO D T1 = dF D T1 := by unfold gvO; rw [if_pos t13]
      obtain ⟨o, o1, o2⟩ : ∃ o : Nat, dF D T1 = o ∧ o < cn (dC D) := by
        rcases fnd_is (nm := dN D) (w := twd T1) (cn (dC D)) with ⟨q, _⟩ | ⟨k, q1, q2, _⟩
        · exact absurd (go.trans q) c
        · exact ⟨k, q1, q2⟩
      rw [go, o1]
      refine c_gives K.1 wD1.2.2.2.2.2.2.1 (by omega) (by omega) ?_
      have gb : gvB D g T1 ↔ 0 < ctk (dC D) g o := by
        unfold gvB
        rw [go, o1]
        simp only [Int.toNat_natCast]
        constructor
        · rintro ⟨_, q | q⟩
          · exact absurd (by rw [go, o1]; exact q) c2
          · exact q
        · intro q; exact ⟨by omega, .inr q⟩
      by_cases cg : 0 < ctk (dC D) g o
      · rw [if_pos cg]; exact ⟨fun e => by omega, fun _ => bad (gb.mpr cg)⟩
      · rw [if_neg cg]; exact ⟨fun _ => good (fun q => cg (gb.mp q)), fun e => absurd rfl e⟩
    refine ⟨fun c => ?_, fun c => ⟨t, w1.1, K.1, ?_⟩⟩
    · have : gvO D T1 = -1 := by unfold gvO; rw [if_neg (by omega)]
      rw [this] at look; exact look
    · rw [x1.2.2.2.1 (by omega)]
      refine c_called (D := D) K.1 hD wD1.1 (fun i hi => (wD1.2.2.2.2.2.1 i hi).1) ?_
      have : gvO D T1 = fnd (dN D) (twd T1) (cn (dC D)) := by unfold gvO; rw [if_pos (by omega)]; rfl
      rw [this] at look; exact look
theorem c_mayBegin {t n : Nat} {b : Nat → Nat} {D : zDf} {T : zTk} {Q : Int → zS → Prop} (K : rK t n b) (hD : okD D) (wD : XDr h t D) (w : XRd h t n b (.inr T)) (H1 : mayB D T → Q 1 h) (H0 : ¬ mayB D T → Q 0 h) : zCi E d m_X6_mayBegin [vo 2, vi (tcd T : Nat)] h Q := by
  unfold mayB at H1 H0
  refine v_X6_mayBegin ⟨fun c => ⟨t, w.1, K.1, ?_⟩, fun c => ⟨t, w.1, K.1, ?_⟩, fun c => ⟨t, w.1, K.1, ?_⟩, fun c => ⟨t, w.1, K.1, ?_⟩, fun c => ⟨fun c2 => H0 (by omega), fun c2 => ?_⟩⟩
  · rw [wD.1]
    exact ⟨fun q => H0 (by omega), fun q => H1 (by omega)⟩
  · rw [wD.2.1]
    exact ⟨fun q => H0 (by omega), fun q => H1 (by omega)⟩
  · rw [wD.2.2.1]
    exact ⟨fun q => H0 (by omega), fun q => H1 (by omega)⟩
  · rw [wD.2.2.2.1]
    exact ⟨fun q => H0 (by omega), fun q => H1 (by omega)⟩
  · rw [wD.2.2.2.2.2.2.2]
    cases l : dL D with
    | true =>
      refine ⟨fun _ => H0 ?_, fun q => by simp at q⟩
      rw [l]
      rintro (q | q | q | q | q)
      · omega
      · omega
      · omega
      · omega
      · cases q.2
    | false => exact ⟨fun q => absurd rfl q, fun _ => H1 (by rw [l]; exact .inr (.inr (.inr (.inr ⟨by omega, rfl⟩))))⟩
theorem c_readLine {t n : Nat} {b : Nat → Nat} {D : zDf} {T : zTk} {Q : zS → Prop} (K : rK t n b) (hD : okD D) (wD : XDr h t D) (w : XRd h t n b (.inr T))
    (HQ : ∀ h1, XRd h1 t n b (lnS n b D T) → (∀ T', lnS n b D T = .inr T' → XDr h1 t (lnD n b D T)) → zE3 (fun c i => dWW t c i ∧ c ≠ 2) h h1 → Q h1) : zCv E (d + 4) m_X6_readLine [vo 2] h Q := by
  have k4 := city_lt K.1
  refine v_X6_readLine ?_
  rw [w.2.2.2.1.2.1]
  refine c_mayBegin K hD wD w (fun mb => ⟨fun _ => ?_, fun e => by omega⟩) (fun mb => ⟨fun e => absurd rfl e, fun _ => ?_⟩)
  · refine c_adv K w (fun h3 w3 e3 => ?_)
    have wD3 := wD.w K.1 e3
    unfold lnS at HQ
    rw [if_pos (bD_t.mpr mb)] at HQ
    unfold lnD at HQ
    have F3 : zE3 (fun c i => dWW t c i ∧ c ≠ 2) h h3 := e3.wk (fun c i q => q.1.1)
    refine ⟨fun c => ?_, fun c => ?_, fun c => ?_, fun c => ?_, fun c => ?_⟩
    · have t0 : tcd T = 0 := by omega
      simp only [if_pos t0] at HQ
      have n12 : cn (dC D) < 12 := by rcases mb with q | q | q | q | q <;> omega
      refine c_readOne K hD n12 wD3 w3 (fun h4 w4 z4 e4 => ?_)
      refine c_rpass K w4 (fun h5 w5 e5 => HQ h5 w5 (fun T' hT => ?_) (F3.tr ((e4.wk (fun c i q => q.1)).tr (e5.wk (fun c i q => q.1.1)))))
      obtain ⟨Tk, q, _, _⟩ := psS_r hT
      exact (z4 Tk q).w K.1 e5
    · have t8 : tcd T = 8 := by omega
      simp only [if_neg (show ¬ tcd T = 0 by omega), if_pos t8] at HQ
      have g30 : cgl (dC D) < 30 := by rcases mb with q | q | q | q | q <;> omega
      refine c_readGives K hD g30 wD3 w3 (fun h4 w4 z4 e4 => ?_)
      refine c_rpass K w4 (fun h5 w5 e5 => HQ h5 w5 (fun T' hT => ?_) (F3.tr ((e4.wk (fun c i q => q.1)).tr (e5.wk (fun c i q => q.1.1)))))
      obtain ⟨Tk, q, _, _⟩ := psS_r hT
      exact (z4 Tk q).w K.1 e5
    · have t10 : tcd T = 10 := by omega
      simp only [if_neg (show ¬ tcd T = 0 by omega), if_neg (show ¬ tcd T = 8 by omega), if_neg (show ¬ tcd T = 12 by omega), if_pos t10] at HQ
      refine ⟨t, w3.1, K.1, ?_⟩
      refine c_readKnown K hD (fun _ => wD3) w3 (fun y4 h4 w4 z4 e4 => ?_)
      intro h5 x5
      have z5 : zE3 (fun c i => ¬ (c = t ∧ i = 2)) h4 h5 := by rw [x5]; exact zE3.I (fun q => q ⟨rfl, rfl⟩)
      have v5 := (st_cp x5).1
      clear x5
      have w5 := w4.w (h1 := h5) (z5.wk (fun c i q => by omega))
      refine c_rpass K w5 (fun h6 w6 e6 => HQ h6 w6 (fun T' hT => ?_) (F3.tr ((e4.wk (fun c i q => q.1.1)).tr ((z5.wk (fun c i q => by have := q.1.2; omega)).tr (e6.wk (fun c i q => q.1.1))))))
      obtain ⟨Tk, q, _, _⟩ := psS_r hT
      have yv := z4 Tk q
      have wD4 := wD3.w K.1 e4
      refine XDr.w ?_ K.1 e6
      obtain ⟨f1, f2, f3, f4, f5, f6, f7, f8⟩ := wD4
      have Z : ∀ c i, ¬ (c = t ∧ i = 2) → hI h5 c i = hI h4 c i ∧ hL h5 c i = hL h4 c i := fun c i q => ⟨(z5 c i q).1, (z5 c i q).2.1⟩
      refine ⟨by rw [(Z t 0 (by omega)).1]; exact f1, by rw [(Z t 1 (by omega)).1]; exact f2, by rw [v5, yv]; rfl, by rw [(Z t 3 (by omega)).1]; exact f4, by rw [(Z t 4 (by omega)).1]; exact f5, fun i hi => ?_, fun x y hx hy => by rw [(Z _ _ (by omega)).1]; exact f7 x y hx hy, by rw [(Z 2 2 (by omega)).1]; exact f8⟩
      rw [(Z (t + 1) i (by omega)).2, (Z (t + 2) i (by omega)).1, (Z (t + 3) i (by omega)).1, (Z (t + 4) i (by omega)).1, (Z (t + 5) i (by omega)).1, (Z (t + 6) i (by omega)).1]
      exact f6 i hi
    · have t11 : tcd T = 11 := by omega
      simp only [if_neg (show ¬ tcd T = 0 by omega), if_neg (show ¬ tcd T = 8 by omega), if_neg (show ¬ tcd T = 12 by omega), if_neg (show ¬ tcd T = 10 by omega)] at HQ
      refine ⟨t, w3.1, K.1, ?_⟩
      refine c_readKnown K hD (fun _ => wD3) w3 (fun y4 h4 w4 z4 e4 => ?_)
      intro h5 x5
      have z5 : zE3 (fun c i => ¬ (c = t ∧ i = 3)) h4 h5 := by rw [x5]; exact zE3.I (fun q => q ⟨rfl, rfl⟩)
      have v5 := (st_cp x5).1
      clear x5
      have w5 := w4.w (h1 := h5) (z5.wk (fun c i q => by omega))
      refine c_rpass K w5 (fun h6 w6 e6 => HQ h6 w6 (fun T' hT => ?_) (F3.tr ((e4.wk (fun c i q => q.1.1)).tr ((z5.wk (fun c i q => by have := q.1.2; omega)).tr (e6.wk (fun c i q => q.1.1))))))
      obtain ⟨Tk, q, _, _⟩ := psS_r hT
      have yv := z4 Tk q
      have wD4 := wD3.w K.1 e4
      refine XDr.w ?_ K.1 e6
      obtain ⟨f1, f2, f3, f4, f5, f6, f7, f8⟩ := wD4
      have Z : ∀ c i, ¬ (c = t ∧ i = 3) → hI h5 c i = hI h4 c i ∧ hL h5 c i = hL h4 c i := fun c i q => ⟨(z5 c i q).1, (z5 c i q).2.1⟩
      refine ⟨by rw [(Z t 0 (by omega)).1]; exact f1, by rw [(Z t 1 (by omega)).1]; exact f2, by rw [(Z t 2 (by omega)).1]; exact f3, by rw [v5, yv]; rfl, by rw [(Z t 4 (by omega)).1]; exact f5, fun i hi => ?_, fun x y hx hy => by rw [(Z _ _ (by omega)).1]; exact f7 x y hx hy, by rw [(Z 2 2 (by omega)).1]; exact f8⟩
      rw [(Z (t + 1) i (by omega)).2, (Z (t + 2) i (by omega)).1, (Z (t + 3) i (by omega)).1, (Z (t + 4) i (by omega)).1, (Z (t + 5) i (by omega)).1, (Z (t + 6) i (by omega)).1]
      exact f6 i hi
    · have t12 : tcd T = 12 := by rcases mb with q | q | q | q | q <;> omega
      simp only [if_neg (show ¬ tcd T = 0 by omega), if_neg (show ¬ tcd T = 8 by omega), if_pos t12] at HQ
      refine ⟨t, w3.1, K.1, ?_⟩
      refine c_readNumber K w3 (fun y4 h4 w4 z4 e4 => ?_)
      intro h5 x5
      have z5 : zE3 (fun c i => ¬ (c = t ∧ i = 4)) h4 h5 := by rw [x5]; exact zE3.I (fun q => q ⟨rfl, rfl⟩)
      have v5 := (st_cp x5).1
      clear x5
      have w5 := w4.w (h1 := h5) (z5.wk (fun c i q => by omega))
      intro h22 x22
      have z22 : zE3 (fun c i => ¬ (c = 2 ∧ i = 2)) h5 h22 := by rw [x22]; exact zE3.I (fun q => q ⟨rfl, rfl⟩)
      have v22 := (st_cp x22).1
      clear x22
      have w22 : XRd h22 t n b (nmS n b 0 9 (.inr (adv n b T))) := by
        have q2 : ∀ c i, c ≤ 3 → ¬ (c = 2 ∧ i = 2) → hI h22 c i = hI h5 c i ∧ hL h22 c i = hL h5 c i ∧ hR h22 c i = hR h5 c i := fun c i _ q => z22 c i q
        revert w5
        generalize nmS n b 0 9 (.inr (adv n b T)) = s
        intro w5
        cases s with
        | inl e =>
          obtain ⟨a, b', c, dd⟩ := w5
          exact ⟨by rw [(q2 2 1 (by omega) (by omega)).2.2]; exact a, by rw [(q2 2 3 (by omega) (by omega)).1]; exact b', by rw [(q2 2 4 (by omega) (by omega)).1]; exact c, dd⟩
        | inr T' =>
          obtain ⟨a, b', c, ⟨⟨x1, x2, x3, x4⟩, x5, x6, x7, x8⟩, dd⟩ := w5
          exact ⟨by rw [(q2 2 1 (by omega) (by omega)).2.2]; exact a, by rw [(q2 2 3 (by omega) (by omega)).1]; exact b', by rw [(q2 2 4 (by omega) (by omega)).1]; exact c, ⟨⟨by rw [(q2 3 0 (by omega) (by omega)).2.2]; exact x1, by rw [(q2 3 1 (by omega) (by omega)).1]; exact x2, by rw [(q2 3 2 (by omega) (by omega)).1]; exact x3, fun k hk => by rw [(q2 1 k (by omega) (by omega)).1]; exact x4 k hk⟩, by rw [(q2 3 3 (by omega) (by omega)).1]; exact x5, by rw [(q2 3 4 (by omega) (by omega)).1]; exact x6, fun z => by rw [(q2 3 5 (by omega) (by omega)).2.1]; exact x7 z, fun z => by rw [(q2 3 6 (by omega) (by omega)).1]; exact x8 z⟩, dd⟩
      refine c_rpass K w22 (fun h6 w6 e6 => HQ h6 w6 (fun T' hT => ?_) (F3.tr ((e4.wk (fun c i q => q.1.1)).tr ((z5.wk (fun c i q => by have := q.1.2; omega)).tr ((z22.wk (fun c i q => by have := q.2; omega)).tr (e6.wk (fun c i q => q.1.1)))))))
      obtain ⟨Tk, q, _, _⟩ := psS_r hT
      have yv := z4 Tk q
      have wD4 := wD3.w K.1 e4
      refine XDr.w ?_ K.1 e6
      obtain ⟨f1, f2, f3, f4, f5, f6, f7, f8⟩ := wD4
      have Z : ∀ c i, c ≠ 2 → ¬ (c = t ∧ i = 4) → hI h22 c i = hI h4 c i ∧ hL h22 c i = hL h4 c i := fun c i q0 q => ⟨(z22 c i (by omega)).1.trans (z5 c i q).1, (z22 c i (by omega)).2.1.trans (z5 c i q).2.1⟩
      refine ⟨by rw [(Z t 0 (by omega) (by omega)).1]; exact f1, by rw [(Z t 1 (by omega) (by omega)).1]; exact f2, by rw [(Z t 2 (by omega) (by omega)).1]; exact f3, by rw [(Z t 3 (by omega) (by omega)).1]; exact f4, ?_, fun i hi => ?_, fun x y hx hy => by rw [(Z _ _ (by omega) (by omega)).1]; exact f7 x y hx hy, v22⟩
      · rw [(z22 t 4 (by omega)).1, v5, yv]; rfl
      · rw [(Z (t + 1) i (by omega) (by omega)).2, (Z (t + 2) i (by omega) (by omega)).1, (Z (t + 3) i (by omega) (by omega)).1, (Z (t + 4) i (by omega) (by omega)).1, (Z (t + 5) i (by omega) (by omega)).1, (Z (t + 6) i (by omega) (by omega)).1]
        exact f6 i hi
  · have eS : lnS n b D T = .inl (fz T 2) := by unfold lnS; rw [if_neg (fun q => mb (bD_t.mp q))]
    refine c_refuse w (by omega) (fun h1 w1 e1 => HQ h1 (by rw [eS]; exact w1) (fun T' q => by rw [eS] at q; cases q) (e1.wk (fun c i q => q.1.1)))
end XG
