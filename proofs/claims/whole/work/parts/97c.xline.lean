/-! the class: one line -/
def dWW (t c i : Nat) : Prop := rW c i ∧ ¬ (t ≤ c ∧ c ≤ t + 9)
def oWW (t N c i : Nat) : Prop := rW c i ∧ ¬ (c = t ∧ i = 0) ∧ ¬ (t + 1 ≤ c ∧ c ≤ t + 6 ∧ i = N)
section XN
variable {E : zE} {d : Nat} {h : zS}
theorem c_ro152 {t n : Nat} {b : Nat → Nat} {D : zDf} {T : zTk} {hh : zS} {Q : zS → Prop} (K : rK t n b) (hn : cn (dC D) < 12) (wD : XDr h t D) (t13 : tcd T = 13) (f1 : dF D T = -1) (w : XRd hh t n b (ro0 n b T)) (a1 : hI hh (t + 2) (cn (dC D)) = (kdT (adv n b T) : Nat)) (a2 : hI hh t 0 = ((cn (dC D) + 1 : Nat) : Int)) (a3 : hL hh (t + 1) (cn (dC D)) = twd T) (a4 : zE3 (oWW t (cn (dC D))) h hh)
    (HQ : ∀ h1, XRd h1 t n b (roS n b D T) → (∀ T', roS n b D T = .inr T' → XDr h1 t (roD n b D T)) → zE3 (dWW t) h h1 → Q h1) : zWv E (d + 3) m_X6_readOne 152 [vo 2, vi (cn (dC D) : Nat)] hh Q := by
  have k4 := city_lt K.1
  have eS : roS n b D T = ro5 n b T := by unfold roS; rw [if_neg (by omega), if_neg (by omega)]
  rw [eS] at HQ
  generalize hN : cn (dC D) = N at *
  have hRt : ∀ h2 s, XRd h2 t n b s → hR h2 2 1 = some t := fun h2 s q => by cases s <;> exact q.1
  -- a store into the draft
  have sto : ∀ h2 h3 s j x, XRd h2 t n b s → 2 ≤ j → j ≤ 6 → h3 = stI h2 (t + j) N x → XRd h3 t n b s ∧ zE3 (fun c i => oWW t N c i) h2 h3 ∧ hI h3 (t + j) N = x ∧ zE3 (fun c _ => c ≠ t + j) h2 h3 := by
    intro h2 h3 s j x w2 j1 j2 e
    have z : zE3 (fun c _ => c ≠ t + j) h2 h3 := by rw [e]; exact zE3.I (fun q => q rfl)
    refine ⟨w2.w (z.wk (fun c i q => by omega)), ?_, (st_cp e).1, z⟩
    rw [e]; exact zE3.I (by unfold oWW; omega)
  refine r_X6_readOne_152 ?_
  refine c_rpass K w (fun h1 w1 e1 => ⟨t, hRt _ _ w1, K.1, ?_⟩)
  refine c_readNumber K w1 (fun y4 h3 w3 z3 e3 => ⟨by omega, ?_⟩)
  simp only [Int.toNat_natCast]
  intro h6 x6
  obtain ⟨w6, o6, v6, f6⟩ := sto _ _ _ 3 _ w3 (by omega) (by omega) x6
  clear x6
  refine c_rpass K w6 (fun h7 w7 e7 => ⟨t, hRt _ _ w7, K.1, ?_⟩)
  refine c_readNumber K w7 (fun y10 h9 w9 z9 e9 => ?_)
  intro h11 x11
  obtain ⟨w11, o11, v11, f11⟩ := sto _ _ _ 4 _ w9 (by omega) (by omega) x11
  clear x11
  refine c_rpass K w11 (fun h12 w12 e12 => ⟨t, hRt _ _ w12, K.1, ?_⟩)
  refine c_readNumber K w12 (fun y15 h14 w14 z14 e14 => ?_)
  intro h16 x16
  obtain ⟨w16, o16, v16, f16⟩ := sto _ _ _ 5 _ w14 (by omega) (by omega) x16
  clear x16
  refine c_rpass K w16 (fun h17 w17 e17 => ⟨t, hRt _ _ w17, K.1, ?_⟩)
  refine c_readNumber K w17 (fun y20 h19 w19 z19 e19 => ?_)
  intro h21 x21
  obtain ⟨w21, o21, v21, f21⟩ := sto _ _ _ 6 _ w19 (by omega) (by omega) x21
  clear x21
  have lo : ∀ {x y : zS}, zE3 rW x y → zE3 (oWW t N) x y := fun q => q.wk (fun c i q => q.1)
  have A := a4.tr ((lo e1).tr ((lo e3).tr (o6.tr ((lo e7).tr ((lo e9).tr (o11.tr ((lo e12).tr ((lo e14).tr (o16.tr ((lo e17).tr ((lo e19).tr o21)))))))))))
  refine HQ h21 w21 (fun T' hT => ?_) (A.wk (fun c i q => ⟨q.1, by have := q.2; omega, by have := q.2; omega⟩))
  have r4 : ∀ {x y : zS} {c i : Nat}, zE3 rW x y → 4 ≤ c → hI y c i = hI x c i ∧ hL y c i = hL x c i := fun q hc => ⟨(q _ _ (by unfold rW; omega)).1, (q _ _ (by unfold rW; omega)).2.1⟩
  -- the values
  have hT0 := hT
  obtain ⟨T4, p1, _, _, _, _, _⟩ := nmS_r hT
  obtain ⟨T4', p2, _, _⟩ := psS_r p1
  obtain ⟨T3, p3, _, _, _, _, _⟩ := nmS_r p2
  obtain ⟨T3', p4, _, _⟩ := psS_r p3
  obtain ⟨T2, p5, _, _, _, _, _⟩ := nmS_r p4
  obtain ⟨T2', p6, _, _⟩ := psS_r p5
  have y1 : y4 = nmV (ro1 n b T) := z3 T2' p6
  have y2 : y10 = nmV (ro2 n b T) := z9 T3' p4
  have y3 : y15 = nmV (ro3 n b T) := z14 T4' p2
  have y4' : y20 = nmV (ro4 n b T) := z19 T' hT0
  have g3 : hI h21 (t + 3) N = nmV (ro1 n b T) := by
    rw [(f21 _ _ (by omega)).1, (r4 e19 (by omega)).1, (r4 e17 (by omega)).1, (f16 _ _ (by omega)).1, (r4 e14 (by omega)).1, (r4 e12 (by omega)).1, (f11 _ _ (by omega)).1, (r4 e9 (by omega)).1, (r4 e7 (by omega)).1, v6, y1]
  have g4 : hI h21 (t + 4) N = nmV (ro2 n b T) := by
    rw [(f21 _ _ (by omega)).1, (r4 e19 (by omega)).1, (r4 e17 (by omega)).1, (f16 _ _ (by omega)).1, (r4 e14 (by omega)).1, (r4 e12 (by omega)).1, v11, y2]
  have g5 : hI h21 (t + 5) N = nmV (ro3 n b T) := by
    rw [(f21 _ _ (by omega)).1, (r4 e19 (by omega)).1, (r4 e17 (by omega)).1, v16, y3]
  have g6 : hI h21 (t + 6) N = nmV (ro4 n b T) := by rw [v21, y4']
  have up : ∀ c i, 4 ≤ c → c ≠ t + 3 → c ≠ t + 4 → c ≠ t + 5 → c ≠ t + 6 → hI h21 c i = hI hh c i ∧ hL h21 c i = hL hh c i := fun c i q1 q2 q3 q4 q5 => by
    rw [(f21 _ _ q5).1, (f21 _ _ q5).2.1, (r4 e19 q1).1, (r4 e19 q1).2, (r4 e17 q1).1, (r4 e17 q1).2, (f16 _ _ q4).1, (f16 _ _ q4).2.1, (r4 e14 q1).1, (r4 e14 q1).2, (r4 e12 q1).1, (r4 e12 q1).2, (f11 _ _ q3).1, (f11 _ _ q3).2.1, (r4 e9 q1).1, (r4 e9 q1).2, (r4 e7 q1).1, (r4 e7 q1).2, (f6 _ _ q2).1, (f6 _ _ q2).2.1, (r4 e3 q1).1, (r4 e3 q1).2, (r4 e1 q1).1, (r4 e1 q1).2]
    exact ⟨rfl, rfl⟩
  obtain ⟨d1, d2, d3, d4, d5, d6, d7, d8⟩ := wD
  have B : ∀ c i, (c = t ∧ i ≠ 0) ∨ (t + 1 ≤ c ∧ c ≤ t + 6 ∧ i ≠ N) ∨ c = t + 7 → hI h21 c i = hI h c i ∧ hL h21 c i = hL h c i := fun c i q => by
    have := A c i (by unfold oWW rW; omega)
    exact ⟨this.1, this.2.1⟩
  refine ⟨?_, ?_, ?_, ?_, ?_, fun i hi => ?_, fun x y hx hy => ?_, ?_⟩
  · rw [(up t 0 (by omega) (by omega) (by omega) (by omega) (by omega)).1, a2]
    show ((N + 1 : Nat) : Int) = ((cn (dC D) + 1 : Nat) : Int)
    rw [hN]
  · rw [(B t 1 (by omega)).1]; exact d2
  · rw [(B t 2 (by omega)).1]; exact d3
  · rw [(B t 3 (by omega)).1]; exact d4
  · rw [(B t 4 (by omega)).1]; exact d5
  · have hi : i < cn (dC D) + 1 := hi
    show hL h21 (t + 1) i = (if i = cn (dC D) then twd T else dN D i) ∧ hI h21 (t + 2) i = (if i = cn (dC D) then (kdT (adv n b T) : Int) else ckd (dC D) i) ∧ hI h21 (t + 3) i = (if i = cn (dC D) then nmV (ro1 n b T) else csl (dC D) i) ∧ hI h21 (t + 4) i = (if i = cn (dC D) then nmV (ro2 n b T) else cho (dC D) i) ∧ hI h21 (t + 5) i = (if i = cn (dC D) then nmV (ro3 n b T) else cri (dC D) i) ∧ hI h21 (t + 6) i = (if i = cn (dC D) then nmV (ro4 n b T) else cke (dC D) i)
    rw [hN] at hi ⊢
    by_cases e : i = N
    · simp only [if_pos e]
      rw [e]
      exact ⟨by rw [(up (t + 1) N (by omega) (by omega) (by omega) (by omega) (by omega)).2]; exact a3, by rw [(up (t + 2) N (by omega) (by omega) (by omega) (by omega) (by omega)).1]; exact a1, g3, g4, g5, g6⟩
    · simp only [if_neg e]
      rw [(B (t + 1) i (by omega)).2, (B (t + 2) i (by omega)).1, (B (t + 3) i (by omega)).1, (B (t + 4) i (by omega)).1, (B (t + 5) i (by omega)).1, (B (t + 6) i (by omega)).1]
      exact d6 i (by omega)
  · rw [(B (t + 7) _ (by omega)).1]; exact d7 x y hx hy
  · rw [(A 2 2 (by unfold oWW rW; omega)).1]; exact d8
theorem c_readOne {t n : Nat} {b : Nat → Nat} {D : zDf} {T : zTk} {Q : zS → Prop} (K : rK t n b) (hD : okD D) (hn : cn (dC D) < 12) (wD : XDr h t D) (w : XRd h t n b (.inr T))
    (HQ : ∀ h1, XRd h1 t n b (roS n b D T) → (∀ T', roS n b D T = .inr T' → XDr h1 t (roD n b D T)) → zE3 (dWW t) h h1 → Q h1) : zCv E (d + 3) m_X6_readOne [vo 2] h Q := by
  have k4 := city_lt K.1
  have x := w.2.2.2.1
  refine v_X6_readOne ?_
  rw [x.2.1]
  refine ⟨fun c => ⟨t, w.1, K.1, ?_⟩, fun c => ?_⟩
  · have t13 : tcd T = 13 := by omega
    rw [x.2.2.2.1 (by omega)]
    refine c_called (D := D) K.1 hD wD.1 (fun i hi => (wD.2.2.2.2.2.1 i hi).1) ?_
    have eF : fnd (dN D) (twd T) (cn (dC D)) = dF D T := rfl
    rw [eF]
    refine ⟨fun f1 => ⟨t, w.1, K.1, t, w.1, K.1, ?_⟩, fun f1 => ?_⟩
    · rw [wD.1, w32s (by omega)]
      intro h6 x6
      have z6 : zE3 (fun c i => ¬ (c = t ∧ i = 0)) h h6 := by rw [x6]; exact zE3.I (fun q => q ⟨rfl, rfl⟩)
      have v6 := (st_cp x6).1
      clear x6
      have w6 : XRd h6 t n b (.inr T) := w.w (z6.wk (fun c i q => by omega))
      refine ⟨t, w6.1, K.1, by omega, ?_⟩
      simp only [Int.toNat_natCast]
      rw [w6.2.2.2.1.2.2.2.1 (by omega)]
      intro h9 x9
      have z9 : zE3 (fun c i => ¬ (c = t + 1 ∧ i = cn (dC D))) h6 h9 := by rw [x9]; exact zE3.L (fun q => q ⟨rfl, rfl⟩)
      have v9 := (st_cpL x9).1
      clear x9
      have w9 : XRd h9 t n b (.inr T) := w6.w (z9.wk (fun c i q => by omega))
      refine c_adv K w9 (fun h10 w10 e10 => ⟨t, w10.1, K.1, ?_⟩)
      intro h12 x12
      have z12 : zE3 (fun c i => ¬ (c = t + 2 ∧ i = cn (dC D))) h10 h12 := by rw [x12]; exact zE3.I (fun q => q ⟨rfl, rfl⟩)
      have v12 := (st_cp x12).1
      clear x12
      have w12 : XRd h12 t n b (.inr (adv n b T)) := w10.w (z12.wk (fun c i q => by omega))
      have A12 : zE3 (oWW t (cn (dC D))) h h12 := (z6.wk (fun c i q => q.2.1)).tr ((z9.wk (fun c i q => by have := q.2.2; omega)).tr ((e10.wk (fun c i q => q.1)).tr (z12.wk (fun c i q => by have := q.2.2; omega))))
      have b2 : hI h12 t 0 = ((cn (dC D) + 1 : Nat) : Int) := by
        rw [(z12 _ _ (by omega)).1, (e10 _ _ (by unfold rW; omega)).1, (z9 _ _ (by omega)).1]; exact v6
      have b3 : hL h12 (t + 1) (cn (dC D)) = twd T := by
        rw [(z12 _ _ (by omega)).2.1, (e10 _ _ (by unfold rW; omega)).2.1]; exact v9
      rw [w12.2.2.2.1.2.1]
      have kind : (tcd (adv n b T) = 1 ∨ tcd (adv n b T) = 2 ∨ tcd (adv n b T) = 3) → zWv E (d + 2 + 1) m_X6_readOne 129 [vo 2, vi (cn (dC D) : Nat)] h12 Q := by
        intro ck
        have ek : kdT (adv n b T) = tcd (adv n b T) := by unfold kdT; rw [if_pos ck]
        refine r_X6_readOne_129 ⟨t, w12.1, K.1, by omega, ?_⟩
        simp only [Int.toNat_natCast]
        rw [w12.2.2.2.1.2.1]
        intro h3 x3
        have z3 : zE3 (fun c i => ¬ (c = t + 2 ∧ i = cn (dC D))) h12 h3 := by rw [x3]; exact zE3.I (fun q => q ⟨rfl, rfl⟩)
        have v3 := (st_cp x3).1
        clear x3
        have w3 : XRd h3 t n b (.inr (adv n b T)) := w12.w (z3.wk (fun c i q => by omega))
        refine c_adv K w3 (fun h4 w4 e4 => ?_)
        refine c_ro152 (h := h) K hn wD t13 f1 ?_ ?_ ?_ ?_ ?_ HQ
        · unfold ro0; rw [if_pos (by rw [ek]; omega)]; exact w4
        · rw [(e4 _ _ (by unfold rW; omega)).1, v3, ek]
        · rw [(e4 _ _ (by unfold rW; omega)).1, (z3 _ _ (by omega)).1]; exact b2
        · rw [(e4 _ _ (by unfold rW; omega)).2.1, (z3 _ _ (by omega)).2.1]; exact b3
        · exact A12.tr ((z3.wk (fun c i q => by have := q.2.2; omega)).tr (e4.wk (fun c i q => q.1)))
      refine ⟨fun c1 => kind (by omega), fun c1 => ⟨fun c2 => kind (by omega), fun c2 => ⟨fun c3 => ?_, fun c3 => kind (by omega)⟩⟩⟩
      have ek : kdT (adv n b T) = 0 := by unfold kdT; rw [if_neg (by omega)]
      refine c_ro152 (h := h) K hn wD t13 f1 ?_ ?_ b2 b3 A12 HQ
      · unfold ro0; rw [if_neg (by rw [ek]; exact fun q => q rfl)]; exact w12
      · rw [v12, ek]; rfl
    · have eS : roS n b D T = .inl (fz T 3) := by unfold roS; rw [if_neg (by omega), if_pos f1]
      refine c_refuse w (by omega) (fun h1 w1 e1 => HQ h1 (by rw [eS]; exact w1) (fun T' q => by rw [eS] at q; cases q) (e1.wk (fun c i q => q.1)))
  · have eS : roS n b D T = .inl (fz T 2) := by unfold roS; rw [if_pos (by omega)]
    refine c_refuse w (by omega) (fun h1 w1 e1 => HQ h1 (by rw [eS]; exact w1) (fun T' q => by rw [eS] at q; cases q) (e1.wk (fun c i q => q.1)))
end XN
