/-! the model: gives, from, to, luck; a line; all lines -/
section MG2
variable {E : zE} {d : Nat} {h : zS}
theorem c_M_readGives {n : Nat} {b : Nat → Nat} {D : zDf} {T0 : zTk} {Q : zS → Prop} (hn : n ≤ 1600) (hD : okD D) (hgl : cgl (dC D) < 30) (wD : MDr h D) (w : MRd h n b (.inr T0)) (t17 : tcd T0 ≠ 17)
    (HQ : ∀ h1, MRd h1 n b (rgS n b D (adv n b T0)) → (∀ T', rgS n b D (adv n b T0) = .inr T' → MDr h1 (rgD n b D (adv n b T0))) → mG h h1 → Q h1) : zCv E (d + 4) m_X10_readGives [vo 89] h Q := by
  have hn12 := hD.1.1
  refine v_X10_readGives ?_
  refine c_M_tk hn w t17 (fun h1 w1 e1 => ?_)
  generalize adv n b T0 = T at *
  have wD1 := wD.w e1
  refine c_M_old hn hD (fun _ => wD1) w1 (fun y3 h2 w2 z2 e2 => ?_)
  have wD2 := wD1.w e2
  have G2 : mG h h2 := (mG.of e1).tr (mG.of e2)
  have eR : rgS n b D T = rg2 n b D (dF D T) (knS n b D (.inr T)) := rfl
  cases s1 : knS n b D (.inr T) with
  | inl e =>
    rw [s1] at w2
    refine ⟨fun c => ?_, fun _ => HQ h2 ?_ (fun T' q => ?_) G2⟩
    · have := w2.2.2
      rw [w2.1] at c; omega
    · rw [eR, s1]; exact w2
    · rw [eR, s1] at q; cases q
  | inr T1 =>
    have yv := z2 T1 s1
    rw [s1] at w2
    obtain ⟨Ta, a1, a2, a3, g, a4, a5⟩ := knS_r s1
    cases a1
    have yv : y3 = (g : Int) := yv.trans a4
    subst yv
    rw [s1, rg2_i, a4] at eR
    rw [w2.1]
    refine ⟨fun _ => ?_, fun e => by omega⟩
    -- the rest of the line
    have tl : ∀ h4 s, MRd h4 n b s → MDr h4 D → mG h h4 → (rgS n b D T = nmS n b 1 9 (psS n b 9 (knS n b D s))) → (s = .inr T1 ∨ ∃ e, s = .inl e) → zCi E (d + 3) m_X10_old [vo 89] h4 (fun y9 h8 => zCi E (d + 3) m_X10_told [vo 89, vl 499850634611, vi 1, vi 9] h8 (fun y11 h10 => (((hI h10 89 2) ≤ 0 → ((0 ≤ w32 ((w32 (12 * (g : Int))) + y9) ∧ w32 ((w32 (12 * (g : Int))) + y9) < 144) ∧ ∀ h13, h13 = stI h10 97 (w32 ((w32 (12 * (g : Int))) + y9)).toNat y11 → ∀ h14, h14 = stI h13 89 25 (w32 ((hI h13 89 25) + 1)) → Q h14)) ∧ (0 < (hI h10 89 2) → (Q h10))))) := by
      intro h4 s w4 wD4 G4 eS cs
      refine c_M_old hn hD (fun _ => wD4) w4 (fun y9 h8 w8 z8 e8 => ?_)
      refine c_M_told (k := 9) hn w8 (by omega) rfl (fun y11 h10 w10 z10 e10 => ?_)
      have G10 : mG h h10 := G4.tr ((mG.of e8).tr (mG.of e10))
      have wD10 := (wD4.w e8).w e10
      cases sF : nmS n b 1 9 (psS n b 9 (knS n b D s)) with
      | inl e =>
        rw [sF] at w10
        refine ⟨fun c => ?_, fun _ => HQ h10 (by rw [eS, sF]; exact w10) (fun T' q => by rw [eS, sF] at q; cases q) G10⟩
        have := w10.2.2
        rw [w10.1] at c; omega
      | inr T4 =>
        have v5 := z10 T4 sF
        rw [sF] at w10
        obtain ⟨T3, b1, _⟩ := nmS_r sF
        obtain ⟨T2, c1, _, _⟩ := psS_r b1
        have v2 := z8 T2 c1
        obtain ⟨Tb, d1, d2, d3, o, d4, d5⟩ := knS_r c1
        have sT : s = .inr T1 := by
          rcases cs with q | ⟨e, q⟩
          · exact q
          · rw [q] at d1; cases d1
        subst sT
        cases d1
        have v2 : y9 = (o : Int) := v2.trans d4
        subst v2
        rw [w10.1]
        refine ⟨fun _ => ?_, fun c => by omega⟩
        have g12 : g < 12 := by omega
        have o12 : o < 12 := by omega
        rw [w32q g12 o12]
        refine ⟨by omega, ?_⟩
        simp only [Int.toNat_natCast]
        intro h13 x13
        have W13 : zEw (fun c i => ¬ (c = 97 ∧ i = 12 * g + o)) h10 h13 := by rw [x13]; exact zEw_I (fun q => q ⟨rfl, rfl⟩)
        obtain ⟨v13, n13, q13⟩ := st_cp x13
        clear x13
        have gl : hI h13 89 25 = (cgl (dC D) : Int) := by rw [q13.I (by omega)]; exact wD10.2.1
        rw [gl, w32s (by omega)]
        intro h14 x14
        have W14 : zEw (fun c i => ¬ (c = 89 ∧ i = 25)) h13 h14 := by rw [x14]; exact zEw_I (fun q => q ⟨rfl, rfl⟩)
        have l14 : ∀ c i, hL h14 c i = hL h13 c i := by rw [x14]; exact fun _ _ => rfl
        obtain ⟨v14, n14, q14⟩ := st_cp x14
        clear x14
        have w14 : MRd h14 n b (.inr T4) := w10.w (fun i _ _ => ⟨by rw [n14 _ _ (by omega), q13.I (by omega)], by rw [l14, q13.L (by omega)]⟩) (fun i => by rw [q14.I (by omega), q13.I (by omega)])
        refine HQ h14 (by rw [eS, sF]; exact w14) (fun T' _ => ?_) (G10.tr ⟨(W13.wk (fun c i q => by have := q.2.2; omega)).tr (W14.wk (fun c i q => by have := q.2.1; omega)), (q13.wk (fun c q => by omega)).tr (q14.wk (fun c q => by omega))⟩)
        have eD : rgD n b D T = setG D g o y11 := by
          unfold rgD
          rw [a4, ← a3, d4, v5]
          simp only [Int.toNat_natCast]
        rw [eD]
        obtain ⟨f1, f2, f3, f4, f5, f6, f7⟩ := wD10
        refine ⟨by rw [n14 _ _ (by omega), q13.I (by omega)]; exact f1, v14, by rw [n14 _ _ (by omega), q13.I (by omega)]; exact f3, by rw [n14 _ _ (by omega), q13.I (by omega)]; exact f4, by rw [n14 _ _ (by omega), q13.I (by omega)]; exact f5, fun i hi => ?_, fun x y hx hy => ?_⟩
        · rw [l14, q13.L (by omega), q14.I (by omega), q13.I (by omega), q14.I (by omega), q13.I (by omega), q14.I (by omega), q13.I (by omega), q14.I (by omega), q13.I (by omega), q14.I (by omega), q13.I (by omega)]
          exact f6 i hi
        · show hI h14 97 (12 * x + y) = if x = g ∧ y = o then y11 else ctk (dC D) x y
          rw [q14.I (by omega)]
          by_cases e : x = g ∧ y = o
          · rw [if_pos e, e.1, e.2]; exact v13
          · rw [if_neg e, n13 _ _ (by omega)]; exact f7 x y hx hy
    have good : ¬ gvB D g T1 → rgS n b D T = nmS n b 1 9 (psS n b 9 (knS n b D (.inr T1))) := fun q => by rw [eR, if_neg (fun x => q (bD_t.mp x))]
    have bad : gvB D g T1 → zCv E (d + 3) m_X10_wrong [vo 89, vi 3] h2 (fun h22 => zCi E (d + 3) m_X10_old [vo 89] h22 (fun y9 h8 => zCi E (d + 3) m_X10_told [vo 89, vl 499850634611, vi 1, vi 9] h8 (fun y11 h10 => (((hI h10 89 2) ≤ 0 → ((0 ≤ w32 ((w32 (12 * (g : Int))) + y9) ∧ w32 ((w32 (12 * (g : Int))) + y9) < 144) ∧ ∀ h13, h13 = stI h10 97 (w32 ((w32 (12 * (g : Int))) + y9)).toNat y11 → ∀ h14, h14 = stI h13 89 25 (w32 ((hI h13 89 25) + 1)) → Q h14)) ∧ (0 < (hI h10 89 2) → (Q h10)))))) := by
      intro gb
      refine c_M_wrong w2 (by omega) (fun h4 w4 e4 => tl h4 (.inl (fz T1 3)) w4 (wD2.w e4) (G2.tr (mG.of e4)) ?_ (.inr ⟨_, rfl⟩))
      rw [eR, if_pos (bD_t.mpr gb)]; rfl
    refine c_M_find (D := D) hn12 wD2.1 (fun i hi => (wD2.2.2.2.2.2.1 i hi).1) rfl ?_
    refine c_M_isName w2 ?_
    by_cases c : tcd T1 = 13
    · rw [if_pos c]
      rw [w2.2.2.1.2.2.2.2.2.1 (by omega)]
      have eF : fnd (dN D) (twd T1) (cn (dC D)) = dF D T1 := rfl
      have go : gvO D T1 = dF D T1 := by unfold gvO; rw [if_pos c]
      rw [eF]
      refine ⟨fun e => by omega, fun _ => ⟨fun c2 => ?_, fun c2 => ?_⟩⟩
      · refine tl h2 (.inr T1) w2 wD2 G2 (good (fun q => q.1 ?_)) (.inl rfl)
        rw [go]
        rcases fnd_is (nm := dN D) (w := twd T1) (cn (dC D)) with ⟨q, _⟩ | ⟨k, q, _⟩
        · exact q
        · rw [eF] at q; omega
      · obtain ⟨o, o1, o2⟩ : ∃ o : Nat, dF D T1 = o ∧ o < cn (dC D) := by
          rcases fnd_is (nm := dN D) (w := twd T1) (cn (dC D)) with ⟨q, _⟩ | ⟨k, q1, q2, _⟩
          · rw [eF] at q; omega
          · exact ⟨k, q1, q2⟩
        rw [o1]
        refine ⟨fun c3 => bad ⟨by rw [go, o1]; omega, .inl (by rw [go, o1]; exact c3.symm)⟩, fun c3 => ?_⟩
        have g12 : g < 12 := by omega
        have o12 : o < 12 := by omega
        rw [w32q g12 o12]
        refine ⟨by omega, ?_⟩
        simp only [Int.toNat_natCast]
        rw [wD2.2.2.2.2.2.2 g o g12 o12]
        have gb : gvB D g T1 ↔ 0 < ctk (dC D) g o := by
          unfold gvB
          rw [go, o1]
          simp only [Int.toNat_natCast]
          constructor
          · rintro ⟨_, q | q⟩
            · exact absurd q.symm c3
            · exact q
          · intro q; exact ⟨by omega, .inr q⟩
        exact ⟨fun c4 => tl h2 (.inr T1) w2 wD2 G2 (good (fun q => by have := gb.mp q; omega)) (.inl rfl), fun c4 => bad (gb.mpr c4)⟩
    · rw [if_neg c]
      refine ⟨fun _ => tl h2 (.inr T1) w2 wD2 G2 (good (fun q => q.1 ?_)) (.inl rfl), fun e => absurd rfl e⟩
      unfold gvO; rw [if_neg c]
theorem c_M_line137 {n : Nat} {b : Nat → Nat} {s : zSt} {Q : zS → Prop} (hn : n ≤ 1600) (w : MRd h n b s) (HQ : ∀ h1, MRd h1 n b (psS n b 15 s) → mF h h1 → Q h1) : zWv E (d + 2) m_X10_readLine 137 [vo 89] h Q := by
  refine r_X10_readLine_137 ?_
  cases s with
  | inl e =>
    have := w.2.2
    refine ⟨fun _ => r_X10_readLine_158 ⟨fun _ => r_X10_readLine_169 (HQ h w mF.rf), fun c => ?_⟩, fun c => ?_⟩
    · rw [w.1] at c; omega
    · rw [w.1] at c; omega
  | inr T =>
    have tk := w.2.2.2.2
    rw [psS_i] at HQ
    rw [w.1]
    refine ⟨fun e => absurd rfl e, fun _ => ?_⟩
    rw [w.2.2.1.2.2.2.1]
    refine ⟨fun c => ?_, fun c => ?_⟩
    · have c := (srt_59 tk.2).mp c
      rw [if_pos c] at HQ
      refine r_X10_readLine_158 ⟨fun q => by rw [w.1] at q; exact absurd rfl q, fun _ => ?_⟩
      exact c_M_tk hn w (by omega) (fun h1 w1 e1 => r_X10_readLine_169 (HQ h1 w1 e1))
    · have c : tcd T ≠ 15 := fun q => c ((srt_59 tk.2).mpr q)
      rw [if_neg c] at HQ
      refine c_M_wrong w (by omega) (fun h1 w1 e1 => r_X10_readLine_158 ⟨fun _ => r_X10_readLine_169 (HQ h1 w1 e1), fun q => ?_⟩)
      have := w1.2.2
      rw [w1.1] at q; omega
theorem c_M_readLine {n : Nat} {b : Nat → Nat} {D : zDf} {T : zTk} {Q : zS → Prop} (hn : n ≤ 1600) (hD : okD D) (wD : MDr h D) (w : MRd h n b (.inr T))
    (HQ : ∀ h1, MRd h1 n b (lnS n b D T) → (∀ T', lnS n b D T = .inr T' → MDr h1 (lnD n b D T)) → mG h h1 → Q h1) : zCv E (d + 5) m_X10_readLine [vo 89] h Q := by
  have hga := hD.1.2.2.1
  have hse := hD.1.2.2.2.1
  have hlu := hD.1.2.2.2.2.1
  -- none may begin
  have none' : ¬ mayB D T → zWv E (d + 4 + 1) m_X10_readLine 132 [vo 89] h Q := by
    intro mb
    have eS : lnS n b D T = .inl (fz T 2) := by unfold lnS; rw [if_neg (fun q => mb (bD_t.mp q))]
    refine r_X10_readLine_132 ?_
    refine c_M_wrong w (by omega) (fun h1 w1 e1 => ?_)
    refine c_M_line137 hn w1 (fun h2 w2 e2 => HQ h2 (by rw [eS]; exact w2) (fun T' q => by rw [eS] at q; cases q) ((mG.of e1).tr (mG.of e2)))
  have l108 : (tcd T = 0 → ¬ cn (dC D) < 12) → (tcd T = 8 → ¬ cgl (dC D) < 30) → (tcd T = 10 → cga (dC D) ≠ -1) → (tcd T = 11 → cse (dC D) ≠ -1) → zWv E (d + 4 + 1) m_X10_readLine 108 [vo 89] h Q := by
    intro n0 n8 n10 n11
    refine r_X10_readLine_108 ?_
    refine c_M_isWord (k := 12) w (by omega) rfl ?_
    by_cases c : tcd T = 12
    · rw [if_pos c]
      refine ⟨fun e => by omega, fun _ => ?_⟩
      rw [wD.2.2.2.2.1]
      cases l : dL D with
      | true =>
        rw [if_pos rfl]
        refine ⟨fun _ => none' ?_, fun q => by omega⟩
        unfold mayB
        rw [l]
        rintro (q | q | q | q | q)
        · omega
        · omega
        · omega
        · omega
        · cases q.2
      | false =>
        rw [if_neg (by simp)]
        refine ⟨fun q => by omega, fun _ => ?_⟩
        have mb : mayB D T := .inr (.inr (.inr (.inr ⟨c, l⟩)))
        unfold lnS lnD at HQ
        rw [if_pos (bD_t.mpr mb)] at HQ
        simp only [if_neg (show ¬ tcd T = 0 by omega), if_neg (show ¬ tcd T = 8 by omega), if_pos c] at HQ
        refine v_X10_readLuck ?_
        refine c_M_tk hn w (by omega) (fun h1 w1 e1 => ?_)
        refine c_M_toldNumber hn w1 (fun y3 h2 w2 z2 e2 => ?_)
        intro h4 x4
        have W4 : zEw (fun c i => ¬ (c = 89 ∧ i = 28)) h2 h4 := by rw [x4]; exact zEw_I (fun q => q ⟨rfl, rfl⟩)
        have l4 : ∀ c i, hL h4 c i = hL h2 c i := by rw [x4]; exact fun _ _ => rfl
        obtain ⟨v4, n4, q4⟩ := st_cp x4
        clear x4
        have w4 := w2.w (h1 := h4) (fun i _ _ => ⟨n4 _ _ (by omega), l4 _ _⟩) (fun i => q4.I (by omega) i)
        refine c_M_line137 hn w4 (fun h5 w5 e5 => HQ h5 w5 (fun T' hT => ?_) ((mG.of e1).tr ((mG.of e2).tr (mG.tr ⟨W4.wk (fun c i q => by have := q.2.1; omega), q4.wk (fun c q => by omega)⟩ (mG.of e5)))))
        obtain ⟨Tk, q, _, _⟩ := psS_r hT
        have yv := z2 Tk q
        refine MDr.w ?_ e5
        obtain ⟨f1, f2, f3, f4, f5, f6, f7⟩ := (wD.w e1).w e2
        refine ⟨by rw [n4 _ _ (by omega)]; exact f1, by rw [n4 _ _ (by omega)]; exact f2, by rw [n4 _ _ (by omega)]; exact f3, by rw [n4 _ _ (by omega)]; exact f4, ?_, fun i hi => ?_, fun x y hx hy => by rw [q4.I (by omega)]; exact f7 x y hx hy⟩
        · rw [v4, yv]; rfl
        · rw [l4, q4.I (by omega), q4.I (by omega), q4.I (by omega), q4.I (by omega), q4.I (by omega)]; exact f6 i hi
    · rw [if_neg c]
      refine ⟨fun _ => none' ?_, fun e => absurd rfl e⟩
      unfold mayB
      rintro (q | q | q | q | q)
      · exact n0 q.1 q.2
      · exact n8 q.1 q.2
      · exact n10 q.1 q.2
      · exact n11 q.1 q.2
      · exact c q.1
  have l80 : (tcd T = 0 → ¬ cn (dC D) < 12) → (tcd T = 8 → ¬ cgl (dC D) < 30) → (tcd T = 10 → cga (dC D) ≠ -1) → zWv E (d + 4 + 1) m_X10_readLine 80 [vo 89] h Q := by
    intro n0 n8 n10
    refine r_X10_readLine_80 ?_
    refine c_M_isWord (k := 11) w (by omega) rfl ?_
    by_cases c : tcd T = 11
    · rw [if_pos c]
      refine ⟨fun e => by omega, fun _ => ?_⟩
      rw [wD.2.2.2.1]
      refine ⟨fun q => l108 n0 n8 n10 (fun _ => by omega), fun q => ?_⟩
      have mb : mayB D T := .inr (.inr (.inr (.inl ⟨c, by omega⟩)))
      unfold lnS lnD at HQ
      rw [if_pos (bD_t.mpr mb)] at HQ
      simp only [if_neg (show ¬ tcd T = 0 by omega), if_neg (show ¬ tcd T = 8 by omega), if_neg (show ¬ tcd T = 12 by omega), if_neg (show ¬ tcd T = 10 by omega)] at HQ
      refine v_X10_readOld ?_
      refine c_M_tk hn w (by omega) (fun h1 w1 e1 => ?_)
      refine c_M_old hn hD (fun _ => wD.w e1) w1 (fun y3 h2 w2 z2 e2 => ?_)
      intro h4 x4
      have W4 : zEw (fun c i => ¬ (c = 89 ∧ i = 27)) h2 h4 := by rw [x4]; exact zEw_I (fun q => q ⟨rfl, rfl⟩)
      have l4 : ∀ c i, hL h4 c i = hL h2 c i := by rw [x4]; exact fun _ _ => rfl
      obtain ⟨v4, n4, q4⟩ := st_cp x4
      clear x4
      have w4 := w2.w (h1 := h4) (fun i _ _ => ⟨n4 _ _ (by omega), l4 _ _⟩) (fun i => q4.I (by omega) i)
      refine c_M_line137 hn w4 (fun h5 w5 e5 => HQ h5 w5 (fun T' hT => ?_) ((mG.of e1).tr ((mG.of e2).tr (mG.tr ⟨W4.wk (fun c i q => by have := q.2.1; omega), q4.wk (fun c q => by omega)⟩ (mG.of e5)))))
      obtain ⟨Tk, q, _, _⟩ := psS_r hT
      have yv := z2 Tk q
      refine MDr.w ?_ e5
      obtain ⟨f1, f2, f3, f4, f5, f6, f7⟩ := (wD.w e1).w e2
      refine ⟨by rw [n4 _ _ (by omega)]; exact f1, by rw [n4 _ _ (by omega)]; exact f2, by rw [n4 _ _ (by omega)]; exact f3, by rw [v4, yv]; rfl, by rw [n4 _ _ (by omega)]; exact f5, fun i hi => ?_, fun x y hx hy => by rw [q4.I (by omega)]; exact f7 x y hx hy⟩
      rw [l4, q4.I (by omega), q4.I (by omega), q4.I (by omega), q4.I (by omega), q4.I (by omega)]; exact f6 i hi
    · rw [if_neg c]
      exact ⟨fun _ => l108 n0 n8 n10 (fun q => absurd q c), fun e => absurd rfl e⟩
  have l52 : (tcd T = 0 → ¬ cn (dC D) < 12) → (tcd T = 8 → ¬ cgl (dC D) < 30) → zWv E (d + 4 + 1) m_X10_readLine 52 [vo 89] h Q := by
    intro n0 n8
    refine r_X10_readLine_52 ?_
    refine c_M_isWord (k := 10) w (by omega) rfl ?_
    by_cases c : tcd T = 10
    · rw [if_pos c]
      refine ⟨fun e => by omega, fun _ => ?_⟩
      rw [wD.2.2.1]
      refine ⟨fun q => l80 n0 n8 (fun _ => by omega), fun q => ?_⟩
      have mb : mayB D T := .inr (.inr (.inl ⟨c, by omega⟩))
      unfold lnS lnD at HQ
      rw [if_pos (bD_t.mpr mb)] at HQ
      simp only [if_neg (show ¬ tcd T = 0 by omega), if_neg (show ¬ tcd T = 8 by omega), if_neg (show ¬ tcd T = 12 by omega), if_pos c] at HQ
      refine v_X10_readOld ?_
      refine c_M_tk hn w (by omega) (fun h1 w1 e1 => ?_)
      refine c_M_old hn hD (fun _ => wD.w e1) w1 (fun y3 h2 w2 z2 e2 => ?_)
      intro h4 x4
      have W4 : zEw (fun c i => ¬ (c = 89 ∧ i = 26)) h2 h4 := by rw [x4]; exact zEw_I (fun q => q ⟨rfl, rfl⟩)
      have l4 : ∀ c i, hL h4 c i = hL h2 c i := by rw [x4]; exact fun _ _ => rfl
      obtain ⟨v4, n4, q4⟩ := st_cp x4
      clear x4
      have w4 := w2.w (h1 := h4) (fun i _ _ => ⟨n4 _ _ (by omega), l4 _ _⟩) (fun i => q4.I (by omega) i)
      refine c_M_line137 hn w4 (fun h5 w5 e5 => HQ h5 w5 (fun T' hT => ?_) ((mG.of e1).tr ((mG.of e2).tr (mG.tr ⟨W4.wk (fun c i q => by have := q.2.1; omega), q4.wk (fun c q => by omega)⟩ (mG.of e5)))))
      obtain ⟨Tk, q, _, _⟩ := psS_r hT
      have yv := z2 Tk q
      refine MDr.w ?_ e5
      obtain ⟨f1, f2, f3, f4, f5, f6, f7⟩ := (wD.w e1).w e2
      refine ⟨by rw [n4 _ _ (by omega)]; exact f1, by rw [n4 _ _ (by omega)]; exact f2, by rw [v4, yv]; rfl, by rw [n4 _ _ (by omega)]; exact f4, by rw [n4 _ _ (by omega)]; exact f5, fun i hi => ?_, fun x y hx hy => by rw [q4.I (by omega)]; exact f7 x y hx hy⟩
      rw [l4, q4.I (by omega), q4.I (by omega), q4.I (by omega), q4.I (by omega), q4.I (by omega)]; exact f6 i hi
    · rw [if_neg c]
      exact ⟨fun _ => l80 n0 n8 (fun q => absurd q c), fun e => absurd rfl e⟩
  have l26 : (tcd T = 0 → ¬ cn (dC D) < 12) → zWv E (d + 4 + 1) m_X10_readLine 26 [vo 89] h Q := by
    intro n0
    refine r_X10_readLine_26 ?_
    refine c_M_isWord (k := 8) w (by omega) rfl ?_
    by_cases c : tcd T = 8
    · rw [if_pos c]
      refine ⟨fun e => by omega, fun _ => ?_⟩
      rw [wD.2.1]
      refine ⟨fun q => l52 n0 (fun _ => by omega), fun q => ?_⟩
      have mb : mayB D T := .inr (.inl ⟨c, by omega⟩)
      unfold lnS lnD at HQ
      rw [if_pos (bD_t.mpr mb)] at HQ
      simp only [if_neg (show ¬ tcd T = 0 by omega), if_pos c] at HQ
      refine c_M_readGives hn hD (by omega) wD w (by omega) (fun h1 w1 z1 e1 => ?_)
      refine c_M_line137 hn w1 (fun h2 w2 e2 => HQ h2 w2 (fun T' hT => ?_) (e1.tr (mG.of e2)))
      obtain ⟨Tk, q, _, _⟩ := psS_r hT
      exact (z1 Tk q).w e2
    · rw [if_neg c]
      exact ⟨fun _ => l52 n0 (fun q => absurd q c), fun e => absurd rfl e⟩
  refine v_X10_readLine ?_
  refine c_M_isWord (k := 0) w (by omega) rfl ?_
  by_cases c : tcd T = 0
  · rw [if_pos c]
    refine ⟨fun e => by omega, fun _ => ?_⟩
    rw [wD.1]
    refine ⟨fun q => l26 (fun _ => by omega), fun q => ?_⟩
    have mb : mayB D T := .inl ⟨c, by omega⟩
    unfold lnS lnD at HQ
    rw [if_pos (bD_t.mpr mb)] at HQ
    simp only [if_pos c] at HQ
    refine c_M_readOne hn hD (by omega) wD w (by omega) (fun h1 w1 z1 e1 => ?_)
    refine c_M_line137 hn w1 (fun h2 w2 e2 => HQ h2 w2 (fun T' hT => ?_) (e1.tr (mG.of e2)))
    obtain ⟨Tk, q, _, _⟩ := psS_r hT
    exact (z1 Tk q).w e2
  · rw [if_neg c]
    exact ⟨fun _ => l26 (fun q => absurd q c), fun e => absurd rfl e⟩
end MG2
