/-! the model: one line -/
def mP (N c i : Nat) : Prop := rM c i ∧ ¬ (c = 89 ∧ i = 24) ∧ ¬ (91 ≤ c ∧ c ≤ 96 ∧ i = N)
def mQ (N : Nat) (h h1 : zS) : Prop := zEw (mP N) h h1 ∧ (∀ i, i ≠ N → hL h1 91 i = hL h 91 i) ∧ zEq (fun c => c < 89) h h1
theorem mQ.tr {N : Nat} {h h1 h2 : zS} (a : mQ N h h1) (b : mQ N h1 h2) : mQ N h h2 := ⟨a.1.tr b.1, fun i hi => (b.2.1 i hi).trans (a.2.1 i hi), a.2.2.tr b.2.2⟩
theorem mQ.of {N : Nat} {h h1 : zS} (a : mF h h1) : mQ N h h1 := ⟨a.1.wk (fun c i q => q.1), fun i _ => a.2.L (by omega) i, a.2.wk (fun c q => by omega)⟩
theorem mQ.st {N j : Nat} {x : Int} {h h1 : zS} (e : h1 = stI h (91 + j) N x) (hj : 1 ≤ j) (hj2 : j ≤ 5) : mQ N h h1 := by
  rw [e]
  exact ⟨zEw_I (by unfold mP; omega), fun i _ => rfl, zEq_I (by omega)⟩
def mG (h h1 : zS) : Prop := zEw (fun c i => rM c i ∧ ¬ (c = 89 ∧ 24 ≤ i ∧ i ≤ 28) ∧ ¬ (91 ≤ c ∧ c ≤ 97)) h h1 ∧ zEq (fun c => c < 89) h h1
theorem mG.tr {h h1 h2 : zS} (a : mG h h1) (b : mG h1 h2) : mG h h2 := ⟨a.1.tr b.1, a.2.tr b.2⟩
theorem mG.ofQ {N : Nat} {h h1 : zS} (a : mQ N h h1) : mG h h1 := ⟨a.1.wk (fun c i q => by unfold mP; have := q.2; exact ⟨q.1, by omega, by omega⟩), a.2.2⟩
theorem mG.of {h h1 : zS} (a : mF h h1) : mG h h1 := ⟨a.1.wk (fun c i q => q.1), a.2.wk (fun c q => by omega)⟩
theorem mG.rf {h : zS} : mG h h := ⟨zEw.rf, zEq.rf⟩
section MN
variable {E : zE} {d : Nat} {h : zS}
theorem mst {n N j : Nat} {b : Nat → Nat} {s : zSt} {x : Int} {h2 h3 : zS} (w : MRd h2 n b s) (hj : 1 ≤ j) (hj2 : j ≤ 6) (e : h3 = stI h2 (91 + j) N x) : MRd h3 n b s ∧ hI h3 (91 + j) N = x ∧ zEq (fun c => c ≠ 91 + j) h2 h3 := by
  obtain ⟨v, _, q⟩ := st_cp e
  exact ⟨w.w (fun i _ _ => ⟨q.I (by omega) i, q.L (by omega) i⟩) (fun i => q.I (by omega) i), v, q⟩
theorem c_M_ro106 {n N : Nat} {b : Nat → Nat} {s0 : zSt} {hh : zS} {x1 x3 : Int} {Q : zS → Prop} (hn : n ≤ 1600) (hN : N < 12) (w : MRd hh n b s0) (a1 : hI hh 89 24 = (N : Int))
    (HQ : ∀ h1 s1 s2 s3 s4, s1 = psS n b 4 s0 → s2 = psS n b 5 (nmS n b 0 9 s1) → s3 = psS n b 6 (nmS n b 0 9 s2) → s4 = psS n b 7 (nmS n b 0 99 s3) → MRd h1 n b (nmS n b 0 999 s4) → (∀ T', nmS n b 0 999 s4 = .inr T' → hI h1 89 24 = ((N + 1 : Nat) : Int) ∧ hL h1 91 N = x1 ∧ hI h1 92 N = x3 ∧ hI h1 93 N = nmV s1 ∧ hI h1 94 N = nmV s2 ∧ hI h1 95 N = nmV s3 ∧ hI h1 96 N = nmV s4) → mQ N hh h1 → Q h1) : zWv E (d + 4) m_X10_readOne 106 [vo 89, vl x1, vn, vi x3] hh Q := by
  refine r_X10_readOne_106 ?_
  rw [a1]
  refine ⟨by omega, ?_⟩
  simp only [Int.toNat_natCast]
  intro h2 x2
  obtain ⟨w2, v2, q2⟩ := mst (j := 1) w (by omega) (by omega) x2
  have m2 := mQ.st (j := 1) x2 (by omega) (by omega)
  clear x2
  have n2 : hI h2 89 24 = (N : Int) := by rw [q2.I (by omega)]; exact a1
  refine c_M_told (k := 4) hn w2 (by omega) rfl (fun y4 h3 w3 z3 e3 => ?_)
  rw [n2]
  refine ⟨by omega, ?_⟩
  simp only [Int.toNat_natCast]
  intro h6 x6
  obtain ⟨w6, v6, q6⟩ := mst (j := 2) w3 (by omega) (by omega) x6
  have m6 := mQ.st (j := 2) x6 (by omega) (by omega)
  clear x6
  have n6 : hI h6 89 24 = (N : Int) := by rw [q6.I (by omega), (e3.1 89 24 (by unfold rM; omega)).1]; exact n2
  refine c_M_told (k := 5) hn w6 (by omega) rfl (fun y8 h7 w7 z7 e7 => ?_)
  rw [n6]
  refine ⟨by omega, ?_⟩
  simp only [Int.toNat_natCast]
  intro h10 x10
  obtain ⟨w10, v10, q10⟩ := mst (j := 3) w7 (by omega) (by omega) x10
  have m10 := mQ.st (j := 3) x10 (by omega) (by omega)
  clear x10
  have n10 : hI h10 89 24 = (N : Int) := by rw [q10.I (by omega), (e7.1 89 24 (by unfold rM; omega)).1]; exact n6
  refine c_M_told (k := 6) hn w10 (by omega) rfl (fun y12 h11 w11 z11 e11 => ?_)
  rw [n10]
  refine ⟨by omega, ?_⟩
  simp only [Int.toNat_natCast]
  intro h14 x14
  obtain ⟨w14, v14, q14⟩ := mst (j := 4) w11 (by omega) (by omega) x14
  have m14 := mQ.st (j := 4) x14 (by omega) (by omega)
  clear x14
  have n14 : hI h14 89 24 = (N : Int) := by rw [q14.I (by omega), (e11.1 89 24 (by unfold rM; omega)).1]; exact n10
  refine c_M_told (k := 7) hn w14 (by omega) rfl (fun y16 h15 w15 z15 e15 => ?_)
  rw [n14]
  refine ⟨by omega, ?_⟩
  simp only [Int.toNat_natCast]
  intro h18 x18
  obtain ⟨w18, v18, q18⟩ := mst (j := 5) w15 (by omega) (by omega) x18
  have m18 := mQ.st (j := 5) x18 (by omega) (by omega)
  clear x18
  have n18 : hI h18 89 24 = (N : Int) := by rw [q18.I (by omega), (e15.1 89 24 (by unfold rM; omega)).1]; exact n14
  rw [n18]
  refine ⟨by omega, ?_⟩
  simp only [Int.toNat_natCast]
  intro h20 x20
  have i20 : ∀ c k, hI h20 c k = hI h18 c k := by rw [x20]; exact fun _ _ => rfl
  have r20 : ∀ c k, hR h20 c k = hR h18 c k := by rw [x20]; exact fun _ _ => rfl
  obtain ⟨v20, n20', q20⟩ := st_cpL x20
  clear x20
  have w20 : MRd h20 n b (nmS n b 0 999 (psS n b 7 (nmS n b 0 99 (psS n b 6 (nmS n b 0 9 (psS n b 5 (nmS n b 0 9 (psS n b 4 s0)))))))) := w18.w (fun i _ _ => ⟨i20 89 i, n20' 89 i (by omega)⟩) (fun i => i20 90 i)
  have n20 : hI h20 89 24 = (N : Int) := by rw [i20]; exact n18
  have m20 : mQ N h18 h20 := ⟨fun c k _ => ⟨i20 c k, r20 c k⟩, fun i hi => n20' 91 i (fun q => hi q.2), q20.wk (fun c q => by omega)⟩
  have F : mQ N hh h20 := m2.tr ((mQ.of e3).tr (m6.tr ((mQ.of e7).tr (m10.tr ((mQ.of e11).tr (m14.tr ((mQ.of e15).tr (m18.tr m20))))))))
  have vals : ∀ T', nmS n b 0 999 (psS n b 7 (nmS n b 0 99 (psS n b 6 (nmS n b 0 9 (psS n b 5 (nmS n b 0 9 (psS n b 4 s0))))))) = .inr T' → hL h20 91 N = x1 ∧ hI h20 92 N = x3 ∧ hI h20 93 N = nmV (psS n b 4 s0) ∧ hI h20 94 N = nmV (psS n b 5 (nmS n b 0 9 (psS n b 4 s0))) ∧ hI h20 95 N = nmV (psS n b 6 (nmS n b 0 9 (psS n b 5 (nmS n b 0 9 (psS n b 4 s0))))) ∧ hI h20 96 N = nmV (psS n b 7 (nmS n b 0 99 (psS n b 6 (nmS n b 0 9 (psS n b 5 (nmS n b 0 9 (psS n b 4 s0))))))) := by
    intro T' hT
    have hT0 := hT
    obtain ⟨T4, p1, _⟩ := nmS_r hT
    obtain ⟨T4', p2, _, _⟩ := psS_r p1
    obtain ⟨T3, p3, _⟩ := nmS_r p2
    obtain ⟨T3', p4, _, _⟩ := psS_r p3
    obtain ⟨T2, p5, _⟩ := nmS_r p4
    obtain ⟨T2', p6, _, _⟩ := psS_r p5
    refine ⟨v20, ?_, ?_, ?_, ?_, ?_⟩
    · rw [i20, q18.I (by omega), e15.2.I (by omega), q14.I (by omega), e11.2.I (by omega), q10.I (by omega), e7.2.I (by omega), q6.I (by omega), e3.2.I (by omega)]; exact v2
    · rw [i20, q18.I (by omega), e15.2.I (by omega), q14.I (by omega), e11.2.I (by omega), q10.I (by omega), e7.2.I (by omega)]; exact v6.trans (z3 T2' p6)
    · rw [i20, q18.I (by omega), e15.2.I (by omega), q14.I (by omega), e11.2.I (by omega)]; exact v10.trans (z7 T3' p4)
    · rw [i20, q18.I (by omega), e15.2.I (by omega)]; exact v14.trans (z11 T4' p2)
    · rw [i20]; exact v18.trans (z15 T' hT0)
  have HQ := fun h1 => HQ h1 _ _ _ _ rfl rfl rfl rfl
  generalize nmS n b 0 999 (psS n b 7 (nmS n b 0 99 (psS n b 6 (nmS n b 0 9 (psS n b 5 (nmS n b 0 9 (psS n b 4 s0))))))) = sF at *
  cases sF with
  | inl e =>
    refine ⟨fun _ => r_X10_readOne_220 (HQ h20 w20 (fun T' q => by cases q) F), fun c => ?_⟩
    have := w20.2.2
    rw [w20.1] at c; omega
  | inr T' =>
    rw [w20.1]
    refine ⟨fun e => absurd rfl e, fun _ => ?_⟩
    rw [n20, w32s (by omega)]
    intro h21 x21
    have W21 : zEw (fun c i => ¬ (c = 89 ∧ i = 24)) h20 h21 := by rw [x21]; exact zEw_I (fun q => q ⟨rfl, rfl⟩)
    have l21 : ∀ c i, hL h21 c i = hL h20 c i := by rw [x21]; exact fun _ _ => rfl
    obtain ⟨v21, n21, q21⟩ := st_cp x21
    clear x21
    have vv := vals T' rfl
    refine r_X10_readOne_220 (HQ h21 (w20.w (fun i _ _ => ⟨n21 _ _ (by omega), l21 _ _⟩) (fun i => q21.I (by omega) i)) (fun T'' _ => ⟨v21, by rw [l21]; exact vv.1, ?_⟩) (F.tr ⟨W21.wk (fun c i q => q.2.1), fun i _ => l21 91 i, q21.wk (fun c q => by omega)⟩))
    rw [q21.I (by omega), q21.I (by omega), q21.I (by omega), q21.I (by omega), q21.I (by omega)]
    exact vv.2
theorem c_M_ro47 {n N : Nat} {b : Nat → Nat} {D : zDf} {T : zTk} {hh : zS} {x1 : Int} {Q : zS → Prop} (hn : n ≤ 1600) (hN' : cn (dC D) = N) (hN : N < 12) (wD : MDr h D) (a1 : hI hh 89 24 = (N : Int)) (fr : mQ N h hh)
    (st : (∃ e, roS n b D T = .inl e ∧ MRd hh n b (.inl e)) ∨ (roS n b D T = ro5 n b T ∧ MRd hh n b (.inr (adv n b T)) ∧ x1 = twd T))
    (HQ : ∀ h1, MRd h1 n b (roS n b D T) → (∀ T', roS n b D T = .inr T' → MDr h1 (roD n b D T)) → mG h h1 → Q h1) : zWv E (d + 4) m_X10_readOne 47 [vo 89, vl x1, vn, vn] hh Q := by
  -- from 90 on, in a fault
  have flt : ∀ e, roS n b D T = .inl e → MRd hh n b (.inl e) → ∀ u : Int, zAt E (d + 3 + 1) 0 0 m_X10_readOne 90 [vo 89, vl x1, vn, vn] [vi u] g0 hh (zPv Q) := by
    intro e eS w u
    refine r_X10_readOne_90 ⟨fun _ => ?_, fun c => ?_⟩
    · refine c_M_ro106 hn hN w a1 (fun h1 s1 s2 s3 s4 e1 e2 e3 e4 w1 z1 m1 => ?_)
      have es : nmS n b 0 999 s4 = .inl e := by rw [e4, e3, e2, e1]; rfl
      rw [es] at w1
      exact HQ h1 (by rw [eS]; exact w1) (fun T' q => by rw [eS] at q; cases q) (mG.ofQ (fr.tr m1))
    · have := w.2.2
      rw [w.1] at c; omega
  rcases st with ⟨e, eS, w⟩ | ⟨eS, w, ex⟩
  · have f := flt e eS w
    refine r_X10_readOne_47 ?_
    have any : ∀ (x : Int) (P : Int → zS → Prop), P 0 hh → P 1 hh → zCi E (d + 3) m_X10_isWord [vo 89, vl x] hh P := fun x P p0 p1 => v_X10_isWord ⟨fun _ => p0, fun _ => ⟨fun _ => p0, fun _ => p1⟩⟩
    refine any _ _ ⟨fun _ => ?_, fun e => absurd rfl e⟩ ⟨fun e => by omega, fun _ => f 1⟩
    refine any _ _ ⟨fun _ => ?_, fun e => absurd rfl e⟩ ⟨fun e => by omega, fun _ => f 2⟩
    exact any _ _ ⟨fun _ => f 0, fun e => absurd rfl e⟩ ⟨fun e => by omega, fun _ => f 3⟩
  · have go : ∀ u : Nat, u = kdT (adv n b T) → zAt E (d + 3 + 1) 0 0 m_X10_readOne 90 [vo 89, vl x1, vn, vn] [vi (u : Int)] g0 hh (zPv Q) := by
      intro u eu
      have fin : ∀ h2, MRd h2 n b (ro0 n b T) → mQ N h h2 → hI h2 89 24 = (N : Int) → zWv E (d + 3 + 1) m_X10_readOne 106 [vo 89, vl x1, vn, vi (u : Int)] h2 Q := by
        intro h2 w2 f2 n2
        refine c_M_ro106 hn hN w2 n2 (fun h1 s1 s2 s3 s4 e1 e2 e3 e4 w1 z1 m1 => ?_)
        have r1 : s1 = ro1 n b T := e1
        have r2 : s2 = ro2 n b T := by rw [e2, r1]; rfl
        have r3 : s3 = ro3 n b T := by rw [e3, r2]; rfl
        have r4 : s4 = ro4 n b T := by rw [e4, r3]; rfl
        have r5' : nmS n b 0 999 s4 = ro5 n b T := by rw [r4]; rfl
        rw [r5'] at w1 z1
        have F := f2.tr m1
        refine HQ h1 (by rw [eS]; exact w1) (fun T' q => ?_) (mG.ofQ F)
        rw [eS] at q
        obtain ⟨v1, v2, v3, v4, v5, v6, v7⟩ := z1 T' q
        rw [r1] at v4
        rw [r2] at v5
        rw [r3] at v6
        rw [r4] at v7
        obtain ⟨d1, d2, d3, d4, d5, d6, d7⟩ := wD
        have G : ∀ c i, mP N c i → hI h1 c i = hI h c i := fun c i q => (F.1 c i q).1
        refine ⟨?_, ?_, ?_, ?_, ?_, fun i hi => ?_, fun x y hx hy => ?_⟩
        · rw [v1]; show ((N + 1 : Nat) : Int) = ((cn (dC D) + 1 : Nat) : Int); rw [hN']
        · rw [G 89 25 (by unfold mP rM; omega)]; exact d2
        · rw [G 89 26 (by unfold mP rM; omega)]; exact d3
        · rw [G 89 27 (by unfold mP rM; omega)]; exact d4
        · rw [G 89 28 (by unfold mP rM; omega)]; exact d5
        · have hi : i < cn (dC D) + 1 := hi
          show hL h1 91 i = (if i = cn (dC D) then twd T else dN D i) ∧ hI h1 92 i = (if i = cn (dC D) then (kdT (adv n b T) : Int) else ckd (dC D) i) ∧ hI h1 93 i = (if i = cn (dC D) then nmV (ro1 n b T) else csl (dC D) i) ∧ hI h1 94 i = (if i = cn (dC D) then nmV (ro2 n b T) else cho (dC D) i) ∧ hI h1 95 i = (if i = cn (dC D) then nmV (ro3 n b T) else cri (dC D) i) ∧ hI h1 96 i = (if i = cn (dC D) then nmV (ro4 n b T) else cke (dC D) i)
          rw [hN'] at hi ⊢
          by_cases e : i = N
          · simp only [if_pos e]
            rw [e]
            exact ⟨by rw [v2, ex], by rw [v3, eu], v4, v5, v6, v7⟩
          · simp only [if_neg e]
            rw [F.2.1 i e, G 92 i (by unfold mP rM; omega), G 93 i (by unfold mP rM; omega), G 94 i (by unfold mP rM; omega), G 95 i (by unfold mP rM; omega), G 96 i (by unfold mP rM; omega)]
            exact d6 i (by omega)
        · rw [G 97 _ (by unfold mP rM; omega)]; exact d7 x y hx hy
      refine r_X10_readOne_90 ⟨fun c => by rw [w.1] at c; exact absurd rfl c, fun _ => ⟨fun c => ?_, fun c => ?_⟩⟩
      · refine fin hh ?_ fr a1
        unfold ro0; rw [if_neg (by omega)]; exact w
      · have c17 : tcd (adv n b T) ≠ 17 := by
          intro q
          unfold kdT at eu
          rw [if_neg (by omega)] at eu
          omega
        refine c_M_tk hn w c17 (fun h2 w2 e2 => fin h2 ?_ (fr.tr (mQ.of e2)) ?_)
        · unfold ro0; rw [if_pos (by omega)]; exact w2
        · rw [(e2.1 89 24 (by unfold rM; omega)).1]; exact a1
    refine r_X10_readOne_47 ?_
    refine c_M_isWord (k := 1) w (by omega) rfl ?_
    by_cases c1 : tcd (adv n b T) = 1
    · rw [if_pos c1]
      exact ⟨fun e => by omega, fun _ => go 1 (by unfold kdT; rw [if_pos (.inl c1), c1])⟩
    · rw [if_neg c1]
      refine ⟨fun _ => ?_, fun e => absurd rfl e⟩
      refine c_M_isWord (k := 2) w (by omega) rfl ?_
      by_cases c2 : tcd (adv n b T) = 2
      · rw [if_pos c2]
        exact ⟨fun e => by omega, fun _ => go 2 (by unfold kdT; rw [if_pos (.inr (.inl c2)), c2])⟩
      · rw [if_neg c2]
        refine ⟨fun _ => ?_, fun e => absurd rfl e⟩
        refine c_M_isWord (k := 3) w (by omega) rfl ?_
        by_cases c3 : tcd (adv n b T) = 3
        · rw [if_pos c3]
          exact ⟨fun e => by omega, fun _ => go 3 (by unfold kdT; rw [if_pos (.inr (.inr c3)), c3])⟩
        · rw [if_neg c3]
          exact ⟨fun _ => go 0 (by unfold kdT; rw [if_neg (by omega)]), fun e => absurd rfl e⟩
theorem c_M_readOne {n : Nat} {b : Nat → Nat} {D : zDf} {T0 : zTk} {Q : zS → Prop} (hn : n ≤ 1600) (hD : okD D) (hN : cn (dC D) < 12) (wD : MDr h D) (w : MRd h n b (.inr T0)) (t17 : tcd T0 ≠ 17)
    (HQ : ∀ h1, MRd h1 n b (roS n b D (adv n b T0)) → (∀ T', roS n b D (adv n b T0) = .inr T' → MDr h1 (roD n b D (adv n b T0))) → mG h h1 → Q h1) : zCv E (d + 4) m_X10_readOne [vo 89] h Q := by
  refine v_X10_readOne ?_
  refine c_M_tk hn w t17 (fun h1 w1 e1 => ?_)
  generalize adv n b T0 = T at *
  have wD1 := wD.w e1
  have F1 : mQ (cn (dC D)) h h1 := mQ.of e1
  have rest : ∀ h2 e, roS n b D T = .inl e → MRd h2 n b (.inl e) → mF h1 h2 → zWv E (d + 3 + 1) m_X10_readOne 31 [vo 89, vn, vn, vn] h2 Q := by
    intro h2 e eS w2 e2
    refine r_X10_readOne_31 ⟨fun _ => ?_, fun c => ?_⟩
    · exact c_M_ro47 (h := h) hn rfl hN wD ((e2.1 89 24 (by unfold rM; omega)).1.trans wD1.1) (F1.tr (mQ.of e2)) (.inl ⟨e, eS, w2⟩) HQ
    · have := w2.2.2
      rw [w2.1] at c; omega
  refine c_M_isName w1 ?_
  by_cases c : tcd T = 13
  · rw [if_pos c]
    refine ⟨fun _ => ?_, fun e => by omega⟩
    refine c_M_find (D := D) hD.1.1 wD1.1 (fun i hi => (wD1.2.2.2.2.2.1 i hi).1) rfl ?_
    rw [w1.2.2.1.2.2.2.2.2.1 (by omega)]
    have eF : fnd (dN D) (twd T) (cn (dC D)) = dF D T := rfl
    rw [eF]
    refine ⟨fun c2 => ?_, fun c2 => ?_⟩
    · have f1 : dF D T = -1 := by
        rcases fnd_is (nm := dN D) (w := twd T) (cn (dC D)) with ⟨q, _⟩ | ⟨k, q, _⟩
        · exact q
        · rw [eF] at q; omega
      have eS : roS n b D T = ro5 n b T := by unfold roS; rw [if_neg (by omega), if_neg (by omega)]
      refine r_X10_readOne_31 ⟨fun q => by rw [w1.1] at q; exact absurd rfl q, fun _ => ?_⟩
      rw [w1.2.2.1.2.2.2.2.2.1 (by omega)]
      refine c_M_tk hn w1 (by omega) (fun h2 w2 e2 => ?_)
      exact c_M_ro47 (h := h) hn rfl hN wD ((e2.1 89 24 (by unfold rM; omega)).1.trans wD1.1) (F1.tr (mQ.of e2)) (.inr ⟨eS, w2, rfl⟩) HQ
    · have eS : roS n b D T = .inl (fz T 3) := by unfold roS; rw [if_neg (by omega), if_pos (by omega)]
      exact c_M_wrong w1 (by omega) (fun h2 w2 e2 => rest h2 _ eS w2 e2)
  · rw [if_neg c]
    refine ⟨fun e => absurd rfl e, fun _ => ?_⟩
    have eS : roS n b D T = .inl (fz T 2) := by unfold roS; rw [if_pos c]
    exact c_M_wrong w1 (by omega) (fun h2 w2 e2 => rest h2 _ eS w2 e2)
end MN
