/-! choose: to whom a thing goes next, and when -/
def chF (C : zCt) (N : zEn) (v : Nat → Int) (p : Nat) : Nat → Int × Int × Int
  | 0 => (1000000, -1, -1)
  | q + 1 => if byV C N v p q < (chF C N v p q).1 then (byV C N v p q, (q : Int), (nd N : Int) + ngv N p q) else chF C N v p q
def chR (C : zCt) (N : zEn) (v : Nat → Int) (t p q : Nat) : Nat → Int := r5 (rT N t 0) (rT N t 1) (rT N t 2) (chF C N v p q).2.1 (chF C N v p q).2.2
theorem chF_ok {C : zCt} {N : zEn} {v : Nat → Int} {p : Nat} (hN : okN C N) : ∀ q, q ≤ cn C → (chF C N v p q).1 ≤ 1000000 ∧ -1 ≤ (chF C N v p q).2.1 ∧ (chF C N v p q).2.1 < cn C ∧ -1 ≤ (chF C N v p q).2.2 ∧ (chF C N v p q).2.2 ≤ nd N + 9
  | 0, _ => by unfold chF; dsimp only; omega
  | q + 1, hq => by
    have ih := chF_ok hN (v := v) (p := p) q (by omega)
    have g := (hN.2.2.2.2.2.2.1 p q).1
    unfold chF
    split
    · dsimp only; omega
    · exact ih
theorem chF_ext {C : zCt} {N : zEn} {v w : Nat → Int} {p : Nat} (h : ∀ i, i < cn C → v i = w i) : ∀ q, q ≤ cn C → chF C N v p q = chF C N w p q
  | 0, _ => rfl
  | q + 1, hq => by
    have ih := chF_ext (N := N) (p := p) h q (by omega)
    have e : byV C N v p q = byV C N w p q := by unfold byV; rw [h q (by omega)]
    unfold chF
    rw [ih, e]
theorem okT_ch {C : zCt} {N : zEn} {v : Nat → Int} {t p q : Nat} (hN : okN C N) (ht : t < nt N) (hq : q ≤ cn C) : okT C (nd N) (chR C N v t p q) := by
  obtain ⟨a, b, c, _, _, f⟩ := okT_of hN ht
  have k := chF_ok hN (v := v) (p := p) q hq
  exact ⟨a, b, c, ⟨k.2.1, k.2.2.1⟩, ⟨k.2.2.2.1, k.2.2.2.2⟩, f⟩
theorem setT_setT {N : zEn} {t : Nat} {r s : Nat → Int} : setT (setT N t r) t s = setT N t s := by
  unfold setT nd nt ntk ngo nkn ngv nth
  dsimp only
  congr 5
  funext j x
  split <;> rfl
theorem dOk_th {C : zCt} {N : zEn} {v : Nat → Int} (h : dOk C N v) {q : Nat} (hq : q < cn C) (hl : v q < 1000000) : thN C N q = true := by
  rcases h with ⟨z, a1, a2, a3, a4⟩ | ⟨a1, a2⟩
  · exact vD_th a3 (isD_v a4) hq hl
  · have := a2 q hq; omega
theorem w32t {k : Nat} (h : k < 12) : w32 ((k : Int) + 1) = ((k + 1 : Nat) : Int) := w32s (by omega)
theorem w32q {p q : Nat} (hp : p < 12) (hq : q < 12) : w32 (w32 (12 * (p : Int)) + (q : Int)) = ((12 * p + q : Nat) : Int) := by
  have b1 : w32 (12 * (p : Int)) = ((12 * p : Nat) : Int) := by rw [w32_id (by omega) (by omega)]; omega
  rw [b1, w32_id (by omega) (by omega)]; omega
section CH
variable {E : zE} {d : Nat} {h : zS}
theorem c_choose {k1 t p : Nat} {C : zCt} {N : zEn} {v : Nat → Int} {Q : zS → Prop} (hk1 : isCity k1) (hC : okC C) (hn : hI h k1 0 = (cn C : Int)) (hN : okN C N) (wN : XEarn h 34 C N) (hv : ∀ i, i < cn C → hI h 45 i = v i ∧ 0 ≤ v i ∧ v i ≤ 1000000) (ht : t < nt N) (hp : rT N t 0 = p)
    (HQ : ∀ h1, XEarn h1 34 C (setT N t (chR C N v t p (cn C))) → xFT t h h1 → Q h1) : zCv E (d + 2) m_X1_choose [vo 34, vo k1, vi t] h Q := by
  have hn12 := hC.1
  have ht12 : t < 12 := by have := hN.2.1; omega
  have kd := (city_lt hk1).2
  have okt := okT_of hN ht
  have hpn : p < cn C := by have := okt.1; omega
  have hp' : hI h 38 t = p := by rw [← hp]; exact (wN.2.2.2.1 t ht).1
  refine v_X1_choose isEarnest_34 hk1 ⟨by omega, ?_⟩
  simp only [Int.toNat_natCast, Nat.reduceAdd]
  rw [hp']
  rintro y2 rfl h3 e3 h4 e4
  have f3 := xFT_st e3 (by omega) (by omega)
  have f4 := xFT_st e4 (by omega) (by omega)
  obtain ⟨v3, _, q3⟩ := st_cp e3
  obtain ⟨v4, _, q4⟩ := st_cp e4
  clear e3 e4
  have w := wN.2.2.2.1 t ht
  have x4 : xTh h4 t (chR C N v t p 0) := by
    refine ⟨?_, ?_, ?_, ?_, ?_⟩
    · rw [q4.I (by omega), q3.I (by omega)]; exact w.1
    · rw [q4.I (by omega), q3.I (by omega)]; exact w.2.1
    · rw [q4.I (by omega), q3.I (by omega)]; exact w.2.2.1
    · rw [q4.I (by omega), v3]; rfl
    · rw [v4]; rfl
  refine z_up (n := cn C) (fun q h2 => zWv E (d + 1 + 1) m_X1_choose 37 [vo 34, vo k1, vi t, vi p, vi (chF C N v p q).1, vi q] h2 Q) (fun q h2 => xTh h2 t (chR C N v t p q) ∧ xFT t h h2) ?_ ?_ 0 h4 (by omega) ⟨x4, f3.tr f4⟩
  · rintro h2 ⟨u1, u2⟩
    refine r_X1_choose_37 isEarnest_34 hk1 ⟨fun _ => HQ h2 (XEarn_setT wN u2 u1) u2, fun c => ?_⟩
    rw [u2.1.I (by omega), hn] at c; omega
  · rintro q h2 hq ⟨u1, u2⟩ ih
    have wT := XEarn_setT wN u2 u1
    have oT := okN_setT (t := t) hN (okT_ch (v := v) (p := p) hN ht (q := q) (by omega))
    have hv2 : ∀ i, i < cn C → hI h2 (34 + 11) i = v i ∧ 0 ≤ v i ∧ v i ≤ 1000000 := fun i hi => by
      rw [show (34 + 11 : Nat) = 45 from rfl, u2.1.I (by omega)]; exact hv i hi
    have unf : chF C N v p (q + 1) = if byV C N v p q < (chF C N v p q).1 then (byV C N v p q, (q : Int), (nd N : Int) + ngv N p q) else chF C N v p q := rfl
    have g := (hN.2.2.2.2.2.2.1 p q).1
    have nd1 := hN.1
    refine r_X1_choose_37 isEarnest_34 hk1 ⟨fun c => ?_, fun _ => ?_⟩
    · rw [u2.1.I (by omega), hn] at c; omega
    rw [w32s (by omega)]
    refine c_by isEarnest_34 hC oT wT hv2 hpn hq ?_
    show ((chF C N v p q).1 ≤ byV C N v p q → _) ∧ (byV C N v p q < (chF C N v p q).1 → _)
    refine ⟨fun c => ?_, fun c => ?_⟩
    · have e : chF C N v p (q + 1) = chF C N v p q := by rw [unf, if_neg (by omega)]
      have := ih h2
      unfold chR at this
      rw [e] at this
      exact this ⟨u1, u2⟩
    · have e : chF C N v p (q + 1) = (byV C N v p q, (q : Int), (nd N : Int) + ngv N p q) := by rw [unf, if_pos c]
      refine c_by isEarnest_34 hC oT wT hv2 hpn hq ⟨by omega, ?_⟩
      simp only [Int.toNat_natCast, Nat.reduceAdd]
      intro h6 e6
      have f6 := xFT_st e6 (by omega) (by omega)
      obtain ⟨v6, _, q6⟩ := st_cp e6
      clear e6
      refine c_pair (by omega) (by omega) ⟨by omega, ?_⟩
      simp only [Int.toNat_natCast]
      have d6 : hI h6 34 0 = (nd N : Int) := by rw [f6.1.I (by omega)]; exact wT.1
      have g6 : hI h6 43 (12 * p + q) = ngv N p q := by rw [f6.1.I (by omega)]; exact wT.2.2.2.2.1 p q (by omega) (by omega)
      rw [d6, g6, w32_id (by omega) (by omega)]
      intro h10 e10
      have f10 := xFT_st e10 (by omega) (by omega)
      obtain ⟨v10, _, q10⟩ := st_cp e10
      clear e10
      have := ih h10
      unfold chR at this
      rw [e] at this
      refine this ⟨⟨?_, ?_, ?_, ?_, ?_⟩, u2.tr (f6.tr f10)⟩
      · rw [q10.I (by omega), q6.I (by omega)]; exact u1.1
      · rw [q10.I (by omega), q6.I (by omega)]; exact u1.2.1
      · rw [q10.I (by omega), q6.I (by omega)]; exact u1.2.2.1
      · rw [q10.I (by omega), v6]; rfl
      · rw [v10]; rfl
theorem c_M_chooseFor {t p : Nat} {C : zCt} {N : zEn} {Q : zS → Prop} (hC : okC C) (wC : MCity h C) (hN : okN C N) (wN : MEarn h C N) (ht : t < nt N) (hp : rT N t 0 = p)
    (HQ : ∀ v h1, dOk C N v → MEarn h1 C (setT N t (chR C N v t p (cn C))) → zEq (fun c => c < 119 ∨ 124 < c) h h1 → Q h1) : zCv E (d + 2) m_X10_chooseFor [vo 89, vi t] h Q := by
  have hn12 := hC.1
  have ht12 : t < 12 := by have := hN.2.1; omega
  have okt := okT_of hN ht
  have hpn : p < cn C := by have := okt.1; omega
  refine v_X10_chooseFor ?_
  refine c_M_layDays hC wC hN wN ?_
  intro v h1 hv hv1 e1
  have wN1 : MEarn h1 C N := wN.fr e1 ⟨by omega, fun j _ _ => by omega⟩
  refine ⟨by omega, ?_⟩
  simp only [Int.toNat_natCast]
  have w := wN1.2.2.2.1 t ht
  have hp' : hI h1 119 t = p := by rw [← hp]; exact w.1
  rw [hp']
  intro h3 e3 h4 e4
  have f3 := mFT_st e3 (by omega) (by omega)
  have f4 := mFT_st e4 (by omega) (by omega)
  obtain ⟨v3, _, q3⟩ := st_cp e3
  obtain ⟨v4, _, q4⟩ := st_cp e4
  clear e3 e4
  have x4 : mTh h4 t (chR C N v t p 0) := by
    refine ⟨?_, ?_, ?_, ?_, ?_⟩
    · rw [q4.I (by omega), q3.I (by omega)]; exact w.1
    · rw [q4.I (by omega), q3.I (by omega)]; exact w.2.1
    · rw [q4.I (by omega), q3.I (by omega)]; exact w.2.2.1
    · rw [q4.I (by omega), v3]; rfl
    · rw [v4]; rfl
  have cn1 : hI h1 89 29 = (cn C : Int) := by rw [e1.I (by omega)]; exact wC.1
  refine z_up (n := cn C) (fun q h2 => zWv E (d + 1 + 1) m_X10_chooseFor 32 [vo 89, vi t, vi p, vi (chF C N v p q).1, vi q, vn] h2 Q) (fun q h2 => mTh h2 t (chR C N v t p q) ∧ mFT t h1 h2) ?_ ?_ 0 h4 (by omega) ⟨x4, f3.tr f4⟩
  · rintro h2 ⟨u1, u2⟩
    refine r_X10_chooseFor_32 ⟨fun _ => HQ v h2 hv (MEarn_setT wN1 u2 u1) ((e1.wk (fun c q => by omega)).tr (u2.1.wk (fun c q => by omega))), fun c => ?_⟩
    rw [u2.1.I (by omega), cn1] at c; omega
  · rintro q h2 hq ⟨u1, u2⟩ ih
    have q12 : q < 12 := Nat.lt_of_lt_of_le hq hn12
    have p12 : p < 12 := Nat.lt_of_lt_of_le hpn hn12
    have wT := MEarn_setT wN1 u2 u1
    have unf : chF C N v p (q + 1) = if byV C N v p q < (chF C N v p q).1 then (byV C N v p q, (q : Int), (nd N : Int) + ngv N p q) else chF C N v p q := rfl
    have g := (hN.2.2.2.2.2.2.1 p q).1
    have nd1 := hN.1
    refine r_X10_chooseFor_32 ⟨fun c => ?_, fun _ => ?_⟩
    · rw [u2.1.I (by omega), cn1] at c; omega
    rw [w32q p12 q12, w32t q12]
    refine ⟨by omega, ?_⟩
    have vq := hv1 q hq
    have ck := (chF_ok hN (v := v) (p := p) q (by omega)).1
    simp only [Int.toNat_natCast]
    have g2 : hI h2 118 (12 * p + q) = ngv N p q := wT.2.2.2.2 p q (by omega) (by omega)
    have d2 : hI h2 124 q = v q := by rw [u2.1.I (by omega)]; exact vq.1
    rw [g2, d2]
    rintro y2 rfl
    have skip : ¬ byV C N v p q < (chF C N v p q).1 → zWv E (d + 1 + 1) m_X10_chooseFor 32 [vo 89, vi t, vi p, vi (chF C N v p q).1, vi ((q + 1 : Nat) : Int), vn] h2 Q := by
      intro c
      have e : chF C N v p (q + 1) = chF C N v p q := by rw [unf, if_neg c]
      have := ih h2
      unfold chR at this
      rw [e] at this
      exact this ⟨u1, u2⟩
    refine ⟨fun c => skip ?_, fun c => ⟨by omega, fun c2 => skip ?_, fun c2 => ?_⟩⟩
    · unfold byV; rw [if_neg (by omega)]; omega
    · unfold byV
      split
      · omega
      · omega
    · have tq := dOk_th hv hq (by omega)
      have eb : byV C N v p q = ngv N p q + v q := by unfold byV; rw [if_pos ⟨by omega, tq⟩]
      rw [w32_id (by omega) (by omega)]
      refine ⟨fun c3 => ?_, fun c3 => skip (by omega)⟩
      rintro y4 rfl
      refine ⟨by omega, ?_⟩
      intro h6 e6
      have f6 := mFT_st e6 (by omega) (by omega)
      obtain ⟨v6, _, q6⟩ := st_cp e6
      clear e6
      have d6 : hI h6 89 54 = (nd N : Int) := by rw [f6.1.I (by omega)]; exact wT.1
      rw [d6, w32_id (by omega) (by omega)]
      intro h7 e7
      have f7 := mFT_st e7 (by omega) (by omega)
      obtain ⟨v7, _, q7⟩ := st_cp e7
      clear e7
      have e : chF C N v p (q + 1) = (byV C N v p q, (q : Int), (nd N : Int) + ngv N p q) := by rw [unf, if_pos (by omega)]
      have := ih h7
      unfold chR at this
      rw [e, eb, Int.add_comm (ngv N p q) (v q)] at this
      refine this ⟨⟨?_, ?_, ?_, ?_, ?_⟩, u2.tr (f6.tr f7)⟩
      · rw [q7.I (by omega), q6.I (by omega)]; exact u1.1
      · rw [q7.I (by omega), q6.I (by omega)]; exact u1.2.1
      · rw [q7.I (by omega), q6.I (by omega)]; exact u1.2.2.1
      · rw [q7.I (by omega), v6]; rfl
      · rw [v7]; rfl
end CH
