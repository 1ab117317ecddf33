/-! send -/
def sdR (C : zCt) (N : zEn) : Nat → Int := r5 (cga C) (nd N) (-1) (-1) (-1)
noncomputable def sdF (C : zCt) (N : zEn) : Nat → Int := if cga C = cse C then r5 (-3) (nd N) (nd N) (-1) (-1) else chG C (addT N (sdR C N)) (sdR C N)
theorem setT_addT {N : zEn} {r s : Nat → Int} : setT (addT N r) (nt N) s = addT N s := by
  have : (fun j x => if x = nt N then s j else nth (addT N r) j x) = (fun j x => if x = nt N then s j else nth N j x) := by
    funext j x
    by_cases e : x = nt N
    · rw [if_pos e, if_pos e]
    · rw [if_neg e, if_neg e]
      show (if x = nt N then r j else nth N j x) = _
      rw [if_neg e]
  show (((nd N, nt N + 1), ntk N, ngo N, nkn N, ngv N, (fun j x => if x = nt N then s j else nth (addT N r) j x)) : zEn) = ((nd N, nt N + 1), ntk N, ngo N, nkn N, ngv N, (fun j x => if x = nt N then s j else nth N j x))
  rw [this]
theorem rT_add {N : zEn} {r : Nat → Int} : rT (addT N r) (nt N) = r := by
  funext j
  show (if nt N = nt N then r j else nth N j (nt N)) = r j
  rw [if_pos rfl]
theorem XEarn_addT {h h1 : zS} {C : zCt} {N : zEn} {r : Nat → Int} (w : XEarn h 34 C N) (f : zEq (fun c => c < 37 ∨ 42 < c) h h1) (g : ∀ c i, 38 ≤ c → i ≠ nt N → hI h1 c i = hI h c i) (cnt : hI h1 37 0 = ((nt N + 1 : Nat) : Int)) (x : xTh h1 (nt N) r) : XEarn h1 34 C (addT N r) := by
  obtain ⟨w1, w2, w3, w4, w5, w6⟩ := w
  refine ⟨by rw [f.I (by omega)]; exact w1, w2.fr f (by omega) (by omega), cnt, fun s hs => ?_, fun a b ha hb => by rw [f.I (by omega)]; exact w5 a b ha hb, fun i hi => by rw [f.I (by omega)]; exact w6 i hi⟩
  have hs : s < nt N + 1 := hs
  show hI h1 38 s = (if s = nt N then r 0 else nth N 0 s) ∧ hI h1 39 s = (if s = nt N then r 1 else nth N 1 s) ∧ hI h1 40 s = (if s = nt N then r 2 else nth N 2 s) ∧ hI h1 41 s = (if s = nt N then r 3 else nth N 3 s) ∧ hI h1 42 s = (if s = nt N then r 4 else nth N 4 s)
  by_cases e : s = nt N
  · simp only [if_pos e]; rw [e]; exact x
  · simp only [if_neg e]; rw [g _ _ (by omega) e, g _ _ (by omega) e, g _ _ (by omega) e, g _ _ (by omega) e, g _ _ (by omega) e]; exact w4 s (by omega)
theorem MEarn_addT {h h1 : zS} {C : zCt} {N : zEn} {r : Nat → Int} (w : MEarn h C N) (f : zEq (fun c => c ≠ 89 ∧ (c < 119 ∨ 123 < c)) h h1) (g : ∀ c i, 119 ≤ c → i ≠ nt N → hI h1 c i = hI h c i) (dy : hI h1 89 54 = hI h 89 54) (cnt : hI h1 89 55 = ((nt N + 1 : Nat) : Int)) (x : mTh h1 (nt N) r) : MEarn h1 C (addT N r) := by
  obtain ⟨w1, w2, w3, w4, w5⟩ := w
  refine ⟨dy.trans w1, cnt, fun i hi => by rw [f.I (by omega), f.I (by omega), f.I (by omega)]; exact w3 i hi, fun s hs => ?_, fun a b ha hb => by rw [f.I (by omega)]; exact w5 a b ha hb⟩
  have hs : s < nt N + 1 := hs
  show hI h1 119 s = (if s = nt N then r 0 else nth N 0 s) ∧ hI h1 120 s = (if s = nt N then r 1 else nth N 1 s) ∧ hI h1 121 s = (if s = nt N then r 2 else nth N 2 s) ∧ hI h1 122 s = (if s = nt N then r 3 else nth N 3 s) ∧ hI h1 123 s = (if s = nt N then r 4 else nth N 4 s)
  by_cases e : s = nt N
  · simp only [if_pos e]; rw [e]; exact x
  · simp only [if_neg e]; rw [g _ _ (by omega) e, g _ _ (by omega) e, g _ _ (by omega) e, g _ _ (by omega) e, g _ _ (by omega) e]; exact w4 s (by omega)
theorem okT_sdR {C : zCt} {N : zEn} {g : Nat} (hg : cga C = g) (hgn : g < cn C) : okT C (nd N) (sdR C N) := by
  refine ⟨?_, ?_, ?_, ?_, ?_, ?_⟩
  · show -3 ≤ cga C ∧ cga C < _; omega
  · show 0 ≤ (nd N : Int) ∧ (nd N : Int) ≤ nd N; omega
  · show (-1 : Int) ≤ -1 ∧ (-1 : Int) ≤ nd N; omega
  · show (-1 : Int) ≤ -1 ∧ (-1 : Int) < _; omega
  · show (-1 : Int) ≤ -1 ∧ (-1 : Int) ≤ _; omega
  · show cga C ≠ -1; omega
theorem okT_sdF {C : zCt} {N : zEn} {g : Nat} (hN : okN C N) (hl : nt N < 12) (hg : cga C = g) (hgn : g < cn C) : okT C (nd N) (sdF C N) := by
  unfold sdF
  split
  · refine ⟨?_, ?_, ?_, ?_, ?_, ?_⟩
    · show (-3 : Int) ≤ -3 ∧ (-3 : Int) < _; omega
    · show 0 ≤ (nd N : Int) ∧ (nd N : Int) ≤ nd N; omega
    · show (-1 : Int) ≤ nd N ∧ (nd N : Int) ≤ nd N; omega
    · show (-1 : Int) ≤ -1 ∧ (-1 : Int) < _; omega
    · show (-1 : Int) ≤ -1 ∧ (-1 : Int) ≤ _; omega
    · show (-3 : Int) ≠ -1; omega
  · exact okT_chG (okN_addT hN hl (okT_sdR hg hgn)) (okT_sdR hg hgn)
section SE
variable {E : zE} {d : Nat} {h : zS}
theorem c_add {n : Nat} {x1 : Int} {Q : Int → zS → Prop} (hn : hI h 37 0 = (n : Int)) (hl : n < 12)
    (HQ : ∀ h1, hI h1 37 0 = ((n + 1 : Nat) : Int) → hI h1 39 n = x1 → hI h1 40 n = -1 → zEq (fun c => c ≠ 37 ∧ c ≠ 39 ∧ c ≠ 40) h h1 → (∀ c i, 38 ≤ c → i ≠ n → hI h1 c i = hI h c i) → Q n h1) : zCi E d m_X8_add [vo 37, vi x1] h Q := by
  refine v_X8_add isThings_37 ?_
  rw [hn]
  intro h1 e1
  refine ⟨by omega, ?_⟩
  simp only [Int.toNat_natCast, Nat.reduceAdd]
  rw [w32s (by omega)] at e1
  intro h3 e3 h4 e4
  obtain ⟨v1, n1, q1⟩ := st_cp e1
  obtain ⟨v3, n3, q3⟩ := st_cp e3
  obtain ⟨v4, n4, q4⟩ := st_cp e4
  clear e1 e3 e4
  refine HQ h4 ?_ ?_ v4 ((q1.wk (fun c q => q.1)).tr ((q3.wk (fun c q => q.2.1)).tr (q4.wk (fun c q => q.2.2)))) (fun c i hc hi => ?_)
  · rw [q4.I (by omega), q3.I (by omega)]; exact v1
  · rw [q4.I (by omega)]; exact v3
  · rw [n4 _ _ (by omega), n3 _ _ (by omega), n1 _ _ (by omega)]
theorem c_dispatch {k1 g : Nat} {C : zCt} {N : zEn} {Q : Int → zS → Prop} (hk1 : isCity k1) (hC : okC C) (wC : XCity h k1 C) (hN : okN C N) (wN : XEarn h 34 C N) (hg : cga C = g) (hgn : g < cn C) (tg : thN C N g = true) (hl : nt N < 12)
    (HQ : ∀ h1, XEarn h1 34 C (addT N (sdF C N)) → zEq (fun c => c < 34 ∨ 45 < c) h h1 → Q (nt N) h1) : zCi E (d + 4) m_X1_dispatch [vo 34, vo k1] h Q := by
  have hn12 := hC.1
  have kd := (city_lt hk1).2
  refine v_X1_dispatch isEarnest_34 hk1 ?_
  rw [wC.2.2.1, hg]
  refine c_has hk1 wC.1 ?_
  rw [if_pos (by omega)]
  refine ⟨fun e => by omega, fun _ => ?_⟩
  rw [wC.2.2.1, hg]
  refine c_thereX hn12 wN hgn ?_
  rw [tg]
  refine ⟨fun e => by simp at e, fun _ => ?_⟩
  have cnt : hI h 37 0 = (nt N : Int) := wN.2.2.1
  simp only [Nat.reduceAdd]
  rw [cnt]
  refine ⟨fun _ => ?_, fun c => by omega⟩
  rw [wN.1]
  refine c_add cnt hl (fun h5 a1 a2 a3 a4 a5 => ?_)
  have wC5 : XCity h5 k1 C := wC.fr a4 (fun j hj => by omega)
  have d5 : hI h5 34 0 = (nd N : Int) := by rw [a4.I (by omega)]; exact wN.1
  rw [wC5.2.2.1, hg, d5]
  have x5 : xTh h5 (nt N) (r5 (hI h5 38 (nt N)) (nd N) (-1) (hI h5 41 (nt N)) (hI h5 42 (nt N))) := ⟨rfl, a2, a3, rfl, rfl⟩
  refine c_giveTo hk1 hl x5 (z := cse C) wC5.2.2.2.1 (fun h7 x7 f7 => ?_)
  have x7 : xTh h7 (nt N) (if (g : Int) = cse C then r5 (-3) (nd N) (nd N) (-1) (-1) else r5 g (nd N) (-1) (-1) (-1)) := x7
  have A7 : ∀ r, xTh h7 (nt N) r → XEarn h7 34 C (addT N r) := fun r xr => XEarn_addT wN ((a4.wk (fun c q => by omega)).tr (f7.1.wk (fun c q => by omega))) (fun c i hc hi => (f7.2 c i hi).trans (a5 c i hc hi)) (by rw [f7.1.I (by omega)]; exact a1) xr
  have Z7 : zEq (fun c => c < 34 ∨ 45 < c) h h7 := (a4.wk (fun c q => by omega)).tr (f7.1.wk (fun c q => by omega))
  refine c_isHeld hl x7 ?_
  by_cases c : (g : Int) = cse C
  · rw [if_pos c] at x7 ⊢
    rw [if_neg (by show ¬ (0 : Int) ≤ -3; omega)]
    refine ⟨fun _ => HQ h7 ?_ Z7, fun e => absurd rfl e⟩
    have e : sdF C N = r5 (-3) (nd N) (nd N) (-1) (-1) := by unfold sdF; rw [if_pos (by rw [hg]; exact c)]
    rw [e]; exact A7 _ x7
  · rw [if_neg c] at x7 ⊢
    rw [if_pos (by show (0 : Int) ≤ g; omega)]
    refine ⟨fun e => by omega, fun _ => ?_⟩
    have x7 : xTh h7 (nt N) (sdR C N) := by unfold sdR; rw [hg]; exact x7
    have w7 := A7 _ x7
    have o7 : okN C (addT N (sdR C N)) := okN_addT hN hl (okT_sdR hg hgn)
    have wC7 : XCity h7 k1 C := wC.fr Z7 (fun j hj => by omega)
    refine c_measure isEarnest_34 hk1 hC wC7 o7 w7 (fun v h8 hv hv8 e8 => ?_)
    have w8 : XEarn h8 34 C (addT N (sdR C N)) := w7.fr e8 (fun j hj => by omega)
    have r0 : rT (addT N (sdR C N)) (nt N) 0 = g := by rw [rT_add]; exact hg
    refine c_choose (p := g) (v := v) (t := nt N) hk1 hC (by rw [e8.I (by omega)]; exact wC7.1) o7 w8 hv8 (Nat.lt_succ_self _) r0 (fun h9 w9 f9 => ?_)
    refine HQ h9 ?_ (Z7.tr ((e8.wk (fun c q => by omega)).tr (f9.1.wk (fun c q => by omega))))
    rw [chR_G hv r0, rT_add, setT_addT] at w9
    have e : sdF C N = chG C (addT N (sdR C N)) (sdR C N) := by unfold sdF; rw [if_neg (by rw [hg]; exact c)]
    rw [e]; exact w9
theorem p_send (w : zGo h) : zPair E m_X9_send m_X10_send [] h := by
  obtain ⟨t, S, hS, wX, wM⟩ := w
  have hC := hS.2.1
  have hN := hS.2.2.1
  have hn12 := hC.1
  have hga := hC.2.2.1
  have hl12 := hN.2.1
  by_cases G : ∃ g : Nat, cga (aC S) = g ∧ g < cn (aC S) ∧ thN (aC S) (aN S) g = true ∧ nt (aN S) < 12
  · obtain ⟨g, hg, hgn, tg, hl⟩ := G
    refine p_of (S := S) (S' := sN S (addT (aN S) (sdF (aC S) (aN S)))) (r := (nt (aN S) : Int)) (t := t) (hS.sN (okN_addT hN hl (okT_sdF hN hl hg hgn))) wM (fun Q HQ => ?_) (fun h1 Q w1 HQ => ?_)
    · refine v_X9_send ⟨t, wX.1.1, wX.1.2.1, ?_⟩
      refine c_dispatch wX.1.2.1 hC wX.2.2.2.1 hN wX.2.2.2.2.2.1 hg hgn tg hl (fun h2 w2 q2 => ?_)
      exact HQ h2 t (wX.sN (zEw.of q2 (fun c i q => by have := q.1; unfold XK at this; have := city_lt wX.1.2.1; omega)) w2) (q2.wk (fun c q => by omega))
    · have wN := w1.2.2.2.1
      have wC := w1.2.2.1
      refine v_X10_send ⟨fun c => ?_, fun _ => ?_⟩
      · rw [wC.2.2.1] at c; omega
      rw [wC.2.2.1, hg]
      refine c_M_isThere hn12 wN hgn ?_
      rw [tg]
      refine ⟨fun e => by simp at e, fun _ => ?_⟩
      rw [wN.2.1]
      refine ⟨fun _ => ?_, fun c => by omega⟩
      rw [w32s (by omega)]
      intro h3 e3
      refine ⟨by omega, ?_⟩
      simp only [Int.toNat_natCast]
      intro h5 e5 h6 e6 h7 e7 h8 e8 h9 e9
      have W3 : zEw (fun c i => ¬ (c = 89 ∧ i = 55)) h1 h3 := by rw [e3]; exact zEw_I (by simp)
      obtain ⟨v3, n3, q3⟩ := st_cp e3
      clear e3
      have g3 : hI h3 89 31 = (g : Int) := by rw [n3 _ _ (by omega), wC.2.2.1, hg]
      rw [g3] at e5
      have f5 := mFT_st e5 (by omega) (by omega)
      obtain ⟨v5, n5, q5⟩ := st_cp e5
      clear e5
      have d5 : hI h5 89 54 = (nd (aN S) : Int) := by rw [q5.I (by omega), n3 _ _ (by omega)]; exact wN.1
      rw [d5] at e6
      have f6 := mFT_st e6 (by omega) (by omega)
      have f7 := mFT_st e7 (by omega) (by omega)
      have f8 := mFT_st e8 (by omega) (by omega)
      have f9 := mFT_st e9 (by omega) (by omega)
      obtain ⟨v6, _, q6⟩ := st_cp e6
      obtain ⟨v7, _, q7⟩ := st_cp e7
      obtain ⟨v8, _, q8⟩ := st_cp e8
      obtain ⟨v9, _, q9⟩ := st_cp e9
      clear e6 e7 e8 e9
      have f := f5.tr (f6.tr (f7.tr (f8.tr f9)))
      have x9 : mTh h9 (nt (aN S)) (sdR (aC S) (aN S)) := by
        refine ⟨?_, ?_, ?_, ?_, ?_⟩
        · rw [q9.I (by omega), q8.I (by omega), q7.I (by omega), q6.I (by omega), v5]; exact hg.symm
        · rw [q9.I (by omega), q8.I (by omega), q7.I (by omega), v6]; rfl
        · rw [q9.I (by omega), q8.I (by omega), v7]; rfl
        · rw [q9.I (by omega), v8]; rfl
        · rw [v9]; rfl
      have c9 : MEarn h9 (aC S) (addT (aN S) (sdR (aC S) (aN S))) := by
        refine MEarn_addT wN ((q3.wk (fun c q => q.1)).tr (f.1.wk (fun c q => q.2))) (fun c i hc hi => ?_) ?_ ?_ x9
        · rw [f.2 c i hi, n3 _ _ (by omega)]
        · rw [f.1.I (by omega), n3 _ _ (by omega)]
        · rw [f.1.I (by omega)]; exact v3
      have W9 : zEw (fun c i => ¬ (c = 89 ∧ i = 55) ∧ (c < 119 ∨ 124 < c)) h1 h9 := (W3.wk (fun c i q => q.1)).tr (zEw.of f.1 (fun c i q => by omega))
      have wC9 : MCity h9 (aC S) := wC.w (fun i _ _ => (W9 _ _ ⟨by omega, by omega⟩).1) (fun j _ _ i => (W9 _ _ ⟨by omega, by omega⟩).1)
      have Z9 : zEq (fun c => c < 89) h1 h9 := (q3.wk (fun c q => by omega)).tr (f.1.wk (fun c q => by omega))
      have fin : ∀ h10, MEarn h10 (aC S) (addT (aN S) (sdF (aC S) (aN S))) → zEq (fun c => c < 119 ∨ 124 < c) h9 h10 → Q (nt (aN S) : Int) h10 := fun h10 w10 z10 =>
        HQ h10 (w1.sN ((W9.tr (zEw.of z10 (fun c i q => q.2))).wk (fun c i q => by have := q.1; unfold MK at this; omega)) w10) (Z9.tr (z10.wk (fun c q => by omega)))
      have g9 : hI h9 89 31 = (g : Int) := by rw [wC9.2.2.1, hg]
      rw [g9, wC9.2.2.2.1]
      have o9 : okN (aC S) (addT (aN S) (sdR (aC S) (aN S))) := okN_addT hN hl (okT_sdR hg hgn)
      refine ⟨fun c => ?_, fun c => ?_⟩
      · have r0 : rT (addT (aN S) (sdR (aC S) (aN S))) (nt (aN S)) 0 = g := by rw [rT_add]; exact hg
        refine c_M_chooseFor (p := g) (t := nt (aN S)) hC wC9 o9 c9 (Nat.lt_succ_self _) r0 (fun v h10 hv w10 z10 => ?_)
        rw [chR_G hv r0, rT_add, setT_addT] at w10
        have e : sdF (aC S) (aN S) = chG (aC S) (addT (aN S) (sdR (aC S) (aN S))) (sdR (aC S) (aN S)) := by unfold sdF; rw [if_neg (by rw [hg]; exact c)]
        refine fin h10 ?_ z10
        rw [e]; exact w10
      · have d9 : hI h9 89 54 = (nd (aN S) : Int) := c9.1
        refine c_M_comes hl d9 x9 (fun h10 x10 f10 => ?_)
        have w10 := MEarn_setT c9 f10 x10
        rw [setT_addT] at w10
        have e : sdF (aC S) (aN S) = r5 (-3) (nd (aN S)) (nd (aN S)) (-1) (-1) := by unfold sdF; rw [if_pos (by rw [hg]; exact c)]
        refine fin h10 ?_ (f10.1.wk (fun c q => by omega))
        rw [e]; exact w10
  · refine p_of (S := S) (S' := S) (r := -1) (t := t) hS wM (fun Q HQ => ?_) (fun h1 Q w1 HQ => ?_)
    · have HQ := HQ h t wX zEq.rf
      have wC := wX.2.2.2.1
      have wN := wX.2.2.2.2.2.1
      refine v_X9_send ⟨t, wX.1.1, wX.1.2.1, ?_⟩
      refine v_X1_dispatch isEarnest_34 wX.1.2.1 ?_
      rw [wC.2.2.1]
      refine c_has wX.1.2.1 wC.1 ?_
      by_cases c : 0 ≤ cga (aC S) ∧ cga (aC S) < cn (aC S)
      · rw [if_pos c]
        refine ⟨fun e => by omega, fun _ => ?_⟩
        obtain ⟨g, hg⟩ : ∃ g : Nat, cga (aC S) = g := ⟨(cga (aC S)).toNat, by omega⟩
        rw [wC.2.2.1, hg]
        have hgn : g < cn (aC S) := by omega
        refine c_thereX hn12 wN hgn ?_
        cases tg : thN (aC S) (aN S) g with
        | false => exact ⟨fun _ => HQ, fun e => absurd rfl e⟩
        | true =>
          refine ⟨fun e => by simp at e, fun _ => ?_⟩
          have cnt : hI h (34 + 3) 0 = (nt (aN S) : Int) := wN.2.2.1
          rw [cnt]
          exact ⟨fun c2 => absurd ⟨g, hg, hgn, tg, by omega⟩ G, fun _ => HQ⟩
      · rw [if_neg c]; exact ⟨fun _ => HQ, fun e => absurd rfl e⟩
    · have HQ := HQ h1 w1 zEq.rf
      have wC := w1.2.2.1
      have wN := w1.2.2.2.1
      refine v_X10_send ?_
      rw [wC.2.2.1]
      refine ⟨fun _ => HQ, fun c => ?_⟩
      obtain ⟨g, hg⟩ : ∃ g : Nat, cga (aC S) = g := ⟨(cga (aC S)).toNat, by omega⟩
      rw [hg]
      have hgn : g < cn (aC S) := by omega
      refine c_M_isThere hn12 wN hgn ?_
      cases tg : thN (aC S) (aN S) g with
      | false => exact ⟨fun _ => HQ, fun e => absurd rfl e⟩
      | true =>
        refine ⟨fun e => by simp at e, fun _ => ?_⟩
        rw [wN.2.1]
        exact ⟨fun c2 => absurd ⟨g, hg, hgn, tg, by omega⟩ G, fun _ => HQ⟩
end SE
