/-! the falls: reckonOne of the class -/
section FR
variable {E : zE} {d : Nat} {h : zS}
theorem fate28 : isFate 28 := isFate_28
theorem zx_neg {n : Nat} {T Gn : Nat → Int} {i : Nat} (hi : i < n) (h12 : i < 12) : (bset (thB n T Gn)).testBit i = (decide (T i < 0) && decide (Gn i < 0)) := by
  rw [bset_t]; simp [thB, hi, h12]
theorem zx_se {n : Nat} {T : Nat → Int} {i : Nat} (hi : i < n) (h12 : i < 12) : (bset (seB n T)).testBit i = decide (0 ≤ T i) := by
  rw [bset_t]; simp [seB, hi, h12]
theorem c_reckonOne {k1 one : Nat} {C : zCt} {Q : zS → Prop} (hk1 : isCity k1) (hC : okC C) (wC : XCity h k1 C) (ho : one < cn C)
    (HQ : ∀ h1, (∀ q, q < cn C → hI h1 25 (12 * one + q) = (fEnd C one).1 q ∧ hI h1 26 (12 * one + q) = (fEnd C one).2 q) → hI h1 27 one = (pc12 (bset (seB (cn C) (fEnd C one).1)) : Nat) → (∀ j, j < 12 * one ∨ 12 * one + 12 ≤ j → hI h1 25 j = hI h 25 j ∧ hI h1 26 j = hI h 26 j) → (∀ j, j ≠ one → hI h1 27 j = hI h 27 j) → zEq (fun c => c < 25 ∨ 29 < c) h h1 → Q h1) : zCv E (d + 4) m_X3_reckonOne [vo 24, vo k1, vi one] h Q := by
  have hn12 := hC.1
  have hk := hk1
  have hk24 : k1 + 9 < 25 := by rcases hk with rfl | rfl <;> omega
  have hA9 : zArr g0 (k1 + 9) 0 12 := gaCity_13 hk1
  refine v_X3_reckonOne hk1 ?_
  refine c_clear fate28 hk1 hn12 wC.1 ?_
  intro h1 f1 e1
  have e1' : zEq (fun c => c < 25 ∨ 29 < c) h h1 := e1.wk (fun c q => by omega)
  have e1r : zEq (fun c => c = 25 ∨ c = 26 ∨ c = 27) h h1 := e1.wk (fun c q => by omega)
  have wC1 := wC.fr e1' (fun j hj => by omega)
  rw [zb_1 (by omega)]
  refine c_seize (n := cn C) (a := bset (thB (cn C) (fun _ => -1) (fun _ => -1))) (z := bset (seB (cn C) (fun _ => -1))) (pr := cpr C) (kf := ckn C) fate28 hk1 hA9 (by omega) wC1.1 hn12 f1.1 (bset_lt _) ?_ f1.2.1 (bset_lt _) (zb_2k (by omega)) wC1.2.2.2.2.2.2.2.2.2.1 (cpr_lt C) (fun i hi => ⟨(wC1.2.2.2.2.2.2.2.1 i hi).2, ckn_lt C i⟩) ?_
  · intro q hq
    rw [bset_t] at hq
    simp only [thB, Bool.and_eq_true, decide_eq_true_eq] at hq
    exact hq.2.1.1
  · intro A h2 hA g1 g2 g3 g4
    have eA : A = fA0 C one := isCl_eq (bset_lt _) hA
    have f2 : XFate h2 28 (cn C) (fRun C (ckn C) (fF0 C one) 0).1 (fRun C (ckn C) (fF0 C one) 0).2 := by
      have := XFate_tk hn12 (Int.le_refl 0) f1 hA.1 (fun q hq => clo_a ((hA.2 q).mp hq)) g1 g2 g3
      rw [eA] at this
      exact this
    have e2' : zEq (fun c => c < 25 ∨ 29 < c) h h2 := e1'.tr (g4.wk (fun c q => by omega))
    have e2r : zEq (fun c => c = 25 ∨ c = 26 ∨ c = 27) h h2 := e1r.tr (g4.wk (fun c q => by omega))
    -- at least one is taken
    have hone : (fRun C (ckn C) (fF0 C one) 0).1 one = 0 := by
      have e0 : (fRun C (ckn C) (fF0 C one) 0).1 = tkF (fA0 C one) 0 (fun _ => -1) := rfl
      rw [e0]
      unfold tkF
      rw [if_pos]
      rw [← eA]
      refine (hA.2 one).mpr (clo_in ?_)
      rw [Nat.testBit_and, zb_t2, bset_t]
      have : one < 12 := by omega
      simp [thB, ho, this]
    -- the days
    refine z_ms (σ := Nat × Nat × zS) (fun q => zWv E (d + 3 + 1) m_X3_reckonOne 30 [vo 24, vo k1, vi one, vi (q.1 : Int), vi ((q.2.1 + 1 : Nat) : Int), vn] q.2.2 Q)
      (fun q => q.2.1 ≤ 120 ∧ q.2.1 ≤ q.1 + 10 ∧ XFate q.2.2 28 (cn C) (fRun C (ckn C) (fF0 C one) q.2.1).1 (fRun C (ckn C) (fF0 C one) q.2.1).2 ∧ (∀ p, p < cn C → (fRun C (ckn C) (fF0 C one) q.2.1).1 p ≤ q.1) ∧ q.1 + 9 ≤ 9 * pc12 (bset (seB (cn C) (fRun C (ckn C) (fF0 C one) q.2.1).1)) ∧ zEq (fun c => c < 25 ∨ 29 < c) h q.2.2 ∧ zEq (fun c => c = 25 ∨ c = 26 ∨ c = 27) h q.2.2)
      (fun q => 121 - q.2.1) ?_ (0, 0, h2) ?_
    · rintro ⟨L, D, h3⟩ ⟨w1, w2, w3, w4, w5, w6, w7⟩ ih
      dsimp only at w1 w2 w3 w4 w5 w6 w7 ih ⊢
      have hL : L ≤ 99 := by
        have hpc := pc_12 (bset (seB (cn C) (fRun C (ckn C) (fF0 C one) D).1))
        generalize pc12 (bset (seB (cn C) (fRun C (ckn C) (fF0 C one) D).1)) = x at hpc w5
        omega
      have wC3 := wC.fr w6 (fun j hj => by omega)
      -- the end
      have fin : L + 10 < D + 1 → zCi E (d + 3) m_J6_bitCount_0f7a4 [vi (hI h3 28 1)] h3 (fun y2 h1 => (0 ≤ (one : Int) ∧ (one : Int) < 12) ∧ ∀ h4, h4 = stI h1 27 (one : Int).toNat y2 → zWv E (d + 3 + 1) m_X3_reckonOne 127 [vo 24, vo k1, vi one, vn, vi 0, vn] h4 Q) := by
        intro hq
        have hend : fEnd C one = fRun C (ckn C) (fF0 C one) D := quiet hC (by omega) (by omega) w4 400 (by omega)
        rw [w3.2.1]
        refine c_bitCount (bset_lt _) ⟨by omega, ?_⟩
        rintro h4 rfl
        simp only [Int.toNat_natCast]
        have hok := okF_run (kf := ckn C) (okF_0 C one) D
        rw [← hend] at w3 hok
        rw [← hend]
        have w3' : XFate (stI h3 27 one (pc12 (bset (seB (cn C) (fEnd C one).1)) : Nat)) 28 (cn C) (fEnd C one).1 (fEnd C one).2 := w3.fr (A := fun c => c ≠ 27) (zEq_I (by omega)) (by omega) (by omega)
        refine z_up (n := cn C) (fun i h2 => zWv E (d + 3 + 1) m_X3_reckonOne 127 [vo 24, vo k1, vi one, vn, vi i, vn] h2 Q) (fun i h2 => (∀ q, q < i → hI h2 25 (12 * one + q) = (fEnd C one).1 q ∧ hI h2 26 (12 * one + q) = (fEnd C one).2 q) ∧ (∀ j, j < 12 * one ∨ 12 * one + 12 ≤ j → hI h2 25 j = hI h 25 j ∧ hI h2 26 j = hI h 26 j) ∧ zEq (fun c => c ≠ 25 ∧ c ≠ 26) (stI h3 27 one (pc12 (bset (seB (cn C) (fEnd C one).1)) : Nat)) h2) ?_ ?_ 0 _ (by omega) ⟨fun q hq => by omega, fun j hj => ?_, zEq.rf⟩
        · rintro h5 ⟨v1, v2, v3⟩
          refine r_X3_reckonOne_127 hk1 ⟨fun _ => HQ h5 v1 ?_ v2 (fun j hj => ?_) ?_, fun c => ?_⟩
          · rw [v3.I (by omega), hI_stI, if_pos ⟨rfl, rfl⟩]
          · rw [v3.I (by omega), hI_stI, if_neg (by omega)]; exact w7.I (by omega) j
          · exact w6.tr ((zEq_I (by omega)).tr (v3.wk (fun c q => by omega)))
          · rw [v3.I (by omega), hI_stI, if_neg (by omega), wC3.1] at c; omega
        · rintro i h5 hi ⟨v1, v2, v3⟩ ihi
          have fX : XFate h5 28 (cn C) (fEnd C one).1 (fEnd C one).2 := w3'.fr v3 (by omega) (by omega)
          obtain ⟨o1, o2, o3⟩ := hok i hi
          refine r_X3_reckonOne_127 hk1 ⟨fun c => ?_, fun _ => ?_⟩
          · rw [v3.I (by omega), hI_stI, if_neg (by omega), wC3.1] at c; omega
          · refine c_stateOf fate28 fX.1 (bset_lt _) fX.2.1 (bset_lt _) (by omega) ?_
            refine c_pair (by omega) (by omega) ?_
            refine ⟨fun _ => by omega, by omega, ?_⟩
            rintro h7 rfl
            refine c_pair (by omega) (by omega) ?_
            refine ⟨fun _ => by omega, by omega, ?_⟩
            rintro h12 rfl
            rw [w32s (by omega)]
            simp only [Int.toNat_natCast]
            have hs29 : hI h5 29 i = if 0 ≤ (fEnd C one).1 i then (fEnd C one).1 i else (fEnd C one).2 i := fX.2.2 i hi
            rw [zx_neg hi (by omega), zx_se hi (by omega)]
            have eT : (if ¬ (if (decide ((fEnd C one).1 i < 0) && decide ((fEnd C one).2 i < 0)) = true then (0 : Int) else if decide (0 ≤ (fEnd C one).1 i) = true then 1 else 2) = 1 then (-1 : Int) else hI h5 29 i) = (fEnd C one).1 i := by
              rw [hs29]
              by_cases a : 0 ≤ (fEnd C one).1 i
              · have a' : ¬ (fEnd C one).1 i < 0 := by omega
                simp [a, a']
              · have a' : (fEnd C one).1 i < 0 := by omega
                have a'' : (fEnd C one).1 i = -1 := by omega
                by_cases b : (fEnd C one).2 i < 0 <;> simp [a, a', b, a'']
            have eG : ∀ h6 : zS, hI h6 29 i = hI h5 29 i → (if ¬ (if (decide ((fEnd C one).1 i < 0) && decide ((fEnd C one).2 i < 0)) = true then (0 : Int) else if decide (0 ≤ (fEnd C one).1 i) = true then 1 else 2) = 2 then (-1 : Int) else hI h6 29 i) = (fEnd C one).2 i := by
              intro h6 e6
              rw [e6, hs29]
              by_cases a : 0 ≤ (fEnd C one).1 i
              · have a' : ¬ (fEnd C one).1 i < 0 := by omega
                have b : (fEnd C one).2 i = -1 := by omega
                simp [a, a', b]
              · have a' : (fEnd C one).1 i < 0 := by omega
                by_cases b : (fEnd C one).2 i < 0
                · have : (fEnd C one).2 i = -1 := by omega
                  simp [a, a', b, this]
                · simp [a, a', b]
            simp only [ne_eq]
            rw [eT, eG _ (by rw [hI_stI, if_neg (by omega)])]
            refine ihi _ ⟨fun q hq => ?_, fun j hj => ?_, ?_⟩
            · simp only [hI_stI]
              by_cases e : q = i
              · subst e; simp
              · have := v1 q (by omega)
                simp [e, this.1, this.2]
            · have := v2 j hj
              have ne : ¬ j = 12 * one + i := by omega
              simp only [hI_stI]
              simp [ne, this.1, this.2]
            · exact v3.tr ((zEq_I (by omega)).tr (zEq_I (by omega)))
        · rw [hI_stI, if_neg (by omega), hI_stI, if_neg (by omega)]
          exact ⟨w7.I (by omega) j, w7.I (by omega) j⟩
      refine r_X3_reckonOne_30 hk1 ⟨fun c => fin (by omega), fun c => ⟨fun c2 => fin ?_, fun c2 => ?_⟩⟩
      · rw [w32_id (by omega) (by omega)] at c2; omega
      · rw [w32_id (by omega) (by omega)] at c2
        have q1 : D + 1 ≤ 120 := by omega
        have q2 : D + 1 ≤ L + 10 := by omega
        have q3 : 121 - (D + 1) < 121 - D := by omega
        have q5 : ∀ t c : Int, t ≤ (L : Int) → c ≤ 9 → t + c = ((D + 1 : Nat) : Int) → ¬ D + 1 ≤ L + 9 → False := fun t c a1 a2 a3 a4 => by omega
        have q4 : D + 1 ≤ L + 9 → ∀ {y : Nat}, pc12 (bset (seB (cn C) (fRun C (ckn C) (fF0 C one) D).1)) < y → D + 1 + 9 ≤ 9 * y := by
          generalize pc12 (bset (seB (cn C) (fRun C (ckn C) (fF0 C one) D).1)) = x at w5 ⊢
          intro a y b; omega
        have hok := okF_run (kf := ckn C) (okF_0 C one) D
        refine c_tellOn (kf := ckn C) fate28 hk1 hA9 (by omega) hC wC3 w3 (fun i hi => by have := (hok i hi).1; omega) (by omega) (fun i hi => ⟨(wC3.2.2.2.2.2.2.2.1 i hi).2, ckn_lt C i⟩) ?_
        intro h9 f9 e9
        have e9' := w6.tr (e9.wk (fun c q => by omega))
        have wC9 := wC.fr e9' (fun j hj => by omega)
        refine c_fleeOn (kf := ckn C) fate28 hk1 hA9 hC wC9 f9 (by omega) (fun i hi => ⟨(wC9.2.2.2.2.2.2.2.1 i hi).2, ckn_lt C i⟩) ?_
        intro h10 f10 e10
        intro y12 ey
        have f10' : XFate h10 28 (cn C) (fRun C (ckn C) (fF0 C one) (D + 1)).1 (fRun C (ckn C) (fF0 C one) (D + 1)).2 := f10
        rw [f10'.2.1, w3.2.1] at ey
        have hsub : ∀ i, i < 12 → (bset (seB (cn C) (fRun C (ckn C) (fF0 C one) D).1)).testBit i = true → (bset (seB (cn C) (fRun C (ckn C) (fF0 C one) (D + 1)).1)).testBit i = true := by
          intro i hi hb
          rw [bset_t] at hb ⊢
          simp only [seB, Bool.and_eq_true, decide_eq_true_eq] at hb ⊢
          refine ⟨hi, hb.2.1, ?_⟩
          show 0 ≤ tkF _ _ _ i
          unfold tkF; split
          · omega
          · exact hb.2.2
        have e10' := e9'.tr (e10.wk (fun c q => by omega))
        have e10r := (w7.tr (e9.wk (fun c q => by omega))).tr (e10.wk (fun c q => by omega))
        have hday : w32 (((D + 1 : Nat) : Int) + 1) = ((D + 1 + 1 : Nat) : Int) := w32s (by omega)
        rw [hday]
        by_cases hsame : bset (seB (cn C) (fRun C (ckn C) (fF0 C one) (D + 1)).1) = bset (seB (cn C) (fRun C (ckn C) (fF0 C one) D).1)
        · have hy : y12 = (L : Int) := by rw [ey, hsame]; simp
          subst hy
          have hTeq : ∀ p, p < cn C → (fRun C (ckn C) (fF0 C one) (D + 1)).1 p = (fRun C (ckn C) (fF0 C one) D).1 p := by
            intro p hp
            show tkF _ _ _ p = _
            unfold tkF
            split
            · rename_i ht
              have hth := tellS_th ht
              simp only [thB, Bool.and_eq_true, decide_eq_true_eq] at hth
              have h12 : p < 12 := by omega
              have b1 := congrArg (fun s => s.testBit p) hsame
              simp only [zx_se hp h12] at b1
              have b2 : (fRun C (ckn C) (fF0 C one) (D + 1)).1 p = ((D + 1 : Nat) : Int) := by
                show tkF _ _ _ p = _
                unfold tkF; rw [if_pos ht]
              rw [b2] at b1
              have b3 : decide (0 ≤ ((D + 1 : Nat) : Int)) = true := decide_eq_true (Int.natCast_nonneg _)
              rw [b3] at b1
              have := of_decide_eq_true b1.symm
              omega
            · rfl
          refine ih (L, D + 1, h10) ⟨q1, q2, f10', fun p hp => ?_, ?_, e10', e10r⟩ q3
          · dsimp only; rw [hTeq p hp]; exact w4 p hp
          · dsimp only; rw [hsame]; exact w5
        · have hy : y12 = ((D + 1 : Nat) : Int) := by
            rw [ey]
            exact if_pos (fun q => hsame (Int.ofNat_inj.mp q))
          subst hy
          have hgrow : pc12 (bset (seB (cn C) (fRun C (ckn C) (fF0 C one) D).1)) < pc12 (bset (seB (cn C) (fRun C (ckn C) (fF0 C one) (D + 1)).1)) := by
            refine Classical.byContradiction (fun hc => hsame ?_)
            apply nat_bits (bset_lt _) (bset_lt _)
            intro i hi
            cases hb : (bset (seB (cn C) (fRun C (ckn C) (fF0 C one) D).1)).testBit i
            · cases hb2 : (bset (seB (cn C) (fRun C (ckn C) (fF0 C one) (D + 1)).1)).testBit i
              · rfl
              · exact absurd (pc_lt hsub hi hb2 hb) hc
            · exact hsub i hi hb
          -- somebody told
          have hteller : D + 1 ≤ L + 9 := by
            refine Classical.byContradiction (fun hc => hsame ?_)
            have t0 : tellS C (ckn C) ((D + 1 : Nat) : Int) (fRun C (ckn C) (fF0 C one) D).1 (fRun C (ckn C) (fF0 C one) D).2 = 0 := by
              apply nat_bits (clS_is (bset_lt _)).1 (by omega)
              intro i _
              rw [Nat.zero_testBit]
              refine Classical.byContradiction (fun hc2 => ?_)
              have hc2 := bnf hc2
              have := (clS_t (bset_lt _) i).mp hc2
              refine this (fun _ => False) (fun q hq => ?_) (fun _ _ h _ _ _ _ => h)
              rw [Nat.testBit_and, Bool.and_eq_true, orK_t] at hq
              obtain ⟨⟨p, p1, p2, -⟩, -⟩ := hq
              unfold tlS at p2
              rw [bset_t] at p2
              simp only [Bool.and_eq_true, decide_eq_true_eq] at p2
              have h1 := w4 p p1
              have h2 := (hC.2.2.2.2.2.1 p p1).2.2.1
              exact q5 _ _ h1 h2.2 p2.2.2 hc
            refine bset_ext (fun i _ => ?_)
            have ht : (fRun C (ckn C) (fF0 C one) (D + 1)).1 i = (fRun C (ckn C) (fF0 C one) D).1 i := by
              show tkF (tellS _ _ _ _ _) _ _ i = _
              unfold tkF; rw [t0]; simp
            simp only [seB, ht]
          have hok1 := okF_run (kf := ckn C) (okF_0 C one) (D + 1)
          refine ih (D + 1, D + 1, h10) ⟨q1, Nat.le_add_right _ _, f10', fun p hp => (hok1 p hp).1.2, ?_, e10', e10r⟩ q3
          exact q4 hteller hgrow
    · dsimp only
      refine ⟨by omega, by omega, f2, fun p hp => (okF_0 C one p hp).1.2, ?_, e2', e2r⟩
      have : pc12 0 < pc12 (bset (seB (cn C) (fRun C (ckn C) (fF0 C one) 0).1)) := by
        refine pc_lt (i := one) (fun i _ hb => by simp at hb) (by omega) ?_ (by simp)
        rw [zx_se ho (by omega), hone]; rfl
      omega
end FR
