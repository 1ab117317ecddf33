/-! choosing anew; the model's handOn and its second loop -/
theorem chF_map {C : zCt} {N : zEn} {g : (Nat → Int) → Nat → Int} {i : Nat} {v : Nat → Int} {p : Nat} : ∀ q, chF C (mapT N g i) v p q = chF C N v p q
  | 0 => rfl
  | q + 1 => by
    have ih := chF_map (C := C) (N := N) (g := g) (i := i) (v := v) (p := p) q
    show (if byV C N v p q < (chF C (mapT N g i) v p q).1 then (byV C N v p q, (q : Int), (nd N : Int) + ngv N p q) else chF C (mapT N g i) v p q) = (if byV C N v p q < (chF C N v p q).1 then (byV C N v p q, (q : Int), (nd N : Int) + ngv N p q) else chF C N v p q)
    rw [ih]
theorem dV_map {C : zCt} {N : zEn} {g : (Nat → Int) → Nat → Int} {i : Nat} : dV C (mapT N g i) = dV C N := rfl
theorem chG_map {C : zCt} {N : zEn} {g : (Nat → Int) → Nat → Int} {i : Nat} {r : Nat → Int} : chG C (mapT N g i) r = chG C N r := by
  unfold chG
  rw [dV_map, chF_map]
section AN
variable {E : zE} {d : Nat} {h : zS}
theorem c_chooseAnew {k1 : Nat} {C : zCt} {N : zEn} {Q : zS → Prop} (hk1 : isCity k1) (hC : okC C) (wC : XCity h k1 C) (hN : okN C N) (wN : XEarn h 34 C N)
    (HQ : ∀ h1, XEarn h1 34 C (mapT N (anG C N) (nt N)) → zEq (fun c => (c < 38 ∨ 42 < c) ∧ c ≠ 45) h h1 → Q h1) : zCv E (d + 4) m_X1_chooseAnew [vo 34, vo k1] h Q := by
  have hn12 := hC.1
  have ht12 := hN.2.1
  have kd := (city_lt hk1).2
  refine v_X1_chooseAnew isEarnest_34 hk1 ?_
  refine z_upS (σ := Int × zS) (n := nt N) (fun i s => zWv E (d + 3 + 1) m_X1_chooseAnew 4 [vo 34, vo k1, vi s.1, vi i, vn] s.2 Q) (fun i s => XEarn s.2 34 C (mapT N (anG C N) i) ∧ zEq (fun c => (c < 38 ∨ 42 < c) ∧ c ≠ 45) h s.2 ∧ (s.1 = 0 ∨ (s.1 = 1 ∧ ∃ v, dOk C N v ∧ ∀ i, i < cn C → hI s.2 45 i = v i ∧ 0 ≤ v i ∧ v i ≤ 1000000))) ?_ ?_ 0 (0, h) (by omega) ⟨wN, zEq.rf, .inl rfl⟩
  · rintro ⟨m, h2⟩ ⟨u1, u2, u3⟩
    dsimp only at u1 u2 u3 ⊢
    refine r_X1_chooseAnew_4 isEarnest_34 hk1 ⟨fun _ => HQ h2 u1 u2, fun c => ?_⟩
    have : hI h2 (34 + 3) 0 = (nt N : Int) := u1.2.2.1
    omega
  · rintro i ⟨m, h2⟩ hi ⟨u1, u2, u3⟩ ih
    dsimp only at u1 u2 u3 ih ⊢
    have cnt : hI h2 (34 + 3) 0 = (nt N : Int) := u1.2.2.1
    have x := xTh_of (t := i) u1 hi
    rw [rT_map] at x
    have ot := okT_of hN hi
    have hN' : okN C (mapT N (anG C N) i) := okN_mapT hN (fun r hr => okT_an hN hr)
    have e0 : rT (mapT N (anG C N) i) i = rT N i := rT_map
    have same : anG C N (rT N i) = rT N i → zWv E (d + 3 + 1) m_X1_chooseAnew 4 [vo 34, vo k1, vi m, vi ((i + 1 : Nat) : Int), vn] h2 Q := fun e => ih (m, h2) ⟨by rw [← mapT_k e]; exact u1, u2, u3⟩
    have wC2 : ∀ h3, zEq (fun c => (c < 38 ∨ 42 < c) ∧ c ≠ 45) h h3 → XCity h3 k1 C := fun h3 e => wC.fr e (fun j hj => by omega)
    have go : (0 ≤ rT N i 0 ∧ (rT N i 3 < 0 ∨ thN C N (rT N i 3).toNat = false)) → ∀ v h3, dOk C N v → (∀ i, i < cn C → hI h3 45 i = v i ∧ 0 ≤ v i ∧ v i ≤ 1000000) → XEarn h3 34 C (mapT N (anG C N) i) → zEq (fun c => (c < 38 ∨ 42 < c) ∧ c ≠ 45) h h3 → zCv E (d + 3) m_X1_choose [vo 34, vo k1, vi i] h3 (fun h5 => zWv E (d + 3 + 1) m_X1_chooseAnew 4 [vo 34, vo k1, vi 1, vi ((i + 1 : Nat) : Int), vn] h5 Q) := by
      intro c v h3 hv hv3 u1 u2
      obtain ⟨p, hp⟩ : ∃ p : Nat, rT N i 0 = p := ⟨(rT N i 0).toNat, by omega⟩
      refine c_choose (p := p) (v := v) hk1 hC (wC2 h3 u2).1 hN' u1 hv3 hi (by rw [e0]; exact hp) (fun h5 w5 f5 => ?_)
      refine ih (1, h5) ⟨?_, u2.tr (f5.1.wk (fun c q => q.1)), .inr ⟨rfl, v, hv, fun j hj => ?_⟩⟩
      · have eq : chR C (mapT N (anG C N) i) v i p (cn C) = anG C N (rT N i) := by
          rw [chR_G (N := mapT N (anG C N) i) hv (by rw [e0]; exact hp), e0, chG_map]
          unfold anG; rw [if_pos c]
        rw [eq, mapT_s] at w5
        exact w5
      · dsimp only; rw [f5.1.I (by omega)]; exact hv3 j hj
    have goM : (0 ≤ rT N i 0 ∧ (rT N i 3 < 0 ∨ thN C N (rT N i 3).toNat = false)) → (m ≠ 0 → zCv E (d + 3) m_X1_choose [vo 34, vo k1, vi i] h2 (fun h5 => zWv E (d + 3 + 1) m_X1_chooseAnew 4 [vo 34, vo k1, vi m, vi ((i + 1 : Nat) : Int), vn] h5 Q)) ∧ (m = 0 → zCv E (d + 3) m_X1_measure [vo 34, vo k1] h2 (fun h6 => zCv E (d + 3) m_X1_choose [vo 34, vo k1, vi i] h6 (fun h7 => zWv E (d + 3 + 1) m_X1_chooseAnew 4 [vo 34, vo k1, vi 1, vi ((i + 1 : Nat) : Int), vn] h7 Q))) := by
      intro c
      refine ⟨fun m0 => ?_, fun m0 => ?_⟩
      · rcases u3 with e | ⟨e, v, hv, hv3⟩
        · exact absurd e m0
        · rw [e]
          exact go c v h2 hv hv3 u1 u2
      · refine c_measure isEarnest_34 hk1 hC (wC2 h2 u2) hN' u1 (fun v h6 hv hv6 e6 => ?_)
        exact go c v h6 hv hv6 (u1.fr e6 (fun j hj => by omega)) (u2.tr (e6.wk (fun c q => by omega)))
    generalize hr : rT N i = r at *
    refine r_X1_chooseAnew_4 isEarnest_34 hk1 ⟨fun c => by omega, fun _ => ⟨by omega, ?_⟩⟩
    rw [w32s (by omega)]
    simp only [Int.toNat_natCast, Nat.reduceAdd]
    rw [x.2.2.2.1]
    rintro y2 rfl
    refine c_isHeld (by omega) x ?_
    by_cases c0 : 0 ≤ r 0
    · rw [if_pos c0]
      refine ⟨fun e => by omega, fun _ => ⟨fun c1 => goM ⟨c0, by omega⟩, fun c1 => ?_⟩⟩
      obtain ⟨b, hb⟩ : ∃ b : Nat, r 3 = b := ⟨(r 3).toNat, by have := ot.2.2.2.1; omega⟩
      have bn : b < cn C := by have := ot.2.2.2.1; omega
      rw [hb] at goM ⊢
      rw [Int.toNat_natCast] at goM
      refine c_thereX hn12 u1 bn ?_
      show ((if thN C N b = true then (1 : Int) else 0) ≠ 0 → _) ∧ ((if thN C N b = true then (1 : Int) else 0) = 0 → _)
      cases tb : thN C N b with
      | true =>
        refine ⟨fun _ => same ?_, fun e => by simp at e⟩
        unfold anG
        rw [if_neg]
        rintro ⟨_, q | q⟩
        · omega
        · rw [hb, Int.toNat_natCast, tb] at q; cases q
      | false =>
        exact ⟨fun e => absurd rfl e, fun _ => goM ⟨c0, .inr tb⟩⟩
    · rw [if_neg c0]
      refine ⟨fun _ => same ?_, fun e => absurd rfl e⟩
      unfold anG; rw [if_neg (fun q => c0 q.1)]
theorem c_M_handOn {t : Nat} {C : zCt} {N N' : zEn} {Q : zS → Prop} (hC : okC C) (wC : MCity h C) (hN : okN C N) (wN : MEarn h C N') (eN : ntk N' = ntk N ∧ ngo N' = ngo N ∧ nd N' = nd N) (ht : t < nt N') (ht12 : t < 12) (er : rT N' t = rT N t) (htn : t < nt N)
    (HQ : ∀ h1, mTh h1 t (hoG C N (rT N t)) → mFT t h h1 → Q h1) : zCv E (d + 1) m_X10_handOn [vo 89, vi t] h Q := by
  have hn12 := hC.1
  have x := mTh_of wN ht
  rw [er] at x
  have ot := okT_of hN htn
  have d2 : hI h 89 54 = (nd N : Int) := by rw [wN.1, eN.2.2]
  have th : ∀ a, thN C N' a = thN C N a := fun a => by unfold thN; rw [eN.1, eN.2.1]
  generalize hr : rT N t = r at *
  have same : hoG C N r = r → Q h := fun e => HQ h (by rw [e]; exact x) mFT.rf
  refine v_X10_handOn ⟨by omega, ?_⟩
  simp only [Int.toNat_natCast]
  rw [x.1, x.2.2.2.1, x.2.2.2.2, d2]
  refine ⟨fun c0 => same ?_, fun c0 => ⟨fun c1 => same ?_, fun c1 => ⟨fun c2 => same ?_, fun c2 => ?_⟩⟩⟩
  · unfold hoG; rw [if_neg (fun q => by have := q.1; omega)]
  · unfold hoG; rw [if_neg (fun q => by have := q.2.1; omega)]
  · unfold hoG; rw [if_neg (fun q => c2 q.2.2.1)]
  · obtain ⟨a, ha⟩ : ∃ a : Nat, r 0 = a := ⟨(r 0).toNat, by omega⟩
    obtain ⟨b, hb⟩ : ∃ b : Nat, r 3 = b := ⟨(r 3).toNat, by omega⟩
    have an : a < cn C := by have := ot.1; omega
    have bn : b < cn C := by have := ot.2.2.2.1; omega
    rw [ha]
    refine c_M_isThere hn12 wN an ?_
    rw [th]
    cases ta : thN C N a with
    | false =>
      refine ⟨fun _ => same ?_, fun e => absurd rfl e⟩
      unfold hoG; rw [if_neg (fun q => by have := q.2.2.2.1; rw [ha, Int.toNat_natCast, ta] at this; cases this)]
    | true =>
    refine ⟨fun e => by simp at e, fun _ => ?_⟩
    rw [x.2.2.2.1, hb]
    refine c_M_isThere hn12 wN bn ?_
    rw [th]
    cases tb : thN C N b with
    | false =>
      refine ⟨fun e => absurd rfl e, fun _ => same ?_⟩
      unfold hoG; rw [if_neg (fun q => by have := q.2.2.2.2; rw [hb, Int.toNat_natCast, tb] at this; cases this)]
    | true =>
    refine ⟨fun _ => ?_, fun e => by simp at e⟩
    rw [x.2.2.2.1, hb]
    have eG : hoG C N r = if (b : Int) = cse C then r5 (-3) (r 1) (nd N) (-1) (-1) else r5 b (r 1) (r 2) (-1) (-1) := by
      unfold hoG
      rw [if_pos ⟨c0, c1, c2, by rw [ha, Int.toNat_natCast]; exact ta, by rw [hb, Int.toNat_natCast]; exact tb⟩, hb]
    intro h6 e6 h7 e7 h8 e8
    have f6 := mFT_st e6 (by omega) (by omega)
    have f7 := mFT_st e7 (by omega) (by omega)
    have f8 := mFT_st e8 (by omega) (by omega)
    obtain ⟨v6, _, q6⟩ := st_cp e6
    obtain ⟨v7, _, q7⟩ := st_cp e7
    obtain ⟨v8, _, q8⟩ := st_cp e8
    clear e6 e7 e8
    have f := f6.tr (f7.tr f8)
    have x8 : mTh h8 t (r5 b (r 1) (r 2) (-1) (-1)) := by
      refine ⟨?_, ?_, ?_, ?_, ?_⟩
      · rw [q8.I (by omega), q7.I (by omega), v6]; rfl
      · rw [q8.I (by omega), q7.I (by omega), q6.I (by omega)]; exact x.2.1
      · rw [q8.I (by omega), q7.I (by omega), q6.I (by omega)]; exact x.2.2.1
      · rw [q8.I (by omega), v7]; rfl
      · rw [v8]; rfl
    have s8 : hI h8 89 32 = cse C := by rw [f.1.I (by omega)]; exact wC.2.2.2.1
    rw [x8.1, s8]
    refine ⟨fun c3 => ?_, fun c3 => ?_⟩
    · have c3 : ¬ (b : Int) = cse C := c3
      rw [if_neg c3] at eG
      exact HQ h8 (by rw [eG]; exact x8) f
    · have c3 : (b : Int) = cse C := c3
      rw [if_pos c3] at eG
      refine c_M_comes ht12 (x := nd N) (by rw [f.1.I (by omega)]; exact d2) x8 (fun h9 x9 f9 => ?_)
      exact HQ h9 (by rw [eG]; exact x9) (f.tr f9)
theorem c_M_stepL {C : zCt} {N : zEn} {Q : zS → Prop} (hC : okC C) (wC : MCity h C) (hN : okN C N) (wN : MEarn h C N)
    (HQ : ∀ h1, MEarn h1 C (mapT N (fun r => anG C N (loG C N r)) (nt N)) → zEq (fun c => c < 119 ∨ 124 < c) h h1 → Q h1) : zWv E (d + 3) m_X10_step 58 [vo 89, vi 0] h Q := by
  have hn12 := hC.1
  have ht12 := hN.2.1
  refine z_up (n := nt N) (fun i h2 => zWv E (d + 2 + 1) m_X10_step 58 [vo 89, vi i] h2 Q) (fun i h2 => MEarn h2 C (mapT N (fun r => anG C N (loG C N r)) i) ∧ zEq (fun c => c < 119 ∨ 124 < c) h h2) ?_ ?_ 0 h (by omega) ⟨wN, zEq.rf⟩
  · rintro h2 ⟨u1, u2⟩
    refine r_X10_step_58 ⟨fun _ => HQ h2 u1 u2, fun c => ?_⟩
    have : hI h2 89 55 = (nt N : Int) := u1.2.1
    omega
  · rintro i h2 hi ⟨u1, u2⟩ ih
    have cnt : hI h2 89 55 = (nt N : Int) := u1.2.1
    have x := mTh_of (t := i) u1 hi
    rw [rT_map] at x
    have ot := okT_of hN hi
    have hN' : okN C (mapT N (fun r => anG C N (loG C N r)) i) := okN_mapT hN (fun r hr => okT_an hN (okT_lo hr))
    have e0 : rT (mapT N (fun r => anG C N (loG C N r)) i) i = rT N i := rT_map
    have d2 : hI h2 89 54 = (nd N : Int) := u1.1
    have same : anG C N (loG C N (rT N i)) = rT N i → zWv E (d + 2 + 1) m_X10_step 58 [vo 89, vi ((i + 1 : Nat) : Int)] h2 Q := fun e => ih h2 ⟨by rw [← mapT_k e]; exact u1, u2⟩
    have go : 0 ≤ rT N i 0 → thN C N (rT N i 0).toNat = true → (rT N i 3 < 0 ∨ thN C N (rT N i 3).toNat = false) → zCv E (d + 2) m_X10_chooseFor [vo 89, vi i] h2 (fun h4 => zWv E (d + 2 + 1) m_X10_step 58 [vo 89, vi ((i + 1 : Nat) : Int)] h4 Q) := by
      intro c0 ct c
      obtain ⟨p, hp⟩ : ∃ p : Nat, rT N i 0 = p := ⟨(rT N i 0).toNat, by omega⟩
      refine c_M_chooseFor (p := p) hC (wC.fr u2 (by omega)) hN' u1 hi (by rw [e0]; exact hp) (fun v h4 hv w4 f4 => ?_)
      refine ih h4 ⟨?_, u2.tr f4⟩
      have el : loG C N (rT N i) = rT N i := by unfold loG; rw [if_neg (fun q => by have := q.2; rw [ct] at this; cases this)]
      have eq : chR C (mapT N (fun r => anG C N (loG C N r)) i) v i p (cn C) = anG C N (loG C N (rT N i)) := by
        rw [chR_G (N := mapT N (fun r => anG C N (loG C N r)) i) hv (by rw [e0]; exact hp), e0, el, chG_map]
        unfold anG; rw [if_pos ⟨c0, c⟩]
      rw [eq, mapT_s (g := fun r => anG C N (loG C N r))] at w4
      exact w4
    generalize hr : rT N i = r at *
    refine r_X10_step_58 ⟨fun c => by omega, fun _ => ⟨by omega, ?_⟩⟩
    rw [w32s (by omega)]
    simp only [Int.toNat_natCast]
    rw [x.1]
    refine ⟨fun c0 => ?_, fun c0 => same ?_⟩
    · obtain ⟨a, ha⟩ : ∃ a : Nat, r 0 = a := ⟨(r 0).toNat, by omega⟩
      have an : a < cn C := by have := ot.1; omega
      rw [ha] at go ⊢
      rw [Int.toNat_natCast] at go
      refine c_M_isThere hn12 u1 an ?_
      show ((if thN C N a = true then (1 : Int) else 0) ≠ 0 → _) ∧ ((if thN C N a = true then (1 : Int) else 0) = 0 → _)
      cases ta : thN C N a with
      | true =>
        refine ⟨fun _ => ?_, fun e => by simp at e⟩
        rw [x.2.2.2.1]
        have el : loG C N r = r := by unfold loG; rw [if_neg (fun q => by have := q.2; rw [ha, Int.toNat_natCast, ta] at this; cases this)]
        refine ⟨fun c1 => go (by omega) ta (.inl c1), fun c1 => ?_⟩
        obtain ⟨b, hb⟩ : ∃ b : Nat, r 3 = b := ⟨(r 3).toNat, by omega⟩
        have bn : b < cn C := by have := ot.2.2.2.1; omega
        rw [hb] at go ⊢
        rw [Int.toNat_natCast] at go
        refine c_M_isThere hn12 u1 bn ?_
        show ((if thN C N b = true then (1 : Int) else 0) ≠ 0 → _) ∧ ((if thN C N b = true then (1 : Int) else 0) = 0 → _)
        cases tb : thN C N b with
        | true =>
          refine ⟨fun _ => same ?_, fun e => by simp at e⟩
          rw [el]
          unfold anG
          rw [if_neg]
          rintro ⟨_, q | q⟩
          · omega
          · rw [hb, Int.toNat_natCast, tb] at q; cases q
        | false => exact ⟨fun e => absurd rfl e, fun _ => go (by omega) ta (.inr tb)⟩
      | false =>
        refine ⟨fun e => absurd rfl e, fun _ => ?_⟩
        have el : anG C N (loG C N r) = r5 (-2) (r 1) (nd N) (-1) (-1) := by
          have : loG C N r = r5 (-2) (r 1) (nd N) (-1) (-1) := by
            unfold loG; rw [if_pos ⟨c0, by rw [ha, Int.toNat_natCast]; exact ta⟩]
          rw [this]
          unfold anG
          rw [if_neg]
          rintro ⟨q, _⟩
          have q : (0 : Int) ≤ -2 := q
          omega
        intro h8 e8 h9 e9 h10 e10 h11 e11
        have f8 := mFT_st e8 (by omega) (by omega)
        have f9 := mFT_st e9 (by omega) (by omega)
        have f10 := mFT_st e10 (by omega) (by omega)
        have f11 := mFT_st e11 (by omega) (by omega)
        obtain ⟨v8, _, q8⟩ := st_cp e8
        obtain ⟨v9, _, q9⟩ := st_cp e9
        obtain ⟨v10, _, q10⟩ := st_cp e10
        obtain ⟨v11, _, q11⟩ := st_cp e11
        clear e8 e9 e10 e11
        have f := f8.tr (f9.tr (f10.tr f11))
        have x11 : mTh h11 i (r5 (-2) (r 1) (nd N) (-1) (-1)) := by
          refine ⟨?_, ?_, ?_, ?_, ?_⟩
          · rw [q11.I (by omega), q10.I (by omega), q9.I (by omega), v8]; rfl
          · rw [q11.I (by omega), q10.I (by omega), q9.I (by omega), q8.I (by omega)]; exact x.2.1
          · rw [q11.I (by omega), q10.I (by omega), v9, q8.I (by omega), d2]; rfl
          · rw [q11.I (by omega), v10]; rfl
          · rw [v11]; rfl
        rw [← el, ← hr] at x11
        refine ih h11 ⟨?_, u2.tr (f.1.wk (fun c q => by omega))⟩
        rw [← mapT_s (g := fun r => anG C N (loG C N r))]
        exact MEarn_setT u1 f x11
    · have el : loG C N r = r := by unfold loG; rw [if_neg (fun q => by have := q.1; omega)]
      rw [el]
      unfold anG; rw [if_neg (fun q => by have := q.1; omega)]
end AN
