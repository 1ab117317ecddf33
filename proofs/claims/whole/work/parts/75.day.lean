/-! a whole day; send and day -/
def nDay (N : zEn) : zEn := ((nd N + 1, nt N), ntk N, ngo N, nkn N, ngv N, nth N)
noncomputable def nFt (C : zCt) (N : zEn) : zEn := ((nd N, nt N), fTell C (nkn N) (nd N) (ntk N) (ngo N), fFlee C (nkn N) (nd N) (fTell C (nkn N) (nd N) (ntk N) (ngo N)) (ngo N), nkn N, ngv N, nth N)
noncomputable def nHo (C : zCt) (N : zEn) : zEn := mapT (nDay N) (hoG C (nDay N)) (nt N)
noncomputable def nPass (C : zCt) (N : zEn) : zEn := mapT (nFt C (nHo C N)) (fun r => anG C (nFt C (nHo C N)) (loG C (nFt C (nHo C N)) r)) (nt N)
theorem anG_map {C : zCt} {N : zEn} {g : (Nat → Int) → Nat → Int} {i : Nat} : anG C (mapT N g i) = anG C N := by
  funext r
  show (if 0 ≤ r 0 ∧ (r 3 < 0 ∨ thN C N (r 3).toNat = false) then chG C (mapT N g i) r else r) = (if 0 ≤ r 0 ∧ (r 3 < 0 ∨ thN C N (r 3).toNat = false) then chG C N r else r)
  rw [chG_map]
theorem okT_up {C : zCt} {n : Nat} {r : Nat → Int} (h : okT C n r) : okT C (n + 1) r := by
  obtain ⟨a, b, c, d, e, f⟩ := h
  exact ⟨a, by omega, by omega, d, by omega, f⟩
theorem okN_day {C : zCt} {N : zEn} (h : okN C N) (hd : nd N < 1000) : okN C (nDay N) := by
  obtain ⟨n1, n2, n3, n4, n5, n6, n7, n8⟩ := h
  refine ⟨hd, n2, fun i hi => ?_, n4, n5, n6, n7, fun s hs => okT_up (C := C) (n := nd N) (r := rT N s) (n8 s hs)⟩
  have := n3 i hi
  show (-1 ≤ ntk N i ∧ ntk N i ≤ ((nd N + 1 : Nat) : Int)) ∧ (-1 ≤ ngo N i ∧ ngo N i ≤ ((nd N + 1 : Nat) : Int)) ∧ _
  exact ⟨by omega, by omega, this.2.2⟩
theorem tellS_bx {C : zCt} {N : zEn} {day : Int} {T Gn : Nat → Int} {q : Nat} (hN : ∀ i j, i < cn C → (nkn N i).testBit j = true → j < cn C ∧ ckd C i ≠ 3 ∧ ckd C j ≠ 3) (h : (tellS C (nkn N) day T Gn).testBit q = true) : ckd C q ≠ 3 := by
  have := (clS_t (bset_lt _) q).mp h
  refine this (fun q => ckd C q ≠ 3) (fun q hq => ?_) (fun p q _ _ hp hb _ => (hN p q hp hb).2.2)
  rw [Nat.testBit_and, Bool.and_eq_true] at hq
  obtain ⟨p, hp, _, hb⟩ := (orK_t _).mp hq.1
  exact (hN p q hp hb).2.2
theorem okN_ft {C : zCt} {N : zEn} {n : Nat} (h : okN C N) (hd : nd N = n + 1) (hF : okF (cn C) n (ntk N) (ngo N)) : okN C (nFt C N) := by
  obtain ⟨n1, n2, n3, n4, n5, n6, n7, n8⟩ := h
  have q := okF_day (C := C) (kf := nkn N) (n := n) (F := (ntk N, ngo N)) hF
  refine ⟨n1, n2, ?_, n4, n5, fun i hi h3 => ?_, n7, n8⟩
  · show okF (cn C) (nd N) (fTell C (nkn N) (nd N) (ntk N) (ngo N)) (fFlee C (nkn N) (nd N) (fTell C (nkn N) (nd N) (ntk N) (ngo N)) (ngo N))
    rw [hd]; exact q
  · have k := n6 i hi h3
    refine ⟨?_, ?_⟩
    · show fTell C (nkn N) (nd N) (ntk N) (ngo N) i < 0
      unfold fTell tkF
      split
      · rename_i hb
        exact absurd h3 (tellS_bx n5 hb)
      · exact k.1
    · show fFlee C (nkn N) (nd N) _ (ngo N) i < 0
      unfold fFlee
      split
      · rename_i hb
        simp only [flB, Bool.and_eq_true, decide_eq_true_eq] at hb
        exact absurd h3 hb.1.2
      · exact k.2
noncomputable def nRun (C : zCt) (N : zEn) : Nat → zEn
  | 0 => N
  | n + 1 => nPass C (nRun C N n)
theorem okN_pass {C : zCt} {N : zEn} (h : okN C N) (hd : nd N < 1000) : okN C (nHo C N) ∧ okN C (nFt C (nHo C N)) ∧ okN C (nPass C N) := by
  have a : okN C (nHo C N) := okN_mapT (okN_day h hd) (fun r hr => okT_ho hr)
  have b : okN C (nFt C (nHo C N)) := okN_ft (n := nd N) a rfl h.2.2.1
  exact ⟨a, b, okN_mapT b (fun r hr => okT_an b (okT_lo hr))⟩
section DA
variable {E : zE} {d : Nat} {h : zS}
theorem c_pass {k1 : Nat} {C : zCt} {N : zEn} {Q : zS → Prop} (hk1 : isCity k1) (hC : okC C) (wC : XCity h k1 C) (hN : okN C N) (hd : nd N < 1000) (wN : XEarn h 34 C N)
    (HQ : ∀ h1, XEarn h1 34 C (nPass C N) → zEq (fun c => c < 34 ∨ 45 < c) h h1 → Q h1) : zCv E (d + 5) m_X1_pass [vo 34, vo k1] h Q := by
  have hn12 := hC.1
  have kd := (city_lt hk1).2
  obtain ⟨o2, o3, o4⟩ := okN_pass hN hd
  refine v_X1_pass isEarnest_34 hk1 ?_
  intro h1 e1
  rw [wN.1, w32s (by omega)] at e1
  obtain ⟨v1, n1, q1⟩ := st_cp e1
  clear e1
  have w1 : XEarn h1 34 C (nDay N) := by
    obtain ⟨a1, a2, a3, a4, a5, a6⟩ := wN
    refine ⟨v1, a2.fr q1 (by omega) (by omega), by rw [q1.I (by omega)]; exact a3, fun s hs => ?_, fun a b ha hb => by rw [q1.I (by omega)]; exact a5 a b ha hb, fun i hi => by rw [q1.I (by omega)]; exact a6 i hi⟩
    rw [q1.I (by omega), q1.I (by omega), q1.I (by omega), q1.I (by omega), q1.I (by omega)]
    exact a4 s hs
  have wC1 : XCity h1 k1 C := wC.fr q1 (fun j hj => by omega)
  refine c_handOn hk1 hC wC1 (okN_day hN hd) w1 (fun h2 w2 q2 => ?_)
  have w2 : XEarn h2 34 C (nHo C N) := w2
  have wC2 : XCity h2 k1 C := wC1.fr q2 (fun j hj => by omega)
  have d2 : hI h2 34 0 = ((nd N + 1 : Nat) : Int) := w2.1
  rw [d2]
  refine c_tellOn (C := C) (kf := nkn (nHo C N)) (T := ntk (nHo C N)) (Gn := ngo (nHo C N)) isFate_35 hk1 ga_44 (by omega) hC wC2 w2.2.1 (fun i hi => ?_) (by omega) (fun i hi => ⟨w2.2.2.2.2.2 i hi, o2.2.2.2.1 i hi⟩) (fun h3 f3 q3 => ?_)
  · have := (hN.2.2.1 i hi).1.2
    show ntk N i < 100000
    omega
  have wC3 : XCity h3 k1 C := wC2.fr q3 (fun j hj => by omega)
  have d3 : hI h3 34 0 = ((nd N + 1 : Nat) : Int) := by rw [q3.I (by omega)]; exact d2
  rw [d3]
  refine c_fleeOn (C := C) (kf := nkn (nHo C N)) isFate_35 hk1 ga_44 hC wC3 f3 (by omega) (fun i hi => ⟨by rw [q3.I (by omega)]; exact w2.2.2.2.2.2 i hi, o2.2.2.2.1 i hi⟩) (fun h4 f4 q4 => ?_)
  have q34 := q3.tr q4
  have w4 : XEarn h4 34 C (nFt C (nHo C N)) := by
    obtain ⟨a1, a2, a3, a4, a5, a6⟩ := w2
    refine ⟨by rw [q34.I (by omega)]; exact a1, f4, by rw [q34.I (by omega)]; exact a3, fun s hs => ?_, fun a b ha hb => by rw [q34.I (by omega)]; exact a5 a b ha hb, fun i hi => by rw [q34.I (by omega)]; exact a6 i hi⟩
    rw [q34.I (by omega), q34.I (by omega), q34.I (by omega), q34.I (by omega), q34.I (by omega)]
    exact a4 s hs
  refine c_loseThings hC o3 w4 (fun h5 w5 q5 => ?_)
  have wC5 : XCity h5 k1 C := wC3.fr (q4.wk (B := fun c => c < 34) (fun c q => by omega)) (fun j hj => by omega) |>.fr q5 (fun j hj => by omega)
  refine c_chooseAnew hk1 hC wC5 (okN_mapT o3 (fun r hr => okT_lo hr)) w5 (fun h6 w6 q6 => ?_)
  refine HQ h6 ?_ ((q1.wk (fun c q => by omega)).tr ((q2.wk (fun c q => by omega)).tr ((q34.wk (fun c q => by omega)).tr ((q5.wk (fun c q => by omega)).tr (q6.wk (fun c q => by omega))))))
  have e : mapT (mapT (nFt C (nHo C N)) (loG C (nFt C (nHo C N))) (nt N)) (anG C (nFt C (nHo C N))) (nt N) = nPass C N := mapT_2
  rw [anG_map] at w6
  rw [← e]
  exact w6
theorem c_M_step {C : zCt} {N : zEn} {Q : zS → Prop} (hC : okC C) (wC : MCity h C) (hN : okN C N) (hd : nd N < 1000) (wN : MEarn h C N)
    (HQ : ∀ h1, MEarn h1 C (nPass C N) → zEw (fun c i => ¬ (c = 89 ∧ i = 54) ∧ (c < 112 ∨ 124 < c)) h h1 → zEq (fun c => c < 89) h h1 → Q h1) : zCv E (d + 4) m_X10_step [vo 89] h Q := by
  have hn12 := hC.1
  obtain ⟨o2, o3, o4⟩ := okN_pass hN hd
  have ht12 := hN.2.1
  refine v_X10_step ?_
  intro h1 e1
  rw [wN.1, w32s (by omega)] at e1
  have E1 : zEw (fun c i => ¬ (c = 89 ∧ i = 54)) h h1 := by rw [e1]; exact zEw_I (by simp)
  obtain ⟨v1, n1, q1⟩ := st_cp e1
  clear e1
  have w1 : MEarn h1 C (nDay N) := by
    obtain ⟨a1, a2, a3, a4, a5⟩ := wN
    refine ⟨v1, by rw [n1 _ _ (by omega)]; exact a2, fun i hi => ?_, fun s hs => ?_, fun a b ha hb => by rw [q1.I (by omega)]; exact a5 a b ha hb⟩
    · rw [q1.I (by omega), q1.I (by omega), q1.I (by omega)]; exact a3 i hi
    · rw [q1.I (by omega), q1.I (by omega), q1.I (by omega), q1.I (by omega), q1.I (by omega)]; exact a4 s hs
  have wC1 : MCity h1 C := wC.w (fun i _ _ => n1 _ _ (by omega)) (fun j _ _ i => q1.I (by omega) i)
  have oD := okN_day hN hd
  refine z_up (n := nt N) (fun i h2 => zWv E (d + 3 + 1) m_X10_step 12 [vo 89, vi i] h2 Q) (fun i h2 => MEarn h2 C (mapT (nDay N) (hoG C (nDay N)) i) ∧ zEq (fun c => c < 119 ∨ 124 < c) h1 h2) ?_ ?_ 0 h1 (by omega) ⟨w1, zEq.rf⟩
  · rintro h2 ⟨w2, q2⟩
    have w2 : MEarn h2 C (nHo C N) := w2
    have wC2 : MCity h2 C := wC1.fr q2 (by omega)
    refine r_X10_step_12 ⟨fun _ => ?_, fun c => ?_⟩
    · refine c_M_bring (fun h3 b3 q3 => ?_)
      have wC3 : MCity h3 C := wC2.fr q3 (by omega)
      have d3 : hI h3 89 54 = ((nd N + 1 : Nat) : Int) := by rw [q3.I (by omega)]; exact w2.1
      have mf : MFate h3 (cn C) (ntk (nHo C N)) (ngo (nHo C N)) (nkn (nHo C N)) := fun i hi => by
        have k := b3 i (by omega)
        have k2 := w2.2.2.1 i hi
        exact ⟨k.1.trans k2.1, k.2.1.trans k2.2.1, k.2.2.trans k2.2.2⟩
      rw [d3]
      have tlt : ∀ i, i < cn C → ntk (nHo C N) i < ((nd N + 1 : Nat) : Int) := fun i hi => by
        have := (hN.2.2.1 i hi).1.2
        show ntk N i < _
        omega
      refine c_M_tellOn hC wC3 mf (fun i hi => by have := tlt i hi; omega) (by omega) (fun i hi => o2.2.2.2.1 i hi) (fun y h4 m4 q4 => ?_)
      rw [mtS_tlS tlt] at m4
      have wC4 : MCity h4 C := wC3.fr q4 (by omega)
      have d4 : hI h4 89 54 = ((nd N + 1 : Nat) : Int) := by rw [q4.I (by omega)]; exact d3
      rw [d4]
      have m4 : MFate h4 (cn C) (ntk (nFt C (nHo C N))) (ngo (nHo C N)) (nkn (nHo C N)) := m4
      refine c_M_goOn hC wC4 m4 (fun i hi => ?_) (by omega) (fun i hi => o2.2.2.2.1 i hi) (fun h5 m5 q5 => ?_)
      · have := (o3.2.2.1 i hi).1.2
        have e : nd (nFt C (nHo C N)) = nd N + 1 := rfl
        rw [e] at this
        omega
      refine c_M_takeBack (fun h6 b6 q6 => ?_)
      have F : zEq (fun c => c ≠ 112 ∧ c ≠ 113 ∧ c ≠ 114 ∧ c ≠ 115 ∧ c ≠ 116) h2 h6 := (q3.wk (fun c q => by omega)).tr ((q4.wk (fun c q => by omega)).tr ((q5.wk (fun c q => by omega)).tr (q6.wk (fun c q => by omega))))
      have w6 : MEarn h6 C (nFt C (nHo C N)) := by
        obtain ⟨a1, a2, a3, a4, a5⟩ := w2
        refine ⟨by rw [F.I (by omega)]; exact a1, by rw [F.I (by omega)]; exact a2, fun i hi => ?_, fun s hs => ?_, fun a b ha hb => by rw [F.I (by omega)]; exact a5 a b ha hb⟩
        · have k := b6 i (by omega)
          have k5 := m5 i hi
          rw [k.1, k.2, F.I (by omega)]
          exact ⟨k5.1, k5.2.1, (a3 i hi).2.2⟩
        · rw [F.I (by omega), F.I (by omega), F.I (by omega), F.I (by omega), F.I (by omega)]; exact a4 s hs
      have wC6 : MCity h6 C := wC2.fr F (by omega)
      refine c_M_stepL hC wC6 o3 w6 (fun h7 w7 q7 => ?_)
      have A : zEq (fun c => c < 112 ∨ 124 < c) h1 h7 := (q2.wk (fun c q => by omega)).tr ((F.wk (fun c q => by omega)).tr (q7.wk (fun c q => by omega)))
      refine HQ h7 w7 (fun c i hc => ?_) ((q1.wk (fun c q => by omega)).tr (A.wk (fun c q => by omega)))
      refine ⟨?_, ?_⟩
      · rw [A.I hc.2, n1 _ _ (fun q => hc.1 q)]
      · rw [A.R hc.2]; exact (E1 c i hc.1).2
    · have : hI h2 89 55 = (nt N : Int) := w2.2.1
      omega
  · rintro i h2 hi ⟨u1, u2⟩ ih
    refine r_X10_step_12 ⟨fun c => ?_, fun _ => ?_⟩
    · have : hI h2 89 55 = (nt N : Int) := u1.2.1
      omega
    · rw [w32s (by omega)]
      refine c_M_handOn (N := nDay N) hC (wC1.fr u2 (by omega)) oD u1 ⟨rfl, rfl, rfl⟩ hi (by omega) rT_map hi (fun h6 x6 f6 => ?_)
      refine ih h6 ⟨?_, u2.tr (f6.1.wk (fun c q => by omega))⟩
      rw [← mapT_s]
      exact MEarn_setT u1 f6 x6
theorem p_day {x : Int} (w : zGo h) : zPair E m_X9_day m_X10_day [vi x] h := by
  obtain ⟨t, S, hS, wX, wM⟩ := w
  have hC := hS.2.1
  have hN := hS.2.2.1
  have hd := hN.1
  by_cases G : ∃ n : Nat, x = n ∧ n ≤ 99 ∧ nd (aN S) + n ≤ 1000
  · obtain ⟨n, rfl, h99, hk⟩ := G
    have run : ∀ i, i ≤ n → okN (aC S) (nRun (aC S) (aN S) i) ∧ nd (nRun (aC S) (aN S) i) = nd (aN S) + i := by
      intro i
      induction i with
      | zero => intro _; exact ⟨hN, rfl⟩
      | succ i ihi =>
        intro hi
        have q := ihi (by omega)
        refine ⟨(okN_pass q.1 (by omega)).2.2, ?_⟩
        show nd (nRun (aC S) (aN S) i) + 1 = _
        omega
    refine p_of (S := S) (S' := sN S (nRun (aC S) (aN S) n)) (r := ((nd (aN S) + n : Nat) : Int)) (t := t) (hS.sN (run n (Nat.le_refl _)).1) wM (fun Q HQ => ?_) (fun h1 Q w1 HQ => ?_)
    · have wN := wX.2.2.2.2.2.1
      refine v_X9_day ⟨fun c => by omega, fun _ => ⟨fun c => by omega, fun _ => ?_⟩⟩
      rw [wN.1, w32_id (by omega) (by omega)]
      refine ⟨fun _ => ?_, fun c => by omega⟩
      refine z_up (n := n) (fun i h2 => zWi E (7 + 1) m_X9_day 29 [vo 0, vi n, vi i] h2 Q) (fun i h2 => XInv h2 t (sN S (nRun (aC S) (aN S) i)) ∧ zEq (fun c => c < 34 ∨ 45 < c) h h2) ?_ ?_ 0 h (by omega) ⟨wX, zEq.rf⟩
      · rintro h2 ⟨u1, u2⟩
        refine r_X9_day_29 ⟨fun _ => ?_, fun c => by omega⟩
        have e : hI h2 34 0 = ((nd (aN S) + n : Nat) : Int) := by
          have q := u1.2.2.2.2.2.1.1
          have q2 := (run n (Nat.le_refl _)).2
          rw [← q2]; exact q
        rw [e]
        exact HQ h2 t u1 (u2.wk (fun c q => by omega))
      · rintro i h2 hi ⟨u1, u2⟩ ih
        refine r_X9_day_29 ⟨fun c => by omega, fun _ => ⟨t, u1.1.1, u1.1.2.1, ?_⟩⟩
        rw [w32s (by omega)]
        have q := run i (by omega)
        refine c_pass (C := aC S) (N := nRun (aC S) (aN S) i) u1.1.2.1 hC u1.2.2.2.1 q.1 (by omega) u1.2.2.2.2.2.1 (fun h3 w3 q3 => ?_)
        exact ih h3 ⟨u1.sN (zEw.of q3 (fun c i q => by have := q.1; unfold XK at this; have := city_lt u1.1.2.1; omega)) w3, u2.tr q3⟩
    · have wN := w1.2.2.2.1
      refine v_X10_day ⟨fun c => by omega, fun _ => ⟨fun c => by omega, fun _ => ?_⟩⟩
      rw [wN.1, w32_id (by omega) (by omega)]
      refine ⟨fun _ => ?_, fun c => by omega⟩
      refine z_up (n := n) (fun i h2 => zWi E (7 + 1) m_X10_day 26 [vo 89, vi n, vi i] h2 Q) (fun i h2 => MInv h2 (sN S (nRun (aC S) (aN S) i)) ∧ zEq (fun c => c < 89) h1 h2) ?_ ?_ 0 h1 (by omega) ⟨w1, zEq.rf⟩
      · rintro h2 ⟨u1, u2⟩
        refine r_X10_day_26 ⟨fun _ => ?_, fun c => by omega⟩
        have e : hI h2 89 54 = ((nd (aN S) + n : Nat) : Int) := by
          have q := u1.2.2.2.1.1
          have q2 := (run n (Nat.le_refl _)).2
          rw [← q2]; exact q
        rw [e]
        exact HQ h2 u1 u2
      · rintro i h2 hi ⟨u1, u2⟩ ih
        refine r_X10_day_26 ⟨fun c => by omega, fun _ => ?_⟩
        rw [w32s (by omega)]
        have q := run i (by omega)
        refine c_M_step (C := aC S) (N := nRun (aC S) (aN S) i) hC u1.2.2.1 q.1 (by omega) u1.2.2.2.1 (fun h3 w3 q3 r3 => ?_)
        exact ih h3 ⟨u1.sN (q3.wk (fun c i q => by have := q.1; unfold MK at this; omega)) w3, u2.tr r3⟩
  · refine p_of (S := S) (S' := S) (r := -1) (t := t) hS wM (fun Q HQ => ?_) (fun h1 Q w1 HQ => ?_)
    · have HQ := HQ h t wX zEq.rf
      have wN := wX.2.2.2.2.2.1
      refine v_X9_day ⟨fun _ => HQ, fun c => ⟨fun _ => HQ, fun c2 => ?_⟩⟩
      rw [wN.1, w32_id (by omega) (by omega)]
      refine ⟨fun c3 => absurd ⟨x.toNat, by omega, by omega, by omega⟩ G, fun _ => HQ⟩
    · have HQ := HQ h1 w1 zEq.rf
      have wN := w1.2.2.2.1
      refine v_X10_day ⟨fun _ => HQ, fun c => ⟨fun _ => HQ, fun c2 => ?_⟩⟩
      rw [wN.1, w32_id (by omega) (by omega)]
      refine ⟨fun c3 => absurd ⟨x.toNat, by omega, by omega, by omega⟩ G, fun _ => HQ⟩
end DA
