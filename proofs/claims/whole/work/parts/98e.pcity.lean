/-! city: the model's rest; both sides -/
section PC
variable {E : zE} {d : Nat} {h : zS}
theorem c_M_cityR {D : zDf} {hh : zS} {Q : Int → zS → Prop} (hD : okD D) (wD : MDr hh D) (c29 : hI hh 89 29 = (cn (dC D) : Int)) (c30 : hI hh 89 30 = (cgl (dC D) : Int)) (c31 : hI hh 89 31 = cga (dC D)) (c32 : hI hh 89 32 = cse (dC D)) (c33 : hI hh 89 33 = clu (dC D))
    (HQ : ∀ h1, MCity h1 (dC D) → MEarn h1 (dC D) (nNew (dC D) (ckn (dC D))) → hI h1 89 62 = 0 → hI h1 89 37 = 0 → (∀ x, x < 3 → hI h1 130 x = 0) → zEw (fun c i => ¬ (c = 89 ∧ (i = 54 ∨ i = 55 ∨ i = 62 ∨ i = 37)) ∧ ¬ (98 ≤ c ∧ c ≤ 104) ∧ ¬ (115 ≤ c ∧ c ≤ 118) ∧ c ≠ 130) hh h1 → zEq (fun c => c < 89) hh h1 → Q (cn (dC D)) h1) : zWi E (d + 1) m_X10_city 66 [vo 89, vi 0, vn] hh Q := by
  have hC := hD.1
  have hn := hC.1
  obtain ⟨_, _, _, _, _, d6, d7⟩ := wD
  generalize dC D = C at *
  refine z_up (n := 12) (fun i h2 => zWi E (d + 1) m_X10_city 66 [vo 89, vi i, vn] h2 Q) (fun i h2 => (∀ p, p < i → hI h2 98 p = hI hh 92 p ∧ hI h2 99 p = hI hh 93 p ∧ hI h2 100 p = hI hh 94 p ∧ hI h2 101 p = hI hh 95 p ∧ hI h2 102 p = hI hh 96 p ∧ hI h2 104 p = 0) ∧ zEq (fun c => c < 98 ∨ 104 < c ∨ c = 103) hh h2) ?_ ?_ 0 hh (by omega) ⟨fun p hp => by omega, zEq.rf⟩
  · rintro h1 ⟨a1, a2⟩
    refine r_X10_city_66 ⟨fun _ => ?_, fun c => by omega⟩
    refine z_up (n := 144) (fun i h2 => zWi E (d + 1) m_X10_city 147 [vo 89, vi i, vn] h2 Q) (fun i h2 => (∀ j, j < i → hI h2 103 j = hI hh 97 j) ∧ zEq (fun c => c ≠ 103) h1 h2) ?_ ?_ 0 h1 (by omega) ⟨fun p hp => by omega, zEq.rf⟩
    · rintro h2 ⟨b1, b2⟩
      refine r_X10_city_147 ⟨fun _ => ?_, fun c => by omega⟩
      have base : zEq (fun c => c < 98 ∨ 104 < c) hh h2 := (a2.wk (fun c q => by omega)).tr (b2.wk (fun c q => by omega))
      have kd : ∀ h3, zEq (fun c => c ≠ 104) h2 h3 → ∀ i, i < cn C → hI h3 98 i = ckd C i := fun h3 e i hi => by rw [e.I (by omega), b2.I (by omega), (a1 i (by omega)).1]; exact (d6 i hi).2.1
      have tk : ∀ h3, zEq (fun c => c ≠ 104) h2 h3 → ∀ x y, x < 12 → y < 12 → hI h3 103 (12 * x + y) = ctk C x y := fun h3 e x y hx hy => by rw [e.I (by omega), b1 _ (by omega)]; exact d7 x y hx hy
      have p29 : ∀ h3, zEq (fun c => c ≠ 104) h2 h3 → hI h3 89 29 = (cn C : Int) := fun h3 e => by rw [e.I (by omega), base.I (by omega)]; exact c29
      refine z_upS (σ := (Nat → Nat) × zS) (n := cn C) (fun i s => zWi E (d + 1) m_X10_city 174 [vo 89, vi i, vn] s.2 Q) (fun i s => (∀ p, p < cn C → hI s.2 104 p = (s.1 p : Nat)) ∧ kSp C i 0 s.1 ∧ zEq (fun c => c ≠ 104) h2 s.2) ?_ ?_ 0 ((fun _ => 0), h2) (by omega) ⟨fun p hp => by dsimp only; rw [b2.I (by omega)]; exact (a1 p (by omega)).2.2.2.2.2, kSp_0 (fun _ _ => rfl), zEq.rf⟩
      · rintro ⟨K, h3⟩ ⟨r1, r2, r3⟩
        dsimp only at r1 r2 r3 ⊢
        refine r_X10_city_174 ⟨fun _ => ?_, fun c => by rw [p29 h3 r3] at c; omega⟩
        have B3 : zEq (fun c => c < 98 ∨ 104 < c) hh h3 := base.tr (r3.wk (fun c q => by omega))
        have wC3 : MCity h3 C := by
          refine ⟨p29 h3 r3, by rw [B3.I (by omega)]; exact c30, by rw [B3.I (by omega)]; exact c31, by rw [B3.I (by omega)]; exact c32, by rw [B3.I (by omega)]; exact c33, fun i hi => ?_, tk h3 r3, fun i hi => by rw [r1 i hi, kSp_end hC r2 hi]⟩
          have k := a1 i (by omega)
          have k2 := d6 i hi
          rw [r3.I (by omega), b2.I (by omega), k.1, r3.I (by omega), b2.I (by omega), k.2.1, r3.I (by omega), b2.I (by omega), k.2.2.1, r3.I (by omega), b2.I (by omega), k.2.2.2.1, r3.I (by omega), b2.I (by omega), k.2.2.2.2.1]
          exact k2.2
        refine c_M_fresh hC wC3 (fun h4 w4 e4 z4 => ?_)
        intro h5 x5
        have W5 : zEw (fun c i => ¬ (c = 89 ∧ i = 62)) h4 h5 := by rw [x5]; exact zEw_I (fun q => q ⟨rfl, rfl⟩)
        obtain ⟨v5, n5, q5⟩ := st_cp x5
        clear x5
        intro h6 x6
        have W6 : zEw (fun c i => ¬ (c = 89 ∧ i = 37)) h5 h6 := by rw [x6]; exact zEw_I (fun q => q ⟨rfl, rfl⟩)
        obtain ⟨v6, n6, q6⟩ := st_cp x6
        clear x6
        have G6 : zEw (fun c i => ¬ (c = 89 ∧ (i = 54 ∨ i = 55 ∨ i = 62 ∨ i = 37)) ∧ ¬ (115 ≤ c ∧ c ≤ 118)) h3 h6 := (e4.wk (fun c i q => by omega)).tr ((W5.wk (fun c i q => by omega)).tr (W6.wk (fun c i q => by omega)))
        refine z_up (n := 3) (fun i h7 => zWi E (d + 1) m_X10_city 260 [vo 89, vi i, vn] h7 Q) (fun i h7 => (∀ x, x < i → hI h7 130 x = 0) ∧ zEq (fun c => c ≠ 130) h6 h7) ?_ ?_ 0 h6 (by omega) ⟨fun p hp => by omega, zEq.rf⟩
        · rintro h7 ⟨s1, s2⟩
          refine r_X10_city_260 ⟨fun _ => ?_, fun c => by omega⟩
          have G7 : zEw (fun c i => ¬ (c = 89 ∧ (i = 54 ∨ i = 55 ∨ i = 62 ∨ i = 37)) ∧ ¬ (115 ≤ c ∧ c ≤ 118) ∧ c ≠ 130) h3 h7 := (G6.wk (fun c i q => ⟨q.1, q.2.1⟩)).tr (zEw.of s2 (fun c i q => q.2.2))
          have wC7 : MCity h7 C := wC3.w (fun i _ _ => (G7 89 i ⟨by omega, by omega, by omega⟩).1) (fun j _ _ i => (G7 j i ⟨by omega, by omega, by omega⟩).1)
          rw [wC7.1]
          refine HQ h7 wC7 ?_ ?_ ?_ s1 ((zEw.of B3 (fun c i q => by have := q.2.1; omega)).tr (G7.wk (fun c i q => ⟨q.1, q.2.2.1, q.2.2.2⟩))) ((B3.wk (fun c q => by omega)).tr (z4.tr ((q5.wk (fun c q => by omega)).tr ((q6.wk (fun c q => by omega)).tr (s2.wk (fun c q => by omega))))))
          · have k : ∀ c i, 115 ≤ c → c ≤ 123 → hI h7 c i = hI h4 c i := fun c i p1 p2 => by rw [s2.I (by omega), q6.I (by omega), q5.I (by omega)]
            exact w4.w (by rw [s2.I (by omega), n6 _ _ (by omega), n5 _ _ (by omega)]) (by rw [s2.I (by omega), n6 _ _ (by omega), n5 _ _ (by omega)]) (fun j p1 p2 i => k j i p1 p2)
          · rw [s2.I (by omega), n6 _ _ (by omega)]; exact v5
          · rw [s2.I (by omega)]; exact v6
        · rintro i h7 hi ⟨s1, s2⟩ ih
          refine r_X10_city_260 ⟨fun c => by omega, fun _ => ⟨by omega, ?_⟩⟩
          rw [w32s (by omega)]
          simp only [Int.toNat_natCast]
          intro h8 e8
          obtain ⟨v8, n8, q8⟩ := st_cp e8
          clear e8
          refine ih h8 ⟨fun j hj => ?_, s2.tr q8⟩
          by_cases e : j = i
          · rw [e, v8]
          · rw [n8 _ _ (fun q => e q.2)]; exact s1 j (by omega)
      · rintro i ⟨K, h3⟩ hi ⟨r1, r2, r3⟩ ih
        dsimp only at r1 r2 r3 ih ⊢
        have i12 : i < 12 := Nat.lt_of_lt_of_le hi hn
        refine r_X10_city_174 ⟨fun c => by rw [p29 h3 r3] at c; omega, fun _ => ?_⟩
        refine z_upS (σ := (Nat → Nat) × zS) (n := cn C) (fun j s => zWi E (d + 1) m_X10_city 184 [vo 89, vi i, vi j] s.2 Q) (fun j s => (∀ p, p < cn C → hI s.2 104 p = (s.1 p : Nat)) ∧ kSp C i j s.1 ∧ zEq (fun c => c ≠ 104) h2 s.2) ?_ ?_ 0 (K, h3) (by omega) ⟨r1, r2, r3⟩
        · rintro ⟨K2, h4⟩ ⟨t1, t2, t3⟩
          dsimp only at t1 t2 t3 ⊢
          refine r_X10_city_184 ⟨fun _ => ?_, fun c => by rw [p29 h4 t3] at c; omega⟩
          rw [w32t i12]
          exact ih (K2, h4) ⟨t1, kSp_row t2, t3⟩
        · rintro j ⟨K2, h4⟩ hj ⟨t1, t2, t3⟩ ih2
          dsimp only at t1 t2 t3 ih2 ⊢
          have j12 : j < 12 := Nat.lt_of_lt_of_le hj hn
          refine r_X10_city_184 ⟨fun c => by rw [p29 h4 t3] at c; omega, fun _ => ?_⟩
          rw [w32q i12 j12, w32t j12]
          refine ⟨by omega, ?_⟩
          simp only [Int.toNat_natCast]
          rw [tk h4 t3 i j i12 j12, kd h4 t3 i hi, kd h4 t3 j hj]
          have skip : ¬ (0 < ctk C i j ∧ ckd C i ≠ 3 ∧ ckd C j ≠ 3) → zWi E (d + 1) m_X10_city 184 [vo 89, vi i, vi ((j + 1 : Nat) : Int)] h4 Q := fun q => ih2 (K2, h4) ⟨t1, kSp_skip t2 q, t3⟩
          refine ⟨fun c => skip (fun q => by omega), fun c => ⟨by omega, fun ci => skip (fun q => q.2.1 ci), fun ci => ⟨by omega, fun cj => skip (fun q => q.2.2 cj), fun cj => ?_⟩⟩⟩
          exact c_M_learn hC (kd h4 t3 j hj) hi hj c ci cj t1 t2 (fun h5 K3 k1 k2 k3 => ih2 (K3, h5) ⟨k1, k2, t3.tr k3⟩)
    · rintro i h2 hi ⟨b1, b2⟩ ih
      refine r_X10_city_147 ⟨fun c => by omega, fun _ => ⟨by omega, ?_⟩⟩
      rw [w32s (by omega)]
      simp only [Int.toNat_natCast]
      rw [b2.I (by omega), a2.I (by omega)]
      intro h6 e6
      obtain ⟨v6, n6, q6⟩ := st_cp e6
      clear e6
      refine ih h6 ⟨fun j hj => ?_, b2.tr q6⟩
      by_cases e : j = i
      · rw [e, v6]
      · rw [n6 _ _ (fun q => e q.2)]; exact b1 j (by omega)
  · rintro i h2 hi ⟨a1, a2⟩ ih
    refine r_X10_city_66 ⟨fun c => by omega, fun _ => ⟨by omega, ?_⟩⟩
    rw [w32t hi]
    simp only [Int.toNat_natCast]
    intro g1 y1
    rw [a2.I (by omega)] at y1
    obtain ⟨v1, n1, q1⟩ := st_cp y1
    clear y1
    intro g2 y2
    rw [q1.I (by omega), a2.I (by omega)] at y2
    obtain ⟨v2, n2, q2⟩ := st_cp y2
    clear y2
    intro g3 y3
    rw [q2.I (by omega), q1.I (by omega), a2.I (by omega)] at y3
    obtain ⟨v3, n3, q3⟩ := st_cp y3
    clear y3
    intro g4 y4
    rw [q3.I (by omega), q2.I (by omega), q1.I (by omega), a2.I (by omega)] at y4
    obtain ⟨v4, n4, q4⟩ := st_cp y4
    clear y4
    intro g5 y5
    rw [q4.I (by omega), q3.I (by omega), q2.I (by omega), q1.I (by omega), a2.I (by omega)] at y5
    obtain ⟨v5, n5, q5⟩ := st_cp y5
    clear y5
    intro g6 y6
    obtain ⟨v6, n6, q6⟩ := st_cp y6
    clear y6
    refine ih g6 ⟨fun p hp => ?_, a2.tr ((q1.wk (fun c q => by omega)).tr ((q2.wk (fun c q => by omega)).tr ((q3.wk (fun c q => by omega)).tr ((q4.wk (fun c q => by omega)).tr ((q5.wk (fun c q => by omega)).tr (q6.wk (fun c q => by omega)))))))⟩
    by_cases e : p = i
    · rw [e]
      refine ⟨?_, ?_, ?_, ?_, ?_, v6⟩
      · rw [q6.I (by omega), q5.I (by omega), q4.I (by omega), q3.I (by omega), q2.I (by omega)]; exact v1
      · rw [q6.I (by omega), q5.I (by omega), q4.I (by omega), q3.I (by omega)]; exact v2
      · rw [q6.I (by omega), q5.I (by omega), q4.I (by omega)]; exact v3
      · rw [q6.I (by omega), q5.I (by omega)]; exact v4
      · rw [q6.I (by omega)]; exact v5
    · have K : ∀ c, hI g6 c p = hI h2 c p := fun c => by
        rw [n6 _ _ (fun q => e q.2), n5 _ _ (fun q => e q.2), n4 _ _ (fun q => e q.2), n3 _ _ (fun q => e q.2), n2 _ _ (fun q => e q.2), n1 _ _ (fun q => e q.2)]
      rw [K, K, K, K, K, K]; exact a1 p (by omega)
theorem p_city (w : zGo h) : zPair E m_X9_city m_X10_city [] h := by
  obtain ⟨t, S, hS, wX, wM⟩ := w
  obtain ⟨⟨hn, hb⟩, hC, hN, hI', hY, hW⟩ := hS
  have hS : okS S := ⟨⟨hn, hb⟩, hC, hN, hI', hY, hW⟩
  obtain ⟨x1, x2, x3, x4, x5, x6, x7, x8, x9⟩ := wX
  have wX : XInv h t S := ⟨x1, x2, x3, x4, x5, x6, x7, x8, x9⟩
  obtain ⟨r3, it, t', r4, it', tt⟩ := x1
  have kt := city_lt it
  have kt' := city_lt it'
  have dis : t' + 10 ≤ t ∨ t + 10 ≤ t' := by unfold isCity at it it'; omega
  have K : rK t' (aTn S) (aTb S) := ⟨it', hn, hb⟩
  have hT : ∀ k, k < aTn S → hI h 1 k = sg (aTb S k) := fun k hk => x2.2 k hk
  cases rs : rdL (aTn S) (aTb S) 1601 D0 (tokF (aTn S) (aTb S) 0) with
  | inl e =>
    have okS' : okS (sFt S e.1 e.2) := ⟨⟨Nat.zero_le _, hb⟩, hC, hN, hI', hY, hW⟩
    refine p_of (S := S) (S' := sFt S e.1 e.2) (r := -1) (t := t) okS' wM (fun Q HQ => ?_) (fun h1 Q w1 HQ => ?_)
    · refine v_X9_city ⟨t', r4, it', ?_⟩
      rw [x2.1]
      refine c_read K hT (fun e' he h2 a1 a2 a3 => ?_) (fun D hd => by rw [rs] at hd; cases hd)
      rw [rs] at he
      cases he
      intro h4 y4
      have z4 : zE3 (fun c i => ¬ (c = 0 ∧ i = 1)) h2 h4 := by rw [y4]; exact zE3.I (fun q => q ⟨rfl, rfl⟩)
      obtain ⟨v4, n4, q4⟩ := st_cp y4
      clear y4
      refine ⟨fun c => absurd rfl c, fun _ => ?_⟩
      have A : zE3 (fun c i => ¬ (t' ≤ c ∧ c ≤ t' + 9) ∧ c ≠ 2 ∧ c ≠ 3 ∧ ¬ (c = 0 ∧ i = 1)) h h4 := (a3.wk (fun c i q => ⟨q.1, q.2.1, q.2.2.1⟩)).tr (z4.wk (fun c i q => q.2.2.2))
      have Aw : zEw (fun c i => ¬ (t' ≤ c ∧ c ≤ t' + 9) ∧ c ≠ 2 ∧ c ≠ 3 ∧ ¬ (c = 0 ∧ i = 1)) h h4 := fun c i q => ⟨(A c i q).1, (A c i q).2.2⟩
      obtain ⟨p1, p2, p3, p4, p5, p6, p7, p8, p9⟩ := wX.parts Aw
      refine HQ h4 t ⟨p1 ⟨by omega, by omega⟩, ⟨v4, fun i hi => ?_⟩, ⟨?_, ?_⟩, p4 (fun j i _ _ => by omega), p5 (fun j i _ _ => by omega), p6 (fun j i _ _ => by omega), p7 ⟨by omega, fun j i _ _ => by omega⟩, p8 (fun j i _ _ => by omega), p9 ⟨by omega, fun i => by omega⟩⟩ (fun c hc => ⟨fun i => (A c i (by omega)).1, fun i => (A c i (by omega)).2.1, fun i => (A c i (by omega)).2.2⟩)
      · have hi : i < 0 := hi
        omega
      · rw [q4.I (by omega)]; exact a1
      · rw [q4.I (by omega)]; exact a2
    · refine v_X10_city ?_
      refine c_M_readAll hn w1.1.1 w1.1.2 (fun e' he h2 a1 a2 a3 a4 a5 a6 => ?_) (fun D hd => by rw [rs] at hd; cases hd)
      rw [rs] at he
      cases he
      refine ⟨fun c => by rw [a1] at c; omega, fun _ => ?_⟩
      obtain ⟨p1, p2, p3, p4, p5, p6, p7⟩ := w1.parts a5
      unfold aWW rM at p3 p4 p5 p6 p7
      refine HQ h2 ⟨⟨a4, fun i hi => ?_⟩, ⟨a1, a2⟩, p3 ⟨fun i _ _ => by omega, fun j i _ _ => by omega⟩, p4 ⟨by omega, by omega, fun j i _ _ => by omega⟩, p5 (fun j i _ _ => by omega), p6 ⟨by omega, by omega, fun j i _ _ => by omega⟩, p7 ⟨by omega, fun i => by omega⟩⟩ a6
      have hi : i < 0 := hi
      omega
  | inr D =>
    have okD' : okD D → okS (sC S 0 (-1) (dC D) (nNew (dC D) (ckn (dC D)))) := fun okd => ⟨⟨Nat.zero_le _, hb⟩, okd.1, okN_new okd.1, (fun x N _ q => by cases q), ⟨Nat.zero_le _, hY.2.1, (fun i hi => by have hi : i < 0 := hi; omega)⟩, Nat.zero_le _⟩
    have okd : okD D := by
      have key : ∀ f D1 T1, okD D1 → rdL (aTn S) (aTb S) f D1 T1 = .inr D → okD D := by
        intro f
        induction f with
        | zero => intro D1 T1 o q; cases q; exact o
        | succ f ih =>
          intro D1 T1 o q
          rw [rdL_s] at q
          by_cases c : tcd T1 = 16
          · rw [if_pos c] at q; cases q; exact o
          · rw [if_neg c] at q
            cases s1 : lnS (aTn S) (aTb S) D1 T1 with
            | inl e => rw [s1] at q; cases q
            | inr T2 => rw [s1] at q; exact ih _ _ (okD_ln o s1) q
      exact key _ _ _ okD_0 rs
    refine p_of (S := S) (S' := sC S 0 (-1) (dC D) (nNew (dC D) (ckn (dC D)))) (r := (cn (dC D) : Int)) (t := t) (okD' okd) wM (fun Q HQ => ?_) (fun h1 Q w1 HQ => ?_)
    · refine v_X9_city ⟨t', r4, it', ?_⟩
      rw [x2.1]
      refine c_read K hT (fun e' he => by rw [rs] at he; cases he) (fun D' hd okd' h2 a1 a2 a2' a3 => ?_)
      rw [rs] at hd
      cases hd
      intro h4 y4
      have z4 : zE3 (fun c i => ¬ (c = 0 ∧ i = 1)) h2 h4 := by rw [y4]; exact zE3.I (fun q => q ⟨rfl, rfl⟩)
      obtain ⟨v4, n4, q4⟩ := st_cp y4
      clear y4
      have A4 : zE3 (fun c i => ¬ (t' ≤ c ∧ c ≤ t' + 9) ∧ c ≠ 2 ∧ c ≠ 3 ∧ ¬ (c = 0 ∧ i = 1)) h h4 := (a3.wk (fun c i q => ⟨q.1, q.2.1, q.2.2.1⟩)).tr (z4.wk (fun c i q => q.2.2.2))
      refine ⟨fun _ => ⟨t, by rw [(A4 0 3 (by omega)).2.2]; exact r3, it, t', by rw [(A4 0 4 (by omega)).2.2]; exact r4, it', ?_⟩, fun c => by omega⟩
      intro h7 y7 h8 y8
      have z7 : zE3 (fun c i => ¬ (c = 0 ∧ i = 3)) h4 h7 := by rw [y7]; exact fun c i q => ⟨rfl, rfl, by rw [hR_stR, if_neg q]⟩
      have z8 : zE3 (fun c i => ¬ (c = 0 ∧ i = 4)) h7 h8 := by rw [y8]; exact fun c i q => ⟨rfl, rfl, by rw [hR_stR, if_neg q]⟩
      have R8 : hR h8 0 3 = some t' := by rw [(z8 0 3 (by omega)).2.2, y7, hR_stR, if_pos ⟨rfl, rfl⟩]
      have R8' : hR h8 0 4 = some t := by rw [y8, hR_stR, if_pos ⟨rfl, rfl⟩]
      have i8 : ∀ c k, hI h8 c k = hI h4 c k := by rw [y8, y7]; exact fun _ _ => rfl
      clear y7 y8
      have C8 : XCity h8 t' (dC D) := a1.w (fun j hj i => by rw [i8, (z4 _ _ (by omega)).1])
      refine ⟨t', R8, it', ?_⟩
      refine c_reckon it' okd.1 C8 (fun h10 f10 e10 => ?_)
      refine v_X7_forget ?_
      intro h11 y11
      have z11 : zE3 (fun c i => ¬ (c = 30 ∧ i = 4)) h10 h11 := by rw [y11]; exact zE3.I (fun q => q ⟨rfl, rfl⟩)
      have v11 := (st_cp y11).1
      clear y11
      refine ⟨t', by rw [(z11 0 3 (by omega)).2.2, e10.R (by omega)]; exact R8, it', ?_⟩
      have C11 : XCity h11 t' (dC D) := C8.w (fun j hj i => by rw [(z11 _ _ (by omega)).1, e10.I (by omega)])
      refine c_begin it' okd.1 C11 (fun h13 w13 e13 => ?_)
      intro h14 y14
      have z14 : zE3 (fun c i => ¬ (c = 0 ∧ i = 9)) h13 h14 := by rw [y14]; exact zE3.I (fun q => q ⟨rfl, rfl⟩)
      have v14 := (st_cp y14).1
      clear y14
      refine v_X2_forget ?_
      intro h15 y15
      have z15 : zE3 (fun c i => ¬ (c = 83 ∧ i = 1)) h14 h15 := by rw [y15]; exact zE3.I (fun q => q ⟨rfl, rfl⟩)
      have v15 := (st_cp y15).1
      clear y15
      -- all of it at once
      have B : zE3 (fun c i => ¬ (c = 30 ∧ i = 4) ∧ (c < 25 ∨ 29 < c) ∧ (c < 34 ∨ 44 < c) ∧ ¬ (c = 0 ∧ i = 9) ∧ ¬ (c = 83 ∧ i = 1)) h8 h15 := (zE3.of e10 (fun c i q => q.2.1)).tr ((z11.wk (fun c i q => q.1)).tr ((zE3.of e13 (fun c i q => q.2.2.1)).tr ((z14.wk (fun c i q => q.2.2.2.1)).tr (z15.wk (fun c i q => q.2.2.2.2)))))
      have A8 : zE3 (fun c i => ¬ (t' ≤ c ∧ c ≤ t' + 9) ∧ c ≠ 2 ∧ c ≠ 3 ∧ c ≠ 0) h h8 := (A4.wk (fun c i q => ⟨q.1, q.2.1, q.2.2.1, by omega⟩)).tr ((z7.wk (fun c i q => by omega)).tr (z8.wk (fun c i q => by omega)))
      have A15 : zE3 (fun c i => (¬ (t' ≤ c ∧ c ≤ t' + 9) ∧ c ≠ 2 ∧ c ≠ 3 ∧ c ≠ 0) ∧ (¬ (c = 30 ∧ i = 4) ∧ (c < 25 ∨ 29 < c) ∧ (c < 34 ∨ 44 < c) ∧ ¬ (c = 0 ∧ i = 9) ∧ ¬ (c = 83 ∧ i = 1))) h h15 := (A8.wk (fun c i q => q.1)).tr (B.wk (fun c i q => q.2))
      have C15 : XCity h15 t' (dC D) := C8.w (fun j hj i => by rw [(B _ _ (by omega)).1])
      refine ⟨t', by rw [(B 0 3 (by omega)).2.2]; exact R8, it', ?_⟩
      rw [C15.1]
      refine HQ h15 t' ⟨⟨by rw [(B 0 3 (by omega)).2.2]; exact R8, it', t, by rw [(B 0 4 (by omega)).2.2]; exact R8', it, fun e => tt e.symm⟩, ⟨?_, fun i hi => ?_⟩, ⟨?_, ?_⟩, C15, ?_, ?_, ⟨?_, fun x hx => ?_, fun x N _ q => by cases q⟩, ⟨?_, v15, fun i hi => ?_⟩, ⟨?_, fun i hi => ?_⟩⟩ (fun c hc => ⟨fun i => (A15 c i (by omega)).1, fun i => (A15 c i (by omega)).2.1, fun i => (A15 c i (by omega)).2.2⟩)
      · rw [(B 0 1 (by omega)).1, i8]; exact v4
      · have hi : i < 0 := hi
        omega
      · rw [(B 2 3 (by omega)).1, i8, (z4 _ _ (by omega)).1]; exact a2
      · rw [(B 2 4 (by omega)).1, i8, (z4 _ _ (by omega)).1]; exact a2'
      · have k : ∀ c i, 25 ≤ c → c ≤ 27 → hI h15 c i = hI h10 c i := fun c i p1 p2 => by rw [(z15 _ _ (by omega)).1, (z14 _ _ (by omega)).1, e13.I (by omega), (z11 _ _ (by omega)).1]
        show XFalls h15 (dC D)
        unfold XFalls at *
        intro a ha ka
        have q := f10 a ha ka
        refine ⟨fun b hb' => ?_, by rw [k 27 _ (by omega) (by omega)]; exact q.2⟩
        rw [k 25 _ (by omega) (by omega), k 26 _ (by omega) (by omega)]; exact q.1 b hb'
      · exact w13.w (fun j hj i => by rw [(z15 _ _ (by omega)).1, (z14 _ _ (by omega)).1])
      · rw [(z15 0 9 (by omega)).1, v14]
        have e0 : bset (fun b => decide (b < 3) && (none : Option zEn).isSome) = 0 := nat_bits (bset_lt _) (by omega) (fun i hi => by rw [bset_t, Nat.zero_testBit]; simp)
        show (0 : Int) = ((bset (fun b => decide (b < 3) && (none : Option zEn).isSome) : Nat) : Int)
        rw [e0]; rfl
      · rw [(A15 46 x (by omega)).2.2]; exact x7.2.1 x hx
      · rw [(A15 83 0 (by omega)).1]; exact x8.1
      · have hi : i < 0 := hi
        omega
      · rw [(z15 30 4 (by omega)).1, (z14 30 4 (by omega)).1, e13.I (by omega)]; exact v11
      · have hi : i < 0 := hi
        omega
    · refine v_X10_city ?_
      refine c_M_readAll hn w1.1.1 w1.1.2 (fun e' he => by rw [rs] at he; cases he) (fun D' hd okd' h2 a1 a2 a3 a4 a5 a6 => ?_)
      rw [rs] at hd
      cases hd
      refine ⟨fun _ => ?_, fun c => by rw [a2] at c; omega⟩
      obtain ⟨m1, m2, m3, m4, m5, m6, m7⟩ := a1
      rw [m1]
      intro g1 y1
      have w1' : zEw (fun c i => ¬ (c = 89 ∧ 29 ≤ i ∧ i ≤ 33)) h2 g1 := by rw [y1]; exact zEw_I (by omega)
      obtain ⟨v1, n1, q1⟩ := st_cp y1
      have l1 : ∀ c i, hL g1 c i = hL h2 c i := by rw [y1]; exact fun _ _ => rfl
      clear y1
      rw [n1 89 25 (by omega), m2]
      intro g2 y2
      have w2' : zEw (fun c i => ¬ (c = 89 ∧ 29 ≤ i ∧ i ≤ 33)) g1 g2 := by rw [y2]; exact zEw_I (by omega)
      obtain ⟨v2, n2, q2⟩ := st_cp y2
      clear y2
      rw [n2 89 26 (by omega), n1 89 26 (by omega), m3]
      intro g3 y3
      have w3' : zEw (fun c i => ¬ (c = 89 ∧ 29 ≤ i ∧ i ≤ 33)) g2 g3 := by rw [y3]; exact zEw_I (by omega)
      obtain ⟨v3, n3, q3⟩ := st_cp y3
      clear y3
      rw [n3 89 27 (by omega), n2 89 27 (by omega), n1 89 27 (by omega), m4]
      intro g4 y4
      have w4' : zEw (fun c i => ¬ (c = 89 ∧ 29 ≤ i ∧ i ≤ 33)) g3 g4 := by rw [y4]; exact zEw_I (by omega)
      obtain ⟨v4, n4, q4⟩ := st_cp y4
      clear y4
      have lk : (if 0 ≤ hI g4 89 28 then hI g4 89 28 else 0) = clu (dC D) := by
        rw [n4 89 28 (by omega), n3 89 28 (by omega), n2 89 28 (by omega), n1 89 28 (by omega), m5]
        cases l : dL D with
        | true =>
          rw [if_pos rfl]
          have := okd.1.2.2.2.2.1
          rw [if_pos (by omega)]
        | false =>
          rw [if_neg (by simp)]
          exact (okd.2.2 l).symm
      intro g5 y5
      rw [lk] at y5
      have w5' : zEw (fun c i => ¬ (c = 89 ∧ 29 ≤ i ∧ i ≤ 33)) g4 g5 := by rw [y5]; exact zEw_I (by omega)
      obtain ⟨v5, n5, q5⟩ := st_cp y5
      clear y5
      have W5 := w1'.tr (w2'.tr (w3'.tr (w4'.tr w5')))
      have Z5 : zEq (fun c => c ≠ 89) h2 g5 := q1.tr (q2.tr (q3.tr (q4.tr q5)))
      have wD5 : MDr g5 D := by
        have k : ∀ i, 24 ≤ i → i ≤ 28 → hI g5 89 i = hI h2 89 i := fun i p1 p2 => (W5 89 i (by omega)).1
        refine ⟨by rw [k 24 (by omega) (by omega)]; exact m1, by rw [k 25 (by omega) (by omega)]; exact m2, by rw [k 26 (by omega) (by omega)]; exact m3, by rw [k 27 (by omega) (by omega)]; exact m4, by rw [k 28 (by omega) (by omega)]; exact m5, fun i hi => ?_, fun x y hx hy => by rw [Z5.I (by omega)]; exact m7 x y hx hy⟩
        rw [Z5.L (by omega), Z5.I (by omega), Z5.I (by omega), Z5.I (by omega), Z5.I (by omega), Z5.I (by omega)]
        exact m6 i hi
      refine c_M_cityR okd wD5 (by rw [n5 _ _ (by omega), n4 _ _ (by omega), n3 _ _ (by omega), n2 _ _ (by omega)]; exact v1) (by rw [n5 _ _ (by omega), n4 _ _ (by omega), n3 _ _ (by omega)]; exact v2) (by rw [n5 _ _ (by omega), n4 _ _ (by omega)]; exact v3) (by rw [n5 _ _ (by omega)]; exact v4) v5 (fun h6 b1 b2 b3 b4 b5 b6 b7 => ?_)
      have A6 : zEw (fun c i => aWW c i ∧ ¬ (c = 89 ∧ 29 ≤ i ∧ i ≤ 33) ∧ ¬ (c = 89 ∧ (i = 54 ∨ i = 55 ∨ i = 62 ∨ i = 37)) ∧ ¬ (98 ≤ c ∧ c ≤ 104) ∧ ¬ (115 ≤ c ∧ c ≤ 118) ∧ c ≠ 130) h1 h6 := (a5.wk (fun c i q => q.1)).tr ((W5.wk (fun c i q => q.2.1)).tr (b6.wk (fun c i q => q.2.2)))
      have C6 : ∀ i, i ≤ 3 → hI h6 89 i = hI h2 89 i := fun i hi => by rw [(b6 89 i (by omega)).1, (W5 89 i (by omega)).1]
      obtain ⟨_, _, _, _, _, x6', _⟩ := w1
      refine HQ h6 ⟨⟨by rw [C6 1 (by omega)]; exact a4, fun i hi => ?_⟩, ⟨by rw [C6 2 (by omega)]; exact a2, by rw [C6 3 (by omega)]; exact a3⟩, b1, b2, ⟨fun x hx => b5 x hx, fun x N _ q => by cases q⟩, ⟨?_, b3, fun i hi => ?_⟩, ⟨b4, fun i hi => ?_⟩⟩ (a6.tr ((Z5.wk (fun c q => by omega)).tr b7))
      · have hi : i < 0 := hi
        omega
      · rw [(A6 89 63 (by unfold aWW rM; omega)).1]; exact x6'.1
      · have hi : i < 0 := hi
        omega
      · have hi : i < 0 := hi
        omega
end PC
