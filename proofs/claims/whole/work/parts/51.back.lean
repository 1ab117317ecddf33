/-! back -/
section BK
variable {E : zE} {d : Nat} {h : zS}
theorem c_M_bk3 {x : Nat} {Q : Int → zS → Prop} (hx : x < 3)
    (HQ : ∀ h2, (∀ j, j < 12 → hI h2 119 j = hI h 134 (5 * (12 * x + j)) ∧ hI h2 120 j = hI h 134 (5 * (12 * x + j) + 1) ∧ hI h2 121 j = hI h 134 (5 * (12 * x + j) + 2) ∧ hI h2 122 j = hI h 134 (5 * (12 * x + j) + 3) ∧ hI h2 123 j = hI h 134 (5 * (12 * x + j) + 4)) → zEq (fun c => ¬ (119 ≤ c ∧ c ≤ 123)) h h2 → Q (hI h2 89 54) h2) : zWi E (d + 1) m_X10_back 142 [vo 89, vi x, vi 0, vn] h Q := by
  have a3 : w32 (12 * (x : Int)) = ((12 * x : Nat) : Int) := by rw [w32_id (by omega) (by omega)]; omega
  refine z_up (n := 12) (fun i h2 => zWi E (d + 1) m_X10_back 142 [vo 89, vi x, vi i, vn] h2 Q) (fun i h2 => (∀ j, j < i → hI h2 119 j = hI h 134 (5 * (12 * x + j)) ∧ hI h2 120 j = hI h 134 (5 * (12 * x + j) + 1) ∧ hI h2 121 j = hI h 134 (5 * (12 * x + j) + 2) ∧ hI h2 122 j = hI h 134 (5 * (12 * x + j) + 3) ∧ hI h2 123 j = hI h 134 (5 * (12 * x + j) + 4)) ∧ zEq (fun c => ¬ (119 ≤ c ∧ c ≤ 123)) h h2) ?_ ?_ 0 h (by omega) ⟨fun j hj => by omega, zEq.rf⟩
  · rintro h11 ⟨u1, u3⟩
    exact r_X10_back_142 ⟨fun _ => HQ h11 u1 u3, fun c => by omega⟩
  · rintro i h11 hi ⟨u1, u3⟩ ih
    refine r_X10_back_142 ⟨fun c => by omega, fun _ => ?_⟩
    rintro y hy
    have b1 : w32 (((12 * x : Nat) : Int) + (i : Int)) = ((12 * x + i : Nat) : Int) := by rw [w32_id (by omega) (by omega)]; omega
    have b2 : w32 (5 * ((12 * x + i : Nat) : Int)) = ((5 * (12 * x + i) : Nat) : Int) := by rw [w32_id (by omega) (by omega)]; omega
    rw [a3, b1, b2] at hy
    obtain ⟨m, hm⟩ : ∃ m, m = 5 * (12 * x + i) := ⟨_, rfl⟩
    have hm1 : m + 4 < 180 := by omega
    rw [← hm] at hy
    subst hy
    have c1 : w32 ((m : Int) + 1) = ((m + 1 : Nat) : Int) := by rw [w32_id (by omega) (by omega)]; omega
    have c2 : w32 ((m : Int) + 2) = ((m + 2 : Nat) : Int) := by rw [w32_id (by omega) (by omega)]; omega
    have c3 : w32 ((m : Int) + 3) = ((m + 3 : Nat) : Int) := by rw [w32_id (by omega) (by omega)]; omega
    have c4 : w32 ((m : Int) + 4) = ((m + 4 : Nat) : Int) := by rw [w32_id (by omega) (by omega)]; omega
    rw [c1, c2, c3, c4, w32s (by omega)]
    simp only [Int.toNat_natCast]
    refine ⟨by omega, by omega, ?_⟩
    intro g1 y1
    obtain ⟨v1, n1, q1⟩ := st_cp y1
    clear y1
    refine ⟨by omega, ?_⟩
    intro g2 y2
    obtain ⟨v2, n2, q2⟩ := st_cp y2
    clear y2
    refine ⟨by omega, ?_⟩
    intro g3 y3
    obtain ⟨v3, n3, q3⟩ := st_cp y3
    clear y3
    refine ⟨by omega, ?_⟩
    intro g4 y4
    obtain ⟨v4, n4, q4⟩ := st_cp y4
    clear y4
    refine ⟨by omega, ?_⟩
    intro g5 y5
    obtain ⟨v5, n5, q5⟩ := st_cp y5
    clear y5
    have w5 : hI g5 123 i = hI h 134 (m + 4) := by rw [v5, q4.I (by simp), q3.I (by simp), q2.I (by simp), q1.I (by simp), u3.I (by simp)]
    have w4 : hI g5 122 i = hI h 134 (m + 3) := by rw [q5.I (by simp), v4, q3.I (by simp), q2.I (by simp), q1.I (by simp), u3.I (by simp)]
    have w3 : hI g5 121 i = hI h 134 (m + 2) := by rw [q5.I (by simp), q4.I (by simp), v3, q2.I (by simp), q1.I (by simp), u3.I (by simp)]
    have w2 : hI g5 120 i = hI h 134 (m + 1) := by rw [q5.I (by simp), q4.I (by simp), q3.I (by simp), v2, q1.I (by simp), u3.I (by simp)]
    have w1 : hI g5 119 i = hI h 134 m := by rw [q5.I (by simp), q4.I (by simp), q3.I (by simp), q2.I (by simp), v1, u3.I (by simp)]
    have K : ∀ c l, l ≠ i → hI g5 c l = hI h11 c l := fun c l hl => by
      rw [n5 _ _ (fun q => hl q.2), n4 _ _ (fun q => hl q.2), n3 _ _ (fun q => hl q.2), n2 _ _ (fun q => hl q.2), n1 _ _ (fun q => hl q.2)]
    refine ih g5 ⟨fun j hj => ?_, u3.tr ((q1.wk (fun c q => by omega)).tr ((q2.wk (fun c q => by omega)).tr ((q3.wk (fun c q => by omega)).tr ((q4.wk (fun c q => by omega)).tr (q5.wk (fun c q => by omega))))))⟩
    by_cases e : j = i
    · rw [e, ← hm]; exact ⟨w1, w2, w3, w4, w5⟩
    · have q := u1 j (by omega)
      rw [K _ _ e, K _ _ e, K _ _ e, K _ _ e, K _ _ e]
      exact q
theorem c_M_bk2 {x : Nat} {Q : Int → zS → Prop} (hx : x < 3)
    (HQ : ∀ h2, (∀ j, j < 144 → hI h2 118 j = hI h 133 (144 * x + j)) → zEq (fun c => c ≠ 118) h h2 → zWi E (d + 1) m_X10_back 142 [vo 89, vi x, vi 0, vn] h2 Q) : zWi E (d + 1) m_X10_back 109 [vo 89, vi x, vi 0, vn] h Q := by
  have a4 : w32 (144 * (x : Int)) = ((144 * x : Nat) : Int) := by rw [w32_id (by omega) (by omega)]; omega
  refine z_up (n := 144) (fun i h2 => zWi E (d + 1) m_X10_back 109 [vo 89, vi x, vi i, vn] h2 Q) (fun i h2 => (∀ j, j < i → hI h2 118 j = hI h 133 (144 * x + j)) ∧ zEq (fun c => c ≠ 118) h h2) ?_ ?_ 0 h (by omega) ⟨fun j hj => by omega, zEq.rf⟩
  · rintro h10 ⟨s1, s3⟩
    exact r_X10_back_109 ⟨fun _ => HQ h10 s1 s3, fun c => by omega⟩
  · rintro i h10 hi ⟨s1, s3⟩ ih
    refine r_X10_back_109 ⟨fun c => by omega, fun _ => ?_⟩
    have b1 : w32 (((144 * x : Nat) : Int) + (i : Int)) = ((144 * x + i : Nat) : Int) := by rw [w32_id (by omega) (by omega)]; omega
    rw [a4, b1, w32s (by omega)]
    simp only [Int.toNat_natCast]
    refine ⟨by omega, by omega, ?_⟩
    intro g1 y1
    obtain ⟨v1, n1, q1⟩ := st_cp y1
    clear y1
    refine ih _ ⟨fun j hj => ?_, s3.tr q1⟩
    by_cases e : j = i
    · rw [e, v1, s3.I (by simp)]
    · rw [n1 _ _ (by omega)]; exact s1 j (by omega)
theorem c_M_bk1 {x : Nat} {Q : Int → zS → Prop} (hx : x < 3)
    (HQ : ∀ h2, (∀ j, j < 12 → hI h2 115 j = hI h 132 (3 * (12 * x + j)) ∧ hI h2 116 j = hI h 132 (3 * (12 * x + j) + 1) ∧ hI h2 117 j = hI h 132 (3 * (12 * x + j) + 2)) → zEq (fun c => ¬ (115 ≤ c ∧ c ≤ 117)) h h2 → zWi E (d + 1) m_X10_back 109 [vo 89, vi x, vi 0, vn] h2 Q) : zWi E (d + 1) m_X10_back 46 [vo 89, vi x, vi 0, vn] h Q := by
  have a3 : w32 (12 * (x : Int)) = ((12 * x : Nat) : Int) := by rw [w32_id (by omega) (by omega)]; omega
  refine z_up (n := 12) (fun i h2 => zWi E (d + 1) m_X10_back 46 [vo 89, vi x, vi i, vn] h2 Q) (fun i h2 => (∀ j, j < i → hI h2 115 j = hI h 132 (3 * (12 * x + j)) ∧ hI h2 116 j = hI h 132 (3 * (12 * x + j) + 1) ∧ hI h2 117 j = hI h 132 (3 * (12 * x + j) + 2)) ∧ zEq (fun c => ¬ (115 ≤ c ∧ c ≤ 117)) h h2) ?_ ?_ 0 h (by omega) ⟨fun j hj => by omega, zEq.rf⟩
  · rintro h11 ⟨u1, u3⟩
    exact r_X10_back_46 ⟨fun _ => HQ h11 u1 u3, fun c => by omega⟩
  · rintro i h11 hi ⟨u1, u3⟩ ih
    refine r_X10_back_46 ⟨fun c => by omega, fun _ => ?_⟩
    rintro y hy
    have b1 : w32 (((12 * x : Nat) : Int) + (i : Int)) = ((12 * x + i : Nat) : Int) := by rw [w32_id (by omega) (by omega)]; omega
    have b2 : w32 (3 * ((12 * x + i : Nat) : Int)) = ((3 * (12 * x + i) : Nat) : Int) := by rw [w32_id (by omega) (by omega)]; omega
    rw [a3, b1, b2] at hy
    obtain ⟨m, hm⟩ : ∃ m, m = 3 * (12 * x + i) := ⟨_, rfl⟩
    have hm1 : m + 2 < 108 := by omega
    rw [← hm] at hy
    subst hy
    have c1 : w32 ((m : Int) + 1) = ((m + 1 : Nat) : Int) := by rw [w32_id (by omega) (by omega)]; omega
    have c2 : w32 ((m : Int) + 2) = ((m + 2 : Nat) : Int) := by rw [w32_id (by omega) (by omega)]; omega
    rw [c1, c2, w32s (by omega)]
    simp only [Int.toNat_natCast]
    refine ⟨by omega, by omega, ?_⟩
    intro g1 y1
    obtain ⟨v1, n1, q1⟩ := st_cp y1
    clear y1
    refine ⟨by omega, ?_⟩
    intro g2 y2
    obtain ⟨v2, n2, q2⟩ := st_cp y2
    clear y2
    refine ⟨by omega, ?_⟩
    intro g3 y3
    obtain ⟨v3, n3, q3⟩ := st_cp y3
    clear y3
    have w3 : hI g3 117 i = hI h 132 (m + 2) := by rw [v3, q2.I (by simp), q1.I (by simp), u3.I (by simp)]
    have w2 : hI g3 116 i = hI h 132 (m + 1) := by rw [q3.I (by simp), v2, q1.I (by simp), u3.I (by simp)]
    have w1 : hI g3 115 i = hI h 132 m := by rw [q3.I (by simp), q2.I (by simp), v1, u3.I (by simp)]
    have K : ∀ c l, l ≠ i → hI g3 c l = hI h11 c l := fun c l hl => by
      rw [n3 _ _ (fun q => hl q.2), n2 _ _ (fun q => hl q.2), n1 _ _ (fun q => hl q.2)]
    refine ih g3 ⟨fun j hj => ?_, u3.tr ((q1.wk (fun c q => by omega)).tr ((q2.wk (fun c q => by omega)).tr (q3.wk (fun c q => by omega))))⟩
    by_cases e : j = i
    · rw [e, ← hm]; exact ⟨w1, w2, w3⟩
    · have q := u1 j (by omega)
      rw [K _ _ e, K _ _ e, K _ _ e]
      exact q
theorem c_M_back {x : Nat} {C : zCt} {N : zEn} {Q : Int → zS → Prop} (hx : x < 3) (hC : okC C) (hN : okN C N) (w1 : hI h 130 x = 1) (wB : MBox h x C N)
    (HQ : ∀ h1, MEarn h1 C N → zEw (fun c i => ¬ (c = 89 ∧ (i = 54 ∨ i = 55)) ∧ ¬ (115 ≤ c ∧ c ≤ 123)) h h1 → zEq (fun c => c < 89) h h1 → Q (nd N) h1) : zCi E (d + 1) m_X10_back [vo 89, vi x] h Q := by
  have hn12 := hC.1
  have ht12 := hN.2.1
  obtain ⟨m1, m2, m3, m4, m5⟩ := wB
  refine v_X10_back ?_
  refine c_M_isBox ?_
  rw [if_pos (by omega)]
  refine ⟨fun e => by omega, fun _ => ⟨by omega, ?_⟩⟩
  have a1 : w32 (2 * (x : Int)) = ((2 * x : Nat) : Int) := by rw [w32_id (by omega) (by omega)]; omega
  have a2 : w32 (((2 * x : Nat) : Int) + 1) = ((2 * x + 1 : Nat) : Int) := by rw [w32_id (by omega) (by omega)]; omega
  rw [a1, a2]
  simp only [Int.toNat_natCast]
  rw [w1]
  refine ⟨fun _ => ⟨by omega, ?_⟩, fun e => by omega⟩
  intro h5 x5
  obtain ⟨v5, n5, q5⟩ := st_cp x5
  have r5 : zEw (fun c i => ¬ (c = 89 ∧ (i = 54 ∨ i = 55)) ∧ ¬ (115 ≤ c ∧ c ≤ 123)) h h5 := by rw [x5]; exact zEw_I (by omega)
  clear x5
  refine ⟨by omega, ?_⟩
  intro h7 x7
  obtain ⟨v7, n7, q7⟩ := st_cp x7
  have r7 : zEw (fun c i => ¬ (c = 89 ∧ (i = 54 ∨ i = 55)) ∧ ¬ (115 ≤ c ∧ c ≤ 123)) h5 h7 := by rw [x7]; exact zEw_I (by omega)
  clear x7
  have f1 : hI h7 89 54 = nd N := by rw [n7 _ _ (by omega), v5]; exact m1
  have f2 : hI h7 89 55 = nt N := by rw [v7, q5.I (by simp)]; exact m2
  have e7 : zEq (fun c => c ≠ 89) h h7 := q5.tr q7
  clear v5 n5 q5 v7 n7 q7
  refine c_M_bk1 hx (fun h9 p1 p3 => ?_)
  refine c_M_bk2 hx (fun h10 s1 s3 => ?_)
  refine c_M_bk3 hx (fun h11 u1 u3 => ?_)
  have k89 : ∀ j, hI h11 89 j = hI h7 89 j := fun j => by rw [u3.I (by simp), s3.I (by simp), p3.I (by simp)]
  rw [k89, f1]
  refine HQ h11 ⟨?_, ?_, fun i hi => ?_, fun t ht => ?_, fun a b ha hb => ?_⟩ ?_ ?_
  · rw [k89]; exact f1
  · rw [k89]; exact f2
  · have q := p1 i (by omega)
    rw [e7.I (by simp), e7.I (by simp), e7.I (by simp)] at q
    have q2 := m3 i hi
    rw [u3.I (by simp), s3.I (by simp), u3.I (by simp), s3.I (by simp), u3.I (by simp), s3.I (by simp)]
    exact ⟨q.1.trans q2.1, q.2.1.trans q2.2.1, q.2.2.trans q2.2.2⟩
  · have q := u1 t (by omega)
    have U : ∀ j, hI h10 134 j = hI h 134 j := fun j => by rw [s3.I (by simp), p3.I (by simp), e7.I (by simp)]
    rw [U, U, U, U, U] at q
    have q2 := m4 t ht
    exact ⟨q.1.trans q2.1, q.2.1.trans q2.2.1, q.2.2.1.trans q2.2.2.1, q.2.2.2.1.trans q2.2.2.2.1, q.2.2.2.2.trans q2.2.2.2.2⟩
  · rw [u3.I (by simp), s1 _ (by omega), p3.I (by simp), e7.I (by simp)]; exact m5 a b ha hb
  · exact r5.tr (r7.tr ((zEw.of p3 (fun c i q => by omega)).tr ((zEw.of s3 (fun c i q => by omega)).tr (zEw.of u3 (fun c i q => by omega)))))
  · exact (e7.wk (fun c q => by omega)).tr ((p3.wk (fun c q => by omega)).tr ((s3.wk (fun c q => by omega)).tr (u3.wk (fun c q => by omega))))
theorem p_back {x : Int} (w : zGo h) : zPair E m_X9_back m_X10_back [vi x] h := by
  obtain ⟨t, S, hS, wX, wM⟩ := w
  have hC := hS.2.1
  have hI3 := hS.2.2.2.1
  have wI := wX.2.2.2.2.2.2.1
  have bt : ∀ a : Nat, a < 3 → (bset (fun b => decide (b < 3) && (aIm S b).isSome)).testBit a = (aIm S a).isSome := by
    intro a ha
    rw [bset_t]
    have : a < 12 := by omega
    simp [ha, this]
  by_cases c : 0 ≤ x ∧ x < 3
  · obtain ⟨a, rfl⟩ : ∃ a : Nat, x = a := ⟨x.toNat, by omega⟩
    have ha : a < 3 := by omega
    cases hi : aIm S a with
    | none =>
      refine p_of (S := S) (S' := S) (r := -1) (t := t) hS wM (fun Q HQ => ?_) (fun h1 Q w1 HQ => ?_)
      · have HQ := HQ h t wX zEq.rf
        refine v_X9_back ⟨fun _ => HQ, fun _ => ⟨fun _ => HQ, fun _ => ?_⟩⟩
        rw [wI.1]
        refine c_isIn (bset_lt _) (by omega) ?_
        rw [bt a ha, hi]
        exact ⟨fun e => absurd rfl e, fun _ => HQ⟩
      · have HQ := HQ h1 w1 zEq.rf
        refine v_X10_back ?_
        refine c_M_isBox ?_
        rw [if_pos c]
        refine ⟨fun e => by omega, fun _ => ⟨by omega, ?_⟩⟩
        simp only [Int.toNat_natCast]
        have q := w1.2.2.2.2.1.1 a ha
        rw [hi] at q
        exact ⟨fun e => absurd q e, fun _ => HQ⟩
    | some N =>
      have hN := hI3 a N ha hi
      refine p_of (S := S) (S' := sN S N) (r := nd N) (t := t) (hS.sN hN) wM (fun Q HQ => ?_) (fun h1 Q w1 HQ => ?_)
      · refine v_X9_back ⟨fun _ => by omega, fun _ => ⟨fun _ => by omega, fun _ => ?_⟩⟩
        rw [wI.1]
        refine c_isIn (bset_lt _) (by omega) ?_
        rw [bt a ha, hi]
        refine ⟨fun _ => ⟨by omega, 47 + 12 * a, ?_, box_e ha, ?_⟩, fun e => by simp at e⟩
        · rw [Int.toNat_natCast]; exact wI.2.1 a ha
        · refine c_copy (by unfold isEarnest; omega) (box_e ha) (by omega) hC.1 hN.2.1 (wI.2.2 a N ha hi) ?_
          intro h3 g1 g2
          have y1 : hI h3 34 0 = nd N := g1.1
          rw [y1]
          exact HQ h3 t (wX.sN (zEw.of g2 (fun c i q => by omega)) g1) (g2.wk (fun c q => by omega))
      · have q := w1.2.2.2.2.1.1 a ha
        rw [hi] at q
        refine c_M_back ha hC hN q (w1.2.2.2.2.1.2 a N ha hi) ?_
        intro h2 g1 g2 g3
        exact HQ h2 (w1.sN (g2.wk (fun c i q => q.2)) g1) g3
  · refine p_of (S := S) (S' := S) (r := -1) (t := t) hS wM (fun Q HQ => ?_) (fun h1 Q w1 HQ => ?_)
    · have HQ := HQ h t wX zEq.rf
      exact v_X9_back ⟨fun _ => HQ, fun c1 => ⟨fun _ => HQ, fun c2 => absurd ⟨c1, c2⟩ c⟩⟩
    · have HQ := HQ h1 w1 zEq.rf
      refine v_X10_back ?_
      refine c_M_isBox ?_
      rw [if_neg c]
      exact ⟨fun _ => HQ, fun e => absurd rfl e⟩
end BK
