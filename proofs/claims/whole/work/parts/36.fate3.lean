/-! Fate: fleeOn, clear; Arrays.fill; City's small methods -/
section F3
variable {E : zE} {d : Nat} {h : zS}
theorem c_fleeOn {k0 k1 k2 : Nat} {C : zCt} {kf : Nat → Nat} {T Gn : Nat → Int} {x3 : Int} {Q : zS → Prop} (hk0 : isFate k0) (hk1 : isCity k1) (hk2 : zArr g0 k2 0 12) (hC : okC C) (wC : XCity h k1 C) (wF : XFate h k0 (cn C) T Gn) (hx : 0 ≤ x3 ∧ x3 < 100000) (hkf : ∀ i, i < cn C → hI h k2 i = (kf i : Int) ∧ kf i < 4096)
    (HQ : ∀ h1, XFate h1 k0 (cn C) T (fFlee C kf x3 T Gn) → zEq (fun c => c ≠ k0 ∧ c ≠ k0 + 1) h h1 → Q h1) : zCv E (d + 2) m_X4_fleeOn [vo k0, vo k1, vo k2, vi x3] h Q := by
  obtain ⟨f1, f2, f3⟩ := wF
  have hn := wC.1
  have hn12 := hC.1
  refine v_X4_fleeOn hk0 hk1 hk2 ?_
  refine z_upS (σ := Nat) (n := cn C) (fun i a => zWv E (d + 1 + 1) m_X4_fleeOn 6 [vo k0, vo k1, vo k2, vi x3, vi a, vi i] h Q) (fun i a => a = bset (fun p => decide (p < i) && flB C kf x3 T Gn p)) ?_ ?_ 0 0 (by omega) ?_
  · rintro a rfl
    refine r_X4_fleeOn_6 hk0 hk1 hk2 ⟨fun _ => ?_, fun c => ?_⟩
    · have e : bset (fun p => decide (p < cn C) && flB C kf x3 T Gn p) = bset (flB C kf x3 T Gn) := bset_ext (fun i _ => by
        by_cases hi : i < cn C
        · simp [hi]
        · simp [hi, flB, thB])
      rw [e]
      refine c_remove (n := cn C) (a := bset (thB (cn C) T Gn)) (s := bset (flB C kf x3 T Gn)) hk0 hk1 hn hn12 f1 (bset_lt _) (bset_lt _) ?_
      intro h1 g1 g2 g3 g4
      refine HQ h1 ⟨?_, ?_, fun i hi => ?_⟩ g4
      · rw [g1]; congr 1
        apply nat_bits (zb_nblt (bset_lt _)) (bset_lt _)
        intro i hi
        rw [nb_t, bset_t, bset_t, bset_t]
        simp only [hi, decide_true, Bool.true_and, thB, fFlee]
        by_cases c : flB C kf x3 T Gn i = true
        · have : ¬ x3 < 0 := by omega
          simp [c, this]
        · simp [c]
      · rw [g2, f2]
      · rw [g3 i hi, f3 i hi, bset_t]
        have hi12 : i < 12 := by omega
        simp only [hi12, decide_true, Bool.true_and, fFlee]
        by_cases c : flB C kf x3 T Gn i = true
        · have : T i < 0 := by
            simp only [flB, thB, Bool.and_eq_true, decide_eq_true_eq] at c
            exact c.1.1.1.1.2
          have : ¬ 0 ≤ T i := by omega
          simp [c, this]
        · simp [c]
    · rw [hn] at c; omega
  · rintro i a hi rfl ih
    have hs := ih _ rfl
    have hi12 : i < 12 := by omega
    have keep : flB C kf x3 T Gn i = false → bset (fun p => decide (p < i + 1) && flB C kf x3 T Gn p) = bset (fun p => decide (p < i) && flB C kf x3 T Gn p) := by
      intro hf
      refine bset_ext (fun j _ => ?_)
      by_cases e : j = i
      · subst e; rw [hf]; simp
      · have : decide (j < i + 1) = decide (j < i) := by apply decide_eq_decide.mpr; omega
        rw [this]
    have add : flB C kf x3 T Gn i = true → bset (fun p => decide (p < i + 1) && flB C kf x3 T Gn p) = bset (fun p => decide (p < i) && flB C kf x3 T Gn p) ||| 2 ^ i := by
      intro hf
      apply nat_bits (bset_lt _) (zb_orlt (bset_lt _) (zb_2k hi12))
      intro j hj
      rw [Nat.testBit_or, bset_t, bset_t, zb_t2]
      by_cases e : j = i
      · subst e; rw [hf]; simp [hj]
      · have : decide (j < i + 1) = decide (j < i) := by apply decide_eq_decide.mpr; omega
        rw [this]; simp [Ne.symm e]
    refine r_X4_fleeOn_6 hk0 hk1 hk2 ⟨fun c => ?_, fun _ => ?_⟩
    · rw [hn] at c; omega
    · rw [f1, wC.2.2.2.2.2.2.2.2.2.2, zb_nb (zb_lt (bset_lt _)) (zb_lt (cst_lt C))]
      refine c_isIn (zb_nblt (bset_lt _)) (by omega) ?_
      rw [w32s (by omega)]
      simp only [Int.toNat_natCast]
      have eb : (nb (bset (thB (cn C) T Gn)) (cst C)).testBit i = (thB (cn C) T Gn i && decide (ckd C i ≠ 2) && decide (ckd C i ≠ 3)) := by
        rw [nb_t, bset_t, cst, bset_t]
        simp only [hi12, hi, decide_true, Bool.true_and]
        cases thB (cn C) T Gn i <;> by_cases a : ckd C i = 2 <;> by_cases b : ckd C i = 3 <;> simp [a, b]
      rw [eb]
      by_cases c : (thB (cn C) T Gn i && decide (ckd C i ≠ 2) && decide (ckd C i ≠ 3)) = true
      · simp only [c, if_true]
        refine ⟨fun e => by omega, fun _ => ⟨by omega, ?_⟩⟩
        rw [(hkf i hi).1, f2, zb_and (zb_lt (hkf i hi).2) (zb_lt (bset_lt _)), (wC.2.2.2.2.2.1 i hi).2.1]
        have hsl := (hC.2.2.2.2.2.1 i hi).2.1
        have ew : w32 (w32 (x3 - 1) - csl C i) = x3 - 1 - csl C i := by unfold w32; omega
        rw [ew]
        have key : (∃ p, p < cn C ∧ (kf i &&& bset (seB (cn C) T)).testBit p = true ∧ hI h (k0 + 1) p ≤ x3 - 1 - csl C i) ↔ (List.range (cn C)).any (fun p => (kf i).testBit p && decide (0 ≤ T p) && decide (T p ≤ x3 - 1 - csl C i)) = true := by
          rw [List.any_eq_true]
          constructor
          · rintro ⟨p, h1, h2, h3⟩
            rw [Nat.testBit_and, Bool.and_eq_true, bset_t] at h2
            simp only [seB, Bool.and_eq_true, decide_eq_true_eq] at h2
            rw [f3 p h1, if_pos h2.2.2.2] at h3
            exact ⟨p, List.mem_range.mpr h1, by simp [h2.1, h2.2.2.2, h3]⟩
          · rintro ⟨p, h1, h2⟩
            simp only [Bool.and_eq_true, decide_eq_true_eq] at h2
            have h1 := List.mem_range.mp h1
            refine ⟨p, h1, ?_, ?_⟩
            · rw [Nat.testBit_and, h2.1.1, bset_t]
              have : p < 12 := by omega
              simp [seB, this, h1, h2.1.2]
            · rw [f3 p h1, if_pos h2.1.2]; exact h2.2
        refine c_sawBy (n := cn C) hk0 hk1 hn hn12 (zb_andlt (hkf i hi).2) (fun hx1 => ?_) (fun hx0 => ?_)
        · have hf : flB C kf x3 T Gn i = true := by
            show (_ && _) = true
            rw [c, key.mp hx1]; rfl
          refine ⟨fun e => by omega, fun _ => ?_⟩
          rw [zb_1 (by omega), zb_or (zb_lt (bset_lt _)) (by have := zb_2k hi12; omega), ← add hf]
          exact hs
        · have hf : flB C kf x3 T Gn i = false := by
            show (_ && _) = false
            have : (List.range (cn C)).any (fun p => (kf i).testBit p && decide (0 ≤ T p) && decide (T p ≤ x3 - 1 - csl C i)) = false := by
              cases hq : (List.range (cn C)).any (fun p => (kf i).testBit p && decide (0 ≤ T p) && decide (T p ≤ x3 - 1 - csl C i))
              · rfl
              · exact absurd (key.mpr hq) hx0
            rw [this]; simp
          refine ⟨fun _ => ?_, fun e => absurd rfl e⟩
          rw [← keep hf]; exact hs
      · have c' : (thB (cn C) T Gn i && decide (ckd C i ≠ 2) && decide (ckd C i ≠ 3)) = false := by simpa using c
        simp only [c', if_false]
        refine ⟨fun _ => ?_, fun e => absurd rfl e⟩
        have hf : flB C kf x3 T Gn i = false := by
          show (_ && _) = false
          rw [c']; rfl
        rw [← keep hf]; exact hs
  · apply nat_bits (by omega) (bset_lt _)
    intro j _
    rw [bset_t]; simp
theorem c_fillI {k0 nn : Nat} {x1 : Int} {Q : zS → Prop} (hk0 : zArr g0 k0 0 nn) (hnn : nn < 2147483648) (HQ : ∀ h1, (∀ i, i < nn → hI h1 k0 i = x1) → zEq (fun c => c ≠ k0) h h1 → Q h1) : zCv E d m_J7_fill_53178 [vo k0, vi x1] h Q := by
  refine v_J7_fill_53178 hk0 hnn ?_
  refine z_up (n := nn) (fun i h2 => zWv E d m_J7_fill_53178 5 [vo k0, vi x1, vi i, vi (nn : Int)] h2 Q) (fun i h2 => (∀ j, j < i → hI h2 k0 j = x1) ∧ zEq (fun c => c ≠ k0) h h2) ?_ ?_ 0 h (by omega) ⟨fun j hj => by omega, zEq.rf⟩
  · rintro h2 ⟨w1, w2⟩
    exact r_J7_fill_53178_5 hk0 hnn ⟨fun _ => HQ h2 w1 w2, fun c => by omega⟩
  · rintro i h2 hi ⟨w1, w2⟩ ih
    refine r_J7_fill_53178_5 hk0 hnn ⟨fun c => by omega, fun _ => ⟨by omega, fun h3 e3 => ?_⟩⟩
    rw [w32s (by omega)]
    simp only [Int.toNat_natCast] at e3
    subst e3
    refine ih _ ⟨fun j hj => ?_, w2.tr (zEq_I (fun q => q rfl))⟩
    rw [hI_stI]
    by_cases e : j = i
    · simp [e]
    · rw [if_neg (by simp [e])]; exact w1 j (by omega)
theorem c_fillL {k0 nn : Nat} {x1 : Int} {Q : zS → Prop} (hk0 : zArr g0 k0 3 nn) (hnn : nn < 2147483648) (HQ : ∀ h1, (∀ i, i < nn → hL h1 k0 i = x1) → zEq (fun c => c ≠ k0) h h1 → Q h1) : zCv E d m_J7_fill_d0a16 [vo k0, vl x1] h Q := by
  refine v_J7_fill_d0a16 hk0 hnn ?_
  refine z_up (n := nn) (fun i h2 => zWv E d m_J7_fill_d0a16 6 [vo k0, vl x1, vn, vi i, vi (nn : Int)] h2 Q) (fun i h2 => (∀ j, j < i → hL h2 k0 j = x1) ∧ zEq (fun c => c ≠ k0) h h2) ?_ ?_ 0 h (by omega) ⟨fun j hj => by omega, zEq.rf⟩
  · rintro h2 ⟨w1, w2⟩
    exact r_J7_fill_d0a16_6 hk0 hnn ⟨fun _ => HQ h2 w1 w2, fun c => by omega⟩
  · rintro i h2 hi ⟨w1, w2⟩ ih
    refine r_J7_fill_d0a16_6 hk0 hnn ⟨fun c => by omega, fun _ => ⟨by omega, fun h3 e3 => ?_⟩⟩
    rw [w32s (by omega)]
    simp only [Int.toNat_natCast] at e3
    subst e3
    refine ih _ ⟨fun j hj => ?_, w2.tr (zEq_L (fun q => q rfl))⟩
    rw [hL_stL]
    by_cases e : j = i
    · simp [e]
    · rw [if_neg (by simp [e])]; exact w1 j (by omega)
theorem ev_eq {n : Nat} (hn : n ≤ 12) : w32 (z_shl 1 (n : Int) - 1) = ((2 ^ n - 1 : Nat) : Int) := by
  rw [zb_1 (by omega)]
  have h1 : 2 ^ n ≤ 2 ^ 12 := Nat.pow_le_pow_right (by omega) hn
  have h2 : 1 ≤ 2 ^ n := Nat.one_le_two_pow
  rw [w32_id (by omega) (by omega)]
  omega
theorem ev_cev (C : zCt) (hn : cn C ≤ 12) : 2 ^ cn C - 1 = cev C := by
  have h1 : 2 ^ cn C ≤ 2 ^ 12 := Nat.pow_le_pow_right (by omega) hn
  have h2 : 1 ≤ 2 ^ cn C := Nat.one_le_two_pow
  apply nat_bits (by omega) (bset_lt _)
  intro i hi
  show (2 ^ cn C - 1).testBit i = (bset _).testBit i
  rw [bset_t, Nat.testBit_two_pow_sub_one]
  simp [hi]
theorem c_everybody {k0 : Nat} {C : zCt} {Q : Int → zS → Prop} (hk0 : isCity k0) (hn12 : cn C ≤ 12) (hn : hI h k0 0 = (cn C : Int)) (HQ : Q (cev C : Nat) h) : zCi E d m_X0_everybody [vo k0] h Q := by
  refine v_X0_everybody hk0 ?_
  rw [hn, ev_eq hn12, ev_cev C hn12]; exact HQ
theorem c_clear {k0 k1 : Nat} {C : zCt} {Q : zS → Prop} (hk0 : isFate k0) (hk1 : isCity k1) (hn12 : cn C ≤ 12) (hn : hI h k1 0 = (cn C : Int))
    (HQ : ∀ h1, XFate h1 k0 (cn C) (fun _ => -1) (fun _ => -1) → zEq (fun c => c ≠ k0 ∧ c ≠ k0 + 1) h h1 → Q h1) : zCv E (d + 1) m_X4_clear [vo k0, vo k1] h Q := by
  refine v_X4_clear hk0 hk1 ?_
  refine c_everybody hk1 hn12 hn ?_
  rintro h3 rfl h4 rfl
  refine c_fillI (gaFate_2 hk0) (by omega) ?_
  intro h5 g1 g2
  have e : zEq (fun c => c ≠ k0 ∧ c ≠ k0 + 1) h h5 := by
    refine (zEq.tr (h1 := stI (stI h k0 0 (cev C : Nat)) k0 1 0) ?_ (g2.wk (fun c q => q.2)))
    exact (zEq_I (fun q => q.1 rfl)).tr (zEq_I (fun q => q.1 rfl))
  refine HQ h5 ⟨?_, ?_, fun i hi => ?_⟩ e
  · rw [g2.I (show k0 ≠ k0 + 1 by omega), hI_stI, if_neg (by simp), hI_stI, if_pos ⟨rfl, rfl⟩]
    congr 1
    exact bset_ext (fun i _ => by simp [thB])
  · rw [g2.I (show k0 ≠ k0 + 1 by omega), hI_stI, if_pos ⟨rfl, rfl⟩]
    have : bset (seB (cn C) (fun _ => -1)) = 0 := by
      apply nat_bits (bset_lt _) (by omega)
      intro i _
      rw [bset_t]; simp [seB]
    rw [this]; rfl
  · rw [g1 i (by omega)]; simp
end F3
