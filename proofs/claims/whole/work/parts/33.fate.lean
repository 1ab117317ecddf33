/-! Fate: who is there, taken, gone -/
theorem fc_apart {k0 k1 : Nat} (h0 : isFate k0) (h1 : isCity k1) : ∀ j, j < 10 → k1 + j ≠ k0 ∧ k1 + j ≠ k0 + 1 := by
  intro j hj
  rcases h0 with rfl | rfl | rfl | rfl | rfl <;> rcases h1 with rfl | rfl <;> omega
section FT
variable {E : zE} {d : Nat} {h : zS}
theorem c_isThere {k0 a i : Nat} {Q : Int → zS → Prop} (hk0 : isFate k0) (ha : hI h k0 0 = (a : Int)) (hl : a < 4096) (hi : i < 31) (HQ : Q (if a.testBit i then 1 else 0) h) : zCi E (d + 1) m_X4_isThere [vo k0, vi i] h Q := by
  refine v_X4_isThere hk0 ?_
  rw [ha]
  refine c_isIn hl hi ⟨?_, HQ⟩
  split
  · exact Or.inr rfl
  · exact Or.inl rfl
theorem c_stateOf {k0 a z i : Nat} {Q : Int → zS → Prop} (hk0 : isFate k0) (ha : hI h k0 0 = (a : Int)) (hl : a < 4096) (hz : hI h k0 1 = (z : Int)) (hzl : z < 4096) (hi : i < 31) (HQ : Q (if a.testBit i then 0 else if z.testBit i then 1 else 2) h) : zCi E (d + 2) m_X4_stateOf [vo k0, vi i] h Q := by
  refine v_X4_stateOf hk0 ?_
  refine c_isThere hk0 ha hl hi ?_
  by_cases c : a.testBit i = true
  · simp only [c, if_true] at HQ ⊢; exact ⟨fun e => by omega, fun _ => HQ⟩
  · simp only [c, if_false] at HQ ⊢
    refine ⟨fun _ => ?_, fun e => absurd rfl e⟩
    rw [hz]
    refine c_isIn hzl hi ?_
    by_cases c2 : z.testBit i = true
    · simp only [c2, if_true] at HQ ⊢; exact ⟨fun e => by omega, fun _ => HQ⟩
    · simp only [c2, if_false] at HQ ⊢; exact ⟨fun _ => HQ, fun e => absurd rfl e⟩
theorem c_remove {k0 k1 n a s : Nat} {x3 : Int} {Q : zS → Prop} (hk0 : isFate k0) (hk1 : isCity k1) (hn : hI h k1 0 = (n : Int)) (hn12 : n ≤ 12) (ha : hI h k0 0 = (a : Int)) (hal : a < 4096) (hsl : s < 4096)
    (HQ : ∀ h1, hI h1 k0 0 = (nb a s : Nat) → hI h1 k0 1 = hI h k0 1 → (∀ i, i < n → hI h1 (k0 + 1) i = if s.testBit i then x3 else hI h (k0 + 1) i) → zEq (fun c => c ≠ k0 ∧ c ≠ k0 + 1) h h1 → Q h1) : zCv E (d + 1) m_X4_remove [vo k0, vo k1, vi s, vi x3] h Q := by
  refine v_X4_remove hk0 hk1 ?_
  intro h1 e1
  rw [ha, zb_nb (zb_lt hal) (zb_lt hsl)] at e1
  have hap := fc_apart hk0 hk1 0 (by omega)
  simp only [Nat.add_zero] at hap
  refine z_up (n := n) (fun i h => zWv E (d + 1) m_X4_remove 15 [vo k0, vo k1, vi s, vi x3, vi i] h Q)
    (fun i h2 => hI h2 k0 0 = (nb a s : Nat) ∧ hI h2 k0 1 = hI h k0 1 ∧ (∀ j, j < n → hI h2 (k0 + 1) j = if j < i ∧ s.testBit j then x3 else hI h (k0 + 1) j) ∧ zEq (fun c => c ≠ k0 ∧ c ≠ k0 + 1) h h2) ?_ ?_ 0 h1 (by omega) ?_
  · rintro h2 ⟨w1, w2, w3, w4⟩
    refine r_X4_remove_15 hk0 hk1 ⟨fun _ => HQ h2 w1 w2 (fun i hi => by rw [w3 i hi]; simp [hi]) w4, fun c => ?_⟩
    rw [w4.I hap, hn] at c; omega
  · rintro i h2 hi ⟨w1, w2, w3, w4⟩ ih
    have hen : hI h2 k1 0 = n := by rw [w4.I hap, hn]
    refine r_X4_remove_15 hk0 hk1 ⟨fun c => ?_, fun _ => ?_⟩
    · rw [hen] at c; omega
    · refine c_isIn hsl (by omega) ?_
      rw [w32s (by omega)]
      by_cases c : s.testBit i = true
      · simp only [c, if_true]
        refine ⟨fun e => by omega, fun _ => ⟨by omega, ?_⟩⟩
        intro h4 e4
        simp only [Int.toNat_natCast] at e4
        subst e4
        refine ih _ ⟨?_, ?_, fun j hj => ?_, ?_⟩
        · rw [hI_stI, if_neg (by omega)]; exact w1
        · rw [hI_stI, if_neg (by omega)]; exact w2
        · rw [hI_stI]
          by_cases e : j = i
          · subst e; simp [c]
          · rw [if_neg (by simp [e]), w3 j hj]
            have : (j < i + 1) ↔ (j < i) := by omega
            simp only [this]
        · exact w4.tr (zEq_I (fun q => q.2 rfl))
      · simp only [c, if_false]
        refine ⟨fun _ => ?_, fun e => absurd rfl e⟩
        refine ih _ ⟨w1, w2, fun j hj => ?_, w4⟩
        rw [w3 j hj]
        by_cases e : j = i
        · subst e; simp [c]
        · have : (j < i + 1) ↔ (j < i) := by omega
          simp only [this]
  · subst e1
    refine ⟨?_, ?_, fun j hj => ?_, ?_⟩
    · rw [hI_stI]; simp
    · rw [hI_stI, if_neg (by omega)]
    · rw [hI_stI, if_neg (by omega)]; simp
    · exact zEq_I (fun q => q.1 rfl)
theorem c_knownToAny {k0 k1 n s : Nat} {kf : Nat → Nat} {Q : Int → zS → Prop} (hk0 : isCity k0) (hk1 : zArr g0 k1 0 12) (hn : hI h k0 0 = (n : Int)) (hn12 : n ≤ 12) (hsl : s < 4096) (hkf : ∀ i, i < n → hI h k1 i = (kf i : Int) ∧ kf i < 4096)
    (HQ : Q (orK s kf n : Nat) h) : zCi E (d + 1) m_X4_knownToAny [vo k0, vo k1, vi s] h Q := by
  refine v_X4_knownToAny hk0 hk1 ?_
  refine z_upS (σ := Nat) (n := n) (fun i a => zWi E (d + 1) m_X4_knownToAny 5 [vo k0, vo k1, vi s, vi a, vi i] h Q) (fun i a => a = orK s kf i) ?_ ?_ 0 0 (by omega) rfl
  · rintro a rfl
    refine r_X4_knownToAny_5 hk0 hk1 ⟨fun _ => HQ, fun c => ?_⟩
    rw [hn] at c; omega
  · rintro i a hi rfl ih
    refine r_X4_knownToAny_5 hk0 hk1 ⟨fun c => ?_, fun _ => ⟨fun c => ?_, fun _ => ?_⟩⟩
    · rw [hn] at c; omega
    · have : s = 0 := by omega
      subst this
      have e : ∀ m, orK 0 kf m = 0 := by
        intro m
        induction m with
        | zero => rfl
        | succ m ihm => unfold orK; simp [ihm]
      rw [e i]; rw [e n] at HQ; exact HQ
    · refine c_isIn hsl (by omega) ?_
      rw [w32s (by omega)]
      have hs := ih (orK s kf (i + 1)) rfl
      by_cases c : s.testBit i = true
      · simp only [c, if_true]
        refine ⟨fun e => by omega, fun _ => ⟨by omega, ?_⟩⟩
        intro y4 e4
        simp only [Int.toNat_natCast] at e4
        rw [(hkf i hi).1, zb_or (zb_lt (orK_lt i (fun j hj => (hkf j (by omega)).2))) (zb_lt (hkf i hi).2)] at e4
        subst e4
        have e5 : orK s kf (i + 1) = orK s kf i ||| kf i := by
          show (if _ then _ else _) = _
          rw [if_pos c]
        rw [e5] at hs; exact hs
      · simp only [c, if_false]
        refine ⟨fun _ => ?_, fun e => absurd rfl e⟩
        have e5 : orK s kf (i + 1) = orK s kf i := by
          show (if _ then _ else _) = _
          rw [if_neg c]
        rw [e5] at hs; exact hs
end FT
