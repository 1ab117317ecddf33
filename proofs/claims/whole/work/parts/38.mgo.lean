/-! the model's goOn -/
section MG
variable {E : zE} {d : Nat} {h : zS}
theorem c_M_goOn {C : zCt} {kf : Nat → Nat} {T Gn : Nat → Int} {day : Int} {Q : zS → Prop} (hC : okC C) (wC : MCity h C) (wF : MFate h (cn C) T Gn kf) (hT : ∀ i, i < cn C → T i < 100000) (hx : 0 ≤ day ∧ day < 100000) (hkl : ∀ i, i < cn C → kf i < 4096)
    (HQ : ∀ h1, MFate h1 (cn C) T (fFlee C kf day T Gn) kf → zEq (fun c => c ≠ 113) h h1 → Q h1) : zCv E (d + 1) m_X10_goOn [vo 89, vi day] h Q := by
  have hn12 := hC.1
  refine v_X10_goOn ?_
  have bN : ∀ h2, zEq (fun c => c ≠ 113) h h2 → hI h2 89 29 = (cn C : Int) := fun h2 e => by rw [e.I (by omega)]; exact wC.1
  refine z_up (n := cn C) (fun i h2 => zWv E (d + 1) m_X10_goOn 2 [vo 89, vi day, vi i, vn, vn] h2 Q) (fun i h2 => MFate h2 (cn C) T (fun q => if q < i then fFlee C kf day T Gn q else Gn q) kf ∧ zEq (fun c => c ≠ 113) h h2) ?_ ?_ 0 h (by omega) ?_
  · rintro h2 ⟨w1, w2⟩
    refine r_X10_goOn_2 ⟨fun _ => HQ h2 (fun i hi => ?_) w2, fun c => ?_⟩
    · have := w1 i hi
      simp only [hi, if_true] at this; exact this
    · rw [bN h2 w2] at c; omega
  · rintro q h2 hq ⟨w1, w2⟩ ih
    have wC2 : MCity h2 C := wC.fr w2 (by omega)
    have keep : fFlee C kf day T Gn q = Gn q → zWv E (d + 1) m_X10_goOn 2 [vo 89, vi day, vi ((q + 1 : Nat) : Int), vn, vn] h2 Q := by
      intro hf
      refine ih h2 ⟨fun i hi => ?_, w2⟩
      have := w1 i hi
      by_cases e : i = q
      · subst e
        simp only [Nat.lt_irrefl, if_false] at this
        simp only [Nat.lt_succ_self, if_true, hf]
        exact this
      · have e2 : (i < q + 1) = (i < q) := by apply propext; omega
        simp only [e2]; exact this
    have nofl : flB C kf day T Gn q = false → fFlee C kf day T Gn q = Gn q := fun hf => by unfold fFlee; rw [hf]; rfl
    refine r_X10_goOn_2 ⟨fun c => ?_, fun _ => ?_⟩
    · rw [bN h2 w2] at c; omega
    · refine c_M_isFree hn12 w1 hq ?_
      rw [w32s (by omega)]
      simp only [Nat.lt_irrefl, if_false, Int.toNat_natCast]
      rw [(wC2.2.2.2.2.2.1 q hq).1]
      by_cases hf : T q < 0 ∧ Gn q < 0
      · simp only [hf, and_self, if_true]
        refine ⟨fun e => by omega, fun _ => ⟨by omega, fun c2 => keep (nofl (by simp [flB, c2])), fun c2 => ⟨fun c3 => ?_, fun c3 => keep (nofl (by simp [flB, c3]))⟩⟩⟩
        -- the first of whom q knows that was taken
        refine z_upS (σ := Int) (n := cn C) (fun i x => zWv E (d + 1) m_X10_goOn 48 [vo 89, vi day, vi q, vi x, vi i] h2 Q)
          (fun i x => x ≤ 1000000 ∧ (∀ p, p < i → (kf q).testBit p = true → 0 ≤ T p → x ≤ T p) ∧ (x = 1000000 ∨ (0 ≤ x ∧ ∃ p, p < i ∧ (kf q).testBit p = true ∧ 0 ≤ T p ∧ T p = x))) ?_ ?_ 0 1000000 (by omega) ⟨by omega, fun p hp => by omega, Or.inl rfl⟩
        · rintro x ⟨x1, x2, x3⟩
          have hsl := (hC.2.2.2.2.2.1 q hq).2.1
          refine r_X10_goOn_48 ⟨fun _ => ⟨fun c => ?_, fun c => ⟨by omega, ?_⟩⟩, fun c => ?_⟩
          · rw [w32s (by omega)]
            refine keep (nofl ?_)
            have : (List.range (cn C)).any (fun p => (kf q).testBit p && decide (0 ≤ T p) && decide (T p ≤ day - 1 - csl C q)) = false := by
              rw [List.any_eq_false]
              intro p hp hpp
              simp only [Bool.and_eq_true, decide_eq_true_eq] at hpp
              have hp := List.mem_range.mp hp
              have := x2 p hp hpp.1.1 hpp.1.2
              have := hT p hp
              omega
            simp [flB, this]
          · simp only [Int.toNat_natCast]
            rw [w32s (by omega), (wC2.2.2.2.2.2.1 q hq).2.1]
            have hx3 : 0 ≤ x ∧ ∃ p, p < cn C ∧ (kf q).testBit p = true ∧ 0 ≤ T p ∧ T p = x := by
              rcases x3 with x3 | x3
              · exact absurd x3 c
              · exact x3
            have ew : w32 (w32 (x + 1) + csl C q) = x + 1 + csl C q := by unfold w32; omega
            rw [ew]
            refine ⟨fun c4 => ?_, fun c4 => ?_⟩
            · refine keep (nofl ?_)
              have : (List.range (cn C)).any (fun p => (kf q).testBit p && decide (0 ≤ T p) && decide (T p ≤ day - 1 - csl C q)) = false := by
                rw [List.any_eq_false]
                intro p hp hpp
                simp only [Bool.and_eq_true, decide_eq_true_eq] at hpp
                have := x2 p (List.mem_range.mp hp) hpp.1.1 hpp.1.2
                omega
              simp [flB, this]
            · rintro h3 rfl
              obtain ⟨_, p, p1, p2, p3, p4⟩ := hx3
              have hfl : flB C kf day T Gn q = true := by
                have : (List.range (cn C)).any (fun p => (kf q).testBit p && decide (0 ≤ T p) && decide (T p ≤ day - 1 - csl C q)) = true := by
                  rw [List.any_eq_true]
                  exact ⟨p, List.mem_range.mpr p1, by simp [p2, p3]; omega⟩
                simp [flB, thB, this, hq, hf.1, hf.2, c2, c3]
              have hfe : fFlee C kf day T Gn q = day := by unfold fFlee; rw [hfl]; rfl
              refine ih _ ⟨fun i hi => ?_, w2.tr (zEq_I (by omega))⟩
              obtain ⟨a1, a2, a3⟩ := w1 i hi
              refine ⟨by rw [hI_stI, if_neg (by omega)]; exact a1, ?_, by rw [hI_stI, if_neg (by omega)]; exact a3⟩
              rw [hI_stI]
              by_cases e : i = q
              · subst e; simp [hfe]
              · have e2 : (i < q + 1) = (i < q) := by apply propext; omega
                rw [if_neg (by omega), a2]; simp only [e2]
          · rw [bN h2 w2] at c; omega
        · rintro p x hp ⟨x1, x2, x3⟩ ihp
          refine r_X10_goOn_48 ⟨fun c => ?_, fun _ => ⟨by omega, ?_⟩⟩
          · rw [bN h2 w2] at c; omega
          · simp only [Int.toNat_natCast]
            rw [(w1 q hq).2.2, (w1 p hp).1, zb_bit (zb_lt (hkl q hq)) (by omega), w32s (by omega)]
            have same : ¬ ((kf q).testBit p = true ∧ 0 ≤ T p ∧ T p < x) → zWv E (d + 1) m_X10_goOn 48 [vo 89, vi day, vi q, vi x, vi ((p + 1 : Nat) : Int)] h2 Q := by
              intro hs
              refine ihp x ⟨x1, fun p' hp' b1 b2 => ?_, ?_⟩
              · by_cases e : p' = p
                · subst e
                  refine Classical.byContradiction (fun hc => hs ⟨b1, b2, by omega⟩)
                · exact x2 p' (by omega) b1 b2
              · rcases x3 with x3 | ⟨y1, p', y2, y3⟩
                · exact Or.inl x3
                · exact Or.inr ⟨y1, p', by omega, y3⟩
            by_cases hb : (kf q).testBit p = true
            · simp only [hb, if_true]
              refine ⟨fun e => absurd rfl e, fun _ => ⟨by omega, fun c => same (fun z => by omega), fun c => ⟨fun c4 => same (fun z => by omega), fun c4 => ?_⟩⟩⟩
              refine ihp (T p) ⟨by omega, fun p' hp' b1 b2 => ?_, Or.inr ⟨c, p, by omega, hb, c, rfl⟩⟩
              by_cases e : p' = p
              · subst e; omega
              · have := x2 p' (by omega) b1 b2; omega
            · simp only [hb, if_false]
              exact ⟨fun _ => same (fun z => hb z.1), fun e => by simp at e⟩
      · simp only [hf, if_false]
        refine ⟨fun _ => keep (nofl ?_), fun e => absurd rfl e⟩
        have : thB (cn C) T Gn q = false := by
          unfold thB
          cases h1 : decide (T q < 0) <;> cases h2 : decide (Gn q < 0) <;> simp
          simp only [decide_eq_true_eq] at h1 h2
          exact absurd ⟨h1, h2⟩ hf
        simp [flB, this]
  · refine ⟨?_, zEq.rf⟩
    simp only [Nat.not_lt_zero, if_false]
    exact wF
end MG
