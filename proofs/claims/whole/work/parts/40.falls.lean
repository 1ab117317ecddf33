/-! the falls: layFall of the model, reckon of the class -/
section FL
variable {E : zE} {d : Nat} {h : zS}
theorem c_M_layFall {C : zCt} {one : Nat} {Q : zS → Prop} (hC : okC C) (wC : MCity h C) (ho : one < cn C)
    (HQ : ∀ h1, (∀ q, q < cn C → hI h1 112 q = (fEnd C one).1 q ∧ hI h1 113 q = (fEnd C one).2 q) → zEq (fun c => c ≠ 112 ∧ c ≠ 113 ∧ c ≠ 114) h h1 → Q h1) : zCv E (d + 2) m_X10_layFall [vo 89, vi one] h Q := by
  have hn12 := hC.1
  refine v_X10_layFall ?_
  refine z_up (n := 12) (fun i h2 => zWv E (d + 1 + 1) m_X10_layFall 2 [vo 89, vi one, vi i] h2 Q) (fun i h2 => (∀ j, j < i → hI h2 112 j = -1 ∧ hI h2 113 j = -1 ∧ hI h2 114 j = hI h 104 j) ∧ zEq (fun c => c ≠ 112 ∧ c ≠ 113 ∧ c ≠ 114) h h2) ?_ ?_ 0 h (by omega) ⟨fun j hj => by omega, zEq.rf⟩
  · rintro h2 ⟨w1, w2⟩
    refine r_X10_layFall_2 ⟨fun _ => ⟨by omega, ?_⟩, fun c => by omega⟩
    rintro h3 rfl
    simp only [Int.toNat_natCast]
    have e3 : zEq (fun c => c ≠ 112 ∧ c ≠ 113 ∧ c ≠ 114) h (stI h2 112 one 0) := w2.tr (zEq_I (by omega))
    have f3 : MFate (stI h2 112 one 0) (cn C) (fun i => if i = one then 0 else -1) (fun _ => -1) (ckn C) := by
      intro i hi
      obtain ⟨a, b, c⟩ := w1 i (by omega)
      refine ⟨?_, ?_, ?_⟩
      · rw [hI_stI]
        by_cases e : i = one
        · simp [e]
        · rw [if_neg (by omega)]
          show hI h2 112 i = (if i = one then (0 : Int) else -1)
          rw [if_neg e]; exact a
      · rw [hI_stI, if_neg (by omega)]; exact b
      · rw [hI_stI, if_neg (by omega), c]; exact wC.2.2.2.2.2.2.2 i hi
    generalize stI h2 112 one 0 = h3 at e3 f3 ⊢
    -- day 0
    refine r_X10_layFall_49 ⟨fun c => by omega, fun _ => ?_⟩
    refine c_M_tellOn hC (wC.fr e3 (by omega)) f3 (fun i _ => by show (if i = one then (0 : Int) else -1) < _; split <;> omega) (by omega) (fun i _ => ckn_lt C i) ?_
    intro x h4 f4 e4
    have f4' : MFate h4 (cn C) (fF0 C one).1 (fF0 C one).2 (ckn C) := by
      intro i hi
      obtain ⟨a, b, c⟩ := f4 i hi
      exact ⟨by rw [a]; exact day0 hC ho i, b, c⟩
    have e4' := e3.tr (e4.wk (fun c q => q.1))
    refine c_M_goOn hC (wC.fr e4' (by omega)) f4' (fun i hi => by have := (okF_0 C one i hi).1; omega) (by omega) (fun i _ => ckn_lt C i) ?_
    intro h5 f5 e5
    have e5' := e4'.tr (e5.wk (fun c q => q.2.1))
    have f5' : MFate h5 (cn C) (fRun C (ckn C) (fF0 C one) 0).1 (fRun C (ckn C) (fF0 C one) 0).2 (ckn C) := by
      intro i hi
      obtain ⟨a, b, c⟩ := f5 i hi
      refine ⟨a, ?_, c⟩
      rw [b]
      unfold fFlee
      have : flB C (ckn C) 0 (fF0 C one).1 (fF0 C one).2 i = false := by
        have : (List.range (cn C)).any (fun p => (ckn C i).testBit p && decide (0 ≤ (fF0 C one).1 p) && decide ((fF0 C one).1 p ≤ 0 - 1 - csl C i)) = false := by
          rw [List.any_eq_false]
          intro p _ hpp
          simp only [Bool.and_eq_true, decide_eq_true_eq] at hpp
          have := (hC.2.2.2.2.2.1 i hi).2.1
          omega
        show (_ && _) = false
        rw [this]; exact Bool.and_false _
      rw [this]; rfl
    have ew : w32 (0 + 1) = ((1 : Nat) : Int) := by decide
    rw [ew]
    refine z_up (n := 401) (fun i h2 => zWv E (d + 1 + 1) m_X10_layFall 49 [vo 89, vn, vi i] h2 Q) (fun i h2 => 1 ≤ i ∧ MFate h2 (cn C) (fRun C (ckn C) (fF0 C one) (i - 1)).1 (fRun C (ckn C) (fF0 C one) (i - 1)).2 (ckn C) ∧ zEq (fun c => c ≠ 112 ∧ c ≠ 113 ∧ c ≠ 114) h h2) ?_ ?_ 1 h5 (by omega) ⟨by omega, f5', e5'⟩
    · rintro h6 ⟨v1, v2, v3⟩
      refine r_X10_layFall_49 ⟨fun _ => HQ h6 (fun q hq => ⟨(v2 q hq).1, (v2 q hq).2.1⟩) v3, fun c => by omega⟩
    · rintro i h6 hi ⟨v1, v2, v3⟩ ih
      obtain ⟨j, rfl⟩ : ∃ j, i = j + 1 := ⟨i - 1, by omega⟩
      simp only [Nat.add_sub_cancel] at v2 ih
      have hok := okF_run (kf := ckn C) (okF_0 C one) j
      refine r_X10_layFall_49 ⟨fun c => by omega, fun _ => ?_⟩
      refine c_M_tellOn hC (wC.fr v3 (by omega)) v2 (fun i hi => by have := (hok i hi).1; omega) (by omega) (fun i _ => ckn_lt C i) ?_
      intro x h7 f7 e7
      have eT : tkF (clS (cn C) (bset (thB (cn C) (fRun C (ckn C) (fF0 C one) j).1 (fRun C (ckn C) (fF0 C one) j).2)) (orK (mtS C (fRun C (ckn C) (fF0 C one) j).1 ((j + 1 : Nat) : Int)) (ckn C) (cn C)) (cpr C) (ckn C)) ((j + 1 : Nat) : Int) (fRun C (ckn C) (fF0 C one) j).1 = fTell C (ckn C) ((j + 1 : Nat) : Int) (fRun C (ckn C) (fF0 C one) j).1 (fRun C (ckn C) (fF0 C one) j).2 := by
        unfold fTell tellS
        rw [mtS_tlS (fun p hp => by have := (hok p hp).1; omega)]
      rw [eT] at f7
      have e7' := v3.tr (e7.wk (fun c q => q.1))
      have hok7 := okF_tell (kf := ckn C) hok
      refine c_M_goOn hC (wC.fr e7' (by omega)) f7 (fun i hi => by have := (hok7 i hi).1; omega) (by omega) (fun i _ => ckn_lt C i) ?_
      intro h8 f8 e8
      rw [w32s (by omega)]
      exact ih h8 ⟨by omega, f8, e7'.tr (e8.wk (fun c q => q.2.1))⟩
  · rintro i h2 hi ⟨w1, w2⟩ ih
    refine r_X10_layFall_2 ⟨fun c => by omega, fun _ => ⟨by omega, ?_⟩⟩
    rintro h4 rfl h5 rfl h6 rfl
    simp only [Int.toNat_natCast]
    rw [w32s (by omega)]
    refine ih _ ⟨fun j hj => ?_, ?_⟩
    · have e104 : hI (stI (stI h2 112 i (-1)) 113 i (-1)) 104 i = hI h 104 i := by
        rw [hI_stI, if_neg (by omega), hI_stI, if_neg (by omega)]; exact w2.I (by omega) i
      rw [e104]
      simp only [hI_stI]
      by_cases e : j = i
      · subst e; simp
      · obtain ⟨a, b, c⟩ := w1 j (by omega)
        simp [e, a, b, c]
    · exact w2.tr ((zEq_I (by omega)).tr ((zEq_I (by omega)).tr (zEq_I (by omega))))
end FL
