/-! public methods that read: fault, knows, lies, one, fall, worst -/
section SM
variable {E : zE} {d : Nat} {h : zS}
theorem p_fault {x : Int} (w : zGo h) : zPair E m_X9_fault m_X10_fault [vi x] h := by
  obtain ⟨t, S, hS, wX, wM⟩ := w
  refine p_of (S := S) (S' := S) (r := if x = 0 then aFa S else if x = 1 then aPl S else -1) (t := t) hS wM (fun Q HQ => ?_) (fun h1 Q w1 HQ => ?_)
  · have HQ := HQ h t wX zEq.rf
    refine v_X9_fault ?_
    rw [wX.2.2.1.1, wX.2.2.1.2]
    refine ⟨fun c => ⟨fun c2 => ?_, fun c2 => ?_⟩, fun c => ?_⟩
    · rw [if_neg c, if_neg c2] at HQ; exact HQ
    · rw [if_neg c, if_pos c2] at HQ; exact HQ
    · rw [if_pos c] at HQ; exact HQ
  · have HQ := HQ h1 w1 zEq.rf
    refine v_X10_fault ?_
    rw [w1.2.1.1, w1.2.1.2]
    refine ⟨fun c => ⟨fun c2 => ?_, fun c2 => ?_⟩, fun c => ?_⟩
    · rw [if_neg c, if_neg c2] at HQ; exact HQ
    · rw [if_neg c, if_pos c2] at HQ; exact HQ
    · rw [if_pos c] at HQ; exact HQ
theorem p_knows {x : Int} (w : zGo h) : zPair E m_X9_knows m_X10_knows [vi x] h := by
  obtain ⟨t, S, hS, wX, wM⟩ := w
  have hC := hS.2.1
  have hn12 := hC.1
  refine p_of (S := S) (S' := S) (r := if 0 ≤ x ∧ x < cn (aC S) then (ckn (aC S) x.toNat : Int) else -1) (t := t) hS wM (fun Q HQ => ?_) (fun h1 Q w1 HQ => ?_)
  · have HQ := HQ h t wX zEq.rf
    refine v_X9_knows ⟨t, wX.1.1, wX.1.2.1, ?_⟩
    refine c_has wX.1.2.1 wX.2.2.2.1.1 ?_
    by_cases c : 0 ≤ x ∧ x < cn (aC S)
    · rw [if_pos c] at HQ ⊢
      refine ⟨fun e => by omega, fun _ => ⟨t, wX.1.1, wX.1.2.1, by omega, ?_⟩⟩
      rw [(wX.2.2.2.1.2.2.2.2.2.2.2.1 x.toNat (by omega)).2]; exact HQ
    · rw [if_neg c] at HQ ⊢; exact ⟨fun _ => HQ, fun e => absurd rfl e⟩
  · have HQ := HQ h1 w1 zEq.rf
    refine v_X10_knows ?_
    refine c_M_isOne w1.2.2.1.1 ?_
    by_cases c : 0 ≤ x ∧ x < cn (aC S)
    · rw [if_pos c] at HQ ⊢
      refine ⟨fun e => by omega, fun _ => ⟨by omega, ?_⟩⟩
      rw [w1.2.2.1.2.2.2.2.2.2.2 x.toNat (by omega)]; exact HQ
    · rw [if_neg c] at HQ ⊢; exact ⟨fun _ => HQ, fun e => absurd rfl e⟩
theorem p_lies {x : Int} (w : zGo h) : zPair E m_X9_lies m_X10_lies [vi x] h := by
  obtain ⟨t, S, hS, wX, wM⟩ := w
  have hW := hS.2.2.2.2.2
  refine p_of (S := S) (S' := S) (r := if 0 ≤ x ∧ x < aWn S then aWf S x.toNat else -1) (t := t) hS wM (fun Q HQ => ?_) (fun h1 Q w1 HQ => ?_)
  · have HQ := HQ h t wX zEq.rf
    have q := wX.2.2.2.2.2.2.2.2
    refine v_X9_lies ?_
    rw [q.1]
    refine ⟨fun c => ?_, fun c => ⟨fun c2 => ?_, fun c2 => ⟨by omega, ?_⟩⟩⟩
    · rw [if_neg (by omega)] at HQ; exact HQ
    · rw [if_neg (by omega)] at HQ; exact HQ
    · rw [if_pos ⟨c, c2⟩] at HQ; rw [q.2 x.toNat (by omega)]; exact HQ
  · have HQ := HQ h1 w1 zEq.rf
    have q := w1.2.2.2.2.2.2
    refine v_X10_lies ?_
    rw [q.1]
    refine ⟨fun c => ?_, fun c => ⟨fun c2 => ?_, fun c2 => ⟨by omega, ?_⟩⟩⟩
    · rw [if_neg (by omega)] at HQ; exact HQ
    · rw [if_neg (by omega)] at HQ; exact HQ
    · rw [if_pos ⟨c, c2⟩] at HQ; rw [q.2 x.toNat (by omega)]; exact HQ
theorem p_fall {x y z : Int} (w : zGo h) : zPair E m_X9_fall m_X10_fall [vi x, vi y, vi z] h := by
  obtain ⟨t, S, hS, wX, wM⟩ := w
  have hC := hS.2.1
  have hn12 := hC.1
  have wC := wX.2.2.2.1
  have wFl := wX.2.2.2.2.1
  refine p_of (S := S) (S' := S) (r := if (0 ≤ x ∧ x < cn (aC S) ∧ ckd (aC S) x.toNat ≠ 3) ∧ (0 ≤ y ∧ y < cn (aC S)) then (if z = 0 then (fEnd (aC S) x.toNat).1 y.toNat else if z = 1 then (fEnd (aC S) x.toNat).2 y.toNat else -2) else -2) (t := t) hS wM (fun Q HQ => ?_) (fun h1 Q w1 HQ => ?_)
  · have HQ := HQ h t wX zEq.rf
    refine v_X9_fall ⟨t, wX.1.1, wX.1.2.1, ?_⟩
    refine c_has wX.1.2.1 wC.1 ?_
    by_cases c : 0 ≤ x ∧ x < cn (aC S)
    · rw [if_pos c]
      refine ⟨fun e => by omega, fun _ => ⟨t, wX.1.1, wX.1.2.1, ?_⟩⟩
      refine c_has wX.1.2.1 wC.1 ?_
      by_cases c2 : 0 ≤ y ∧ y < cn (aC S)
      · rw [if_pos c2]
        refine ⟨fun e => by omega, fun _ => ⟨t, wX.1.1, wX.1.2.1, ?_⟩⟩
        obtain ⟨a, rfl⟩ : ∃ a : Nat, x = a := ⟨x.toNat, by omega⟩
        obtain ⟨b, rfl⟩ : ∃ b : Nat, y = b := ⟨y.toNat, by omega⟩
        simp only [Int.toNat_natCast] at HQ
        refine c_isBox wX.1.2.1 hC wC (by omega) ?_
        by_cases c3 : ckd (aC S) a = 3
        · rw [if_pos c3]
          rw [if_neg (fun q => q.1.2.2 c3)] at HQ
          exact ⟨fun e => by omega, fun _ => HQ⟩
        · rw [if_neg c3]
          rw [if_pos ⟨⟨c.1, c.2, c3⟩, c2⟩] at HQ
          refine ⟨fun _ => ⟨fun c4 => ⟨fun c5 => ?_, fun c5 => ?_⟩, fun c4 => ?_⟩, fun e => absurd rfl e⟩
          · rw [if_neg c4, if_neg c5] at HQ; exact HQ
          · refine c_pair (by omega) (by omega) ⟨by omega, ?_⟩
            simp only [Int.toNat_natCast]
            rw [((wFl a (by omega) c3).1 b (by omega)).2]
            rw [if_neg c4, if_pos c5] at HQ; exact HQ
          · refine c_pair (by omega) (by omega) ⟨by omega, ?_⟩
            simp only [Int.toNat_natCast]
            rw [((wFl a (by omega) c3).1 b (by omega)).1]
            rw [if_pos c4] at HQ; exact HQ
      · rw [if_neg c2]
        rw [if_neg (fun q => c2 q.2)] at HQ
        exact ⟨fun _ => HQ, fun e => absurd rfl e⟩
    · rw [if_neg c]
      rw [if_neg (fun q => c ⟨q.1.1, q.1.2.1⟩)] at HQ
      exact ⟨fun _ => HQ, fun e => absurd rfl e⟩
  · have HQ0 := HQ h1 w1 zEq.rf
    refine v_X10_fall ?_
    refine c_M_canFall hC w1.2.2.1 ?_
    by_cases c : 0 ≤ x ∧ x < cn (aC S) ∧ ckd (aC S) x.toNat ≠ 3
    · rw [if_pos c]
      refine ⟨fun e => by omega, fun _ => ?_⟩
      refine c_M_isOne w1.2.2.1.1 ?_
      by_cases c2 : 0 ≤ y ∧ y < cn (aC S)
      · rw [if_pos c2]
        refine ⟨fun e => by omega, fun _ => ⟨fun c3 => ?_, fun c3 => ⟨fun c4 => ?_, fun c4 => ?_⟩⟩⟩
        · rw [if_pos ⟨c, c2⟩, if_neg (by omega), if_neg (by omega)] at HQ0; exact HQ0
        · obtain ⟨a, rfl⟩ : ∃ a : Nat, x = a := ⟨x.toNat, by omega⟩
          simp only [Int.toNat_natCast] at HQ c
          refine c_M_layFall hC w1.2.2.1 (by omega) ?_
          intro h2 g1 g2
          have w2 : MInv h2 S := by
            obtain ⟨b1, b2, b3, b4, b5, b6, b7⟩ := w1
            exact ⟨b1.fr g2 (by omega), ⟨by rw [g2.I (by omega)]; exact b2.1, by rw [g2.I (by omega)]; exact b2.2⟩, b3.fr g2 (by omega), b4.fr g2 ⟨by omega, fun j _ _ => by omega⟩, b5.fr g2 (by omega), b6.fr g2 ⟨by omega, fun j _ _ => by omega⟩, b7.fr g2 (by omega)⟩
          have HQ := HQ h2 w2 (g2.wk (fun c q => by omega))
          rw [if_pos ⟨c, c2⟩] at HQ
          refine ⟨fun c5 => ⟨by omega, ?_⟩, fun c5 => ⟨by omega, ?_⟩⟩
          · rw [if_neg c5, if_pos (by omega)] at HQ
            rw [(g1 y.toNat (by omega)).2]; exact HQ
          · rw [if_pos c5] at HQ
            rw [(g1 y.toNat (by omega)).1]; exact HQ
        · rw [if_pos ⟨c, c2⟩, if_neg (by omega), if_neg (by omega)] at HQ0; exact HQ0
      · rw [if_neg c2]
        rw [if_neg (fun q => c2 q.2)] at HQ0
        exact ⟨fun _ => HQ0, fun e => absurd rfl e⟩
    · rw [if_neg c]
      rw [if_neg (fun q => c q.1)] at HQ0
      exact ⟨fun _ => HQ0, fun e => absurd rfl e⟩
end SM
