/-! the two objects hold one state -/
def XFalls (h : zS) (C : zCt) : Prop := ∀ a, a < cn C → ckd C a ≠ 3 → (∀ b, b < cn C → hI h 25 (12 * a + b) = (fEnd C a).1 b ∧ hI h 26 (12 * a + b) = (fEnd C a).2 b) ∧ hI h 27 a = (pc12 (bset (seB (cn C) (fEnd C a).1)) : Nat)
abbrev zAb : Type := ((Nat × (Nat → Nat)) × (Int × Int)) × (zCt × zEn × (Nat → Option zEn)) × zNt × (Nat × (Nat → Int))
def aTn (S : zAb) : Nat := S.1.1.1
def aTb (S : zAb) : Nat → Nat := S.1.1.2
def aFa (S : zAb) : Int := S.1.2.1
def aPl (S : zAb) : Int := S.1.2.2
def aC (S : zAb) : zCt := S.2.1.1
def aN (S : zAb) : zEn := S.2.1.2.1
def aIm (S : zAb) : Nat → Option zEn := S.2.1.2.2
def aY (S : zAb) : zNt := S.2.2.1
def aWn (S : zAb) : Nat := S.2.2.2.1
def aWf (S : zAb) : Nat → Int := S.2.2.2.2
def XImg (h : zS) (C : zCt) (Im : Nat → Option zEn) : Prop := hI h 0 9 = (bset (fun b => decide (b < 3) && (Im b).isSome) : Nat) ∧ (∀ b, b < 3 → hR h 46 b = some (47 + 12 * b)) ∧ ∀ b N, b < 3 → Im b = some N → XEarn h (47 + 12 * b) C N
def MImg (h : zS) (C : zCt) (Im : Nat → Option zEn) : Prop := (∀ b, b < 3 → hI h 130 b = if (Im b).isSome then 1 else 0) ∧ ∀ b N, b < 3 → Im b = some N → MBox h b C N
def XTold (h : zS) (t : Nat) : Prop := hR h 0 3 = some t ∧ isCity t ∧ ∃ t', hR h 0 4 = some t' ∧ isCity t' ∧ t' ≠ t
def XInv (h : zS) (t : Nat) (S : zAb) : Prop :=
  XTold h t ∧ XTape h (aTn S) (aTb S) ∧ (hI h 2 3 = aFa S ∧ hI h 2 4 = aPl S) ∧ XCity h t (aC S) ∧ XFalls h (aC S) ∧ XEarn h 34 (aC S) (aN S) ∧ XImg h (aC S) (aIm S) ∧ XEnt h (aY S) ∧ XWay h (aWn S) (aWf S)
def MInv (h : zS) (S : zAb) : Prop :=
  MTape h (aTn S) (aTb S) ∧ (hI h 89 2 = aFa S ∧ hI h 89 3 = aPl S) ∧ MCity h (aC S) ∧ MEarn h (aC S) (aN S) ∧ MImg h (aC S) (aIm S) ∧ MEnt h (aY S) ∧ MWay h (aWn S) (aWf S)
def okS (S : zAb) : Prop := (aTn S ≤ 1600 ∧ ∀ i, aTb S i < 256) ∧ okC (aC S) ∧ okN (aC S) (aN S) ∧ (∀ b N, b < 3 → aIm S b = some N → okN (aC S) N) ∧ okY (aC S) (aY S) ∧ aWn S ≤ 12
def zGo (h : zS) : Prop := ∃ t S, okS S ∧ XInv h t S ∧ MInv h S
theorem XFalls.fr {h h1 : zS} {C : zCt} {A : Nat → Prop} (w : XFalls h C) (e : zEq A h h1) (hA : A 25 ∧ A 26 ∧ A 27) : XFalls h1 C := by
  unfold XFalls at *
  simp only [e.I hA.1, e.I hA.2.1, e.I hA.2.2]
  exact w
theorem XTape.fr {h h1 : zS} {n : Nat} {b : Nat → Nat} {A : Nat → Prop} (w : XTape h n b) (e : zEq A h h1) (hA : A 0 ∧ A 1) : XTape h1 n b := by
  unfold XTape at *
  simp only [e.I hA.1, e.I hA.2]
  exact w
theorem MTape.fr {h h1 : zS} {n : Nat} {b : Nat → Nat} {A : Nat → Prop} (w : MTape h n b) (e : zEq A h h1) (hA : A 89 ∧ A 90) : MTape h1 n b := by
  unfold MTape at *
  simp only [e.I hA.1, e.I hA.2]
  exact w
theorem XWay.fr {h h1 : zS} {n : Nat} {b : Nat → Int} {A : Nat → Prop} (w : XWay h n b) (e : zEq A h h1) (hA : A 30 ∧ A 33) : XWay h1 n b := by
  unfold XWay at *
  simp only [e.I hA.1, e.I hA.2]
  exact w
theorem MWay.fr {h h1 : zS} {n : Nat} {b : Nat → Int} {A : Nat → Prop} (w : MWay h n b) (e : zEq A h h1) (hA : A 89 ∧ A 107) : MWay h1 n b := by
  unfold MWay at *
  simp only [e.I hA.1, e.I hA.2]
  exact w
theorem XImg.fr {h h1 : zS} {C : zCt} {Im : Nat → Option zEn} {A : Nat → Prop} (w : XImg h C Im) (e : zEq A h h1) (hA : A 0 ∧ ∀ j, 46 ≤ j → j < 83 → A j) : XImg h1 C Im := by
  refine ⟨by rw [e.I hA.1]; exact w.1, fun b hb => by rw [e.R (hA.2 46 (by omega) (by omega))]; exact w.2.1 b hb, fun b N hb hi => (w.2.2 b N hb hi).fr e (fun j hj => hA.2 _ (by omega) (by omega))⟩
theorem MBox.fr {h h1 : zS} {x : Nat} {C : zCt} {N : zEn} {A : Nat → Prop} (w : MBox h x C N) (e : zEq A h h1) (hA : A 131 ∧ A 132 ∧ A 133 ∧ A 134) : MBox h1 x C N := by
  unfold MBox at *
  simp only [e.I hA.1, e.I hA.2.1, e.I hA.2.2.1, e.I hA.2.2.2]
  exact w
theorem MImg.fr {h h1 : zS} {C : zCt} {Im : Nat → Option zEn} {A : Nat → Prop} (w : MImg h C Im) (e : zEq A h h1) (hA : A 130 ∧ A 131 ∧ A 132 ∧ A 133 ∧ A 134) : MImg h1 C Im :=
  ⟨fun b hb => by rw [e.I hA.1]; exact w.1 b hb, fun b N hb hi => (w.2 b N hb hi).fr e hA.2⟩
theorem XTold.fr {h h1 : zS} {t : Nat} {A : Nat → Prop} (w : XTold h t) (e : zEq A h h1) (hA : A 0) : XTold h1 t := by
  obtain ⟨a, b, t', c, d⟩ := w
  exact ⟨by rw [e.R hA]; exact a, b, t', by rw [e.R hA]; exact c, d⟩
theorem city_lt {t : Nat} (h : isCity t) : 4 ≤ t ∧ t + 10 ≤ 24 := by rcases h with rfl | rfl <;> omega
theorem XInv.fr {h h1 : zS} {t : Nat} {S : zAb} (w : XInv h t S) (e : zEq (fun c => c < 89) h h1) : XInv h1 t S := by
  obtain ⟨a, b, c, d, f, g, i, j, k⟩ := w
  have := city_lt a.2.1
  exact ⟨a.fr e (by omega), b.fr e (by omega), ⟨by rw [e.I (by omega)]; exact c.1, by rw [e.I (by omega)]; exact c.2⟩, d.fr e (fun j hj => by omega), f.fr e (by omega), g.fr e (fun j hj => by omega), i.fr e ⟨by omega, fun j _ _ => by omega⟩, j.fr e (fun j _ _ => by omega), k.fr e (by omega)⟩
theorem MInv.fr {h h1 : zS} {S : zAb} (w : MInv h S) (e : zEq (fun c => 89 ≤ c) h h1) : MInv h1 S := by
  obtain ⟨a, b, c, d, f, g, i⟩ := w
  exact ⟨a.fr e (by omega), ⟨by rw [e.I (by omega)]; exact b.1, by rw [e.I (by omega)]; exact b.2⟩, c.fr e (by omega), d.fr e ⟨by omega, fun j _ _ => by omega⟩, f.fr e (by omega), g.fr e ⟨by omega, fun j _ _ => by omega⟩, i.fr e (by omega)⟩
section PR
variable {E : zE} {d : Nat} {h : zS}
/-- what is to be shown of a public method: the class, then the model -/
abbrev zPair (E : zE) (mX mM : zM) (as : List zV) (h : zS) : Prop := zCi E 8 mX (vo 0 :: as) h (fun r h1 => zCi E 8 mM (vo 89 :: as) h1 (fun r' h2 => r = r' ∧ zGo h2))
theorem p_of {mX mM : zM} {as : List zV} {r : Int} {t : Nat} {S S' : zAb} (hS' : okS S') (wM : MInv h S)
    (hX : ∀ Q : Int → zS → Prop, (∀ h1 t', XInv h1 t' S' → zEq (fun c => 89 ≤ c) h h1 → Q r h1) → zCi E 8 mX (vo 0 :: as) h Q)
    (hM : ∀ (h1 : zS) (Q : Int → zS → Prop), MInv h1 S → (∀ h2, MInv h2 S' → zEq (fun c => c < 89) h1 h2 → Q r h2) → zCi E 8 mM (vo 89 :: as) h1 Q) : zPair E mX mM as h :=
  hX _ (fun h1 t' w e => hM h1 _ (wM.fr e) (fun h2 w2 e2 => ⟨rfl, t', S', hS', w.fr e2, w2⟩))
theorem c_has {k0 n : Nat} {x : Int} {Q : Int → zS → Prop} (hk0 : isCity k0) (hn : hI h k0 0 = (n : Int)) (HQ : Q (if 0 ≤ x ∧ x < n then 1 else 0) h) : zCi E d m_X0_has [vo k0, vi x] h Q := by
  refine v_X0_has hk0 ?_
  rw [hn]
  refine ⟨fun c => ?_, fun c => ⟨fun c2 => ?_, fun c2 => ?_⟩⟩
  · rw [if_neg (by omega)] at HQ; exact HQ
  · rw [if_neg (by omega)] at HQ; exact HQ
  · rw [if_pos ⟨c, c2⟩] at HQ; exact HQ
theorem c_M_isOne {n : Nat} {x : Int} {Q : Int → zS → Prop} (hn : hI h 89 29 = (n : Int)) (HQ : Q (if 0 ≤ x ∧ x < n then 1 else 0) h) : zCi E d m_X10_isOne [vo 89, vi x] h Q := by
  refine v_X10_isOne ?_
  rw [hn]
  refine ⟨fun c => ?_, fun c => ⟨fun c2 => ?_, fun c2 => ?_⟩⟩
  · rw [if_neg (by omega)] at HQ; exact HQ
  · rw [if_neg (by omega)] at HQ; exact HQ
  · rw [if_pos ⟨c, c2⟩] at HQ; exact HQ
theorem c_isBox {k0 i : Nat} {C : zCt} {Q : Int → zS → Prop} (hk0 : isCity k0) (hC : okC C) (wC : XCity h k0 C) (hi : i < cn C) (HQ : Q (if ckd C i = 3 then 1 else 0) h) : zCi E (d + 1) m_X0_isBox [vo k0, vi i] h Q := by
  refine v_X0_isBox hk0 ?_
  rw [wC.2.2.2.2.2.2.2.2.1]
  have := hC.1
  refine c_isIn (cbox_lt C) (by omega) ?_
  have e : (cbox C).testBit i = decide (ckd C i = 3) := by
    unfold cbox; rw [bset_t]
    have : i < 12 := by omega
    simp [this, hi]
  rw [e]
  by_cases c : ckd C i = 3
  · simp only [c, decide_true, if_true] at HQ ⊢; exact ⟨by simp, HQ⟩
  · simp only [c, decide_false, if_false, Bool.false_eq_true] at HQ ⊢; exact ⟨by simp, HQ⟩
theorem c_M_canFall {C : zCt} {x : Int} {Q : Int → zS → Prop} (hC : okC C) (wC : MCity h C) (HQ : Q (if 0 ≤ x ∧ x < cn C ∧ ckd C x.toNat ≠ 3 then 1 else 0) h) : zCi E (d + 1) m_X10_canFall [vo 89, vi x] h Q := by
  have := hC.1
  refine v_X10_canFall ?_
  refine c_M_isOne wC.1 ?_
  by_cases c : 0 ≤ x ∧ x < cn C
  · rw [if_pos c]
    refine ⟨fun e => by omega, fun _ => ⟨by omega, ?_⟩⟩
    rw [(wC.2.2.2.2.2.1 x.toNat (by omega)).1]
    by_cases c2 : ckd C x.toNat = 3
    · simp only [c, c2, true_and, ne_eq, not_true_eq_false, if_false] at HQ
      exact ⟨fun _ => HQ, fun e => absurd c2 e⟩
    · simp only [c, c2, true_and, ne_eq, not_false_eq_true, if_true] at HQ
      exact ⟨fun e => absurd e c2, fun _ => HQ⟩
  · rw [if_neg c]
    have n : ¬ (0 ≤ x ∧ x < cn C ∧ ckd C x.toNat ≠ 3) := fun q => c ⟨q.1, q.2.1⟩
    rw [if_neg n] at HQ
    exact ⟨fun _ => HQ, fun e => absurd rfl e⟩
end PR
