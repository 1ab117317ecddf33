/-! origins: the day is one; both sides -/
theorem orP_u {Y : zNt} {T : Nat → Int} {k y z : Int} {i : Nat} (a : orP Y T k y i) (b : orP Y T k z i) : y = z := by
  rcases a with ⟨a1, a2⟩ | ⟨a1, a2⟩ | ⟨a1, a2⟩ <;> rcases b with ⟨b1, b2⟩ | ⟨b1, b2⟩ | ⟨b1, b2⟩
  · omega
  · exact absurd (fun e he => b2 0 e he) (a2 0 (by omega))
  · exact absurd ((b2 z (by omega)).mpr rfl) (a2 z (by omega))
  · exact absurd (fun e he => a2 0 e he) (b2 0 (by omega))
  · omega
  · have := (b2 (z + 1) (by omega)).mp (fun e he => a2 _ e he); omega
  · exact absurd ((a2 y (by omega)).mpr rfl) (b2 y (by omega))
  · have := (a2 (y + 1) (by omega)).mp (fun e he => b2 _ e he); omega
  · exact (b2 y (by omega)).mp ((a2 y (by omega)).mpr rfl)
theorem orP_ex {C : zCt} {Y : zNt} {T : Nat → Int} {k : Int} (hY : okY C Y) : ∃ y, orP Y T k y (ec Y) := by
  by_cases A : ∃ e, e < ec Y ∧ ea Y 0 e = 1 ∧ eCt Y e k
  · obtain ⟨e0, h0, c0⟩ := A
    by_cases B : ∃ d, 0 ≤ d ∧ ∀ e, e < ec Y → orE Y T k d e
    · obtain ⟨d, hd, al⟩ := B
      have q := al e0 h0 c0
      have r := (hY.2.2 e0 h0).2.1
      refine ⟨d, .inr (.inr ⟨by omega, fun d' hd' => ⟨fun al' => ?_, fun e => by rw [e]; exact al⟩⟩)⟩
      have q' := al' e0 h0 c0
      omega
    · exact ⟨-1, .inl ⟨rfl, fun d hd al => B ⟨d, hd, al⟩⟩⟩
  · exact ⟨100, .inr (.inl ⟨rfl, fun d e he w => absurd ⟨e, he, w⟩ A⟩)⟩
noncomputable def orY (C : zCt) (Y : zNt) (k : Int) (one : Nat) : Int := @Classical.epsilon Int ⟨0⟩ (fun y => orP Y (fEnd C one).1 k y (ec Y))
theorem orY_s {C : zCt} {Y : zNt} {k : Int} {one : Nat} (hY : okY C Y) : orP Y (fEnd C one).1 k (orY C Y k one) (ec Y) := Classical.epsilon_spec (p := fun y => orP Y (fEnd C one).1 k y (ec Y)) (orP_ex hY)
def orU (s : Int × Nat × Int) (one : Nat) (y : Int) : Int × Nat × Int := if y = -1 then s else (s.1 + (if y ≠ 100 then 1 else 100), s.2.1 ||| 2 ^ one, if s.2.2 ≠ -1 then s.2.2 else 100 * (one : Int) + (if y ≠ 100 then y else 0))
noncomputable def orF (C : zCt) (Y : zNt) (k : Int) : Nat → Int × Nat × Int
  | 0 => (0, 0, -1)
  | i + 1 => if ckd C i = 3 then orF C Y k i else orU (orF C Y k i) i (orY C Y k i)
theorem orF_b {C : zCt} {Y : zNt} {k : Int} (hY : okY C Y) : ∀ i, i ≤ 12 → (0 ≤ (orF C Y k i).1 ∧ (orF C Y k i).1 ≤ 100 * (i : Int)) ∧ (orF C Y k i).2.1 < 4096 ∧ (-1 ≤ (orF C Y k i).2.2 ∧ (orF C Y k i).2.2 ≤ 1300)
  | 0, _ => ⟨⟨Int.le_refl _, by show (0 : Int) ≤ 100 * ((0 : Nat) : Int); omega⟩, by show (0 : Nat) < 4096; omega, by show (-1 : Int) ≤ -1; omega, by show (-1 : Int) ≤ 1300; omega⟩
  | i + 1, hi => by
    have ih := orF_b (C := C) (Y := Y) (k := k) hY i (by omega)
    have ys := orY_s (C := C) (k := k) (one := i) hY
    have yb : orY C Y k i = -1 ∨ orY C Y k i = 100 ∨ (0 ≤ orY C Y k i ∧ orY C Y k i ≤ 99) := by
      rcases ys with a | a | a
      · exact .inl a.1
      · exact .inr (.inl a.1)
      · exact .inr (.inr a.1)
    have e : orF C Y k (i + 1) = if ckd C i = 3 then orF C Y k i else orU (orF C Y k i) i (orY C Y k i) := rfl
    rw [e]
    generalize orY C Y k i = y at *
    generalize orF C Y k i = s at *
    by_cases k3 : ckd C i = 3
    · rw [if_pos k3]; exact ⟨by omega, ih.2.1, ih.2.2⟩
    · rw [if_neg k3]
      unfold orU
      by_cases c : y = -1
      · rw [if_pos c]; exact ⟨by omega, ih.2.1, ih.2.2⟩
      · rw [if_neg c]
        dsimp only
        refine ⟨?_, zb_orlt ih.2.1 (zb_2k (by omega)), ?_⟩
        · split <;> omega
        · split
          · omega
          · split <;> omega
