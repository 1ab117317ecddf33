/-! spies: both sides -/
noncomputable def cps (C : zCt) (i : Nat) : Nat := bset (fun j => decide (j < i) && decide (ckd C j ≠ 3))
def spG (C : zCt) (Y : zNt) (k : Int) (s : Nat) : Prop := nb s (cps C (cn C)) = 0 ∧ pc12 s ≤ 3 ∧ ∀ e, e < ec Y → spOk Y (clu C) k s e
/-- over the sets below i: how many can be, who is in all, who is in any -/
noncomputable def spF (C : zCt) (Y : zNt) (k : Int) : Nat → Nat × Nat × Nat
  | 0 => (0, cps C (cn C), 0)
  | i + 1 => @ite _ (spG C Y k i) (Classical.propDecidable _) ((spF C Y k i).1 + 1, (spF C Y k i).2.1 &&& i, (spF C Y k i).2.2 ||| i) (spF C Y k i)
theorem spF_y {C : zCt} {Y : zNt} {k : Int} {i : Nat} (g : spG C Y k i) : spF C Y k (i + 1) = ((spF C Y k i).1 + 1, (spF C Y k i).2.1 &&& i, (spF C Y k i).2.2 ||| i) := by
  show @ite _ _ (Classical.propDecidable _) _ _ = _
  exact if_pos g
theorem spF_n {C : zCt} {Y : zNt} {k : Int} {i : Nat} (g : ¬ spG C Y k i) : spF C Y k (i + 1) = spF C Y k i := by
  show @ite _ _ (Classical.propDecidable _) _ _ = _
  exact if_neg g
theorem cps_lt (C : zCt) (i : Nat) : cps C i < 4096 := bset_lt _
theorem spF_b (C : zCt) (Y : zNt) (k : Int) : ∀ i, i ≤ 4096 → (spF C Y k i).1 ≤ i ∧ (spF C Y k i).2.1 < 4096 ∧ (spF C Y k i).2.2 < 4096 ∧ ((spF C Y k i).1 = 0 → (spF C Y k i).2.1 = cps C (cn C))
  | 0, _ => ⟨Nat.le_refl _, cps_lt _ _, by show (0 : Nat) < 4096; omega, fun _ => rfl⟩
  | i + 1, hi => by
    have ih := spF_b C Y k i (by omega)
    by_cases g : spG C Y k i
    · rw [spF_y g]
      exact ⟨by show (spF C Y k i).1 + 1 ≤ i + 1; omega, zb_andlt ih.2.1, zb_orlt ih.2.2.1 (by omega), fun e => absurd e (by show (spF C Y k i).1 + 1 ≠ 0; omega)⟩
    · rw [spF_n g]
      exact ⟨by omega, ih.2.1, ih.2.2.1, ih.2.2.2⟩
theorem nb_sub {a b : Nat} (h : nb a b = 0) : ∀ i, a.testBit i = true → b.testBit i = true := by
  intro i hi
  have := nb_t a b i
  rw [h, Nat.zero_testBit, hi] at this
  cases hb : b.testBit i
  · rw [hb] at this; simp at this
  · rfl
theorem spG_le {C : zCt} {Y : zNt} {k : Int} {s : Nat} (g : spG C Y k s) : s ≤ cps C (cn C) := by
  have h := nb_sub g.1
  have e : s &&& cps C (cn C) = s := by
    apply Nat.eq_of_testBit_eq
    intro i
    rw [Nat.testBit_and]
    cases hq : s.testBit i
    · rfl
    · rw [h i hq]; rfl
  rw [← e]; exact Nat.and_le_right
theorem spF_up (C : zCt) (Y : zNt) (k : Int) : ∀ j, spF C Y k (cps C (cn C) + 1 + j) = spF C Y k (cps C (cn C) + 1)
  | 0 => rfl
  | j + 1 => by
    rw [← spF_up C Y k j]
    exact spF_n (i := cps C (cn C) + 1 + j) (fun g => by have := spG_le g; omega)
theorem cps_cev {C : zCt} (hn : cn C ≤ 12) : cps C (cn C) ≤ cev C := by
  have e : cps C (cn C) &&& cev C = cps C (cn C) := by
    apply Nat.eq_of_testBit_eq
    intro i
    unfold cps cev
    rw [Nat.testBit_and, bset_t, bset_t]
    by_cases c : i < cn C
    · have : i < 12 := by omega
      simp [c, this]
    · simp [c]
  rw [← e]; exact Nat.and_le_right
/-- within everybody: no box in it, or it is of persons alone -/
theorem spBx {C : zCt} {s : Nat} (hn : cn C ≤ 12) (hs : s ≤ cev C) : s &&& cbox C = 0 ↔ nb s (cps C (cn C)) = 0 := by
  have hs2 : ∀ i, s.testBit i = true → i < cn C := by
    intro i hi
    have h1 : s < 2 ^ cn C := by rw [← ev_cev C hn] at hs; have := Nat.one_le_two_pow (n := cn C); omega
    refine Classical.byContradiction (fun c => ?_)
    rw [Nat.testBit_lt_two_pow (Nat.lt_of_lt_of_le h1 (Nat.pow_le_pow_right (by omega) (by omega)))] at hi
    cases hi
  constructor
  · intro e
    apply Nat.eq_of_testBit_eq
    intro i
    have q := congrArg (fun z => z.testBit i) e
    simp only [Nat.testBit_and, Nat.zero_testBit] at q
    rw [nb_t, Nat.zero_testBit]
    cases hi : s.testBit i
    · rfl
    · have hc := hs2 i hi
      have h12 : i < 12 := by omega
      unfold cbox at q; unfold cps
      rw [bset_t, hi] at q
      rw [bset_t]
      by_cases k : ckd C i = 3
      · simp [h12, hc, k] at q
      · simp [h12, hc, k]
  · intro e
    have hb := nb_sub e
    apply Nat.eq_of_testBit_eq
    intro i
    rw [Nat.testBit_and, Nat.zero_testBit]
    cases hi : s.testBit i
    · rfl
    · have q := hb i hi
      unfold cps at q; unfold cbox
      rw [bset_t] at q
      rw [bset_t]
      simp only [Bool.and_eq_true, decide_eq_true_eq] at q
      simp [q.2.2]
