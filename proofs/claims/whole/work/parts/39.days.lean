/-! day by day -/
theorem bnf {b : Bool} (h : ¬ b = false) : b = true := by cases b <;> simp at h ⊢
noncomputable def fDay (C : zCt) (kf : Nat → Nat) (day : Int) (F : (Nat → Int) × (Nat → Int)) : (Nat → Int) × (Nat → Int) :=
  (fTell C kf day F.1 F.2, fFlee C kf day (fTell C kf day F.1 F.2) F.2)
noncomputable def fRun (C : zCt) (kf : Nat → Nat) (F : (Nat → Int) × (Nat → Int)) : Nat → (Nat → Int) × (Nat → Int)
  | 0 => F
  | n + 1 => fDay C kf ((n + 1 : Nat) : Int) (fRun C kf F n)
noncomputable def fA0 (C : zCt) (one : Nat) : Nat := clS (cn C) (bset (thB (cn C) (fun _ => -1) (fun _ => -1))) (2 ^ one) (cpr C) (ckn C)
noncomputable def fF0 (C : zCt) (one : Nat) : (Nat → Int) × (Nat → Int) := (tkF (fA0 C one) 0 (fun _ => -1), fun _ => -1)
noncomputable def fEnd (C : zCt) (one : Nat) : (Nat → Int) × (Nat → Int) := fRun C (ckn C) (fF0 C one) 400
theorem tellS_th {C : zCt} {kf : Nat → Nat} {day : Int} {T Gn : Nat → Int} {q : Nat} (h : (tellS C kf day T Gn).testBit q = true) : thB (cn C) T Gn q = true := by
  have := clo_a ((clS_t (bset_lt _) q).mp h)
  rw [bset_t, Bool.and_eq_true] at this
  exact this.2
theorem okF_tell {C : zCt} {kf : Nat → Nat} {n : Nat} {T Gn : Nat → Int} (h : okF (cn C) n T Gn) : okF (cn C) (n + 1) (fTell C kf ((n + 1 : Nat) : Int) T Gn) Gn := by
  intro i hi
  obtain ⟨a, b, c⟩ := h i hi
  unfold fTell tkF
  split
  · rename_i ht
    have := tellS_th ht
    simp only [thB, Bool.and_eq_true, decide_eq_true_eq] at this
    exact ⟨by omega, by omega, Or.inr this.2⟩
  · exact ⟨by omega, by omega, c⟩
theorem okF_flee {C : zCt} {kf : Nat → Nat} {n : Nat} {T Gn : Nat → Int} (h : okF (cn C) n T Gn) : okF (cn C) n T (fFlee C kf (n : Int) T Gn) := by
  intro i hi
  obtain ⟨a, b, c⟩ := h i hi
  unfold fFlee
  split
  · rename_i ht
    simp only [flB, thB, Bool.and_eq_true, decide_eq_true_eq] at ht
    exact ⟨a, by omega, Or.inl ht.1.1.1.1.2⟩
  · exact ⟨a, b, c⟩
theorem okF_day {C : zCt} {kf : Nat → Nat} {n : Nat} {F : (Nat → Int) × (Nat → Int)} (h : okF (cn C) n F.1 F.2) : okF (cn C) (n + 1) (fDay C kf ((n + 1 : Nat) : Int) F).1 (fDay C kf ((n + 1 : Nat) : Int) F).2 := okF_flee (okF_tell h)
theorem okF_run {C : zCt} {kf : Nat → Nat} {F : (Nat → Int) × (Nat → Int)} (h : okF (cn C) 0 F.1 F.2) : ∀ n, okF (cn C) n (fRun C kf F n).1 (fRun C kf F n).2
  | 0 => h
  | n + 1 => okF_day (okF_run h n)
theorem okF_0 (C : zCt) (one : Nat) : okF (cn C) 0 (fF0 C one).1 (fF0 C one).2 := by
  intro i hi
  unfold fF0 tkF
  simp only
  split
  · exact ⟨by omega, by omega, Or.inr (by omega)⟩
  · exact ⟨by omega, by omega, Or.inl (by omega)⟩
theorem chd_rng {C : zCt} (hC : okC C) {p : Nat} (hp : p < cn C) : 0 ≤ chd C p ∧ chd C p ≤ 9 := by
  unfold chd; split
  · omega
  · exact (hC.2.2.2.2.2.1 p hp).2.2.1
theorem chd_pr {C : zCt} {p : Nat} (hp : p < cn C) : chd C p = 0 ↔ cprB C p = true := by
  unfold chd cprB
  by_cases hk : ckd C p = 2
  · simp [hk, hp]
  · simp [hk, hp]
theorem mtS_tlS {C : zCt} {T : Nat → Int} {day : Int} (h : ∀ p, p < cn C → T p < day) : mtS C T day = tlS C T day := by
  refine bset_ext (fun p _ => ?_)
  by_cases hp : p < cn C
  · have hlt := h p hp
    by_cases hc : cprB C p = true
    · have := (chd_pr hp).mpr hc
      have e : ¬ T p + chd C p = day := by omega
      simp [hc, e]
    · have hk : ckd C p ≠ 2 := fun e => hc (by simp [cprB, hp, e])
      have : chd C p = cho C p := by unfold chd; rw [if_neg hk]
      rw [this]
      have hc' : cprB C p = false := by simpa using hc
      simp [hc']
  · simp [hp]
/-- on day 0: one is taken, and the prompt ones tell -/
theorem day0 {C : zCt} (hC : okC C) {one : Nat} (ho : one < cn C) (q : Nat) :
    tkF (clS (cn C) (bset (thB (cn C) (fun i => if i = one then 0 else -1) (fun _ => -1))) (orK (mtS C (fun i => if i = one then 0 else -1) 0) (ckn C) (cn C)) (cpr C) (ckn C)) 0 (fun i => if i = one then 0 else -1) q = (fF0 C one).1 q := by
  have hn12 := hC.1
  have a1 : ∀ q, (bset (thB (cn C) (fun i => if i = one then 0 else -1) (fun _ => -1))).testBit q = true ↔ q < cn C ∧ q ≠ one := by
    intro q
    rw [bset_t]
    by_cases e : q = one
    · simp [thB, e]
    · simp [thB, e]; omega
  have a0 : ∀ q, (bset (thB (cn C) (fun _ => -1) (fun _ => -1))).testBit q = true ↔ q < cn C := by
    intro q
    rw [bset_t]
    simp [thB]; omega
  have m1 : ∀ p, (mtS C (fun i => if i = one then 0 else -1) 0).testBit p = true ↔ p = one ∧ chd C one = 0 := by
    intro p
    unfold mtS
    rw [bset_t]
    by_cases e : p = one
    · subst e
      have : p < 12 := by omega
      simp [ho, this]
    · simp [e]
  have key : (clS (cn C) (bset (thB (cn C) (fun _ => -1) (fun _ => -1))) (2 ^ one) (cpr C) (ckn C)).testBit q = true ↔ q = one ∨ (clS (cn C) (bset (thB (cn C) (fun i => if i = one then 0 else -1) (fun _ => -1))) (orK (mtS C (fun i => if i = one then 0 else -1) 0) (ckn C) (cn C)) (cpr C) (ckn C)).testBit q = true := by
    rw [clS_t (bset_lt _), clS_t (bset_lt _)]
    have pr1 : (cpr C).testBit one = true ↔ chd C one = 0 := by
      unfold cpr; rw [bset_t, chd_pr ho]
      have : one < 12 := by omega
      simp [this]
    constructor
    · intro hq
      refine hq (fun q => q = one ∨ clo (cn C) (bset (thB (cn C) (fun i => if i = one then 0 else -1) (fun _ => -1))) (orK (mtS C (fun i => if i = one then 0 else -1) 0) (ckn C) (cn C)) (cpr C) (ckn C) q) (fun q hq => ?_) (fun p q hp h1 h2 h3 h4 => ?_)
      · rw [Nat.testBit_and, zb_t2, Bool.and_eq_true, decide_eq_true_eq] at hq
        exact Or.inl hq.1.symm
      · by_cases e : q = one
        · exact Or.inl e
        · right
          have h4' := (a1 q).mpr ⟨(a0 q).mp h4, e⟩
          rcases hp with hp | hp
          · subst hp
            refine clo_in ?_
            rw [Nat.testBit_and, h4', Bool.and_true]
            exact (orK_t _).mpr ⟨p, h2, (m1 p).mpr ⟨rfl, pr1.mp h1⟩, h3⟩
          · exact clo_st hp h1 h2 h3 h4'
    · have one0 : clo (cn C) (bset (thB (cn C) (fun _ => -1) (fun _ => -1))) (2 ^ one) (cpr C) (ckn C) one := by
        refine clo_in ?_
        rw [Nat.testBit_and, zb_t2, (a0 one).mpr ho]; simp
      rintro (hq | hq)
      · subst hq; exact one0
      · refine hq (fun q => clo (cn C) (bset (thB (cn C) (fun _ => -1) (fun _ => -1))) (2 ^ one) (cpr C) (ckn C) q) (fun q hq => ?_) (fun p q hp h1 h2 h3 h4 => clo_st hp h1 h2 h3 ((a0 q).mpr ((a1 q).mp h4).1))
        rw [Nat.testBit_and, Bool.and_eq_true, orK_t] at hq
        obtain ⟨⟨p, p1, p2, p3⟩, h4⟩ := hq
        obtain ⟨rfl, hc⟩ := (m1 p).mp p2
        exact clo_st one0 (pr1.mpr hc) p1 p3 ((a0 q).mpr ((a1 q).mp h4).1)
  show _ = tkF (fA0 C one) 0 (fun _ => -1) q
  unfold tkF fA0
  by_cases h1 : (clS (cn C) (bset (thB (cn C) (fun i => if i = one then 0 else -1) (fun _ => -1))) (orK (mtS C (fun i => if i = one then 0 else -1) 0) (ckn C) (cn C)) (cpr C) (ckn C)).testBit q = true
  · rw [if_pos h1, if_pos (key.mpr (Or.inr h1))]
  · rw [if_neg h1]
    show (if q = one then (0 : Int) else -1) = (if _ then (0 : Int) else -1)
    by_cases e : q = one
    · rw [if_pos e, if_pos (key.mpr (Or.inl e))]
    · rw [if_neg e, if_neg (fun z => (key.mp z).elim e h1)]
/-- nobody tells, nobody goes any more -/
theorem quiet {C : zCt} (hC : okC C) {kf : Nat → Nat} {F : (Nat → Int) × (Nat → Int)} {D L : Nat} (hD : 1 ≤ D) (hL : L + 10 ≤ D) (hT : ∀ p, p < cn C → (fRun C kf F D).1 p ≤ L) : ∀ e, D ≤ e → fRun C kf F e = fRun C kf F D := by
  have step : ∀ e, D ≤ e → fDay C kf ((e + 1 : Nat) : Int) (fRun C kf F D) = fRun C kf F D := by
    intro e he
    have t0 : tellS C kf ((e + 1 : Nat) : Int) (fRun C kf F D).1 (fRun C kf F D).2 = 0 := by
      apply nat_bits (clS_is (bset_lt _)).1 (by omega)
      intro i _
      rw [Nat.zero_testBit]
      refine Classical.byContradiction (fun hc => ?_)
      have hc : (tellS C kf ((e + 1 : Nat) : Int) (fRun C kf F D).1 (fRun C kf F D).2).testBit i = true := bnf hc
      have := (clS_t (bset_lt _) i).mp hc
      refine this (fun _ => False) (fun q hq => ?_) (fun _ _ h _ _ _ _ => h)
      rw [Nat.testBit_and, Bool.and_eq_true, orK_t] at hq
      obtain ⟨⟨p, p1, p2, -⟩, -⟩ := hq
      unfold tlS at p2
      rw [bset_t] at p2
      simp only [Bool.and_eq_true, decide_eq_true_eq] at p2
      have h1 := hT p p1
      have h2 := (hC.2.2.2.2.2.1 p p1).2.2.1
      have := p2.2.2
      omega
    have tE : fTell C kf ((e + 1 : Nat) : Int) (fRun C kf F D).1 (fRun C kf F D).2 = (fRun C kf F D).1 := by
      funext q; unfold fTell tkF; rw [t0]; simp
    unfold fDay
    rw [tE]
    have gE : fFlee C kf ((e + 1 : Nat) : Int) (fRun C kf F D).1 (fRun C kf F D).2 = (fRun C kf F D).2 := by
      funext q
      unfold fFlee
      have : flB C kf ((e + 1 : Nat) : Int) (fRun C kf F D).1 (fRun C kf F D).2 q = false := by
        refine Classical.byContradiction (fun hc => ?_)
        have hc : flB C kf ((e + 1 : Nat) : Int) (fRun C kf F D).1 (fRun C kf F D).2 q = true := by simpa using hc
        -- then q went on day D already
        obtain ⟨D', rfl⟩ : ∃ D', D = D' + 1 := ⟨D - 1, by omega⟩
        simp only [flB, thB, Bool.and_eq_true, decide_eq_true_eq, List.any_eq_true] at hc
        obtain ⟨⟨⟨⟨⟨hq, hTq⟩, hGq⟩, hk2⟩, hk3⟩, p, hp, ⟨hkp, hTp⟩, hlp⟩ := hc
        have hp := List.mem_range.mp hp
        have hsl := (hC.2.2.2.2.2.1 q hq).2.1
        have h1 := hT p hp
        have hG : (fRun C kf F (D' + 1)).2 q = if flB C kf ((D' + 1 : Nat) : Int) (fRun C kf F (D' + 1)).1 (fRun C kf F D').2 q then ((D' + 1 : Nat) : Int) else (fRun C kf F D').2 q := rfl
        by_cases hf : flB C kf ((D' + 1 : Nat) : Int) (fRun C kf F (D' + 1)).1 (fRun C kf F D').2 q = true
        · rw [hf] at hG; simp only [if_true] at hG; omega
        · have hG2 : (fRun C kf F D').2 q < 0 := by
            have hf' : flB C kf ((D' + 1 : Nat) : Int) (fRun C kf F (D' + 1)).1 (fRun C kf F D').2 q = false := by simpa using hf
            rw [hf'] at hG; simp only [Bool.false_eq_true, if_false] at hG; omega
          refine hf ?_
          simp only [flB, thB, Bool.and_eq_true, decide_eq_true_eq, List.any_eq_true]
          exact ⟨⟨⟨⟨⟨hq, hTq⟩, hG2⟩, hk2⟩, hk3⟩, p, List.mem_range.mpr hp, ⟨hkp, hTp⟩, by omega⟩
      rw [this]; rfl
    rw [gE]
  intro e he
  induction e with
  | zero => have : D = 0 := by omega
            omega
  | succ e ih =>
    by_cases h1 : D = e + 1
    · rw [h1]
    · have := ih (by omega)
      show fDay C kf ((e + 1 : Nat) : Int) (fRun C kf F e) = _
      rw [this]
      exact step e (by omega)
