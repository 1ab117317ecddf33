/-! the same as functions of who was taken when, who is gone when -/
noncomputable def clS (n a s pr : Nat) (kf : Nat → Nat) : Nat := bset (fun q => @decide (clo n a s pr kf q) (Classical.propDecidable _))
theorem clS_is {n a s pr : Nat} {kf : Nat → Nat} (ha : a < 4096) : isCl n a s pr kf (clS n a s pr kf) := by
  refine ⟨bset_lt _, fun q => ?_⟩
  unfold clS
  rw [bset_t, Bool.and_eq_true, decide_eq_true_eq]
  refine ⟨fun h => @of_decide_eq_true _ (Classical.propDecidable _) h.2, fun h => ⟨?_, @decide_eq_true _ (Classical.propDecidable _) h⟩⟩
  refine Classical.byContradiction (fun hn => ?_)
  have := clo_a h
  rw [zb_big ha (by omega)] at this; cases this
theorem isCl_eq {n a s pr : Nat} {kf : Nat → Nat} {A : Nat} (ha : a < 4096) (h : isCl n a s pr kf A) : A = clS n a s pr kf := isCl_uniq h (clS_is ha)
theorem clS_t {n a s pr : Nat} {kf : Nat → Nat} (ha : a < 4096) (q : Nat) : (clS n a s pr kf).testBit q = true ↔ clo n a s pr kf q := (clS_is ha).2 q
/-- what a taking makes of who was taken when -/
def tkF (A : Nat) (day : Int) (T : Nat → Int) : Nat → Int := fun q => if A.testBit q then day else T q
/-- those who tell on a day -/
noncomputable def tlS (C : zCt) (T : Nat → Int) (day : Int) : Nat := bset (fun p => decide (p < cn C) && decide (0 ≤ T p) && !cprB C p && decide (T p + cho C p = day))
noncomputable def tellS (C : zCt) (kf : Nat → Nat) (day : Int) (T Gn : Nat → Int) : Nat := clS (cn C) (bset (thB (cn C) T Gn)) (orK (tlS C T day) kf (cn C)) (cpr C) kf
noncomputable def fTell (C : zCt) (kf : Nat → Nat) (day : Int) (T Gn : Nat → Int) : Nat → Int := tkF (tellS C kf day T Gn) day T
/-- those who go on a day -/
def flB (C : zCt) (kf : Nat → Nat) (day : Int) (T Gn : Nat → Int) (q : Nat) : Bool := thB (cn C) T Gn q && decide (ckd C q ≠ 2) && decide (ckd C q ≠ 3) && (List.range (cn C)).any (fun p => (kf q).testBit p && decide (0 ≤ T p) && decide (T p ≤ day - 1 - csl C q))
def fFlee (C : zCt) (kf : Nat → Nat) (day : Int) (T Gn : Nat → Int) : Nat → Int := fun q => if flB C kf day T Gn q then day else Gn q
theorem XFate_tk {h h1 : zS} {k0 n A : Nat} {T Gn : Nat → Int} {day : Int} (hn12 : n ≤ 12) (hd : 0 ≤ day) (w : XFate h k0 n T Gn) (hA : A < 4096) (hAa : ∀ q, A.testBit q = true → (bset (thB n T Gn)).testBit q = true) (g1 : hI h1 k0 0 = (nb (bset (thB n T Gn)) A : Nat)) (g2 : hI h1 k0 1 = (bset (seB n T) ||| A : Nat)) (g3 : ∀ i, i < n → hI h1 (k0 + 1) i = if A.testBit i then day else hI h (k0 + 1) i) : XFate h1 k0 n (tkF A day T) Gn := by
  have hAn : ∀ q, A.testBit q = true → q < n := by
    intro q hq
    have := hAa q hq
    rw [bset_t] at this
    simp only [thB, Bool.and_eq_true, decide_eq_true_eq] at this
    exact this.2.1.1
  refine ⟨?_, ?_, fun i hi => ?_⟩
  · rw [g1]
    congr 1
    apply nat_bits (zb_nblt (bset_lt _)) (bset_lt _)
    intro i hi
    rw [nb_t, bset_t, bset_t]
    simp only [hi, decide_true, Bool.true_and, thB, tkF]
    by_cases hq : A.testBit i = true
    · have : ¬ day < 0 := by omega
      simp [hq, this]
    · simp [hq]
  · rw [g2]
    congr 1
    apply nat_bits (zb_orlt (bset_lt _) hA) (bset_lt _)
    intro i hi
    rw [Nat.testBit_or, bset_t, bset_t]
    simp only [hi, decide_true, Bool.true_and, seB, tkF]
    by_cases hq : A.testBit i = true
    · have := hAn i hq
      simp [hq, this, hd]
    · simp [hq]
  · rw [g3 i hi, w.2.2 i hi]
    simp only [tkF]
    by_cases hq : A.testBit i = true
    · simp [hq, hd]
    · simp [hq]
theorem cpr_lt (C : zCt) : cpr C < 4096 := bset_lt _
theorem cst_lt (C : zCt) : cst C < 4096 := bset_lt _
theorem cbox_lt (C : zCt) : cbox C < 4096 := bset_lt _
theorem ckn_lt (C : zCt) (i : Nat) : ckn C i < 4096 := bset_lt _
section F2
variable {E : zE} {d : Nat} {h : zS}
theorem c_sawBy {k0 k1 n s : Nat} {x3 : Int} {Q : Int → zS → Prop} (hk0 : isFate k0) (hk1 : isCity k1) (hn : hI h k1 0 = (n : Int)) (hn12 : n ≤ 12) (hsl : s < 4096)
    (H1 : (∃ i, i < n ∧ s.testBit i = true ∧ hI h (k0 + 1) i ≤ x3) → Q 1 h) (H0 : (¬ ∃ i, i < n ∧ s.testBit i = true ∧ hI h (k0 + 1) i ≤ x3) → Q 0 h) : zCi E (d + 1) m_X4_sawBy [vo k0, vo k1, vi s, vi x3] h Q := by
  refine v_X4_sawBy hk0 hk1 ?_
  refine z_up (n := n) (fun i h2 => zWi E (d + 1) m_X4_sawBy 3 [vo k0, vo k1, vi s, vi x3, vi i] h2 Q) (fun i h2 => h2 = h ∧ ∀ j, j < i → s.testBit j = true → x3 < hI h (k0 + 1) j) ?_ ?_ 0 h (by omega) ⟨rfl, fun j hj => by omega⟩
  · rintro h2 ⟨rfl, w⟩
    refine r_X4_sawBy_3 hk0 hk1 ⟨fun _ => H0 ?_, fun c => ?_⟩
    · rintro ⟨i, h1, h2, h3⟩; have := w i h1 h2; omega
    · rw [hn] at c; omega
  · rintro i h2 hi ⟨rfl, w⟩ ih
    refine r_X4_sawBy_3 hk0 hk1 ⟨fun c => ?_, fun _ => ⟨fun c => H0 ?_, fun _ => ?_⟩⟩
    · rw [hn] at c; omega
    · rintro ⟨j, h1, h2, h3⟩
      have : s = 0 := by omega
      subst this; simp at h2
    · refine c_isIn hsl (by omega) ?_
      rw [w32s (by omega)]
      simp only [Int.toNat_natCast]
      by_cases c : s.testBit i = true
      · simp only [c, if_true]
        refine ⟨fun e => by omega, fun _ => ⟨by omega, fun c2 => ?_, fun c2 => H1 ⟨i, hi, c, c2⟩⟩⟩
        refine ih _ ⟨rfl, fun j hj hb => ?_⟩
        by_cases e : j = i
        · subst e; exact c2
        · exact w j (by omega) hb
      · simp only [c, if_false]
        refine ⟨fun _ => ih _ ⟨rfl, fun j hj hb => ?_⟩, fun e => absurd rfl e⟩
        by_cases e : j = i
        · subst e; exact absurd hb c
        · exact w j (by omega) hb
theorem c_tellOn {k0 k1 k2 : Nat} {C : zCt} {kf : Nat → Nat} {T Gn : Nat → Int} {x3 : Int} {Q : zS → Prop} (hk0 : isFate k0) (hk1 : isCity k1) (hk2 : zArr g0 k2 0 12) (h20 : k2 ≠ k0 ∧ k2 ≠ k0 + 1) (hC : okC C) (wC : XCity h k1 C) (wF : XFate h k0 (cn C) T Gn) (hT : ∀ i, i < cn C → T i < 100000) (hx : 0 ≤ x3 ∧ x3 < 100000) (hkf : ∀ i, i < cn C → hI h k2 i = (kf i : Int) ∧ kf i < 4096)
    (HQ : ∀ h1, XFate h1 k0 (cn C) (fTell C kf x3 T Gn) Gn → zEq (fun c => c ≠ k0 ∧ c ≠ k0 + 1) h h1 → Q h1) : zCv E (d + 3) m_X4_tellOn [vo k0, vo k1, vo k2, vi x3] h Q := by
  obtain ⟨f1, f2, f3⟩ := wF
  have hn := wC.1
  have hn12 := hC.1
  refine v_X4_tellOn hk0 hk1 hk2 ?_
  refine z_upS (σ := Nat) (n := cn C) (fun i a => zWv E (d + 2 + 1) m_X4_tellOn 6 [vo k0, vo k1, vo k2, vi x3, vi a, vi i] h Q) (fun i a => a = bset (fun p => decide (p < i) && (decide (p < cn C) && decide (0 ≤ T p) && !cprB C p && decide (T p + cho C p = x3)))) ?_ ?_ 0 0 (by omega) ?_
  · rintro a rfl
    refine r_X4_tellOn_6 hk0 hk1 hk2 ⟨fun _ => ?_, fun c => ?_⟩
    · have e : bset (fun p => decide (p < cn C) && (decide (p < cn C) && decide (0 ≤ T p) && !cprB C p && decide (T p + cho C p = x3))) = tlS C T x3 := bset_ext (fun i _ => by cases decide (i < cn C) <;> rfl)
      rw [e]
      refine c_knownToAny (n := cn C) (kf := kf) hk1 hk2 hn hn12 (bset_lt _) hkf ?_
      refine c_seize (n := cn C) (a := bset (thB (cn C) T Gn)) (z := bset (seB (cn C) T)) (pr := cpr C) (kf := kf) hk0 hk1 hk2 h20 hn hn12 f1 (bset_lt _) ?_ f2 (bset_lt _) (orK_lt _ (fun i hi => (hkf i hi).2)) wC.2.2.2.2.2.2.2.2.2.1 (bset_lt _) hkf ?_
      · intro q hq
        rw [bset_t] at hq
        simp only [thB, Bool.and_eq_true, decide_eq_true_eq] at hq
        exact hq.2.1.1
      · intro A h1 hA g1 g2 g3 g4
        have eA : A = tellS C kf x3 T Gn := isCl_eq (bset_lt _) hA
        refine HQ h1 ?_ g4
        have := XFate_tk hn12 hx.1 ⟨f1, f2, f3⟩ hA.1 (fun q hq => clo_a ((hA.2 q).mp hq)) g1 g2 g3
        rw [eA] at this
        exact this
    · rw [hn] at c; omega
  · rintro i a hi rfl ih
    have hs := ih _ rfl
    refine r_X4_tellOn_6 hk0 hk1 hk2 ⟨fun c => ?_, fun _ => ?_⟩
    · rw [hn] at c; omega
    · rw [f2, wC.2.2.2.2.2.2.2.2.2.1, zb_nb (zb_lt (bset_lt _)) (zb_lt (cpr_lt C))]
      refine c_isIn (zb_nblt (bset_lt _)) (by omega) ?_
      rw [w32s (by omega)]
      simp only [Int.toNat_natCast]
      have hi12 : i < 12 := by omega
      have eb : (nb (bset (seB (cn C) T)) (cpr C)).testBit i = (decide (0 ≤ T i) && !cprB C i) := by
        rw [nb_t, bset_t, cpr, bset_t]; simp [hi12, seB, hi]
      rw [eb, f3 i hi, (wC.2.2.2.2.2.1 i hi).2.2.1]
      have hcho := (hC.2.2.2.2.2.1 i hi).2.2.1
      have hTi := hT i hi
      have keep : (decide (0 ≤ T i) && !cprB C i && decide (T i + cho C i = x3)) = false → bset (fun p => decide (p < i + 1) && (decide (p < cn C) && decide (0 ≤ T p) && !cprB C p && decide (T p + cho C p = x3))) = bset (fun p => decide (p < i) && (decide (p < cn C) && decide (0 ≤ T p) && !cprB C p && decide (T p + cho C p = x3))) := by
        intro hf
        refine bset_ext (fun j _ => ?_)
        by_cases e : j = i
        · subst e
          have : (decide (j < cn C) && decide (0 ≤ T j) && !cprB C j && decide (T j + cho C j = x3)) = false := by
            simp only [hi, decide_true, Bool.true_and]; exact hf
          rw [this]; simp
        · have : decide (j < i + 1) = decide (j < i) := by apply decide_eq_decide.mpr; omega
          rw [this]
      by_cases c : (decide (0 ≤ T i) && !cprB C i) = true
      · simp only [c, if_true]
        have c0 : 0 ≤ T i := by simp only [Bool.and_eq_true, decide_eq_true_eq] at c; exact c.1
        simp only [c0, if_true]
        rw [w32_id (by omega) (by omega)]
        refine ⟨fun e => by omega, fun _ => ⟨by omega, fun c2 => ?_, fun c2 => ?_⟩⟩
        · rw [keep (by rw [c]; simp [c2])] at hs; exact hs
        · rw [zb_1 (by omega), zb_or (zb_lt (bset_lt _)) (by have := zb_2k hi12; omega)]
          have e : bset (fun p => decide (p < i + 1) && (decide (p < cn C) && decide (0 ≤ T p) && !cprB C p && decide (T p + cho C p = x3))) = bset (fun p => decide (p < i) && (decide (p < cn C) && decide (0 ≤ T p) && !cprB C p && decide (T p + cho C p = x3))) ||| 2 ^ i := by
            apply nat_bits (bset_lt _) (zb_orlt (bset_lt _) (zb_2k hi12))
            intro j hj
            rw [Nat.testBit_or, bset_t, bset_t, zb_t2]
            by_cases e : j = i
            · subst e
              have : (decide (j < cn C) && decide (0 ≤ T j) && !cprB C j && decide (T j + cho C j = x3)) = true := by
                simp only [hi, decide_true, Bool.true_and, c, c2]
              rw [this]; simp [hj]
            · have : decide (j < i + 1) = decide (j < i) := by apply decide_eq_decide.mpr; omega
              rw [this]; simp [Ne.symm e]
          rw [e] at hs; exact hs
      · have c' : (decide (0 ≤ T i) && !cprB C i) = false := by simpa using c
        simp only [c', if_false]
        refine ⟨fun _ => ?_, fun e => absurd rfl e⟩
        rw [keep (by rw [c']; rfl)] at hs; exact hs
  · apply nat_bits (by omega) (bset_lt _)
    intro j _
    rw [bset_t]; simp
end F2
