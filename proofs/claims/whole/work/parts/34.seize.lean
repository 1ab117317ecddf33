/-! whom a taking takes: the least set -/
/-- out of those in a: all of s, and whom the prompt ones among the taken know -/
def clo (n a s pr : Nat) (kf : Nat → Nat) (q : Nat) : Prop :=
  ∀ A : Nat → Prop, (∀ q, (s &&& a).testBit q = true → A q) → (∀ p q, A p → pr.testBit p = true → p < n → (kf p).testBit q = true → a.testBit q = true → A q) → A q
def isCl (n a s pr : Nat) (kf : Nat → Nat) (A : Nat) : Prop := A < 4096 ∧ ∀ q, A.testBit q = true ↔ clo n a s pr kf q
theorem clo_in {n a s pr : Nat} {kf : Nat → Nat} {q : Nat} (h : (s &&& a).testBit q = true) : clo n a s pr kf q := fun A h1 _ => h1 q h
theorem clo_st {n a s pr : Nat} {kf : Nat → Nat} {p q : Nat} (hp : clo n a s pr kf p) (h1 : pr.testBit p = true) (h2 : p < n) (h3 : (kf p).testBit q = true) (h4 : a.testBit q = true) : clo n a s pr kf q := fun A a1 a2 => a2 p q (hp A a1 a2) h1 h2 h3 h4
theorem clo_a {n a s pr : Nat} {kf : Nat → Nat} {q : Nat} (h : clo n a s pr kf q) : a.testBit q = true :=
  h (fun q => a.testBit q = true) (fun q h => by rw [Nat.testBit_and, Bool.and_eq_true] at h; exact h.2) (fun _ _ _ _ _ _ h => h)
theorem isCl_uniq {n a s pr : Nat} {kf : Nat → Nat} {A B : Nat} (h1 : isCl n a s pr kf A) (h2 : isCl n a s pr kf B) : A = B :=
  nat_bits h1.1 h2.1 (fun i _ => by rw [Bool.eq_iff_iff, h1.2, h2.2])
/-- closed, and within: it is the least -/
theorem isCl_of {n a s pr : Nat} {kf : Nat → Nat} {A : Nat} (hl : A < 4096) (h1 : ∀ q, (s &&& a).testBit q = true → A.testBit q = true) (h2 : ∀ p q, A.testBit p = true → pr.testBit p = true → p < n → (kf p).testBit q = true → a.testBit q = true → A.testBit q = true) (h3 : ∀ q, A.testBit q = true → clo n a s pr kf q) : isCl n a s pr kf A :=
  ⟨hl, fun q => ⟨h3 q, fun h => h (fun q => A.testBit q = true) h1 h2⟩⟩
section SZ
variable {E : zE} {d : Nat} {h : zS}
theorem c_seize {k0 k1 k2 n a z s pr : Nat} {kf : Nat → Nat} {x4 : Int} {Q : Int → zS → Prop} (hk0 : isFate k0) (hk1 : isCity k1) (hk2 : zArr g0 k2 0 12) (h20 : k2 ≠ k0 ∧ k2 ≠ k0 + 1) (hn : hI h k1 0 = (n : Int)) (hn12 : n ≤ 12) (ha : hI h k0 0 = (a : Int)) (hal : a < 4096) (han : ∀ q, a.testBit q = true → q < n) (hz : hI h k0 1 = (z : Int)) (hzl : z < 4096) (hsl : s < 4096) (hpr : hI h k1 15 = (pr : Int)) (hprl : pr < 4096) (hkf : ∀ i, i < n → hI h k2 i = (kf i : Int) ∧ kf i < 4096)
    (HQ : ∀ A h1, isCl n a s pr kf A → hI h1 k0 0 = (nb a A : Nat) → hI h1 k0 1 = (z ||| A : Nat) → (∀ i, i < n → hI h1 (k0 + 1) i = if A.testBit i then x4 else hI h (k0 + 1) i) → zEq (fun c => c ≠ k0 ∧ c ≠ k0 + 1) h h1 → Q ((pc12 (z ||| A) : Int) - pc12 z) h1) : zCi E (d + 2) m_X4_seize [vo k0, vo k1, vo k2, vi s, vi x4] h Q := by
  have hap := fc_apart hk0 hk1 0 (by omega)
  simp only [Nat.add_zero] at hap
  refine v_X4_seize hk0 hk1 hk2 ?_
  rw [hz]
  refine c_bitCount hzl ?_
  rw [ha, zb_and (zb_lt hsl) (zb_lt hal)]
  -- the loop: A taken so far, f fresh
  refine z_ms (σ := Nat × Nat × Nat × zS) (fun q => zWi E (d + 1 + 1) m_X4_seize 20 [vo k0, vo k1, vo k2, vn, vi x4, vi (pc12 z : Int), vi (q.2.1 : Int), vi (q.2.2.1 : Int)] q.2.2.2 Q)
    (fun q => q.1 < 4096 ∧ q.2.1 < 4096 ∧ q.2.2.1 ≤ 12 ∧ pc12 (nb a q.1) + q.2.2.1 ≤ 12 ∧ (∀ i, q.1.testBit i = true → clo n a s pr kf i) ∧ (∀ i, q.2.1.testBit i = true → clo n a s pr kf i ∧ q.1.testBit i = false) ∧ (∀ i, (s &&& a).testBit i = true → q.1.testBit i = true ∨ q.2.1.testBit i = true) ∧ (∀ p i, q.1.testBit p = true → pr.testBit p = true → p < n → (kf p).testBit i = true → a.testBit i = true → q.1.testBit i = true ∨ q.2.1.testBit i = true) ∧ hI q.2.2.2 k0 0 = (nb a q.1 : Nat) ∧ hI q.2.2.2 k0 1 = (z ||| q.1 : Nat) ∧ (∀ i, i < n → hI q.2.2.2 (k0 + 1) i = if q.1.testBit i then x4 else hI h (k0 + 1) i) ∧ zEq (fun c => c ≠ k0 ∧ c ≠ k0 + 1) h q.2.2.2)
    (fun q => 12 - q.2.2.1) ?_ (0, s &&& a, 0, h) ?_
  · rintro ⟨A, f, r, h2⟩ ⟨w1, w2, w3, w4, w5, w6, w7, w8, w9, w10, w11, w12⟩ ih
    simp only at w1 w2 w3 w4 w5 w6 w7 w8 w9 w10 w11 w12 ⊢
    have hfin : f = 0 → zCi E (d + 1) m_J6_bitCount_0f7a4 [vi (hI h2 k0 1)] h2 (fun y2 h1 => Q (w32 (y2 - (pc12 z : Int))) h1) := by
      intro hf
      subst hf
      rw [w10]
      refine c_bitCount (zb_orlt hzl w1) ?_
      have p1 := pc_12 (z ||| A)
      have p2 := pc_12 z
      rw [w32_id (by omega) (by omega)]
      exact HQ A h2 (isCl_of w1 (fun q hq => by simpa using w7 q hq) (fun p q a1 a2 a3 a4 a5 => by simpa using w8 p q a1 a2 a3 a4 a5) w5) w9 w10 w11 w12
    refine r_X4_seize_20 hk0 hk1 hk2 ⟨fun c => ?_, fun c => ⟨fun c2 => ?_, fun c2 => ?_⟩⟩
    · refine hfin ?_
      have hr : r = 12 := by omega
      subst hr
      have : nb a A = 0 := pc_0 (zb_nblt hal) (by omega)
      apply nat_bits w2 (by omega)
      intro i hi
      rw [Nat.zero_testBit]
      refine Classical.byContradiction (fun hc => ?_)
      have hc : f.testBit i = true := by simpa using hc
      have e1 := clo_a (w6 i hc).1
      have e2 : (nb a A).testBit i = true := by rw [nb_t, e1, (w6 i hc).2]; rfl
      rw [this, Nat.zero_testBit] at e2; cases e2
    · exact hfin (by omega)
    · intro h5 e5
      rw [w10, zb_or (zb_lt (zb_orlt hzl w1)) (zb_lt w2)] at e5
      have hf0 : f ≠ 0 := by omega
      have hA' : A ||| f < 4096 := zb_orlt w1 w2
      have e5' : zEq (fun c => c ≠ k0 ∧ c ≠ k0 + 1) h h5 := by subst e5; exact w12.tr (zEq_I (fun q => q.1 rfl))
      refine c_remove (n := n) (a := nb a A) (s := f) hk0 hk1 (by rw [e5'.I hap]; exact hn) hn12 (by subst e5; rw [hI_stI, if_neg (by omega)]; exact w9) (zb_nblt hal) w2 ?_
      intro h6 g1 g2 g3 g4
      have e6 : zEq (fun c => c ≠ k0 ∧ c ≠ k0 + 1) h h6 := e5'.tr g4
      have enb : nb (nb a A) f = nb a (A ||| f) := by
        apply nat_bits (zb_nblt (zb_nblt hal)) (zb_nblt hal)
        intro i _
        simp only [nb_t, Nat.testBit_or]
        cases a.testBit i <;> cases A.testBit i <;> cases f.testBit i <;> rfl
      rw [enb] at g1
      rw [e6.I hap, hpr, zb_and (zb_lt w2) (zb_lt hprl)]
      refine c_knownToAny (n := n) (kf := kf) hk1 hk2 (by rw [e6.I hap]; exact hn) hn12 (zb_andlt w2) (fun i hi => ⟨by rw [e6.I h20]; exact (hkf i hi).1, (hkf i hi).2⟩) ?_
      rw [g1, zb_and (zb_lt (orK_lt n (fun i hi => (hkf i hi).2))) (zb_lt (zb_nblt hal)), w32s (by omega)]
      obtain ⟨i0, hi0, hb0⟩ := ne0_bit hf0 w2
      have hin : ∀ i, f.testBit i = true → i < 12 := fun i hi => Nat.lt_of_lt_of_le (han i (clo_a (w6 i hi).1)) hn12
      have hpcl : pc12 (nb a (A ||| f)) < pc12 (nb a A) := by
        refine pc_lt (fun i _ hb => ?_) hi0 ?_ ?_
        · rw [nb_t, Nat.testBit_or] at hb; rw [nb_t]
          cases ha1 : a.testBit i <;> cases hA1 : A.testBit i <;> simp [ha1, hA1] at hb ⊢
        · rw [nb_t, clo_a (w6 i0 hb0).1, (w6 i0 hb0).2]; rfl
        · rw [nb_t, Nat.testBit_or, hb0]; simp
      have hcl : ∀ i, (A ||| f).testBit i = true → clo n a s pr kf i := by
        intro i hi
        rw [Nat.testBit_or, Bool.or_eq_true] at hi
        rcases hi with hi | hi
        · exact w5 i hi
        · exact (w6 i hi).1
      refine ih (A ||| f, orK (f &&& pr) kf n &&& nb a (A ||| f), r + 1, h6) ⟨hA', zb_andlt (orK_lt n (fun i hi => (hkf i hi).2)), by simp only; omega, by simp only; omega, hcl, ?_, ?_, ?_, g1, ?_, ?_, e6⟩ (by simp only; omega)
      · intro i hi
        simp only at hi ⊢
        rw [Nat.testBit_and, Bool.and_eq_true, orK_t, nb_t] at hi
        obtain ⟨⟨p, p1, p2, p3⟩, q1⟩ := hi
        rw [Nat.testBit_and, Bool.and_eq_true] at p2
        rw [Bool.and_eq_true] at q1
        refine ⟨clo_st (w6 p p2.1).1 p2.2 p1 p3 q1.1, ?_⟩
        simpa using q1.2
      · intro i hi
        left
        simp only
        rw [Nat.testBit_or, Bool.or_eq_true]
        exact w7 i hi
      · intro p i a1 a2 a3 a4 a5
        simp only at a1 ⊢
        by_cases hc : (A ||| f).testBit i = true
        · exact Or.inl hc
        · right
          rw [Nat.testBit_or, Bool.or_eq_true] at a1
          have hAi : ¬ (A.testBit i = true ∨ f.testBit i = true) := by rw [← Bool.or_eq_true, ← Nat.testBit_or]; exact hc
          rcases a1 with a1 | a1
          · exact absurd (w8 p i a1 a2 a3 a4 a5) hAi
          · rw [Nat.testBit_and, Bool.and_eq_true, orK_t, nb_t]
            refine ⟨⟨p, a3, by rw [Nat.testBit_and, a1, a2]; rfl, a4⟩, ?_⟩
            simp only [a5, Bool.true_and]
            simpa using hc
      · rw [g2]; subst e5; rw [hI_stI]; simp only [and_self, if_true]
        rw [Nat.or_assoc]
      · intro i hi
        simp only
        rw [g3 i hi]
        have : hI h5 (k0 + 1) i = hI h2 (k0 + 1) i := by subst e5; rw [hI_stI, if_neg (by omega)]
        rw [this, w11 i hi, Nat.testBit_or]
        cases A.testBit i <;> cases f.testBit i <;> simp
  · simp only
    have e0 : nb a 0 = a := by
      apply nat_bits (zb_nblt hal) hal
      intro i _
      rw [nb_t]; simp
    refine ⟨by omega, zb_andlt hsl, by omega, by rw [e0]; have := pc_12 a; omega, fun i hi => by simp at hi, fun i hi => ⟨clo_in hi, by simp⟩, fun i hi => Or.inr hi, fun p i hi => by simp at hi, by rw [e0]; exact ha, by rw [hz]; simp, fun i hi => by simp, zEq.rf⟩
end SZ
