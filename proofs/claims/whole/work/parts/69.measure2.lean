/-! measure: the rounds -/
section ME
variable {E : zE} {d : Nat} {h : zS}
theorem c_measure {k0 k1 : Nat} {C : zCt} {N : zEn} {Q : zS → Prop} (hk0 : isEarnest k0) (hk1 : isCity k1) (hC : okC C) (wC : XCity h k1 C) (hN : okN C N) (wN : XEarn h k0 C N)
    (HQ : ∀ v h1, dOk C N v → (∀ i, i < cn C → hI h1 (k0 + 11) i = v i ∧ 0 ≤ v i ∧ v i ≤ 1000000) → zEq (fun c => c ≠ k0 + 11) h h1 → Q h1) : zCv E (d + 3) m_X1_measure [vo k0, vo k1] h Q := by
  have hn12 := hC.1
  have kd : k1 + 10 ≤ 24 := (city_lt hk1).2
  have k34 : 34 ≤ k0 := by unfold isEarnest at hk0; omega
  have kf := (earn_f hk0).1
  have fC : ∀ h2, zEq (fun c => c ≠ k0 + 11) h h2 → hI h2 k1 0 = (cn C : Int) ∧ hI h2 k1 3 = cse C := fun h2 e => ⟨by rw [e.I (by omega)]; exact wC.1, by rw [e.I (by omega)]; exact wC.2.2.2.1⟩
  have fN : ∀ h2, zEq (fun c => c ≠ k0 + 11) h h2 → XEarn h2 k0 C N := fun h2 e => wN.fr e (fun j hj => by omega)
  refine v_X1_measure hk0 hk1 ?_
  refine c_fillI (gaEarnest_5 hk0) (by omega) ?_
  intro h1 f1 f2
  rw [(fC h1 f2).2]
  refine c_has hk1 (fC h1 f2).1 ?_
  have far : (¬ ∃ z : Nat, cse C = z ∧ z < cn C ∧ thN C N z = true) → Q h1 := fun nz => HQ (fun _ => 1000000) h1 (.inr ⟨nz, fun _ _ => rfl⟩) (fun i hi => ⟨f1 i (by omega), by omega, by omega⟩) f2
  by_cases c : 0 ≤ cse C ∧ cse C < cn C
  · rw [if_pos c]
    refine ⟨fun e => by omega, fun _ => ?_⟩
    rw [(fC h1 f2).2]
    obtain ⟨z, hz⟩ : ∃ z : Nat, cse C = z := ⟨(cse C).toNat, by omega⟩
    rw [hz]
    have zn : z < cn C := by omega
    refine c_isThere kf (fN h1 f2).2.1.1 (bset_lt _) (by omega) ?_
    rw [thN_t hn12 zn]
    cases tz : thN C N z with
    | false =>
      refine ⟨fun e => absurd rfl e, fun _ => far ?_⟩
      rintro ⟨y, y1, y2, y3⟩
      have : y = z := by omega
      rw [this, tz] at y3; cases y3
    | true =>
    refine ⟨fun _ => ?_, fun e => by simp at e⟩
    rw [(fC h1 f2).2, hz]
    refine ⟨by omega, ?_⟩
    intro h7 x7
    rw [Int.toNat_natCast] at x7
    obtain ⟨v7, n7, q7⟩ := st_cp x7
    clear x7
    obtain ⟨D, hD⟩ := isD_ex (n := cn C) (W := dW C N) (z := z) (F := 1000000) (sD (fun i => if i = z then 0 else 1000000) (cn C) + 1) _ vD_0 (by omega)
    have fin : ∀ v h2, isD (cn C) (dW C N) z 1000000 v → (∀ i, i < cn C → hI h2 (k0 + 11) i = v i) → zEq (fun c => c ≠ k0 + 11) h h2 → Q h2 := fun v h2 a1 a2 a3 => HQ v h2 (.inl ⟨z, hz, zn, tz, a1⟩) (fun i hi => ⟨a2 i hi, a1.2.1 i hi⟩) a3
    refine z_ms (σ := Nat × Int × (Nat → Int) × zS) (fun s => zWv E (d + 2 + 1) m_X1_measure 49 [vo k0, vo k1, vi s.2.1, vi (s.1 : Int), vn, vn] s.2.2.2 Q)
      (fun s => s.1 ≤ 12 ∧ (s.2.1 = 0 ∨ s.2.1 = 1) ∧ vD (cn C) (dW C N) z 1000000 s.2.2.1 ∧ (∀ i, i < cn C → hI s.2.2.2 (k0 + 11) i = s.2.2.1 i) ∧ zEq (fun c => c ≠ k0 + 11) h s.2.2.2 ∧ (s.2.1 = 0 → isD (cn C) (dW C N) z 1000000 s.2.2.1) ∧ (nf (cn C) D s.2.2.1 = 0 ∨ pc12 (nf (cn C) D s.2.2.1) + s.1 ≤ 12))
      (fun s => 12 - s.1) ?_ (0, 1, (fun i => if i = z then 0 else 1000000), h7) ?_
    · rintro ⟨r, m, v, h2⟩ ⟨w1, w2, w3, w4, w5, w6, w7⟩ ih
      dsimp only at w1 w2 w3 w4 w5 w6 w7 ih ⊢
      refine r_X1_measure_49 hk0 hk1 ⟨fun c => ?_, fun c => ⟨fun c2 => ?_, fun c2 => ?_⟩⟩
      · have nz : nf (cn C) D v = 0 := by
          rcases w7 with q | q
          · exact q
          · exact pc_0 (bset_lt _) (by omega)
        have eq : ∀ i, i < cn C → v i = D i := fun i hi => nf_0 hn12 nz hi
        refine fin v h2 (isD_of w3 (fun a b ha hb hw hf => ?_)) w4 w5
        rw [eq a ha, eq b hb] at *
        exact hD.2.2.1 a b ha hb hw hf
      · exact fin v h2 (w6 c2) w4 w5
      · refine z_upS (σ := Int × (Nat → Int) × zS) (n := cn C) (fun i s => zWv E (d + 2 + 1) m_X1_measure 64 [vo k0, vo k1, vi s.1, vi (r : Int), vi i, vn] s.2.2 Q)
          (fun i s => (s.1 = 0 ∨ s.1 = 1) ∧ vD (cn C) (dW C N) z 1000000 s.2.1 ∧ (∀ i, i < cn C → hI s.2.2 (k0 + 11) i = s.2.1 i) ∧ zEq (fun c => c ≠ k0 + 11) h s.2.2 ∧ (∀ a, a < cn C → s.2.1 a ≤ v a) ∧ (s.1 = 0 → ∀ a, a < cn C → s.2.1 a = v a) ∧ ∀ a b, a < i → a < cn C → b < cn C → 0 < dW C N a b → v b < 1000000 → s.2.1 a ≤ dW C N a b + v b) ?_ ?_ 0 (0, v, h2) (by omega) ⟨.inl rfl, w3, w4, w5, fun a _ => Int.le_refl _, fun _ a _ => rfl, fun a b ha => by omega⟩
        · rintro ⟨m', v', h3⟩ ⟨u1, u2, u3, u4, u5, u6, u7⟩
          dsimp only at u1 u2 u3 u4 u5 u6 u7 ⊢
          refine r_X1_measure_64 hk0 hk1 ⟨fun _ => ?_, fun c => by rw [(fC h3 u4).1] at c; omega⟩
          rw [w32s (by omega)]
          have rr : rD (cn C) (dW C N) 1000000 v v' := ⟨u5, fun a b ha hb hw hf => u7 a b ha ha hb hw hf⟩
          refine ih (r + 1, m', v', h3) ⟨by dsimp only; omega, u1, u2, u3, u4, fun m0 => ?_, ?_⟩ (by dsimp only; omega)
          · refine isD_of u2 (fun a b ha hb hw hf => ?_)
            have q := u7 a b ha ha hb hw (by rw [← u6 m0 b hb]; exact hf)
            have e := u6 m0 b hb
            dsimp only
            omega
          · dsimp only
            rcases nf_down hn12 zn hD w3 u2 rr with q | q
            · left
              apply nat_bits (bset_lt _) (by omega)
              intro i hi
              cases qq : (nf (cn C) D v').testBit i
              · rw [Nat.zero_testBit]; exact qq
              · have := (nf_t hn12).mp qq
                have e1 := nf_0 hn12 q this.1
                have e2 := isD_lv hD u2 this.1
                have e3 := u5 i this.1
                exact absurd (by omega) this.2
            · rcases w7 with q2 | q2
              · rw [q2] at q
                have : pc12 0 = 0 := by rw [pc12_eq]; rfl
                omega
              · right; omega
        · rintro i ⟨m', v', h3⟩ hi ⟨u1, u2, u3, u4, u5, u6, u7⟩ ih2
          dsimp only at u1 u2 u3 u4 u5 u6 u7 ih2 ⊢
          refine r_X1_measure_64 hk0 hk1 ⟨fun c => by rw [(fC h3 u4).1] at c; omega, fun _ => ?_⟩
          rw [w32s (by omega)]
          have vi' := u2.2.1 i hi
          refine c_isThere kf (fN h3 u4).2.1.1 (bset_lt _) (by omega) ?_
          rw [thN_t hn12 hi]
          have same : (∀ b, b < cn C → 0 < dW C N i b → v b < 1000000 → v' i ≤ dW C N i b + v b) → zWv E (d + 2 + 1) m_X1_measure 64 [vo k0, vo k1, vi m', vi (r : Int), vi ((i + 1 : Nat) : Int), vn] h3 Q := fun al => ih2 (m', v', h3) ⟨u1, u2, u3, u4, u5, u6, fun a b hai ha hb hw hf => by
            by_cases e : a = i
            · rw [e] at hw ⊢; exact al b hb hw hf
            · exact u7 a b (by omega) ha hb hw hf⟩
          cases ti : thN C N i with
          | false =>
            refine ⟨fun _ => ⟨by omega, ?_⟩, fun e => absurd rfl e⟩
            simp only [Int.toNat_natCast]
            rw [u3 i hi]
            refine ⟨fun _ => same (fun b hb hw _ => ?_), fun c => by omega⟩
            have := (dW_pos hw).1
            rw [ti] at this; cases this
          | true =>
            refine ⟨fun e => by simp at e, fun _ => ?_⟩
            refine c_leastBy hk0 hk1 hC (fC h3 u4).1 hN (fN h3 u4) (v := v') (fun j hj => ⟨u3 j hj, u2.2.1 j hj⟩) hi ?_
            intro y y1 y2 y3
            refine ⟨by omega, ?_⟩
            simp only [Int.toNat_natCast]
            rw [u3 i hi]
            have yb : ∀ b, b < cn C → 0 < dW C N i b → v b < 1000000 → y ≤ dW C N i b + v b := fun b hb hw _ => by
              have q := y2 b hb
              rw [dW_by hw] at q
              have := u5 b hb
              omega
            refine ⟨fun c => same (fun b hb hw hf => Int.le_trans c (yb b hb hw hf)), fun c => ?_⟩
            rcases y3 with y3 | ⟨b, hb, y3⟩
            · omega
            · obtain ⟨e1, e2⟩ := by_dW (v := v') (b := b) ti (by omega)
              have vb := u2.2.1 b hb
              have up := vD_up u2 hi hb e1 (by omega) (by omega)
              rw [← e2, ← y3] at up
              intro h8 x8
              obtain ⟨v8, n8, q8⟩ := st_cp x8
              clear x8
              refine ih2 (1, (fun c => if c = i then y else v' c), h8) ⟨.inr rfl, up, fun j hj => ?_, u4.tr q8, fun a ha => ?_, fun e => by omega, fun a b' hai ha hb' hw hf => ?_⟩
              · dsimp only
                by_cases e : j = i
                · rw [if_pos e, e, v8]
                · rw [if_neg e, n8 _ _ (fun q => e q.2)]; exact u3 j hj
              · dsimp only
                have := u5 a ha
                by_cases e : a = i
                · rw [if_pos e]; rw [e] at this ⊢; omega
                · rw [if_neg e]; exact this
              · dsimp only
                by_cases e : a = i
                · rw [if_pos e]; rw [e] at hw ⊢; exact yb b' hb' hw hf
                · rw [if_neg e]; exact u7 a b' (by omega) ha hb' hw hf
    · dsimp only
      refine ⟨by omega, .inr rfl, vD_0, fun i hi => ?_, f2.tr q7, fun e => by omega, .inr (by have := pc_12 (nf (cn C) D (fun i => if i = z then 0 else 1000000)); omega)⟩
      by_cases e : i = z
      · rw [if_pos e, e, v7]
      · rw [if_neg e, n7 _ _ (fun q => e q.2)]; exact f1 i (by omega)
  · rw [if_neg c]
    refine ⟨fun _ => far ?_, fun e => absurd rfl e⟩
    rintro ⟨z, z1, z2, _⟩
    omega
end ME
