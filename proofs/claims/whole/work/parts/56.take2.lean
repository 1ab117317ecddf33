/-! take: the loop of the model -/
section T2
variable {E : zE} {d : Nat} {h : zS}
theorem c_M_takeL {C : zCt} {one : Nat} {kf : Nat → Nat} {T Gn : Nat → Int} {day : Int} {Q : Int → zS → Prop} (hC : okC C) (wC : MCity h C) (ho : one < cn C) (hth : thB (cn C) T Gn one = true) (wF : MFate h (cn C) (tkF (2 ^ one) day T) Gn kf) (w5 : ∀ i, i < cn C → hI h 115 i = T i) (hday : hI h 89 54 = day) (hx : 0 ≤ day ∧ day < 100000) (hkl : ∀ i, i < cn C → kf i < 4096)
    (HQ : ∀ h1, MFate h1 (cn C) (tkF (clS (cn C) (bset (thB (cn C) T Gn)) (2 ^ one) (cpr C) kf) day T) Gn kf → zEq (fun c => c ≠ 112) h h1 → zCv E d m_X10_takeBack [vo 89] h1 (fun h2 => Q (pc12 (clS (cn C) (bset (thB (cn C) T Gn)) (2 ^ one) (cpr C) kf) : Nat) h2)) : zWi E (d + 1) m_X10_take 36 [vo 89, vn, vi 1, vi 1, vn, vn] h Q := by
  have hn12 := hC.1
  have o12 : one < 12 := by omega
  have bC : ∀ h2, zEq (fun c => c ≠ 112) h h2 → MCity h2 C := fun h2 e => wC.fr e (by omega)
  have bn : ∀ h2, zEq (fun c => c ≠ 112) h h2 → hI h2 89 29 = (cn C : Int) := fun h2 e => (bC h2 e).1
  have bd : ∀ h2, zEq (fun c => c ≠ 112) h h2 → hI h2 89 54 = day := fun h2 e => by rw [e.I (by omega)]; exact hday
  have b5 : ∀ h2, zEq (fun c => c ≠ 112) h h2 → ∀ i, i < cn C → hI h2 115 i = T i := fun h2 e i hi => by rw [e.I (by omega)]; exact w5 i hi
  have p1 : pc12 (2 ^ one) = 1 := by
    have := pc_or (a := 0) (q := one) (Nat.zero_testBit _) o12
    rw [Nat.zero_or] at this
    rw [this, pc12_eq]; rfl
  have z1 : ([vo 89, vn, vi 1, vi 1, vn, vn] : List zV) = [vo 89, vn, vi ((pc12 (2 ^ one) : Nat) : Int), vi 1, vn, vn] := by rw [p1]; rfl
  rw [z1]
  generalize hclo : clo (cn C) (bset (thB (cn C) T Gn)) (2 ^ one) (cpr C) kf = cl at *
  have cth : ∀ i, cl i → i < cn C ∧ T i < 0 ∧ Gn i < 0 := by
    intro i hi
    rw [← hclo] at hi
    have := clo_a hi
    rw [bset_t] at this
    simp only [thB, Bool.and_eq_true, decide_eq_true_eq] at this
    exact ⟨this.2.1.1, this.2.1.2, this.2.2⟩
  refine z_ms (σ := Nat × Int × zS) (fun q => zWi E (d + 1) m_X10_take 36 [vo 89, vn, vi (pc12 q.1 : Int), vi q.2.1, vn, vn] q.2.2 Q)
    (fun q => q.1 < 4096 ∧ q.1.testBit one = true ∧ (∀ i, q.1.testBit i = true → cl i) ∧ MFate q.2.2 (cn C) (tkF q.1 day T) Gn kf ∧ zEq (fun c => c ≠ 112) h q.2.2 ∧ (q.2.1 = 0 ∨ q.2.1 = 1) ∧ (q.2.1 = 0 → ∀ p, p < cn C → q.1.testBit p = true → chd C p = 0 → ∀ i, i < cn C → (kf p).testBit i = true → ¬ (tkF q.1 day T i < 0 ∧ Gn i < 0)))
    (fun q => 2 * (12 - pc12 q.1) + q.2.1.toNat) ?_ (2 ^ one, 1, h) ?_
  · rintro ⟨A, m, h2⟩ ⟨w1, w1', w2, w3, w4, w5', w6⟩ ih
    dsimp only at w1 w1' w2 w3 w4 w5' w6 ih ⊢
    refine r_X10_take_36 ⟨fun c => ?_, fun c => ?_⟩
    · have hcl : isCl (cn C) (bset (thB (cn C) T Gn)) (2 ^ one) (cpr C) kf A := by
        refine isCl_of w1 (fun q hq => ?_) (fun p q a1 a2 a3 a4 a5 => ?_) (fun q hq => by rw [hclo]; exact w2 q hq)
        · rw [Nat.testBit_and, Bool.and_eq_true, zb_t2, decide_eq_true_eq] at hq
          rw [← hq.1]; exact w1'
        · refine Classical.byContradiction (fun hA => ?_)
          rw [bset_t] at a5
          simp only [thB, Bool.and_eq_true, decide_eq_true_eq] at a5
          have e1 : tkF A day T q = T q := by unfold tkF; rw [if_neg hA]
          have e3 : chd C p = 0 := by
            unfold cpr at a2; rw [bset_t] at a2
            simp only [Bool.and_eq_true] at a2
            exact (chd_pr a3).mpr a2.2
          exact w6 c p a3 a1 e3 q a5.2.1.1 a4 ⟨by rw [e1]; exact a5.2.1.2, a5.2.2⟩
      have e := isCl_eq (bset_lt _) hcl
      rw [e]
      refine HQ h2 ?_ w4
      rw [← e]; exact w3
    · have hm : m = 1 := by omega
      subst hm
      refine z_upS (σ := Nat × Int × zS) (n := cn C) (fun i q => zWi E (d + 1) m_X10_take 45 [vo 89, vn, vi (pc12 q.1 : Int), vi q.2.1, vi i, vn] q.2.2 Q)
        (fun i q => q.1 < 4096 ∧ q.1.testBit one = true ∧ (∀ i, q.1.testBit i = true → cl i) ∧ MFate q.2.2 (cn C) (tkF q.1 day T) Gn kf ∧ zEq (fun c => c ≠ 112) h q.2.2 ∧ ((q.2.1 = 0 ∧ pc12 A ≤ pc12 q.1) ∨ (q.2.1 = 1 ∧ pc12 A < pc12 q.1)) ∧ (q.2.1 = 0 → ∀ p, p < i → q.1.testBit p = true → chd C p = 0 → ∀ i, i < cn C → (kf p).testBit i = true → ¬ (tkF q.1 day T i < 0 ∧ Gn i < 0))) ?_ ?_ 0 (A, 0, h2) (by omega) ⟨w1, w1', w2, w3, w4, Or.inl ⟨rfl, Nat.le_refl _⟩, fun _ p hp => by omega⟩
      · rintro ⟨B, m, h3⟩ ⟨v1, v1', v2, v3, v4, v5, v6⟩
        dsimp only at v1 v1' v2 v3 v4 v5 v6 ⊢
        refine r_X10_take_45 ⟨fun _ => ?_, fun c => ?_⟩
        · refine ih (B, m, h3) ⟨v1, v1', v2, v3, v4, by dsimp only; omega, v6⟩ ?_
          dsimp only
          have := pc_12 B
          rcases v5 with ⟨e, hl⟩ | ⟨e, hl⟩ <;> subst e <;> omega
        · rw [bn h3 v4] at c; omega
      · rintro p ⟨B, m, h3⟩ hp ⟨v1, v1', v2, v3, v4, v5, v6⟩ ihp
        dsimp only at v1 v1' v2 v3 v4 v5 v6 ihp ⊢
        refine r_X10_take_45 ⟨fun c => ?_, fun _ => ⟨by omega, ?_⟩⟩
        · rw [bn h3 v4] at c; omega
        · rw [w32s (by omega)]
          simp only [Int.toNat_natCast]
          rw [(v3 p hp).1, bd h3 v4, b5 h3 v4 p hp]
          have skip : ¬ (B.testBit p = true ∧ chd C p = 0) → zWi E (d + 1) m_X10_take 45 [vo 89, vn, vi (pc12 B : Int), vi m, vi ((p + 1 : Nat) : Int), vn] h3 Q := by
            intro hs
            refine ihp (B, m, h3) ⟨v1, v1', v2, v3, v4, v5, fun hm p' hp' a1 a2 => ?_⟩
            by_cases e : p' = p
            · subst e; exact absurd ⟨a1, a2⟩ hs
            · exact v6 hm p' (by omega) a1 a2
          refine ⟨fun c => skip (fun q => c (by unfold tkF; rw [if_pos q.1])), fun c => ⟨fun c2 => skip (fun q => by have := (cth p (v2 p q.1)).2.1; omega), fun c2 => ?_⟩⟩
          refine c_M_holdOf (bC h3 v4) hC hp ?_
          have hch := chd_rng hC hp
          refine ⟨fun c3 => ?_, fun c3 => skip (by omega)⟩
          have hBp : B.testBit p = true := by
            cases hq : B.testBit p
            · have : tkF B day T p = T p := by unfold tkF; rw [hq]; rfl
              omega
            · rfl
          have hc0 : chd C p = 0 := by omega
          refine z_upS (σ := Nat × Int × zS) (n := cn C) (fun i q => zWi E (d + 1) m_X10_take 93 [vo 89, vn, vi (pc12 q.1 : Int), vi q.2.1, vi p, vi i] q.2.2 Q)
            (fun i q => q.1 < 4096 ∧ q.1.testBit one = true ∧ (∀ i, q.1.testBit i = true → cl i) ∧ MFate q.2.2 (cn C) (tkF q.1 day T) Gn kf ∧ zEq (fun c => c ≠ 112) h q.2.2 ∧ ((q.2.1 = 0 ∧ pc12 A ≤ pc12 q.1) ∨ (q.2.1 = 1 ∧ pc12 A < pc12 q.1)) ∧ q.1.testBit p = true ∧ (q.2.1 = 0 → (∀ p', p' < p → q.1.testBit p' = true → chd C p' = 0 → ∀ i, i < cn C → (kf p').testBit i = true → ¬ (tkF q.1 day T i < 0 ∧ Gn i < 0)) ∧ ∀ j, j < i → (kf p).testBit j = true → ¬ (tkF q.1 day T j < 0 ∧ Gn j < 0))) ?_ ?_ 0 (B, m, h3) (by omega) ⟨v1, v1', v2, v3, v4, v5, hBp, fun hm => ⟨v6 hm, fun j hj => by omega⟩⟩
          · rintro ⟨D, m2, h4⟩ ⟨u1, u1', u2, u3, u4, u5, u6, u7⟩
            dsimp only at u1 u1' u2 u3 u4 u5 u6 u7 ⊢
            refine r_X10_take_93 ⟨fun _ => ?_, fun c => ?_⟩
            · rw [w32s (by omega)]
              refine ihp (D, m2, h4) ⟨u1, u1', u2, u3, u4, u5, fun hm p' hp' a1 a2 i hi => ?_⟩
              by_cases e : p' = p
              · subst e; exact (u7 hm).2 i hi
              · exact (u7 hm).1 p' (by omega) a1 a2 i hi
            · rw [bn h4 u4] at c; omega
          · rintro i ⟨D, m2, h4⟩ hi ⟨u1, u1', u2, u3, u4, u5, u6, u7⟩ ihi
            dsimp only at u1 u1' u2 u3 u4 u5 u6 u7 ihi ⊢
            refine r_X10_take_93 ⟨fun c => ?_, fun _ => ⟨by omega, ?_⟩⟩
            · rw [bn h4 u4] at c; omega
            · simp only [Int.toNat_natCast]
              rw [(u3 p hp).2.2, zb_bit (zb_lt (hkl p hp)) (by omega), w32s (by omega)]
              have skip2 : ¬ ((kf p).testBit i = true ∧ (tkF D day T i < 0 ∧ Gn i < 0)) → zWi E (d + 1) m_X10_take 93 [vo 89, vn, vi (pc12 D : Int), vi m2, vi p, vi ((i + 1 : Nat) : Int)] h4 Q := by
                intro hs
                refine ihi (D, m2, h4) ⟨u1, u1', u2, u3, u4, u5, u6, fun hm => ⟨(u7 hm).1, fun j hj hb => ?_⟩⟩
                by_cases e : j = i
                · subst e; exact fun q => hs ⟨hb, q⟩
                · exact (u7 hm).2 j (by omega) hb
              by_cases hb : (kf p).testBit i = true
              · simp only [hb, if_true]
                refine ⟨fun e => by omega, fun _ => ?_⟩
                refine c_M_isFree hn12 u3 hi ?_
                by_cases hf : tkF D day T i < 0 ∧ Gn i < 0
                · simp only [hf, and_self, if_true]
                  refine ⟨fun _ => ⟨by omega, ?_⟩, fun e => by omega⟩
                  rintro h5 rfl
                  rw [bd h4 u4]
                  have hDi : D.testBit i = false := by
                    cases hq : D.testBit i
                    · rfl
                    · have : tkF D day T i = day := by unfold tkF; rw [hq]; rfl
                      omega
                  have hi12 : i < 12 := by omega
                  have hpc := pc_or hDi hi12
                  have e1 : w32 ((pc12 D : Int) + 1) = ((pc12 (D ||| 2 ^ i) : Nat) : Int) := by
                    rw [hpc]; have := pc_12 D; rw [w32_id (by omega) (by omega)]; omega
                  rw [e1]
                  have hia : (bset (thB (cn C) T Gn)).testBit i = true := by
                    rw [bset_t]
                    have : tkF D day T i = T i := by unfold tkF; rw [hDi]; rfl
                    rw [this] at hf
                    simp [thB, hi12, hi, hf.1, hf.2]
                  have hcl : cl i := by
                    have q := u2 p u6
                    rw [← hclo] at q ⊢
                    refine clo_st q ?_ hp hb hia
                    unfold cpr; rw [bset_t, (chd_pr hp).mp hc0]
                    have hp12 : p < 12 := by omega
                    simp [hp12]
                  have hle : pc12 A ≤ pc12 D := by
                    rcases u5 with q | q
                    · exact q.2
                    · exact Nat.le_of_lt q.2
                  have hlt : pc12 A < pc12 (D ||| 2 ^ i) := by rw [hpc]; exact Nat.lt_succ_of_le hle
                  refine ihi (D ||| 2 ^ i, 1, stI h4 112 i day) ?_
                  dsimp only
                  refine ⟨zb_orlt u1 (zb_2k hi12), by rw [Nat.testBit_or, u1']; rfl, fun j hj => ?_, MFate_st u3, u4.tr (zEq_I (by omega)), Or.inr ⟨rfl, hlt⟩, by rw [Nat.testBit_or, u6]; rfl, fun hm => by omega⟩
                  rw [Nat.testBit_or, Bool.or_eq_true, zb_t2, decide_eq_true_eq] at hj
                  rcases hj with hj | hj
                  · exact u2 j hj
                  · subst hj; exact hcl
                · simp only [hf, if_false]
                  refine ⟨fun e => absurd rfl e, fun _ => skip2 (fun q => hf q.2)⟩
              · simp only [hb, if_false]
                exact ⟨fun _ => skip2 (fun q => hb q.1), fun e => absurd rfl e⟩
  · dsimp only
    refine ⟨zb_2k o12, by rw [zb_t2]; simp, fun i hi => ?_, wF, zEq.rf, by simp, fun e => by omega⟩
    rw [zb_t2, decide_eq_true_eq] at hi
    rw [← hi, ← hclo]
    refine clo_in ?_
    rw [Nat.testBit_and, zb_t2, bset_t, hth]
    simp [o12]
end T2
