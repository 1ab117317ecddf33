/-! the model's fate: tellOn, goOn -/
def MFate (h : zS) (n : Nat) (T Gn : Nat → Int) (kf : Nat → Nat) : Prop := ∀ i, i < n → hI h 112 i = T i ∧ hI h 113 i = Gn i ∧ hI h 114 i = (kf i : Int)
def chd (C : zCt) (p : Nat) : Int := if ckd C p = 2 then 0 else cho C p
noncomputable def mtS (C : zCt) (T : Nat → Int) (day : Int) : Nat := bset (fun p => decide (p < cn C) && decide (0 ≤ T p) && decide (T p + chd C p = day))
theorem MFate.fr {h h1 : zS} {n : Nat} {T Gn : Nat → Int} {kf : Nat → Nat} {A : Nat → Prop} (w : MFate h n T Gn kf) (e : zEq A h h1) (hA : A 112 ∧ A 113 ∧ A 114) : MFate h1 n T Gn kf := by
  unfold MFate at *
  simp only [e.I hA.1, e.I hA.2.1, e.I hA.2.2]
  exact w
theorem tkF_or {A q : Nat} {day : Int} {T : Nat → Int} (i : Nat) : tkF (A ||| 2 ^ q) day T i = if i = q then day else tkF A day T i := by
  unfold tkF
  rw [Nat.testBit_or, zb_t2]
  by_cases e : q = i
  · subst e; simp
  · simp [e, Ne.symm e]
theorem MFate_st {h : zS} {n q A : Nat} {T Gn : Nat → Int} {kf : Nat → Nat} {day : Int} (w : MFate h n (tkF A day T) Gn kf) : MFate (stI h 112 q day) n (tkF (A ||| 2 ^ q) day T) Gn kf := by
  intro i hi
  obtain ⟨a, b, c⟩ := w i hi
  refine ⟨?_, ?_, ?_⟩
  · rw [hI_stI, tkF_or]
    by_cases e : i = q
    · simp [e]
    · rw [if_neg (by simp [e]), if_neg e]; exact a
  · rw [hI_stI, if_neg (by simp)]; exact b
  · rw [hI_stI, if_neg (by simp)]; exact c
section MF
variable {E : zE} {d : Nat} {h : zS}
theorem c_M_holdOf {C : zCt} {p : Nat} {Q : Int → zS → Prop} (wC : MCity h C) (hC : okC C) (hp : p < cn C) (HQ : Q (chd C p) h) : zCi E d m_X10_holdOf [vo 89, vi p] h Q := by
  have := hC.1
  refine v_X10_holdOf ⟨by omega, ?_⟩
  simp only [Int.toNat_natCast]
  rw [(wC.2.2.2.2.2.1 p hp).1, (wC.2.2.2.2.2.1 p hp).2.2.1]
  unfold chd at HQ
  by_cases c : ckd C p = 2
  · simp only [c, if_true] at HQ ⊢; exact ⟨fun e => absurd rfl e, fun _ => HQ⟩
  · simp only [c, if_false] at HQ ⊢; exact ⟨fun _ => HQ, fun e => e.elim⟩
theorem c_M_isFree {n p : Nat} {T Gn : Nat → Int} {kf : Nat → Nat} {Q : Int → zS → Prop} (hn12 : n ≤ 12) (w : MFate h n T Gn kf) (hp : p < n) (HQ : Q (if T p < 0 ∧ Gn p < 0 then 1 else 0) h) : zCi E d m_X10_isFree [vo 89, vi p] h Q := by
  refine v_X10_isFree ⟨by omega, ?_⟩
  simp only [Int.toNat_natCast]
  rw [(w p hp).1, (w p hp).2.1]
  refine ⟨fun c => ?_, fun c => ⟨fun c2 => ?_, fun c2 => ?_⟩⟩
  · rw [if_neg (by omega)] at HQ; exact HQ
  · rw [if_neg (by omega)] at HQ; exact HQ
  · rw [if_pos ⟨c, c2⟩] at HQ; exact HQ
theorem c_M_tellOn {C : zCt} {kf : Nat → Nat} {T Gn : Nat → Int} {day : Int} {Q : Int → zS → Prop} (hC : okC C) (wC : MCity h C) (wF : MFate h (cn C) T Gn kf) (hT : ∀ i, i < cn C → T i < 100000) (hx : 0 ≤ day ∧ day < 100000) (hkl : ∀ i, i < cn C → kf i < 4096)
    (HQ : ∀ x h1, MFate h1 (cn C) (tkF (clS (cn C) (bset (thB (cn C) T Gn)) (orK (mtS C T day) kf (cn C)) (cpr C) kf) day T) Gn kf → zEq (fun c => c ≠ 112) h h1 → Q x h1) : zCi E (d + 1) m_X10_tellOn [vo 89, vi day] h Q := by
  have hn12 := hC.1
  refine v_X10_tellOn ?_
  -- what holds of the newly taken at any time
  have base : ∀ A h2, A < 4096 → zEq (fun c => c ≠ 112) h h2 → hI h2 89 29 = (cn C : Int) := fun A h2 _ e => by rw [e.I (by omega)]; exact wC.1
  have bC : ∀ h2, zEq (fun c => c ≠ 112) h h2 → MCity h2 C := fun h2 e => wC.fr e (by omega)
  have z0 : (vi 0 : zV) = vi ((pc12 0 : Nat) : Int) := by rw [pc12_eq]; decide +kernel
  have z1 : ([vo 89, vi day, vi 0, vi 1, vn, vn] : List zV) = [vo 89, vi day, vi ((pc12 0 : Nat) : Int), vi 1, vn, vn] := by rw [← z0]
  rw [z1]
  refine z_ms (σ := Nat × Int × zS) (fun q => zWi E (d + 1) m_X10_tellOn 4 [vo 89, vi day, vi (pc12 q.1 : Int), vi q.2.1, vn, vn] q.2.2 Q)
    (fun q => q.1 < 4096 ∧ (∀ i, q.1.testBit i = true → clo (cn C) (bset (thB (cn C) T Gn)) (orK (mtS C T day) kf (cn C)) (cpr C) kf i) ∧ MFate q.2.2 (cn C) (tkF q.1 day T) Gn kf ∧ zEq (fun c => c ≠ 112) h q.2.2 ∧ (q.2.1 = 0 ∨ q.2.1 = 1) ∧ (q.2.1 = 0 → ∀ p, p < cn C → 0 ≤ tkF q.1 day T p → tkF q.1 day T p + chd C p = day → ∀ i, i < cn C → (kf p).testBit i = true → ¬ (tkF q.1 day T i < 0 ∧ Gn i < 0)))
    (fun q => 2 * (12 - pc12 q.1) + q.2.1.toNat) ?_ (0, 1, h) ?_
  · rintro ⟨A, m, h2⟩ ⟨w1, w2, w3, w4, w5, w6⟩ ih
    simp only at w1 w2 w3 w4 w5 w6 ih ⊢
    refine r_X10_tellOn_4 ⟨fun c => ?_, fun c => ?_⟩
    · have hcl : isCl (cn C) (bset (thB (cn C) T Gn)) (orK (mtS C T day) kf (cn C)) (cpr C) kf A := by
        refine isCl_of w1 (fun q hq => ?_) (fun p q a1 a2 a3 a4 a5 => ?_) w2
        · rw [Nat.testBit_and, Bool.and_eq_true, orK_t] at hq
          obtain ⟨⟨p, p1, p2, p3⟩, hq⟩ := hq
          refine Classical.byContradiction (fun hA => ?_)
          unfold mtS at p2
          rw [bset_t] at hq p2
          simp only [thB, Bool.and_eq_true, decide_eq_true_eq] at hq p2
          have e1 : tkF A day T q = T q := by unfold tkF; rw [if_neg hA]
          have e2 : 0 ≤ tkF A day T p ∧ tkF A day T p + chd C p = day := by
            unfold tkF
            by_cases hp : A.testBit p = true
            · have := clo_a (w2 p hp)
              rw [bset_t] at this
              simp only [thB, Bool.and_eq_true, decide_eq_true_eq] at this
              omega
            · rw [if_neg hp]; exact ⟨p2.2.1.2, p2.2.2⟩
          exact w6 c p p1 e2.1 e2.2 q hq.2.1.1 p3 ⟨by rw [e1]; exact hq.2.1.2, hq.2.2⟩
        · refine Classical.byContradiction (fun hA => ?_)
          rw [bset_t] at a5
          simp only [thB, Bool.and_eq_true, decide_eq_true_eq] at a5
          have e1 : tkF A day T q = T q := by unfold tkF; rw [if_neg hA]
          have e2 : tkF A day T p = day := by unfold tkF; rw [if_pos a1]
          have e3 : chd C p = 0 := by
            unfold cpr at a2; rw [bset_t] at a2
            simp only [cprB, Bool.and_eq_true, Bool.or_eq_true, decide_eq_true_eq] at a2
            unfold chd
            split
            · rfl
            · rename_i hk; rcases a2.2.2 with q | q
              · exact absurd q hk
              · exact q
          exact w6 c p a3 (by rw [e2]; exact hx.1) (by rw [e2, e3]; omega) q a5.2.1.1 a4 ⟨by rw [e1]; exact a5.2.1.2, a5.2.2⟩
      have e := isCl_eq (bset_lt _) hcl
      refine HQ _ h2 ?_ w4
      rw [← e]; exact w3
    · -- a sweep
      have hm : m = 1 := by omega
      subst hm
      refine z_upS (σ := Nat × Int × zS) (n := cn C) (fun i q => zWi E (d + 1) m_X10_tellOn 13 [vo 89, vi day, vi (pc12 q.1 : Int), vi q.2.1, vi i, vn] q.2.2 Q)
        (fun i q => q.1 < 4096 ∧ (∀ i, q.1.testBit i = true → clo (cn C) (bset (thB (cn C) T Gn)) (orK (mtS C T day) kf (cn C)) (cpr C) kf i) ∧ MFate q.2.2 (cn C) (tkF q.1 day T) Gn kf ∧ zEq (fun c => c ≠ 112) h q.2.2 ∧ ((q.2.1 = 0 ∧ pc12 A ≤ pc12 q.1) ∨ (q.2.1 = 1 ∧ pc12 A < pc12 q.1)) ∧ (q.2.1 = 0 → ∀ p, p < i → 0 ≤ tkF q.1 day T p → tkF q.1 day T p + chd C p = day → ∀ i, i < cn C → (kf p).testBit i = true → ¬ (tkF q.1 day T i < 0 ∧ Gn i < 0))) ?_ ?_ 0 (A, 0, h2) (by omega) ⟨w1, w2, w3, w4, Or.inl ⟨rfl, Nat.le_refl _⟩, fun _ p hp => by omega⟩
      · rintro ⟨B, m, h3⟩ ⟨v1, v2, v3, v4, v5, v6⟩
        simp only at v1 v2 v3 v4 v5 v6 ⊢
        refine r_X10_tellOn_13 ⟨fun _ => ?_, fun c => ?_⟩
        · refine ih (B, m, h3) ⟨v1, v2, v3, v4, by simp only; omega, v6⟩ ?_
          simp only
          have := pc_12 B
          rcases v5 with ⟨e, hl⟩ | ⟨e, hl⟩ <;> subst e <;> omega
        · rw [base B h3 v1 v4] at c; omega
      · rintro p ⟨B, m, h3⟩ hp ⟨v1, v2, v3, v4, v5, v6⟩ ihp
        simp only at v1 v2 v3 v4 v5 v6 ihp ⊢
        refine r_X10_tellOn_13 ⟨fun c => ?_, fun _ => ⟨by omega, ?_⟩⟩
        · rw [base B h3 v1 v4] at c; omega
        · rw [w32s (by omega)]
          simp only [Int.toNat_natCast]
          rw [(v3 p hp).1]
          have skip : ¬ (0 ≤ tkF B day T p ∧ tkF B day T p + chd C p = day) → zWi E (d + 1) m_X10_tellOn 13 [vo 89, vi day, vi (pc12 B : Int), vi m, vi ((p + 1 : Nat) : Int), vn] h3 Q := by
            intro hs
            refine ihp (B, m, h3) ⟨v1, v2, v3, v4, v5, fun hm p' hp' a1 a2 => ?_⟩
            by_cases e : p' = p
            · subst e; exact absurd ⟨a1, a2⟩ hs
            · exact v6 hm p' (by omega) a1 a2
          refine ⟨fun c => skip (by omega), fun c => ?_⟩
          refine c_M_holdOf (bC h3 v4) hC hp ?_
          have hTp : tkF B day T p < 100000 := by
            unfold tkF; split
            · exact hx.2
            · exact hT p hp
          have hch : 0 ≤ chd C p ∧ chd C p ≤ 9 := by
            unfold chd; split
            · omega
            · exact (hC.2.2.2.2.2.1 p hp).2.2.1
          rw [w32_id (by omega) (by omega)]
          refine ⟨fun c2 => ?_, fun c2 => skip (by omega)⟩
          -- the teller p
          refine z_upS (σ := Nat × Int × zS) (n := cn C) (fun i q => zWi E (d + 1) m_X10_tellOn 56 [vo 89, vi day, vi (pc12 q.1 : Int), vi q.2.1, vi p, vi i] q.2.2 Q)
            (fun i q => q.1 < 4096 ∧ (∀ i, q.1.testBit i = true → clo (cn C) (bset (thB (cn C) T Gn)) (orK (mtS C T day) kf (cn C)) (cpr C) kf i) ∧ MFate q.2.2 (cn C) (tkF q.1 day T) Gn kf ∧ zEq (fun c => c ≠ 112) h q.2.2 ∧ ((q.2.1 = 0 ∧ pc12 A ≤ pc12 q.1) ∨ (q.2.1 = 1 ∧ pc12 A < pc12 q.1)) ∧ (0 ≤ tkF q.1 day T p ∧ tkF q.1 day T p + chd C p = day) ∧ (q.2.1 = 0 → (∀ p', p' < p → 0 ≤ tkF q.1 day T p' → tkF q.1 day T p' + chd C p' = day → ∀ i, i < cn C → (kf p').testBit i = true → ¬ (tkF q.1 day T i < 0 ∧ Gn i < 0)) ∧ ∀ j, j < i → (kf p).testBit j = true → ¬ (tkF q.1 day T j < 0 ∧ Gn j < 0))) ?_ ?_ 0 (B, m, h3) (by omega) ⟨v1, v2, v3, v4, v5, ⟨c, c2⟩, fun hm => ⟨v6 hm, fun j hj => by omega⟩⟩
          · rintro ⟨D, m2, h4⟩ ⟨u1, u2, u3, u4, u5, u6, u7⟩
            simp only at u1 u2 u3 u4 u5 u6 u7 ⊢
            refine r_X10_tellOn_56 ⟨fun _ => ?_, fun c => ?_⟩
            · rw [w32s (by omega)]
              refine ihp (D, m2, h4) ⟨u1, u2, u3, u4, u5, fun hm p' hp' a1 a2 i hi => ?_⟩
              by_cases e : p' = p
              · subst e; exact (u7 hm).2 i hi
              · exact (u7 hm).1 p' (by omega) a1 a2 i hi
            · rw [base D h4 u1 u4] at c; omega
          · rintro i ⟨D, m2, h4⟩ hi ⟨u1, u2, u3, u4, u5, u6, u7⟩ ihi
            simp only at u1 u2 u3 u4 u5 u6 u7 ihi ⊢
            refine r_X10_tellOn_56 ⟨fun c => ?_, fun _ => ⟨by omega, ?_⟩⟩
            · rw [base D h4 u1 u4] at c; omega
            · simp only [Int.toNat_natCast]
              rw [(u3 p hp).2.2, zb_bit (zb_lt (hkl p hp)) (by omega), w32s (by omega)]
              have skip2 : ¬ ((kf p).testBit i = true ∧ (tkF D day T i < 0 ∧ Gn i < 0)) → zWi E (d + 1) m_X10_tellOn 56 [vo 89, vi day, vi (pc12 D : Int), vi m2, vi p, vi ((i + 1 : Nat) : Int)] h4 Q := by
                intro hs
                refine ihi (D, m2, h4) ⟨u1, u2, u3, u4, u5, u6, fun hm => ⟨(u7 hm).1, fun j hj hb => ?_⟩⟩
                by_cases e : j = i
                · subst e; exact fun q => hs ⟨hb, q⟩
                · exact (u7 hm).2 j (by omega) hb
              by_cases hb : (kf p).testBit i = true
              · simp only [hb, if_true]
                refine ⟨fun e => by omega, fun _ => ?_⟩
                refine c_M_isFree hn12 u3 hi ?_
                by_cases hf : tkF D day T i < 0 ∧ Gn i < 0
                · simp only [hf, and_self, if_true]
                  refine ⟨fun _ => ⟨by omega, ?_⟩, fun e => by omega⟩
                  rintro h5 rfl
                  have hDi : D.testBit i = false := by
                    cases hq : D.testBit i
                    · rfl
                    · have : tkF D day T i = day := by unfold tkF; rw [hq]; rfl
                      omega
                  have hi12 : i < 12 := by omega
                  have hpc := pc_or hDi hi12
                  have e1 : w32 ((pc12 D : Int) + 1) = ((pc12 (D ||| 2 ^ i) : Nat) : Int) := by
                    rw [hpc]; have := pc_12 D; rw [w32_id (by omega) (by omega)]; omega
                  rw [e1]
                  have hia : (bset (thB (cn C) T Gn)).testBit i = true := by
                    rw [bset_t]
                    have : tkF D day T i = T i := by unfold tkF; rw [hDi]; rfl
                    rw [this] at hf
                    simp [thB, hi12, hi, hf.1, hf.2]
                  have hcl : clo (cn C) (bset (thB (cn C) T Gn)) (orK (mtS C T day) kf (cn C)) (cpr C) kf i := by
                    by_cases hq : D.testBit p = true
                    · have e2 : tkF D day T p = day := by unfold tkF; rw [if_pos hq]
                      have e3 : chd C p = 0 := by omega
                      refine clo_st (u2 p hq) ?_ hp hb hia
                      unfold cpr; rw [bset_t]
                      have hp12 : p < 12 := by omega
                      unfold chd at e3
                      by_cases hk : ckd C p = 2
                      · simp [cprB, hp12, hp, hk]
                      · rw [if_neg hk] at e3; simp [cprB, hp12, hp, e3]
                    · have e2 : tkF D day T p = T p := by unfold tkF; rw [if_neg hq]
                      refine clo_in ?_
                      rw [Nat.testBit_and, hia, Bool.and_true]
                      refine (orK_t _).mpr ⟨p, hp, ?_, hb⟩
                      unfold mtS; rw [bset_t]
                      have hp12 : p < 12 := by omega
                      rw [e2] at u6
                      simp [hp12, hp, u6.1, u6.2]
                  have hle : pc12 A ≤ pc12 D := by
                    rcases u5 with q | q
                    · exact q.2
                    · exact Nat.le_of_lt q.2
                  have hlt : pc12 A < pc12 (D ||| 2 ^ i) := by rw [hpc]; exact Nat.lt_succ_of_le hle
                  refine ihi (D ||| 2 ^ i, 1, stI h4 112 i day) ?_
                  dsimp only
                  refine ⟨zb_orlt u1 (zb_2k hi12), fun j hj => ?_, MFate_st u3, u4.tr (zEq_I (by omega)), Or.inr ⟨rfl, hlt⟩, ?_, fun hm => by omega⟩
                  · rw [Nat.testBit_or, Bool.or_eq_true, zb_t2, decide_eq_true_eq] at hj
                    rcases hj with hj | hj
                    · exact u2 j hj
                    · subst hj; exact hcl
                  · rw [tkF_or]
                    by_cases e : p = i
                    · subst e; omega
                    · rw [if_neg e]; exact u6
                · simp only [hf, if_false]
                  refine ⟨fun e => absurd rfl e, fun _ => skip2 (fun q => hf q.2)⟩
              · simp only [hb, if_false]
                exact ⟨fun _ => skip2 (fun q => hb q.1), fun e => absurd rfl e⟩
  · simp only
    refine ⟨by omega, fun i hi => by simp at hi, ?_, zEq.rf, by simp, fun e => by omega⟩
    have e : tkF 0 day T = T := by funext i; unfold tkF; simp
    rw [e]; exact wF
end MF
