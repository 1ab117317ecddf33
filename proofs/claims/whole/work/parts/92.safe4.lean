/-! safe: both sides -/
section S4
variable {E : zE} {d : Nat} {h : zS}
abbrev zPairL (E : zE) (mX mM : zM) (as : List zV) (h : zS) : Prop := zCl E 8 mX (vo 0 :: as) h (fun r h1 => zCl E 8 mM (vo 89 :: as) h1 (fun r' h2 => r = r' ∧ zGo h2))
theorem p_ofL {mX mM : zM} {as : List zV} {r : Int} {t : Nat} {S S' : zAb} (hS' : okS S') (wM : MInv h S)
    (hX : ∀ Q : Int → zS → Prop, (∀ h1 t', XInv h1 t' S' → zEq (fun c => 89 ≤ c) h h1 → Q r h1) → zCl E 8 mX (vo 0 :: as) h Q)
    (hM : ∀ (h1 : zS) (Q : Int → zS → Prop), MInv h1 S → (∀ h2, MInv h2 S' → zEq (fun c => c < 89) h1 h2 → Q r h2) → zCl E 8 mM (vo 89 :: as) h1 Q) : zPairL E mX mM as h :=
  hX _ (fun h1 t' w e => hM h1 _ (wM.fr e) (fun h2 w2 e2 => ⟨rfl, t', S', hS', w.fr e2, w2⟩))
noncomputable def sfP (C : zCt) (g z k : Nat) : Nat := (pP (spr g (spS C)) (cn C) z k g).toNat
noncomputable def sfR (C : zCt) (g z k : Nat) (x : Int) : Int := if x = 0 then ((sfP C g z k / Nat.gcd (100 ^ k) (sfP C g z k) : Nat) : Int) else ((100 ^ k / Nat.gcd (100 ^ k) (sfP C g z k) : Nat) : Int)
theorem hK_n (k : Nat) : hK k = ((100 ^ k : Nat) : Int) := by unfold hK; simp
theorem sf_num {C : zCt} (hC : okC C) {g z k : Nat} (w : sfH C g z k) : pP (spr g (spS C)) (cn C) z k g = (sfP C g z k : Int) ∧ 0 < sfP C g z k ∧ sfP C g z k ≤ 100 ^ k ∧ owN C g z k = ((sfP C g z k * 100 ^ (9 - k) : Nat) : Int) ∧ 100 ^ k * 100 ^ (9 - k) = 1000000000000000000 ∧ (100 ^ k : Nat) ≤ 1000000000000000000 ∧ (100 ^ (9 - k) : Nat) > 0 ∧ sfP C g z k * 100 ^ (9 - k) ≤ 1000000000000000000 := by
  obtain ⟨w1, w2, w3, w4, w5, w6, w7, w8, w9⟩ := w
  have pr := pP_rng (z := z) (okO_r (g := g) (spS_ok hC)) k g w3
  have ro := own_rng hC (z := z) w3 w8
  have p0 : pP (spr g (spS C)) (cn C) z k g ≠ 0 := fun e => w6 (by rw [← w9]; exact ro.2.2.mpr e)
  have e1 : pP (spr g (spS C)) (cn C) z k g = (sfP C g z k : Int) := by unfold sfP; omega
  have hm := hK_mul w8
  rw [hK_n, hK_n] at hm
  have hm1 : ((100 ^ k * 100 ^ (9 - k) : Nat) : Int) = 1000000000000000000 := by rw [Int.natCast_mul]; exact hm.1
  have ow1 : owN C g z k = ((sfP C g z k * 100 ^ (9 - k) : Nat) : Int) := by unfold owN; rw [e1, hK_n, Int.natCast_mul]
  rw [hK_n] at pr
  have pp : 0 < (100 ^ (9 - k) : Nat) := Nat.pow_pos (by omega)
  refine ⟨e1, by omega, by omega, ow1, by omega, by omega, pp, ?_⟩
  have := ro.2.1
  omega
theorem gcd_sc {a b c : Nat} (hc : 0 < c) : Nat.gcd (a * c) (b * c) = Nat.gcd a b * c ∧ (a * c) / (Nat.gcd a b * c) = a / Nat.gcd a b ∧ (b * c) / (Nat.gcd a b * c) = b / Nat.gcd a b := ⟨Nat.gcd_mul_right _ _ _, Nat.mul_div_mul_right _ _ hc, Nat.mul_div_mul_right _ _ hc⟩
theorem sfH_u {C : zCt} {g z k g' z' k' : Nat} (a : sfH C g z k) (b : sfH C g' z' k') : g' = g ∧ z' = z ∧ k' = k := by
  have e1 : g' = g := by have := a.1; have := b.1; omega
  have e2 : z' = z := by have := a.2.1; have := b.2.1; omega
  subst e1; subst e2
  have := a.2.2.2.2.2.2.1
  have := b.2.2.2.2.2.2.1
  exact ⟨rfl, rfl, by omega⟩
/-- the class, for a part that is asked for -/
theorem c_safeX {t : Nat} {S : zAb} {x : Int} {Q : Int → zS → Prop} (hx : x = 0 ∨ x = 1) (hS : okS S) (wX : XInv h t S)
    (H0 : (¬ ∃ g z k, sfH (aC S) g z k) → (¬ ∃ g, sfE (aC S) g) → ∀ h1, XInv h1 t (sW S 0 (aWf S)) → zEq (fun c => 89 ≤ c) h h1 → Q (-1) h1)
    (H1 : ∀ g z k, sfH (aC S) g z k → ∀ h1, XInv h1 t (sW S (k + 2) (fun i => (wz (aC S) g z (k + 1) i : Int))) → zEq (fun c => 89 ≤ c) h h1 → Q (sfR (aC S) g z k x) h1)
    (H2 : ∀ g, sfE (aC S) g → ∀ h1, XInv h1 t (sW S 1 (fun _ => (g : Int))) → zEq (fun c => 89 ≤ c) h h1 → Q 1 h1) : zCl E 8 m_X9_safe [vo 0, vi x] h Q := by
  have hC := hS.2.1
  have wC := wX.2.2.2.1
  have kd := (city_lt wX.1.2.1).2
  have body : zCv E 7 m_X7_stepByOdds [vo 30, vo t] h (fun h2 => ∃ t3, hR h2 0 3 = some t3 ∧ isCity t3 ∧ zCl E 7 m_X7_layLikeliest [vo 30, vo t3] h2 (fun y5 h4 => (((z_lcmp y5 4000000000000000000) ≠ 0 → (zCl E 7 m_X9_commonDivisor [vl 1000000000000000000, vl y5] h4 (fun y7 h6 => ((0 ≤ (z_lcmp y7 1) → ((y7 ≠ 0) ∧ Q (z_ldiv (if x ≠ 0 then 1000000000000000000 else y5) y7) h6)) ∧ ((z_lcmp y7 1) < 0 → (Q (-1) h6)))))) ∧ ((z_lcmp y5 4000000000000000000) = 0 → (Q (-1) h4))))) := by
    refine c_stepByOdds wX.1.2.1 hC wC (fun h2 s2 e2 => ⟨t, by rw [e2.R (by omega)]; exact wX.1.1, wX.1.2.1, ?_⟩)
    have F : ∀ h1, zEq (fun c => c ≠ 30 ∧ c ≠ 32 ∧ c ≠ 33) h2 h1 → zEq (fun c => c < 30 ∨ 33 < c) h h1 := fun h1 q => (e2.wk (fun c q => by omega)).tr (q.wk (fun c q => by omega))
    have G : ∀ h1 n f, XWay h1 n f → zEq (fun c => c ≠ 30 ∧ c ≠ 32 ∧ c ≠ 33) h2 h1 → XInv h1 t (sW S n f) := fun h1 n f x q => wX.sW (zEw.of (F h1 q) (fun c i q => by have := q.1; unfold XK at this; omega)) x
    refine c_layLik wX.1.2.1 hC ⟨by rw [e2.I (by omega)]; exact wC.1, by rw [e2.I (by omega)]; exact wC.2.2.1, by rw [e2.I (by omega)]; exact wC.2.2.2.1⟩ s2 (fun n1 n2 h4 l4 q4 => ⟨fun c => absurd (lc_0.mpr rfl) c, fun _ => H0 n1 n2 h4 (G h4 0 _ ⟨l4, fun i hi => by omega⟩ q4) ((F h4 q4).wk (fun c q => by omega))⟩) (fun g z k w h4 x4 q4 => ?_) (fun g w h4 x4 q4 => ?_)
    · obtain ⟨n1, n2, n3, n4, n5, n6, n7, n8⟩ := sf_num hC w
      have fin := H1 g z k w h4 (G h4 _ _ x4 q4) ((F h4 q4).wk (fun c q => by omega))
      obtain ⟨g1, g2, g3⟩ := gcd_sc (a := 100 ^ k) (b := sfP (aC S) g z k) n7
      have gp : 0 < Nat.gcd (100 ^ k) (sfP (aC S) g z k) := Nat.gcd_pos_of_pos_right _ n2
      have pos : 0 < Nat.gcd (100 ^ k) (sfP (aC S) g z k) * 100 ^ (9 - k) := Nat.mul_pos gp n7
      have gle : Nat.gcd (100 ^ k * 100 ^ (9 - k)) (sfP (aC S) g z k * 100 ^ (9 - k)) ≤ 100 ^ k * 100 ^ (9 - k) := Nat.gcd_le_left _ (by rw [n5]; omega)
      rw [n5] at g1 g2 gle
      rw [n4]
      unfold sfR at fin
      generalize sfP (aC S) g z k * 100 ^ (9 - k) = B at *
      generalize Nat.gcd (100 ^ k) (sfP (aC S) g z k) * 100 ^ (9 - k) = D at *
      rw [← g2, ← g3] at fin
      refine ⟨fun _ => ?_, fun c => by have := lc_0.mp c; omega⟩
      have cd := @c_commonDivisor E 7 h4 1000000000000000000 B (fun y7 h6 => ((0 ≤ (z_lcmp y7 1) → ((y7 ≠ 0) ∧ Q (z_ldiv (if x ≠ 0 then 1000000000000000000 else (B : Int)) y7) h6)) ∧ ((z_lcmp y7 1) < 0 → (Q (-1) h6)))) n8 (by omega) (by omega)
      refine cd ?_
      rw [g1]
      rw [g1] at gle
      refine ⟨fun _ => ⟨by omega, ?_⟩, fun c => by have := lc_l.mp c; omega⟩
      rcases hx with e | e
      · rw [if_neg (fun q => q e), zl_div (by omega) (by omega)]
        rw [if_pos e] at fin; exact fin
      · rw [if_pos (by omega)]
        have := zl_div (a := 1000000000000000000) (b := D) (by omega) (by omega)
        rw [show ((1000000000000000000 : Nat) : Int) = 1000000000000000000 from rfl] at this
        rw [this]
        rw [if_neg (by omega)] at fin; exact fin
    · have fin := H2 g w h4 (G h4 _ _ x4 q4) ((F h4 q4).wk (fun c q => by omega))
      refine ⟨fun _ => ?_, fun c => by have := lc_0.mp c; omega⟩
      have cd := @c_commonDivisor E 7 h4 1000000000000000000 1000000000000000000 (fun y7 h6 => ((0 ≤ (z_lcmp y7 1) → ((y7 ≠ 0) ∧ Q (z_ldiv (if x ≠ 0 then 1000000000000000000 else 1000000000000000000) y7) h6)) ∧ ((z_lcmp y7 1) < 0 → (Q (-1) h6)))) (by omega) (by omega) (by omega)
      refine cd ?_
      rw [Nat.gcd_self]
      refine ⟨fun _ => ⟨by omega, ?_⟩, fun c => by have := lc_l.mp c; omega⟩
      have e : (if x ≠ 0 then (1000000000000000000 : Int) else 1000000000000000000) = ((1000000000000000000 : Nat) : Int) := by split <;> rfl
      rw [e, zl_div (by omega) (by omega), Nat.div_self (by omega)]
      exact fin
  refine v_X9_safe ⟨fun c => ⟨t, wX.1.1, wX.1.2.1, body⟩, fun c => ⟨fun c2 => ⟨t, wX.1.1, wX.1.2.1, body⟩, fun c2 => by omega⟩⟩
/-- the model, for a part that is asked for -/
theorem c_safeM {S : zAb} {x : Int} {Q : Int → zS → Prop} (hx : x = 0 ∨ x = 1) (hS : okS S) (wM : MInv h S)
    (H0 : (¬ ∃ g z k, sfH (aC S) g z k) → (¬ ∃ g, sfE (aC S) g) → ∀ h1, MInv h1 (sW S 0 (aWf S)) → zEq (fun c => c < 89) h h1 → Q (-1) h1)
    (H1 : ∀ g z k, sfH (aC S) g z k → ∀ h1, MInv h1 (sW S (k + 2) (fun i => (wz (aC S) g z (k + 1) i : Int))) → zEq (fun c => c < 89) h h1 → Q (sfR (aC S) g z k x) h1)
    (H2 : ∀ g, sfE (aC S) g → ∀ h1, MInv h1 (sW S 1 (fun _ => (g : Int))) → zEq (fun c => c < 89) h h1 → Q 1 h1) : zCl E 8 m_X10_safe [vo 89, vi x] h Q := by
  have hC := hS.2.1
  have hn12 := hC.1
  have hga := hC.2.2.1
  have hse := hC.2.2.2.1
  refine v_X10_safe ?_
  intro h1 e1
  have W1 : zEw (fun c i => ¬ (c = 89 ∧ i = 37) ∧ c ≠ 107 ∧ c ≠ 108) h h1 := by rw [e1]; exact zEw_I (by simp)
  have Z1 : zEq (fun c => c < 89) h h1 := by rw [e1]; exact zEq_I (by omega)
  have v1 := (st_cp e1).1
  clear e1
  have fC : ∀ h2, zEw (fun c i => ¬ (c = 89 ∧ i = 37) ∧ c ≠ 107 ∧ c ≠ 108) h h2 → MCity h2 (aC S) := fun h2 e => wM.2.2.1.w (fun i _ _ => (e _ _ ⟨by omega, by omega, by omega⟩).1) (fun j _ _ i => (e _ _ ⟨by omega, by omega, by omega⟩).1)
  have wC1 := fC h1 W1
  have G : ∀ h2 n f, MWay h2 n f → zEw (fun c i => ¬ (c = 89 ∧ i = 37) ∧ c ≠ 107 ∧ c ≠ 108) h h2 → MInv h2 (sW S n f) := fun h2 n f x q => wM.sW (q.wk (fun c i q => by have := q.1; unfold MK at this; omega)) x
  have no : (¬ ∃ g z k, sfH (aC S) g z k) → (¬ ∃ g, sfE (aC S) g) → Q (-1) h1 := fun n1 n2 => H0 n1 n2 h1 (G h1 0 _ ⟨v1, fun i hi => by omega⟩ W1) Z1
  refine ⟨fun c => by omega, fun _ => ⟨fun c => by omega, fun _ => ?_⟩⟩
  rw [wC1.2.2.1, wC1.2.2.2.1]
  refine ⟨fun c => no ?_ ?_, fun c => ⟨fun c2 => ?_, fun c2 => no ?_ ?_⟩⟩
  · rintro ⟨g, z, k, w1, _⟩; omega
  · rintro ⟨g, w1, _⟩; omega
  · obtain ⟨g, hg⟩ : ∃ g : Nat, cga (aC S) = g := ⟨(cga (aC S)).toNat, by omega⟩
    obtain ⟨z, hz⟩ : ∃ z : Nat, cse (aC S) = z := ⟨(cse (aC S)).toNat, by omega⟩
    have hgn : g < cn (aC S) := by omega
    have hzn : z < cn (aC S) := by omega
    refine ⟨fun c3 => ?_, fun c3 => ?_⟩
    · have gz : g ≠ z := by omega
      refine c_M_layProducts hC wC1 hg hz hgn hzn gz (fun h2 P2 q2 => ?_)
      have W2 : zEw (fun c i => ¬ (c = 89 ∧ i = 37) ∧ c ≠ 107 ∧ c ≠ 108) h h2 := W1.tr (zEw.of q2 (fun c i q => q.2.2))
      have Z2 : zEq (fun c => c < 89) h h2 := Z1.tr (q2.wk (fun c q => by omega))
      have wC2 := fC h2 W2
      have g2 : hI h2 89 31 = (g : Int) := by rw [wC2.2.2.1, hg]
      have g12 : g < 12 := Nat.lt_of_lt_of_le hgn hn12
      have l2 : hI h2 89 37 = 0 := by rw [q2.I (by omega)]; exact v1
      refine z_upS (σ := Unit) (n := 10) (fun i _ => zWl E (7 + 1) m_X10_safe 71 [vo 89, vi x, vi (amx (owN (aC S) g z) i), vl (mx (owN (aC S) g z) i), vn, vi i, vn, vn] h2 Q) (fun _ _ => True) ?_ ?_ 0 () (by omega) trivial
      · intro _ _
        refine r_X10_safe_71 ⟨fun _ => ?_, fun c => by omega⟩
        by_cases m0 : mx (owN (aC S) g z) 10 = 0
        · have am : amx (owN (aC S) g z) 10 = -1 := by
            have k := mnmx (F := fun b => if owN (aC S) g z b = 0 then 4000000000000000000 else -(owN (aC S) g z b * 1)) (G := owN (aC S) g z) (K := 1) (by omega) 10 (fun b hb => rfl) (fun b hb => (own_rng hC (z := z) hgn (by omega)).1)
            exact k.2.1 m0
          rw [am]
          refine ⟨fun c => by omega, fun _ => H0 ?_ ?_ h2 (G h2 0 _ ⟨l2, fun i hi => by omega⟩ W2) Z2⟩
          · rintro ⟨g', z', k', w1, w2, w3, w4, w5, w6, _⟩
            have eg : g' = g := by omega
            have ez : z' = z := by omega
            subst eg; subst ez
            exact w6 m0
          · rintro ⟨g', w1, w2, _⟩; omega
        · obtain ⟨k, hk, ka, ko⟩ := amx_is (f := owN (aC S) g z) 10 m0
          have w : sfH (aC S) g z k := ⟨hg, hz, hgn, hzn, gz, m0, ka, by omega, ko⟩
          obtain ⟨n1, n2, n3, n4, n5, n6, n7, n8⟩ := sf_num hC w
          rw [ka]
          refine ⟨fun _ => ?_, fun c => by omega⟩
          refine c_M_laySafe hC wC2 hg hz hgn hzn gz (by omega) P2 (by omega) (fun h3 x3 W3 q3 => ?_)
          have W3' := W2.tr (W3.wk (W := fun c i => ¬ (c = 89 ∧ i = 37) ∧ c ≠ 107) (V := fun c i => ¬ (c = 89 ∧ i = 37) ∧ c ≠ 107 ∧ c ≠ 108) (fun c i q => ⟨q.1, q.2.1⟩))
          have fin := H1 g z k w h3 (G h3 _ _ x3 W3') (Z2.tr (q3.wk (fun c q => by omega)))
          have g3 : hI h3 89 31 = (g : Int) := by rw [(fC h3 W3').2.2.1, hg]
          have p3 : hL h3 108 (12 * k + g) = (sfP (aC S) g z k : Int) := by rw [q3.L (by omega), P2 k g (by omega) hgn, n1]
          refine c_M_hundreds (by omega) ?_
          rw [g3, w32q (show k < 12 by omega) g12, hK_n]
          refine ⟨by omega, ?_⟩
          simp only [Int.toNat_natCast]
          rw [p3]
          have gp : 0 < Nat.gcd (100 ^ k) (sfP (aC S) g z k) := Nat.gcd_pos_of_pos_right _ n2
          have gl : Nat.gcd (100 ^ k) (sfP (aC S) g z k) ≤ sfP (aC S) g z k := Nat.gcd_le_right _ n2
          refine c_M_common n6 (by omega) ?_
          rw [g3, w32q (show k < 12 by omega) g12]
          simp only [Int.toNat_natCast]
          rw [p3]
          unfold sfR at fin
          refine ⟨fun cx => ?_, fun cx => ⟨by omega, by omega, ?_⟩⟩
          · refine c_M_hundreds (by omega) ⟨by omega, ?_⟩
            rw [hK_n, zl_div (by omega) (by omega)]
            rw [if_neg cx] at fin; exact fin
          · rw [zl_div (by omega) (by omega)]
            rw [if_pos cx] at fin; exact fin
      · intro i _ hi _ ih
        refine r_X10_safe_71 ⟨fun c => by omega, fun _ => ?_⟩
        have w9 : w32 (9 - (i : Int)) = ((9 - i : Nat) : Int) := by rw [w32_id (by omega) (by omega)]; omega
        rw [g2, w32q (show i < 12 by omega) g12, w9, w32t (show i < 12 by omega)]
        clear w9
        refine ⟨by omega, ?_⟩
        refine c_M_hundreds (by omega) ?_
        simp only [Int.toNat_natCast]
        rw [P2 i g (by omega) hgn]
        have ro := own_rng hC (z := z) hgn (show i ≤ 9 by omega)
        have eo : pP (spr g (spS (aC S))) (cn (aC S)) z i g * hK (9 - i) = owN (aC S) g z i := rfl
        rw [eo, w64_id (by omega) (by omega)]
        have ih := ih () trivial
        have em : mx (owN (aC S) g z) (i + 1) = if owN (aC S) g z i ≤ mx (owN (aC S) g z) i then mx (owN (aC S) g z) i else owN (aC S) g z i := rfl
        have ea : amx (owN (aC S) g z) (i + 1) = if owN (aC S) g z i ≤ mx (owN (aC S) g z) i then amx (owN (aC S) g z) i else (i : Int) := rfl
        rw [em, ea] at ih
        rintro y13 rfl
        refine ⟨fun c4 => ?_, fun c4 => ?_⟩
        · have c4 := lc_p.mp c4
          rw [if_neg (by omega), if_neg (by omega)] at ih; exact ih
        · have c4 := lc_e.mp c4
          rw [if_pos c4, if_pos c4] at ih; exact ih
    · have gz : g = z := by omega
      rw [hg]
      intro h3 e3 h4 e4
      have W3 : zEw (fun c i => ¬ (c = 89 ∧ i = 37) ∧ c ≠ 107 ∧ c ≠ 108) h1 h3 := by rw [e3]; exact zEw_I (by simp)
      have W4 : zEw (fun c i => ¬ (c = 89 ∧ i = 37) ∧ c ≠ 107 ∧ c ≠ 108) h3 h4 := by rw [e4]; exact zEw_I (by simp)
      obtain ⟨v3, n3, q3⟩ := st_cp e3
      obtain ⟨v4, n4, q4⟩ := st_cp e4
      clear e3 e4
      refine H2 g ⟨hg, by rw [hz, gz], hgn⟩ h4 (G h4 1 _ ⟨v4, fun i hi => ?_⟩ (W1.tr (W3.tr W4))) (Z1.tr ((q3.wk (fun c q => by omega)).tr (q4.wk (fun c q => by omega))))
      have : i = 0 := by omega
      rw [this, q4.I (by omega)]; exact v3
  · rintro ⟨g, z, k, _, w1, _⟩; omega
  · rintro ⟨g, _, w1, _⟩; omega
theorem p_safe {x : Int} (w : zGo h) : zPairL E m_X9_safe m_X10_safe [vi x] h := by
  obtain ⟨t, S, hS, wX, wM⟩ := w
  by_cases hx : x = 0 ∨ x = 1
  · by_cases G1 : ∃ g z k, sfH (aC S) g z k
    · obtain ⟨g, z, k, w⟩ := G1
      have ne : ¬ ∃ g, sfE (aC S) g := by
        rintro ⟨g', w1, w2, _⟩
        have := w.1
        have := w.2.1
        have := w.2.2.2.2.1
        omega
      refine p_ofL (S := S) (S' := sW S (k + 2) (fun i => (wz (aC S) g z (k + 1) i : Int))) (r := sfR (aC S) g z k x) (t := t) (hS.sW (by have := w.2.2.2.2.2.2.2.1; omega)) wM (fun Q HQ => ?_) (fun h1 Q w1 HQ => ?_)
      · refine c_safeX hx hS wX (fun n => absurd ⟨g, z, k, w⟩ n) (fun g' z' k' w' h4 x4 z4 => ?_) (fun g' w' => absurd ⟨g', w'⟩ ne)
        obtain ⟨e1, e2, e3⟩ := sfH_u w w'
        subst e1; subst e2; subst e3
        exact HQ h4 t x4 z4
      · refine c_safeM hx hS w1 (fun n => absurd ⟨g, z, k, w⟩ n) (fun g' z' k' w' h4 x4 z4 => ?_) (fun g' w' => absurd ⟨g', w'⟩ ne)
        obtain ⟨e1, e2, e3⟩ := sfH_u w w'
        subst e1; subst e2; subst e3
        exact HQ h4 x4 z4
    · by_cases G2 : ∃ g, sfE (aC S) g
      · obtain ⟨g, w⟩ := G2
        refine p_ofL (S := S) (S' := sW S 1 (fun _ => (g : Int))) (r := 1) (t := t) (hS.sW (by omega)) wM (fun Q HQ => ?_) (fun h1 Q w1 HQ => ?_)
        · refine c_safeX hx hS wX (fun _ n => absurd ⟨g, w⟩ n) (fun g' z' k' w' => absurd ⟨g', z', k', w'⟩ G1) (fun g' w' h4 x4 z4 => ?_)
          have : g' = g := by have := w.1; have := w'.1; omega
          subst this
          exact HQ h4 t x4 z4
        · refine c_safeM hx hS w1 (fun _ n => absurd ⟨g, w⟩ n) (fun g' z' k' w' => absurd ⟨g', z', k', w'⟩ G1) (fun g' w' h4 x4 z4 => ?_)
          have : g' = g := by have := w.1; have := w'.1; omega
          subst this
          exact HQ h4 x4 z4
      · refine p_ofL (S := S) (S' := sW S 0 (aWf S)) (r := -1) (t := t) (hS.sW (by omega)) wM (fun Q HQ => ?_) (fun h1 Q w1 HQ => ?_)
        · exact c_safeX hx hS wX (fun _ _ h4 x4 z4 => HQ h4 t x4 z4) (fun g' z' k' w' => absurd ⟨g', z', k', w'⟩ G1) (fun g' w' => absurd ⟨g', w'⟩ G2)
        · exact c_safeM hx hS w1 (fun _ _ h4 x4 z4 => HQ h4 x4 z4) (fun g' z' k' w' => absurd ⟨g', z', k', w'⟩ G1) (fun g' w' => absurd ⟨g', w'⟩ G2)
  · refine p_ofL (S := S) (S' := sW S 0 (aWf S)) (r := -1) (t := t) (hS.sW (by omega)) wM (fun Q HQ => ?_) (fun h1 Q w1 HQ => ?_)
    · refine v_X9_safe ⟨fun c => absurd (.inl c) hx, fun c => ⟨fun c2 => absurd (.inr c2) hx, fun c2 => ?_⟩⟩
      refine v_X7_forget ?_
      intro h2 e2
      have W2 : zEw (fun c i => ¬ (c = 30 ∧ i = 4)) h h2 := by rw [e2]; exact zEw_I (by simp)
      obtain ⟨v2, n2, q2⟩ := st_cp e2
      clear e2
      exact HQ h2 t (wX.sW (W2.wk (fun c i q => q.2.1)) ⟨v2, fun i hi => by omega⟩) (q2.wk (fun c q => by omega))
    · refine v_X10_safe ?_
      intro h2 e2
      have W2 : zEw (fun c i => ¬ (c = 89 ∧ i = 37)) h1 h2 := by rw [e2]; exact zEw_I (by simp)
      obtain ⟨v2, n2, q2⟩ := st_cp e2
      clear e2
      have HQ := HQ h2 (w1.sW (W2.wk (fun c i q => q.2.1)) ⟨v2, fun i hi => by omega⟩) (q2.wk (fun c q => by omega))
      exact ⟨fun _ => HQ, fun c => ⟨fun _ => HQ, fun c2 => by omega⟩⟩
end S4
