/-! safe: the contracts -/
def spS (C : zCt) (a b : Nat) : Int := if 0 < ctk C a b then (if (b : Int) = cse C then 100 else 100 - cri C b) else -1
theorem spS_ok {C : zCt} (hC : okC C) : okO (spS C) (cn C) := by
  intro a b ha hb
  have k := (hC.2.2.2.2.2.1 b hb).2.2.2.1
  unfold spS
  split
  · right; split <;> omega
  · left; rfl
def owN (C : zCt) (g z k : Nat) : Int := pP (spr g (spS C)) (cn C) z k g * hK (9 - k)
theorem onw_cnd {sp : Nat → Nat → Int} {n z k p q : Nat} (hs : okO sp n) (hz : z < n) (hsz : ∀ a, a < n → sp a z = -1 ∨ sp a z = 100) (hk : k + 1 ≤ 9) (hp : p < n) (hq : q < n) (pz : p ≠ z) (p0 : pP sp n z (k + 1) p ≠ 0) : onw opO sp (bO sp n z (k + 1)) p q = bO sp n z (k + 2) p ↔ (q ≠ z ∧ sp p q ≠ -1 ∧ sp p q * pP sp n z k q = pP sp n z (k + 1) p) := by
  have e := bO_pP hs hz hsz (k + 1) p hk hp pz
  rw [if_neg p0] at e
  have e : bO sp n z (k + 2) p = -(pP sp n z (k + 1) p * hK (9 - (k + 1))) := e
  have kp := hK_pos (9 - (k + 1))
  have pr := pP_rng (z := z) hs (k + 1) p hp
  have pos : 0 < pP sp n z (k + 1) p * hK (9 - (k + 1)) := Int.mul_pos (by omega) kp
  rw [e]
  unfold onw
  by_cases s : sp p q = -1
  · rw [if_pos (.inl s)]
    exact ⟨fun x => by omega, fun x => absurd s x.2.1⟩
  · by_cases qz : q = z
    · have : bO sp n z (k + 1) q = 4000000000000000000 := by rw [bO_s, if_pos qz]
      rw [if_pos (.inr this)]
      exact ⟨fun x => by omega, fun x => absurd qz x.1⟩
    · have ih := bO_pP hs hz hsz k q (by omega) hq qz
      have qr := pP_rng (z := z) hs k q hq
      by_cases q0 : pP sp n z k q = 0
      · rw [if_pos q0] at ih
        rw [if_pos (.inr ih), q0, Int.mul_zero]
        exact ⟨fun x => by omega, fun x => absurd x.2.2.symm p0⟩
      · rw [if_neg q0] at ih
        have kk : hK (9 - k) = hK (9 - (k + 1)) * 100 := by
          have : 9 - k = (9 - (k + 1)) + 1 := by omega
          rw [this, hK_s]
        have pos2 : 0 < pP sp n z k q * hK (9 - (k + 1)) := Int.mul_pos (by omega) kp
        have ih2 : bO sp n z (k + 1) q = -((pP sp n z k q * hK (9 - (k + 1))) * 100) := by rw [ih, kk, Int.mul_assoc]
        rw [if_neg (fun x => x.elim s (fun x => by rw [ih2] at x; omega)), ih2, opO_x (by omega), Int.mul_right_comm]
        constructor
        · intro x
          refine ⟨qz, s, ?_⟩
          have x : pP sp n z k q * sp p q * hK (9 - (k + 1)) = pP sp n z (k + 1) p * hK (9 - (k + 1)) := by omega
          have := Int.eq_of_mul_eq_mul_right (by omega) x
          rw [Int.mul_comm]; exact this
        · rintro ⟨_, _, x⟩
          rw [← x, Int.mul_comm (sp p q)]
theorem fb_u {op : Int → Int → Int} {s0 : Int} {sp : Nat → Nat → Int} {n z l a b c : Nat} (h1 : fbI op s0 sp n z l a b) (h2 : fbI op s0 sp n z l a c) : b = c := by
  have q1 : ¬ b < c := fun l => h2.2.2 b l h1.2.1
  have q2 : ¬ c < b := fun l => h1.2.2 c l h2.2.1
  omega
theorem fb_ex {sp : Nat → Nat → Int} {n z l a : Nat} (nw : bO sp n z (l + 1) a ≠ 4000000000000000000) : ∃ b, fbI opO oS sp n z l a b := by
  have az : a ≠ z := fun e => nw (by rw [bO_s, if_pos e])
  have e : bO sp n z (l + 1) a = mn (onw opO sp (bO sp n z l) a) n := by rw [bO_s, if_neg az]
  rcases mn_ex (f := onw opO sp (bO sp n z l) a) n with q | ⟨b, hb, q⟩
  · exact absurd (e.trans q) nw
  · obtain ⟨c, c1, c2, c3⟩ := nat_least (P := fun x => onw opO sp (bO sp n z l) a x = bO sp n z (l + 1) a) b (by rw [e, q])
    exact ⟨c, by omega, c2, c3⟩
noncomputable def wz (C : zCt) (g z m : Nat) : Nat → Nat
  | 0 => g
  | j + 1 => Classical.epsilon (fun b => fbI opO oS (spr g (spS C)) (cn C) z (m - 1 - j) (wz C g z m j) b)
theorem wz_is {C : zCt} {g z m j b : Nat} (h : fbI opO oS (spr g (spS C)) (cn C) z (m - 1 - j) (wz C g z m j) b) : wz C g z m (j + 1) = b := by
  have q : fbI opO oS (spr g (spS C)) (cn C) z (m - 1 - j) (wz C g z m j) (wz C g z m (j + 1)) := Classical.epsilon_spec ⟨b, h⟩
  exact fb_u q h
section SF
variable {E : zE} {d : Nat} {h : zS}
theorem c_stepByOdds {k1 : Nat} {C : zCt} {Q : zS → Prop} (hk1 : isCity k1) (hC : okC C) (wC : XCity h k1 C) (HQ : ∀ h1, spH h1 (cn C) (spS C) → zEq (fun c => c ≠ 31) h h1 → Q h1) : zCv E (d + 2) m_X7_stepByOdds [vo 30, vo k1] h Q := by
  have hn12 := hC.1
  have kd := (city_lt hk1).2
  have fC : ∀ h2, zEq (fun c => c ≠ 31) h h2 → XCity h2 k1 C := fun h2 e => wC.fr e (fun j hj => by omega)
  refine v_X7_stepByOdds hk1 ?_
  refine z_up (n := cn C) (fun i h2 => zWv E (d + 1 + 1) m_X7_stepByOdds 2 [vo 30, vo k1, vi i, vn, vn] h2 Q) (fun i h2 => (∀ a b, a < i → b < cn C → hI h2 31 (12 * a + b) = spS C a b) ∧ zEq (fun c => c ≠ 31) h h2) ?_ ?_ 0 h (by omega) ⟨fun a b hj => by omega, zEq.rf⟩
  · rintro h2 ⟨u1, u2⟩
    exact r_X7_stepByOdds_2 hk1 ⟨fun _ => HQ h2 u1 u2, fun c => by rw [(fC h2 u2).1] at c; omega⟩
  · rintro i h2 hi ⟨u1, u2⟩ ih
    refine r_X7_stepByOdds_2 hk1 ⟨fun c => by rw [(fC h2 u2).1] at c; omega, fun _ => ?_⟩
    refine z_up (n := cn C) (fun j h3 => zWv E (d + 1 + 1) m_X7_stepByOdds 12 [vo 30, vo k1, vi i, vi j, vn] h3 Q) (fun j h3 => (∀ a b, (a < i ∧ b < cn C) ∨ (a = i ∧ b < j) → hI h3 31 (12 * a + b) = spS C a b) ∧ zEq (fun c => c ≠ 31) h h3) ?_ ?_ 0 h2 (by omega) ⟨fun a b hj => u1 a b (by omega) (by omega), u2⟩
    · rintro h3 ⟨t1, t2⟩
      refine r_X7_stepByOdds_12 hk1 ⟨fun _ => ?_, fun c => by rw [(fC h3 t2).1] at c; omega⟩
      rw [w32s (by omega)]
      exact ih h3 ⟨fun a b ha hb => t1 a b (by omega), t2⟩
    · rintro j h3 hj ⟨t1, t2⟩ ih2
      have k := (hC.2.2.2.2.2.1 j hj).2.2.2.1
      refine r_X7_stepByOdds_12 hk1 ⟨fun c => by rw [(fC h3 t2).1] at c; omega, fun _ => ⟨fun _ => by omega, ?_⟩⟩
      rw [w32s (by omega), (fC h3 t2).2.2.2.1]
      simp only [Int.toNat_natCast]
      rw [((fC h3 t2).2.2.2.2.2.1 j hj).2.2.2.1, w32_id (by omega) (by omega)]
      intro y2 hy2
      refine c_pair (by omega) (by omega) ?_
      refine c_gives hk1 (fC h3 t2).2.2.2.2.2.2.1 (by omega) (by omega) ⟨by omega, ?_⟩
      simp only [Int.toNat_natCast]
      intro h9 e9
      obtain ⟨v9, n9, q9⟩ := st_cp e9
      clear e9
      refine ih2 h9 ⟨fun a b hab => ?_, t2.tr q9⟩
      by_cases e : a = i ∧ b = j
      · rw [e.1, e.2, v9, hy2]
        unfold spS
        by_cases c : 0 < ctk C i j
        · rw [if_pos c, if_neg (by omega), if_pos c]
          by_cases c2 : (j : Int) = cse C
          · rw [if_pos c2, if_neg (by omega)]
          · rw [if_neg c2, if_pos c2]
        · rw [if_neg c, if_pos rfl, if_neg c]
      · rw [n9 _ _ (by omega)]
        exact t1 a b (by omega)
theorem opk_O {sp : Nat → Nat → Int} {n z l : Nat} (hs : okO sp n) : opk 1 opO sp n (bO sp n z l) := by
  intro a b ha hb nb ns
  rcases hs a b ha hb with s | s
  · exact absurd s ns
  · rcases bO_rng (z := z) hs l b hb with r | r
    · exact absurd r nb
    · generalize bO sp n z l b = r' at *
      obtain ⟨x, hx⟩ : ∃ x : Nat, r' = -(x : Int) := ⟨(-r').toNat, by omega⟩
      have g1 := opO_ge (r := r') (c := sp a b) r.2 (by omega) s.2
      have g2 := opO_le (r := r') (c := sp a b) (by omega)
      unfold opq
      rw [if_neg (by omega)]
      have e : z_ldiv r' 100 = -(((-r').toNat / 100 : Nat) : Int) := by
        rw [hx]
        have := zl_ndiv (a := x) (b := 100) (by omega) (by omega)
        rw [show ((100 : Nat) : Int) = 100 from rfl] at this
        rw [this]
        congr 2
        omega
      rw [e]
      unfold opO at g1 g2 ⊢
      rw [w64_id (by omega) (by omega)]
theorem c_M_layProducts {C : zCt} {g z : Nat} {Q : zS → Prop} (hC : okC C) (wC : MCity h C) (hg : cga C = g) (hz : cse C = z) (hgn : g < cn C) (hzn : z < cn C) (gz : g ≠ z)
    (HQ : ∀ h1, (∀ k a, k ≤ 9 → a < cn C → hL h1 108 (12 * k + a) = pP (spr g (spS C)) (cn C) z k a) → zEq (fun c => c ≠ 108) h h1 → Q h1) : zCv E d m_X10_layProducts [vo 89] h Q := by
  have hn12 := hC.1
  have z12 : z < 12 := by omega
  have so := okO_r (g := g) (spS_ok hC)
  have fC : ∀ h2, zEq (fun c => c ≠ 108) h h2 → MCity h2 C := fun h2 e => wC.fr e (by omega)
  refine v_X10_layProducts ?_
  refine z_up (n := 120) (fun i h2 => zWv E d m_X10_layProducts 2 [vo 89, vi i, vn, vn, vn, vn, vn, vn] h2 Q) (fun i h2 => (∀ j, j < i → hL h2 108 j = 0) ∧ zEq (fun c => c ≠ 108) h h2) ?_ ?_ 0 h (by omega) ⟨fun j hj => by omega, zEq.rf⟩
  · rintro h1 ⟨f1, f2⟩
    refine r_X10_layProducts_2 ⟨fun _ => ?_, fun c => by omega⟩
    refine z_up (n := cn C) (fun i h2 => zWv E d m_X10_layProducts 23 [vo 89, vi i, vn, vn, vn, vn, vn, vn] h2 Q) (fun i h2 => (∀ a, a < cn C → hL h2 108 a = if a < i then pP (spr g (spS C)) (cn C) z 0 a else 0) ∧ zEq (fun c => c ≠ 108) h h2) ?_ ?_ 0 h1 (by omega) ⟨fun a ha => by rw [if_neg (by omega)]; exact f1 a (by omega), f2⟩
    · rintro h2 ⟨u1, u2⟩
      refine r_X10_layProducts_23 ⟨fun _ => ?_, fun c => by rw [(fC h2 u2).1] at c; omega⟩
      refine z_up (n := 9) (fun k h3 => zWv E d m_X10_layProducts 63 [vo 89, vi ((k + 1 : Nat) : Int), vn, vn, vn, vn, vn, vn] h3 Q) (fun k h3 => (∀ l a, l ≤ k → a < cn C → hL h3 108 (12 * l + a) = pP (spr g (spS C)) (cn C) z l a) ∧ zEq (fun c => c ≠ 108) h h3) ?_ ?_ 0 h2 (by omega) ⟨fun l a hl ha => ?_, u2⟩
      · rintro h3 ⟨t1, t2⟩
        exact r_X10_layProducts_63 ⟨fun _ => HQ h3 t1 t2, fun c => by omega⟩
      · rintro k h3 hk ⟨t1, t2⟩ ih
        refine r_X10_layProducts_63 ⟨fun c => by omega, fun _ => ?_⟩
        refine z_up (n := cn C) (fun i h4 => zWv E d m_X10_layProducts 71 [vo 89, vi ((k + 1 : Nat) : Int), vi i, vn, vn, vn, vn, vn] h4 Q) (fun i h4 => (∀ l a, (l ≤ k ∧ a < cn C) ∨ (l = k + 1 ∧ a < i) → hL h4 108 (12 * l + a) = pP (spr g (spS C)) (cn C) z l a) ∧ zEq (fun c => c ≠ 108) h h4) ?_ ?_ 0 h3 (by omega) ⟨fun l a hl => t1 l a (by omega) (by omega), t2⟩
        · rintro h4 ⟨s1, s2⟩
          refine r_X10_layProducts_71 ⟨fun _ => ?_, fun c => by rw [(fC h4 s2).1] at c; omega⟩
          rw [w32s (by omega)]
          exact ih h4 ⟨fun l a hl ha => s1 l a (by omega), s2⟩
        · rintro i h4 hi ⟨s1, s2⟩ ih2
          have i12 : i < 12 := Nat.lt_of_lt_of_le hi hn12
          refine r_X10_layProducts_71 ⟨fun c => by rw [(fC h4 s2).1] at c; omega, fun _ => ?_⟩
          refine z_upS (σ := Unit) (n := cn C) (fun j _ => zWv E d m_X10_layProducts 84 [vo 89, vi ((k + 1 : Nat) : Int), vi i, vl (mx (ow (spr g (spS C)) z (pP (spr g (spS C)) (cn C) z k) i) j), vn, vi j, vn, vn] h4 Q) (fun _ _ => True) ?_ ?_ 0 () (by omega) trivial
          · intro _ _
            refine r_X10_layProducts_84 ⟨fun _ => ?_, fun c => by rw [(fC h4 s2).1] at c; omega⟩
            rw [w32q (show k + 1 < 12 by omega) i12, w32t i12]
            refine ⟨by omega, ?_⟩
            simp only [Int.toNat_natCast]
            intro h5 e5
            obtain ⟨v5, n5, q5⟩ := st_cpL e5
            clear e5
            refine ih2 h5 ⟨fun l a hl => ?_, s2.tr q5⟩
            by_cases e : l = k + 1 ∧ a = i
            · rw [e.1, e.2, v5]; rfl
            · rw [n5 _ _ (by omega)]; exact s1 l a (by omega)
          · intro j _ hj _ ih3
            have j12 : j < 12 := Nat.lt_of_lt_of_le hj hn12
            refine r_X10_layProducts_84 ⟨fun c => by rw [(fC h4 s2).1] at c; omega, fun _ => ?_⟩
            have wk : w32 (((k + 1 : Nat) : Int) - 1) = (k : Int) := by rw [w32_id (by omega) (by omega)]; omega
            rw [wk, w32q i12 j12, w32q (show k < 12 by omega) j12, w32t j12]
            clear wk
            refine ⟨by omega, fun _ _ _ => ⟨by omega, by omega⟩, ?_⟩
            simp only [Int.toNat_natCast]
            have wC4 := fC h4 s2
            rw [wC4.2.2.2.2.2.2.1 i j i12 j12, wC4.2.2.2.1, wC4.2.2.1, hg, hz, (wC4.2.2.2.2.2.1 j hj).2.2.2.1, s1 k j (by omega)]
            have pr := pP_rng (z := z) so k j hj
            have kr := (hK_mul (k := k + 1) (by omega)).2
            have rj := (hC.2.2.2.2.2.1 j hj).2.2.2.1
            have tr := (hC.2.2.2.2.2.2 i j).1
            have e1 : mx (ow (spr g (spS C)) z (pP (spr g (spS C)) (cn C) z k) i) (j + 1) = if ow (spr g (spS C)) z (pP (spr g (spS C)) (cn C) z k) i j ≤ mx (ow (spr g (spS C)) z (pP (spr g (spS C)) (cn C) z k) i) j then mx (ow (spr g (spS C)) z (pP (spr g (spS C)) (cn C) z k) i) j else ow (spr g (spS C)) z (pP (spr g (spS C)) (cn C) z k) i j := rfl
            have ih3 := ih3 () trivial
            rw [e1] at ih3
            intro y7 hy7
            have ey : y7 = ow (spr g (spS C)) z (pP (spr g (spS C)) (cn C) z k) i j := by
              rw [hy7]
              unfold ow
              by_cases c1 : ctk C i j = 0
              · rw [if_pos c1, if_pos]
                right
                unfold spr spS
                split
                · rfl
                · rw [if_neg (by omega)]
              · rw [if_neg c1]
                by_cases c2 : (j : Int) = z
                · rw [if_pos c2, if_pos (.inl (by omega))]
                · rw [if_neg c2]
                  by_cases c3 : (j : Int) = g
                  · rw [if_neg (fun q => q c3), if_pos]
                    right
                    unfold spr
                    rw [if_pos (by omega)]
                  · rw [if_pos c3]
                    have es : spr g (spS C) i j = 100 - cri C j := by
                      unfold spr spS
                      rw [if_neg (by omega), if_pos (by omega), hz, if_neg c2]
                    rw [es, if_neg (by omega)]
                    generalize pP (spr g (spS C)) (cn C) z k j = P at *
                    rw [hK_s] at kr
                    have m1 := Int.mul_le_mul_of_nonneg_right (show 100 - cri C j ≤ 100 by omega) pr.1
                    have m2 := Int.mul_nonneg (show 0 ≤ 100 - cri C j by omega) pr.1
                    rw [w64_id (z := 100 - cri C j) (by omega) (by omega), w64_id (by omega) (by omega)]
            intro y9 hy9
            rw [hy9, ey]
            by_cases c : ow (spr g (spS C)) z (pP (spr g (spS C)) (cn C) z k) i j ≤ mx (ow (spr g (spS C)) z (pP (spr g (spS C)) (cn C) z k) i) j
            · rw [if_pos c] at ih3
              rw [if_pos (lc_e.mpr c)]
              exact ih3
            · rw [if_neg c] at ih3
              rw [if_neg (fun q => c (lc_e.mp q))]
              exact ih3
      · have : l = 0 := by omega
        rw [this, show 12 * 0 + a = a by omega, u1 a ha, if_pos ha]
    · rintro i h2 hi ⟨u1, u2⟩ ih
      have i12 : i < 12 := Nat.lt_of_lt_of_le hi hn12
      refine r_X10_layProducts_23 ⟨fun c => by rw [(fC h2 u2).1] at c; omega, fun _ => ?_⟩
      have wC2 := fC h2 u2
      rw [wC2.2.2.2.1, hz, w32q i12 z12, w32t i12]
      refine ⟨by omega, ?_⟩
      simp only [Int.toNat_natCast]
      rw [wC2.2.2.2.2.2.2.1 i z i12 z12]
      have e0 : pP (spr g (spS C)) (cn C) z 0 i = if 0 < ctk C i z then 1 else 0 := by
        show (if spr g (spS C) i z = -1 then (0 : Int) else 1) = _
        have es : spr g (spS C) i z = spS C i z := by
          unfold spr; rw [if_neg (show ¬ z = g from fun e => gz e.symm)]
        rw [es]
        by_cases c : 0 < ctk C i z
        · have e1 : spS C i z = 100 := by unfold spS; rw [if_pos c, if_pos (by rw [hz])]
          rw [e1, if_neg (by omega), if_pos c]
        · have e1 : spS C i z = -1 := by unfold spS; rw [if_neg c]
          rw [e1, if_pos rfl, if_neg c]
      refine ⟨fun c => ih h2 ⟨fun a ha => ?_, u2⟩, fun c => ⟨by omega, ?_⟩⟩
      · rw [u1 a ha]
        by_cases e : a = i
        · rw [if_neg (by omega), if_pos (by omega), e, e0, if_neg (by omega)]
        · by_cases l : a < i
          · rw [if_pos l, if_pos (by omega)]
          · rw [if_neg l, if_neg (by omega)]
      · intro h3 e3
        obtain ⟨v3, n3, q3⟩ := st_cpL e3
        clear e3
        refine ih h3 ⟨fun a ha => ?_, u2.tr q3⟩
        by_cases e : a = i
        · rw [if_pos (by omega), e, v3, e0, if_pos c]
        · rw [n3 _ _ (fun q => e q.2), u1 a ha]
          by_cases l : a < i
          · rw [if_pos l, if_pos (by omega)]
          · rw [if_neg l, if_neg (by omega)]
  · rintro i h2 hi ⟨f1, f2⟩ ih
    refine r_X10_layProducts_2 ⟨fun c => by omega, fun _ => ⟨by omega, ?_⟩⟩
    rw [w32s (by omega)]
    simp only [Int.toNat_natCast]
    intro h6 e6
    obtain ⟨v6, n6, q6⟩ := st_cpL e6
    clear e6
    refine ih h6 ⟨fun j hj => ?_, f2.tr q6⟩
    by_cases e : j = i
    · rw [e, v6]
    · rw [n6 _ _ (fun q => e q.2)]; exact f1 j (by omega)
end SF
