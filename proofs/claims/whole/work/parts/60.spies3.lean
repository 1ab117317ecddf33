/-! spies: the two loops -/
section S3
variable {E : zE} {d : Nat} {h : zS}
theorem cps_up {C : zCt} {i : Nat} (hi : i < 12) : cps C (i + 1) = cps C i ||| (if ckd C i ≠ 3 then 2 ^ i else 0) := by
  apply nat_bits (cps_lt _ _) (zb_orlt (cps_lt _ _) (by split; exact zb_2k hi; omega))
  intro j hj
  unfold cps
  rw [Nat.testBit_or, bset_t, bset_t]
  by_cases e : i = j
  · subst e
    by_cases k : ckd C i = 3
    · simp [k]
    · simp [k, hj]
  · have q : (j < i + 1) ↔ j < i := by omega
    by_cases k : ckd C i = 3
    · simp [k, q]
    · simp [k, q, e]
theorem cps_0 (C : zCt) : cps C 0 = 0 := by
  apply nat_bits (cps_lt _ _) (by omega)
  intro i _; unfold cps; rw [bset_t]; simp
noncomputable def spR (C : zCt) (Y : zNt) (x k : Int) : Int := if x = 0 then (spF C Y k (cps C (cn C) + 1)).1 else if (spF C Y k (cps C (cn C) + 1)).1 = 0 then 0 else if x = 1 then (spF C Y k (cps C (cn C) + 1)).2.1 else (spF C Y k (cps C (cn C) + 1)).2.2
theorem p_spies {x k : Int} (w : zGo h) : zPair E m_X9_spies m_X10_spies [vi x, vi k] h := by
  obtain ⟨t, S, hS, wX, wM⟩ := w
  have hC := hS.2.1
  have hY := hS.2.2.2.2.1
  have hn12 := hC.1
  have wC := wX.2.2.2.1
  have wY := wX.2.2.2.2.2.2.2.1
  by_cases G : 0 ≤ x ∧ x ≤ 2
  · refine p_of (S := S) (S' := S) (r := spR (aC S) (aY S) x k) (t := t) hS wM (fun Q HQ => ?_) (fun h1 Q w1 HQ => ?_)
    · have HQ := HQ h t wX zEq.rf
      have hev : cev (aC S) < 4096 := bset_lt _
      have hle := cps_cev hn12
      refine v_X9_spies ⟨fun c => by omega, fun _ => ⟨fun _ => ⟨t, wX.1.1, wX.1.2.1, ?_⟩, fun c => by omega⟩⟩
      refine c_everybody wX.1.2.1 hn12 wC.1 ?_
      refine z_upS (n := cev (aC S) + 1) (fun i (s : Nat × Nat × Nat) => zWi E (7 + 1) m_X9_spies 28 [vo 0, vi x, vi k, vi (s.1 : Int), vi (s.2.1 : Int), vi (s.2.2 : Int), vi i] h Q) (fun i s => s.1 = (spF (aC S) (aY S) k i).1 ∧ s.2.2 = (spF (aC S) (aY S) k i).2.2 ∧ (s.1 = 0 → s.2.1 = cev (aC S)) ∧ (s.1 ≠ 0 → s.2.1 = (spF (aC S) (aY S) k i).2.1)) ?_ ?_ 0 (0, cev (aC S), 0) (by omega) ⟨rfl, rfl, fun _ => rfl, fun e => absurd rfl e⟩
      · rintro ⟨c1, c2, c3⟩ ⟨g1, g2, g3, g4⟩
        dsimp only at g1 g2 g3 g4 ⊢
        have eU : spF (aC S) (aY S) k (cev (aC S) + 1) = spF (aC S) (aY S) k (cps (aC S) (cn (aC S)) + 1) := by
          have := spF_up (aC S) (aY S) k (cev (aC S) - cps (aC S) (cn (aC S)))
          rw [← this]; congr 1; omega
        rw [eU] at g1 g2 g4
        unfold spR at HQ
        refine r_X9_spies_28 ⟨t, wX.1.1, wX.1.2.1, ?_⟩
        refine c_everybody wX.1.2.1 hn12 wC.1 ⟨fun _ => ⟨fun e => ?_, fun e => ⟨fun e2 => ⟨fun e3 => ?_, fun e3 => ?_⟩, fun e2 => ?_⟩⟩, fun c => by omega⟩
        · rw [if_pos e] at HQ; rw [g1]; exact HQ
        · rw [if_neg e, if_neg (by omega), if_neg e3] at HQ; rw [g2]; exact HQ
        · rw [if_neg e, if_neg (by omega), if_pos e3] at HQ; rw [g4 (by omega)]; exact HQ
        · rw [if_neg e, if_pos (by omega)] at HQ; rw [e2]; exact HQ
      · rintro i ⟨c1, c2, c3⟩ hi ⟨g1, g2, g3, g4⟩ ih
        dsimp only at g1 g2 g3 g4 ih ⊢
        have bd := spF_b (aC S) (aY S) k i (by omega)
        have hi2 : i < 4096 := by omega
        have hc2 : c2 < 4096 := by
          by_cases z : c1 = 0
          · rw [g3 z]; exact hev
          · rw [g4 z]; exact bd.2.1
        have next : ¬ spG (aC S) (aY S) k i → zWi E (7 + 1) m_X9_spies 28 [vo 0, vi x, vi k, vi (c1 : Int), vi (c2 : Int), vi (c3 : Int), vi ((i + 1 : Nat) : Int)] h Q := fun ng => ih (c1, c2, c3) (by rw [spF_n ng]; exact ⟨g1, g2, g3, g4⟩)
        refine r_X9_spies_28 ⟨t, wX.1.1, wX.1.2.1, ?_⟩
        rw [w32s (by omega)]
        refine c_everybody wX.1.2.1 hn12 wC.1 ⟨fun c => by omega, fun _ => ⟨t, wX.1.1, wX.1.2.1, ?_⟩⟩
        rw [wC.2.2.2.2.2.2.2.2.1, zb_and (by omega) (by have : cbox (aC S) < 4096 := bset_lt _; omega)]
        have sb := spBx (C := aC S) (s := i) hn12 (by omega)
        refine ⟨fun c => next (fun g => c (by rw [sb.mpr g.1]; rfl)), fun c => ?_⟩
        have nb0 := sb.mp (by omega)
        refine c_bitCount hi2 ⟨fun c2 => next (fun g => by have := g.2.1; omega), fun c2' => ⟨t, wX.1.1, wX.1.2.1, ?_⟩⟩
        rw [wC.2.2.2.2.1]
        refine c_explainedBy hn12 hY wY hi2 (fun al => ⟨fun e => by omega, fun _ => ?_⟩) (fun na => ⟨fun _ => next (fun g => na g.2.2), fun e => absurd rfl e⟩)
        have g : spG (aC S) (aY S) k i := ⟨nb0, by omega, al⟩
        have hc1 : c1 ≤ i := by rw [g1]; exact bd.1
        rw [w32s (by omega), zb_and (by omega) (by omega), zb_or (by rw [g2]; have := bd.2.2.1; omega) (by omega)]
        refine ih (c1 + 1, c2 &&& i, c3 ||| i) ?_
        rw [spF_y g]
        dsimp only
        refine ⟨by rw [g1], by rw [g2], fun e => by omega, fun _ => ?_⟩
        by_cases z : c1 = 0
        · rw [g3 z, bd.2.2.2 (by rw [← g1]; exact z)]
          have s1 := nb_sub g.1
          apply Nat.eq_of_testBit_eq
          intro j
          rw [Nat.testBit_and, Nat.testBit_and]
          cases hj : i.testBit j
          · simp
          · rw [s1 j hj]
            have : (cev (aC S)).testBit j = true := by
              have q := s1 j hj
              unfold cps at q; unfold cev
              rw [bset_t] at q ⊢
              simp only [Bool.and_eq_true, decide_eq_true_eq] at q ⊢
              exact ⟨q.1, q.2.1⟩
            rw [this]
        · rw [g4 z]
    · have HQ := HQ h1 w1 zEq.rf
      have wC := w1.2.2.1
      have wY := w1.2.2.2.2.2.1
      have hp := cps_lt (aC S) (cn (aC S))
      refine v_X10_spies ⟨fun c => by omega, fun _ => ⟨fun _ => ?_, fun c => by omega⟩⟩
      refine z_upS (n := cn (aC S)) (fun i (s : Int) => zWi E (7 + 1) m_X10_spies 16 [vo 89, vi x, vi k, vi s, vi i, vn, vn, vn] h1 Q) (fun i s => s = (cps (aC S) i : Nat)) ?_ ?_ 0 0 (by omega) (by rw [cps_0]; rfl)
      · rintro s rfl
        refine r_X10_spies_16 ⟨fun _ => ?_, fun c => by rw [wC.1] at c; omega⟩
        refine z_upS (n := cps (aC S) (cn (aC S)) + 1) (fun i (s : Nat × Nat × Nat) => zWi E (7 + 1) m_X10_spies 65 [vo 89, vi x, vi k, vi (cps (aC S) (cn (aC S)) : Nat), vi (s.1 : Int), vi (s.2.1 : Int), vi (s.2.2 : Int), vi i] h1 Q) (fun i s => s = spF (aC S) (aY S) k i) ?_ ?_ 0 (0, cps (aC S) (cn (aC S)), 0) (by omega) rfl
        · rintro s rfl
          unfold spR at HQ
          refine r_X10_spies_65 ⟨fun _ => ⟨fun e => ⟨fun e2 => ⟨fun e3 => ?_, fun e3 => ?_⟩, fun e2 => ?_⟩, fun e => ?_⟩, fun c => by omega⟩
          · rw [if_neg e, if_neg (by omega), if_neg e3] at HQ; exact HQ
          · rw [if_neg e, if_neg (by omega), if_pos e3] at HQ; exact HQ
          · rw [if_neg e, if_pos (by omega)] at HQ; exact HQ
          · rw [if_pos e] at HQ; exact HQ
        · rintro i s hi rfl ih
          have bd := spF_b (aC S) (aY S) k i (by omega)
          have hi2 : i < 4096 := by omega
          have next : ¬ spG (aC S) (aY S) k i → zWi E (7 + 1) m_X10_spies 65 [vo 89, vi x, vi k, vi (cps (aC S) (cn (aC S)) : Nat), vi ((spF (aC S) (aY S) k i).1 : Int), vi ((spF (aC S) (aY S) k i).2.1 : Int), vi ((spF (aC S) (aY S) k i).2.2 : Int), vi ((i + 1 : Nat) : Int)] h1 Q := fun ng => ih (spF (aC S) (aY S) k i) (by rw [spF_n ng])
          refine r_X10_spies_65 ⟨fun c => by omega, fun _ => ?_⟩
          rw [w32s (by omega), zb_nb (by omega) (by omega)]
          refine ⟨fun c => next (fun g => c (by rw [g.1]; rfl)), fun c => ?_⟩
          have nb0 : nb i (cps (aC S) (cn (aC S))) = 0 := by omega
          refine c_M_ones hi2 ⟨fun c2 => next (fun g => by have := g.2.1; omega), fun c2 => ?_⟩
          refine c_M_canBeSpies hC wC hY wY hi2 (fun al => ⟨fun _ => ?_, fun e => by omega⟩) (fun na => ⟨fun e => absurd rfl e, fun _ => next (fun g => na g.2.2)⟩)
          have g : spG (aC S) (aY S) k i := ⟨nb0, by omega, al⟩
          have b1 := bd.1
          have b2 := bd.2.1
          have b3 := bd.2.2.1
          rw [w32s (by omega), zb_and (by omega) (by omega), zb_or (by omega) (by omega)]
          exact ih _ (spF_y g).symm
      · rintro i s hi rfl ih
        refine r_X10_spies_16 ⟨fun c => by rw [wC.1] at c; omega, fun _ => ⟨by omega, ?_⟩⟩
        rw [w32s (by omega)]
        simp only [Int.toNat_natCast, (wC.2.2.2.2.2.1 i hi).1]
        rintro y rfl
        refine ih _ ?_
        have hq := cps_lt (aC S) i
        have h2 := zb_2k (show i < 12 by omega)
        rw [cps_up (by omega)]
        by_cases e : ckd (aC S) i ≠ 3
        · rw [if_pos e, if_pos e, zb_1 (by omega), zb_or (by omega) (by omega)]
        · rw [if_neg e, if_neg e]
          have := zb_or (a := cps (aC S) i) (b := 0) (by omega) (by omega)
          rw [show (((0 : Nat)) : Int) = 0 from rfl] at this
          exact this
  · refine p_of (S := S) (S' := S) (r := -1) (t := t) hS wM (fun Q HQ => ?_) (fun h1 Q w1 HQ => ?_)
    · have HQ := HQ h t wX zEq.rf
      exact v_X9_spies ⟨fun _ => HQ, fun c1 => ⟨fun c2 => absurd ⟨c1, c2⟩ G, fun _ => HQ⟩⟩
    · have HQ := HQ h1 w1 zEq.rf
      exact v_X10_spies ⟨fun _ => HQ, fun c1 => ⟨fun c2 => absurd ⟨c1, c2⟩ G, fun _ => HQ⟩⟩
end S3
