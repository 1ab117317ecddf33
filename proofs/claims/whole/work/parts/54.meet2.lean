/-! meet: both sides -/
section M2
variable {E : zE} {d : Nat} {h : zS}
theorem p_meet {x y z : Int} (w : zGo h) : zPair E m_X9_meet m_X10_meet [vi x, vi y, vi z] h := by
  obtain ⟨t, S, hS, wX, wM⟩ := w
  have hC := hS.2.1
  have hN := hS.2.2.1
  have hn12 := hC.1
  have wC := wX.2.2.2.1
  have wN := wX.2.2.2.2.2.1
  by_cases G : ∃ a b c : Nat, x = a ∧ y = b ∧ z = c ∧ a < cn (aC S) ∧ b < cn (aC S) ∧ c < cn (aC S) ∧ cMt (aC S) (aN S) a b c
  · obtain ⟨a, b, c, rfl, rfl, rfl, ha, hb, hc, m⟩ := G
    have m' := m
    obtain ⟨m1, m2, m3, m4, m5, m6, m7, m8, m9⟩ := m'
    have ka := (hN.2.2.2.2.1 c a hc m8).2.2
    have kb := (hN.2.2.2.2.1 c b hc m9).2.2
    have n4 := hN.2.2.2.1
    refine p_of (S := S) (S' := sN S (nMeet (aN S) a b)) (r := 1) (t := t) (hS.sN (okN_meet hC hN ha hb m1 ka kb)) wM (fun Q HQ => ?_) (fun h1 Q w1 HQ => ?_)
    · refine v_X9_meet ⟨t, wX.1.1, wX.1.2.1, ?_⟩
      refine c_has wX.1.2.1 wC.1 ?_
      rw [if_pos (by omega)]
      refine ⟨fun e => by omega, fun _ => ⟨t, wX.1.1, wX.1.2.1, ?_⟩⟩
      refine c_has wX.1.2.1 wC.1 ?_
      rw [if_pos (by omega)]
      refine ⟨fun e => by omega, fun _ => ⟨t, wX.1.1, wX.1.2.1, ?_⟩⟩
      refine c_has wX.1.2.1 wC.1 ?_
      rw [if_pos (by omega)]
      refine ⟨fun _ => ?_, fun e => by omega⟩
      refine c_canMeet (by unfold isEarnest; omega) hC hN wN ha hb hc (fun _ => ⟨fun _ => ?_, fun e => by omega⟩) (fun n => absurd m n)
      refine c_acquaint hC hN wN ha hb m1 ?_
      intro h2 g1 g2
      exact HQ h2 t (wX.sN (zEw.of g2 (fun c i q => by omega)) g1) (g2.wk (fun c q => by omega))
    · have wN := w1.2.2.2.1
      refine v_X10_meet ?_
      refine c_M_isPerson hC w1.2.2.1 wN ?_ (fun n => absurd ⟨a, rfl, ha, ka, m5⟩ n)
      intro _
      refine ⟨fun e => by omega, fun _ => ?_⟩
      refine c_M_isPerson hC w1.2.2.1 wN ?_ (fun n => absurd ⟨b, rfl, hb, kb, m6⟩ n)
      intro _
      refine ⟨fun e => by omega, fun _ => ⟨fun e => by omega, fun _ => ?_⟩⟩
      refine c_M_canMeetBy hC hN w1.2.2.1 wN ha hb ?_ (fun n => absurd ⟨c, rfl, hc, fun e => m2 e.symm, fun e => m3 e.symm, m7, m8, m9⟩ n)
      intro _
      have b1 : w32 (12 * (a : Int)) = ((12 * a : Nat) : Int) := by rw [w32_id (by omega) (by omega)]; omega
      have b2 : w32 (((12 * a : Nat) : Int) + (b : Int)) = ((12 * a + b : Nat) : Int) := by rw [w32_id (by omega) (by omega)]; omega
      rw [b1, b2]
      simp only [Int.toNat_natCast]
      have g0' := wN.2.2.2.2 a b (by omega) (by omega)
      refine ⟨fun e => by omega, fun _ => ⟨by omega, fun _ => ?_, fun e => by omega⟩⟩
      intro h4 x4
      have r4 : zEw (fun c i => ¬ (115 ≤ c ∧ c ≤ 123)) h1 h4 := by rw [x4]; exact zEw_I (by omega)
      obtain ⟨v4, n4', q4⟩ := st_cp x4
      clear x4
      refine ⟨by omega, ?_⟩
      rw [q4.I (by simp), (wN.2.2.1 a ha).2.2, zb_1 (by omega), zb_or (by have := n4 a ha; omega) (by have := zb_2k (show b < 12 by omega); omega)]
      intro h6 x6
      have r6 : zEw (fun c i => ¬ (115 ≤ c ∧ c ≤ 123)) h4 h6 := by rw [x6]; exact zEw_I (by omega)
      obtain ⟨v6, n6, q6⟩ := st_cp x6
      clear x6
      refine ⟨by omega, ?_⟩
      rw [n6 _ _ (fun q => m1 q.2.symm), q4.I (by simp), (wN.2.2.1 b hb).2.2, zb_1 (by omega), zb_or (by have := n4 b hb; omega) (by have := zb_2k (show a < 12 by omega); omega)]
      intro h8 x8
      have r8 : zEw (fun c i => ¬ (115 ≤ c ∧ c ≤ 123)) h6 h8 := by rw [x8]; exact zEw_I (by omega)
      obtain ⟨v8, n8, q8⟩ := st_cp x8
      clear x8
      have F : zEq (fun c => c ≠ 117 ∧ c ≠ 118) h1 h8 := (q4.wk (fun c q => q.2)).tr ((q6.wk (fun c q => q.1)).tr (q8.wk (fun c q => q.1)))
      refine HQ h8 (w1.sN ((r4.tr (r6.tr r8)).wk (fun c i q => q.2.2)) ⟨?_, ?_, fun i hi => ⟨?_, ?_, ?_⟩, fun t ht => ?_, fun x y hx hy => ?_⟩) (F.wk (fun c q => by omega))
      · rw [F.I (by omega)]; exact wN.1
      · rw [F.I (by omega)]; exact wN.2.1
      · rw [F.I (by omega)]; exact (wN.2.2.1 i hi).1
      · rw [F.I (by omega)]; exact (wN.2.2.1 i hi).2.1
      · show hI h8 117 i = ((if i = a then nkn (aN S) a ||| 2 ^ b else if i = b then nkn (aN S) b ||| 2 ^ a else nkn (aN S) i : Nat) : Int)
        by_cases e : i = a
        · rw [if_pos e, e, n8 _ _ (fun q => m1 q.2), v6]
        · rw [if_neg e]
          by_cases e2 : i = b
          · rw [if_pos e2, e2, v8]
          · rw [if_neg e2, n8 _ _ (fun q => e2 q.2), n6 _ _ (fun q => e q.2), q4.I (by simp)]; exact (wN.2.2.1 i hi).2.2
      · rw [F.I (by omega), F.I (by omega), F.I (by omega), F.I (by omega), F.I (by omega)]; exact wN.2.2.2.1 t ht
      · show hI h8 118 (12 * x + y) = if x = a ∧ y = b then 1 else ngv (aN S) x y
        rw [q8.I (by simp), q6.I (by simp)]
        by_cases e : x = a ∧ y = b
        · rw [if_pos e, e.1, e.2, v4]
        · rw [if_neg e, n4' _ _ (by omega)]; exact wN.2.2.2.2 x y hx hy
  · refine p_of (S := S) (S' := S) (r := 0) (t := t) hS wM (fun Q HQ => ?_) (fun h1 Q w1 HQ => ?_)
    · have HQ := HQ h t wX zEq.rf
      refine v_X9_meet ⟨t, wX.1.1, wX.1.2.1, ?_⟩
      refine c_has wX.1.2.1 wC.1 ?_
      by_cases c1 : 0 ≤ x ∧ x < cn (aC S)
      · rw [if_pos c1]
        refine ⟨fun e => by omega, fun _ => ⟨t, wX.1.1, wX.1.2.1, ?_⟩⟩
        refine c_has wX.1.2.1 wC.1 ?_
        by_cases c2 : 0 ≤ y ∧ y < cn (aC S)
        · rw [if_pos c2]
          refine ⟨fun e => by omega, fun _ => ⟨t, wX.1.1, wX.1.2.1, ?_⟩⟩
          refine c_has wX.1.2.1 wC.1 ?_
          by_cases c3 : 0 ≤ z ∧ z < cn (aC S)
          · rw [if_pos c3]
            refine ⟨fun _ => ?_, fun e => by omega⟩
            obtain ⟨a, rfl⟩ : ∃ a : Nat, x = a := ⟨x.toNat, by omega⟩
            obtain ⟨b, rfl⟩ : ∃ b : Nat, y = b := ⟨y.toNat, by omega⟩
            obtain ⟨c, rfl⟩ : ∃ c : Nat, z = c := ⟨z.toNat, by omega⟩
            refine c_canMeet (by unfold isEarnest; omega) hC hN wN (by omega) (by omega) (by omega) (fun m => absurd ⟨a, b, c, rfl, rfl, rfl, by omega, by omega, by omega, m⟩ G) (fun _ => ⟨fun e => absurd rfl e, fun _ => HQ⟩)
          · rw [if_neg c3]; exact ⟨fun e => absurd rfl e, fun _ => HQ⟩
        · rw [if_neg c2]; exact ⟨fun _ => HQ, fun e => absurd rfl e⟩
      · rw [if_neg c1]; exact ⟨fun _ => HQ, fun e => absurd rfl e⟩
    · have HQ := HQ h1 w1 zEq.rf
      have wN := w1.2.2.2.1
      refine v_X10_meet ?_
      refine c_M_isPerson hC w1.2.2.1 wN ?_ (fun _ => ⟨fun _ => HQ, fun e => absurd rfl e⟩)
      rintro ⟨a, rfl, ha, ka, ta⟩
      refine ⟨fun e => by omega, fun _ => ?_⟩
      refine c_M_isPerson hC w1.2.2.1 wN ?_ (fun _ => ⟨fun _ => HQ, fun e => absurd rfl e⟩)
      rintro ⟨b, rfl, hb, kb, tb⟩
      refine ⟨fun e => by omega, fun _ => ⟨fun _ => HQ, fun e1 => ?_⟩⟩
      refine c_M_canMeetBy hC hN w1.2.2.1 wN ha hb ?_ (fun _ => ⟨fun _ => HQ, fun e => absurd rfl e⟩)
      rintro ⟨c, rfl, hc, e2, e3, tc, m8, m9⟩
      have b1 : w32 (12 * (a : Int)) = ((12 * a : Nat) : Int) := by rw [w32_id (by omega) (by omega)]; omega
      have b2 : w32 (((12 * a : Nat) : Int) + (b : Int)) = ((12 * a + b : Nat) : Int) := by rw [w32_id (by omega) (by omega)]; omega
      rw [b1, b2]
      simp only [Int.toNat_natCast]
      rw [wN.2.2.2.2 a b (by omega) (by omega)]
      refine ⟨fun e => by omega, fun _ => ⟨by omega, fun e => ?_, fun _ => HQ⟩⟩
      have := (hN.2.2.2.2.2.2.1 a b).1.1
      exact absurd ⟨a, b, c, rfl, rfl, rfl, ha, hb, hc, by omega, fun q => e2 q.symm, fun q => e3 q.symm, by omega, ta, tb, tc, m8, m9⟩ G
end M2
