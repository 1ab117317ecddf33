/-! feed: the tape -/
def tS (b : Nat → Nat) (n v : Nat) : Nat → Nat := fun i => if i = n then v else b i
def tB (x k : Int) : Nat := (z_shr x k % 256).toNat
def tPut (b : Nat → Nat) (n : Nat) (x : Int) : Nat → Nat := tS (tS (tS (tS b n (tB x 24)) (n + 1) (tB x 16)) (n + 2) (tB x 8)) (n + 3) (tB x 0)
theorem tB_lt (x k : Int) : tB x k < 256 := by unfold tB; omega
theorem tS_lt {b : Nat → Nat} {n v : Nat} (hb : ∀ i, b i < 256) (hv : v < 256) : ∀ i, tS b n v i < 256 := by
  intro i; unfold tS; split
  · exact hv
  · exact hb i
theorem tPut_lt {b : Nat → Nat} {n : Nat} {x : Int} (hb : ∀ i, b i < 256) : ∀ i, tPut b n x i < 256 := tS_lt (tS_lt (tS_lt (tS_lt hb (tB_lt _ _)) (tB_lt _ _)) (tB_lt _ _)) (tB_lt _ _)
theorem zb_and255 (a : Int) (ha : r32 a) : z_and a 255 = a % 256 := by
  have e : (i32 a &&& i32 255).toBitVec.toNat = (i32 a).toBitVec.toNat % 256 := by
    rw [Int32.toBitVec_and, BitVec.toNat_and]
    have h1 : (i32 255).toBitVec.toNat = 2 ^ 8 - 1 := by decide +kernel
    rw [h1, Nat.and_two_pow_sub_one_eq_mod]
  unfold z_and
  rw [zb_i _ (by rw [e]; omega), e]
  have h2 := i32_t ha
  have h3 : (i32 a).toInt = (i32 a).toBitVec.toInt := rfl
  rw [h3, BitVec.toInt_eq_toNat_cond] at h2
  have h4 := (i32 a).toBitVec.isLt
  split at h2 <;> omega
theorem w8_tB (x k : Int) : w8 (w8 (z_shr x k)) = if tB x k < 128 then (tB x k : Int) else (tB x k : Int) - 256 := by
  unfold tB w8
  generalize z_shr x k = z
  split <;> omega
section FD
variable {E : zE} {d : Nat} {h : zS}
theorem x_put1 {h2 h3 : zS} {n : Nat} {b : Nat → Nat} {x k : Int} (hn : n < 1600) (w : XTape h n b) (e2 : h2 = stI h 1 n (w8 (w8 (z_shr x k)))) (e3 : h3 = stI h2 0 1 (w32 (hI h2 0 1 + 1))) :
    XTape h3 (n + 1) (tS b n (tB x k)) ∧ zEw (fun c i => ¬ (c = 0 ∧ i = 1) ∧ c ≠ 1) h h3 ∧ zEq (fun c => c ≠ 0 ∧ c ≠ 1) h h3 := by
  have r2 : zEw (fun c i => ¬ (c = 0 ∧ i = 1) ∧ c ≠ 1) h h2 := by rw [e2]; exact zEw_I (fun q => q.2 rfl)
  have r3 : zEw (fun c i => ¬ (c = 0 ∧ i = 1) ∧ c ≠ 1) h2 h3 := by rw [e3]; exact zEw_I (fun q => q.1 ⟨rfl, rfl⟩)
  obtain ⟨v2, n2, q2⟩ := st_cp e2
  obtain ⟨v3, n3, q3⟩ := st_cp e3
  clear e2 e3
  rw [q2.I (by simp), w.1, w32s (by omega)] at v3
  refine ⟨⟨v3, fun i hi => ?_⟩, r2.tr r3, (q2.wk (fun c q => q.2)).tr (q3.wk (fun c q => q.1))⟩
  rw [q3.I (by simp)]
  by_cases e : i = n
  · have : tS b n (tB x k) i = tB x k := if_pos e
    rw [this, e, v2, w8_tB]
  · have : tS b n (tB x k) i = b i := if_neg e
    rw [n2 _ _ (fun q => e q.2), this]
    exact w.2 i (by omega)
theorem c_put {n : Nat} {b : Nat → Nat} {x : Int} {Q : zS → Prop} (hn : n + 4 ≤ 1600) (w : XTape h n b)
    (HQ : ∀ h1, XTape h1 (n + 4) (tPut b n x) → zEw (fun c i => ¬ (c = 0 ∧ i = 1) ∧ c ≠ 1) h h1 → zEq (fun c => c ≠ 0 ∧ c ≠ 1) h h1 → Q h1) : zCv E d m_X9_put [vo 0, vi x] h Q := by
  refine v_X9_put ?_
  have st : ∀ (g : zS) (m : Nat) (f : Nat → Nat) (k k' : Int), m < 1600 → 0 ≤ k → w32 (k + (-8)) = k' → XTape g m f → (∀ g3, XTape g3 (m + 1) (tS f m (tB x k)) → zEw (fun c i => ¬ (c = 0 ∧ i = 1) ∧ c ≠ 1) g g3 → zEq (fun c => c ≠ 0 ∧ c ≠ 1) g g3 → zWv E d m_X9_put 3 [vo 0, vi x, vi k'] g3 Q) → zWv E d m_X9_put 3 [vo 0, vi x, vi k] g Q := by
    intro g m f k k' hm hk hk' wg next
    refine r_X9_put_3 ⟨fun _ => by omega, fun _ => ?_⟩
    rw [wg.1, hk']
    refine ⟨fun _ => by omega, fun _ => ⟨by omega, ?_⟩⟩
    intro h2 e2 h3 e3
    rw [Int.toNat_natCast] at e2
    obtain ⟨a, b, c⟩ := x_put1 hm wg e2 e3
    exact next h3 a b c
  refine st h n b 24 16 (by omega) (by omega) (by decide) w (fun h1 a1 b1 c1 => ?_)
  refine st h1 _ _ 16 8 (by omega) (by omega) (by decide) a1 (fun h2 a2 b2 c2 => ?_)
  refine st h2 _ _ 8 0 (by omega) (by omega) (by decide) a2 (fun h3 a3 b3 c3 => ?_)
  refine st h3 _ _ 0 (-8) (by omega) (by omega) (by decide) a3 (fun h4 a4 b4 c4 => ?_)
  exact r_X9_put_3 ⟨fun _ => HQ h4 a4 (b1.tr (b2.tr (b3.tr b4))) (c1.tr (c2.tr (c3.tr c4))), fun k => by omega⟩
theorem m_put1 {h2 h3 : zS} {n : Nat} {b : Nat → Nat} {x k : Int} (hn : n < 1600) (w : MTape h n b) (e2 : h2 = stI h 90 n (z_and (z_shr x k) 255)) (e3 : h3 = stI h2 89 1 (w32 (hI h2 89 1 + 1))) :
    MTape h3 (n + 1) (tS b n (tB x k)) ∧ zEw (fun c i => ¬ (c = 89 ∧ i = 1) ∧ c ≠ 90) h h3 ∧ zEq (fun c => c ≠ 89 ∧ c ≠ 90) h h3 := by
  have r2 : zEw (fun c i => ¬ (c = 89 ∧ i = 1) ∧ c ≠ 90) h h2 := by rw [e2]; exact zEw_I (fun q => q.2 rfl)
  have r3 : zEw (fun c i => ¬ (c = 89 ∧ i = 1) ∧ c ≠ 90) h2 h3 := by rw [e3]; exact zEw_I (fun q => q.1 ⟨rfl, rfl⟩)
  obtain ⟨v2, n2, q2⟩ := st_cp e2
  obtain ⟨v3, n3, q3⟩ := st_cp e3
  clear e2 e3
  rw [q2.I (by simp), w.1, w32s (by omega)] at v3
  refine ⟨⟨v3, fun i hi => ?_⟩, r2.tr r3, (q2.wk (fun c q => q.2)).tr (q3.wk (fun c q => q.1))⟩
  rw [q3.I (by simp)]
  by_cases e : i = n
  · have : tS b n (tB x k) i = tB x k := if_pos e
    rw [this, e, v2, zb_and255 (z_shr x k) (r32_i _)]
    unfold tB; omega
  · have : tS b n (tB x k) i = b i := if_neg e
    rw [n2 _ _ (fun q => e q.2), this]
    exact w.2 i (by omega)
theorem c_M_four {n : Nat} {b : Nat → Nat} {x : Int} {Q : zS → Prop} (hn : n + 4 ≤ 1600) (w : MTape h n b)
    (HQ : ∀ h1, MTape h1 (n + 4) (tPut b n x) → zEw (fun c i => ¬ (c = 89 ∧ i = 1) ∧ c ≠ 90) h h1 → zEq (fun c => c ≠ 89 ∧ c ≠ 90) h h1 → Q h1) : zCv E d m_X10_four [vo 89, vi x] h Q := by
  refine v_X10_four ?_
  have st : ∀ (g : zS) (m : Nat) (f : Nat → Nat) (k k' : Int), m < 1600 → 0 ≤ k → w32 (k + (-8)) = k' → MTape g m f → (∀ g3, MTape g3 (m + 1) (tS f m (tB x k)) → zEw (fun c i => ¬ (c = 89 ∧ i = 1) ∧ c ≠ 90) g g3 → zEq (fun c => c ≠ 89 ∧ c ≠ 90) g g3 → zWv E d m_X10_four 3 [vo 89, vi x, vi k'] g3 Q) → zWv E d m_X10_four 3 [vo 89, vi x, vi k] g Q := by
    intro g m f k k' hm hk hk' wg next
    refine r_X10_four_3 ⟨fun _ => by omega, fun _ => ?_⟩
    rw [wg.1, hk']
    refine ⟨by omega, ?_⟩
    intro h2 e2 h3 e3
    rw [Int.toNat_natCast] at e2
    obtain ⟨a, b, c⟩ := m_put1 hm wg e2 e3
    exact next h3 a b c
  refine st h n b 24 16 (by omega) (by omega) (by decide) w (fun h1 a1 b1 c1 => ?_)
  refine st h1 _ _ 16 8 (by omega) (by omega) (by decide) a1 (fun h2 a2 b2 c2 => ?_)
  refine st h2 _ _ 8 0 (by omega) (by omega) (by decide) a2 (fun h3 a3 b3 c3 => ?_)
  refine st h3 _ _ 0 (-8) (by omega) (by omega) (by decide) a3 (fun h4 a4 b4 c4 => ?_)
  exact r_X10_four_3 ⟨fun _ => HQ h4 a4 (b1.tr (b2.tr (b3.tr b4))) (c1.tr (c2.tr (c3.tr c4))), fun k => by omega⟩
theorem p_feed {x1 x2 x3 x4 x5 : Int} (w : zGo h) : zPair E m_X9_feed m_X10_feed [vi x1, vi x2, vi x3, vi x4, vi x5] h := by
  obtain ⟨t, S, hS, wX, wM⟩ := w
  have hT := hS.1
  have wT := wX.2.1
  have hw : w32 ((aTn S : Int) + 20) = (aTn S : Int) + 20 := w32_id (by omega) (by omega)
  by_cases c : aTn S + 20 ≤ 1600
  · refine p_of (S := S) (S' := sT S (aTn S + 4 + 4 + 4 + 4 + 4) (tPut (tPut (tPut (tPut (tPut (aTb S) (aTn S) x1) (aTn S + 4) x2) (aTn S + 4 + 4) x3) (aTn S + 4 + 4 + 4) x4) (aTn S + 4 + 4 + 4 + 4) x5)) (r := ((aTn S + 4 + 4 + 4 + 4 + 4 : Nat) : Int)) (t := t) (hS.sT ⟨by omega, tPut_lt (tPut_lt (tPut_lt (tPut_lt (tPut_lt hT.2))))⟩) wM (fun Q HQ => ?_) (fun h1 Q w1 HQ => ?_)
    · refine v_X9_feed ?_
      rw [wT.1, hw]
      refine ⟨fun _ => ?_, fun _ => by omega⟩
      refine c_put (by omega) wT (fun g1 a1 b1 c1 => ?_)
      refine c_put (by omega) a1 (fun g2 a2 b2 c2 => ?_)
      refine c_put (by omega) a2 (fun g3 a3 b3 c3 => ?_)
      refine c_put (by omega) a3 (fun g4 a4 b4 c4 => ?_)
      refine c_put (by omega) a4 (fun g5 a5 b5 c5 => ?_)
      rw [a5.1]
      exact HQ g5 t (wX.sT ((b1.tr (b2.tr (b3.tr (b4.tr b5)))).wk (fun c i q => q.2)) a5) ((c1.tr (c2.tr (c3.tr (c4.tr c5)))).wk (fun c q => by omega))
    · refine v_X10_feed ?_
      rw [w1.1.1, hw]
      refine ⟨fun _ => ?_, fun _ => by omega⟩
      refine c_M_four (by omega) w1.1 (fun g1 a1 b1 c1 => ?_)
      refine c_M_four (by omega) a1 (fun g2 a2 b2 c2 => ?_)
      refine c_M_four (by omega) a2 (fun g3 a3 b3 c3 => ?_)
      refine c_M_four (by omega) a3 (fun g4 a4 b4 c4 => ?_)
      refine c_M_four (by omega) a4 (fun g5 a5 b5 c5 => ?_)
      rw [a5.1]
      exact HQ g5 (w1.sT ((b1.tr (b2.tr (b3.tr (b4.tr b5)))).wk (fun c i q => q.2)) a5) ((c1.tr (c2.tr (c3.tr (c4.tr c5)))).wk (fun c q => by omega))
  · refine p_of (S := S) (S' := S) (r := -1) (t := t) hS wM (fun Q HQ => ?_) (fun h1 Q w1 HQ => ?_)
    · refine v_X9_feed ?_
      rw [wT.1, hw]
      exact ⟨fun _ => by omega, fun _ => HQ h t wX zEq.rf⟩
    · refine v_X10_feed ?_
      rw [w1.1.1, hw]
      exact ⟨fun _ => by omega, fun _ => HQ h1 w1 zEq.rf⟩
end FD
