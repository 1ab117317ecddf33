/-! safe: the model's laySafe -/
theorem amx_is {f : Nat → Int} : ∀ n, mx f n ≠ 0 → ∃ k : Nat, k < n ∧ amx f n = k ∧ f k = mx f n
  | 0, h => absurd rfl h
  | n + 1, h => by
    have em : mx f (n + 1) = if f n ≤ mx f n then mx f n else f n := rfl
    have ea : amx f (n + 1) = if f n ≤ mx f n then amx f n else (n : Int) := rfl
    rw [em] at h ⊢
    rw [ea]
    by_cases c : f n ≤ mx f n
    · rw [if_pos c] at h ⊢
      rw [if_pos c]
      obtain ⟨k, h1, h2, h3⟩ := amx_is n h
      exact ⟨k, by omega, h2, h3⟩
    · rw [if_neg c, if_neg c]; exact ⟨n, by omega, rfl, rfl⟩
theorem sp_z {C : zCt} {g z : Nat} (hz : cse C = z) (gz : g ≠ z) : ∀ a, a < cn C → spr g (spS C) a z = -1 ∨ spr g (spS C) a z = 100 := by
  intro a _
  unfold spr spS
  rw [if_neg (show ¬ z = g from fun e => gz e.symm)]
  split
  · right; rw [if_pos (by rw [hz])]
  · left; rfl
section S2
variable {E : zE} {d : Nat} {h : zS}
theorem c_M_laySafe {C : zCt} {g z k : Nat} {Q : zS → Prop} (hC : okC C) (wC : MCity h C) (hg : cga C = g) (hz : cse C = z) (hgn : g < cn C) (hzn : z < cn C) (gz : g ≠ z) (hk : k ≤ 9) (hP : ∀ k a, k ≤ 9 → a < cn C → hL h 108 (12 * k + a) = pP (spr g (spS C)) (cn C) z k a) (p0 : pP (spr g (spS C)) (cn C) z k g ≠ 0)
    (HQ : ∀ h1, MWay h1 (k + 2) (fun i => (wz C g z (k + 1) i : Int)) → zEw (fun c i => ¬ (c = 89 ∧ i = 37) ∧ c ≠ 107) h h1 → zEq (fun c => c ≠ 89 ∧ c ≠ 107) h h1 → Q h1) : zCv E d m_X10_laySafe [vo 89, vi k] h Q := by
  have hn12 := hC.1
  have so := okO_r (g := g) (spS_ok hC)
  have sz := sp_z (C := C) (g := g) (z := z) hz gz
  have fC : ∀ h2, zEw (fun c i => ¬ (c = 89 ∧ i = 37) ∧ c ≠ 107) h h2 → MCity h2 C := fun h2 e => wC.w (fun i _ _ => (e _ _ ⟨by omega, by omega⟩).1) (fun j _ _ i => (e _ _ ⟨by omega, by omega⟩).1)
  refine v_X10_laySafe ?_
  rw [wC.2.2.1, hg]
  intro h1 e1 h2 e2
  have W1 : zEw (fun c i => ¬ (c = 89 ∧ i = 37) ∧ c ≠ 107) h h1 := by rw [e1]; exact zEw_I (by simp)
  have W2 : zEw (fun c i => ¬ (c = 89 ∧ i = 37) ∧ c ≠ 107) h1 h2 := by rw [e2]; exact zEw_I (by simp)
  obtain ⟨v1, n1, q1⟩ := st_cp e1
  obtain ⟨v2, n2, q2⟩ := st_cp e2
  clear e1 e2
  refine z_up (n := k) (fun j h3 => zWv E d m_X10_laySafe 19 [vo 89, vn, vi (wz C g z (k + 1) j), vi ((k - j : Nat) : Int), vn] h3 Q)
    (fun j h3 => wz C g z (k + 1) j < cn C ∧ wz C g z (k + 1) j ≠ z ∧ pP (spr g (spS C)) (cn C) z (k - j) (wz C g z (k + 1) j) ≠ 0 ∧ hI h3 89 37 = ((j + 1 : Nat) : Int) ∧ (∀ i, i ≤ j → hI h3 107 i = (wz C g z (k + 1) i : Int)) ∧ zEw (fun c i => ¬ (c = 89 ∧ i = 37) ∧ c ≠ 107) h h3 ∧ zEq (fun c => c ≠ 89 ∧ c ≠ 107) h h3) ?_ ?_ 0 h2 (by omega) ⟨hgn, gz, p0, v2, fun i hi => ?_, W1.tr W2, (q1.wk (fun c q => q.2)).tr (q2.wk (fun c q => q.1))⟩
  · rintro h3 ⟨u1, u2, u3, u4, u5, u6, u7⟩
    refine r_X10_laySafe_19 ⟨fun _ => ?_, fun c => by omega⟩
    rw [u4, (fC h3 u6).2.2.2.1, hz]
    refine ⟨by omega, ?_⟩
    simp only [Int.toNat_natCast]
    have ez : wz C g z (k + 1) (k + 1) = z := by
      have e := bO_pP so hzn sz 0 (wz C g z (k + 1) k) (by omega) u1 u2
      rw [show k - k = 0 by omega] at u3
      rw [if_neg u3] at e
      have kp := hK_pos (9 - 0)
      have pr := pP_rng (z := z) so 0 _ u1
      have pos := Int.mul_pos (show 0 < pP (spr g (spS C)) (cn C) z 0 (wz C g z (k + 1) k) by omega) kp
      have nw : bO (spr g (spS C)) (cn C) z (0 + 1) (wz C g z (k + 1) k) ≠ 4000000000000000000 := by rw [e]; omega
      obtain ⟨b, hb⟩ := fb_ex nw
      have : wz C g z (k + 1) (k + 1) = b := wz_is (by rw [show k + 1 - 1 - k = 0 by omega]; exact hb)
      rw [this]
      refine Classical.byContradiction (fun bz => ?_)
      have q := hb.2.1
      unfold onw at q
      rw [if_pos (.inr (by show bO _ _ _ 0 b = _; rw [bO_0, if_neg bz]))] at q
      exact nw q.symm
    intro h4 e4
    have W4 : zEw (fun c i => ¬ (c = 89 ∧ i = 37) ∧ c ≠ 107) h3 h4 := by rw [e4]; exact zEw_I (by simp)
    obtain ⟨v4, n4, q4⟩ := st_cp e4
    clear e4
    have l4 : hI h4 89 37 = ((k + 1 : Nat) : Int) := by rw [q4.I (by omega)]; exact u4
    rw [l4, w32s (by omega)]
    intro h5 e5
    have W5 : zEw (fun c i => ¬ (c = 89 ∧ i = 37) ∧ c ≠ 107) h4 h5 := by rw [e5]; exact zEw_I (by simp)
    obtain ⟨v5, n5, q5⟩ := st_cp e5
    clear e5
    refine HQ h5 ⟨v5, fun i hi => ?_⟩ (u6.tr (W4.tr W5)) (u7.tr ((q4.wk (fun c q => q.2)).tr (q5.wk (fun c q => q.1))))
    by_cases e : i = k + 1
    · rw [e, q5.I (by omega), v4]
      show (z : Int) = ((wz C g z (k + 1) (k + 1) : Nat) : Int)
      rw [ez]
    · rw [q5.I (by omega), n4 _ _ (fun q => e q.2)]; exact u5 i (by omega)
  · rintro j h3 hj ⟨u1, u2, u3, u4, u5, u6, u7⟩ ih
    have wC3 := fC h3 u6
    obtain ⟨t, ht⟩ : ∃ t, k - j = t + 1 := ⟨k - j - 1, by omega⟩
    have ht2 : k - (j + 1) = t := by omega
    have e := bO_pP so hzn sz (t + 1) (wz C g z (k + 1) j) (by omega) u1 u2
    rw [ht] at u3 ⊢
    rw [if_neg u3] at e
    have kp := hK_pos (9 - (t + 1))
    have pr := pP_rng (z := z) so (t + 1) _ u1
    have pos := Int.mul_pos (show 0 < pP (spr g (spS C)) (cn C) z (t + 1) (wz C g z (k + 1) j) by omega) kp
    have nw : bO (spr g (spS C)) (cn C) z (t + 1 + 1) (wz C g z (k + 1) j) ≠ 4000000000000000000 := by rw [e]; omega
    clear e pos kp
    obtain ⟨b, hb⟩ := fb_ex nw
    have wb : wz C g z (k + 1) (j + 1) = b := wz_is (by rw [show k + 1 - 1 - j = t + 1 by omega]; exact hb)
    have cnd := fun q hq => onw_cnd (p := wz C g z (k + 1) j) (q := q) so hzn sz (k := t) (by omega) u1 hq u2 u3
    have cb := (cnd b hb.1).mp hb.2.1
    have nb : ∀ q, q < b → ¬ (q ≠ z ∧ spr g (spS C) (wz C g z (k + 1) j) q ≠ -1 ∧ spr g (spS C) (wz C g z (k + 1) j) q * pP (spr g (spS C)) (cn C) z t q = pP (spr g (spS C)) (cn C) z (t + 1) (wz C g z (k + 1) j)) := fun q hq x => hb.2.2 q hq ((cnd q (Nat.lt_trans hq hb.1)).mpr x)
    clear cnd
    have bn := hb.1
    clear hb
    rw [wb, ht2] at ih
    have ih : ∀ h', (b < cn C ∧ b ≠ z ∧ pP (spr g (spS C)) (cn C) z t b ≠ 0 ∧ hI h' 89 37 = ((j + 1 + 1 : Nat) : Int) ∧ (∀ i, i ≤ j + 1 → hI h' 107 i = (wz C g z (k + 1) i : Int)) ∧ zEw (fun c i => ¬ (c = 89 ∧ i = 37) ∧ c ≠ 107) h h' ∧ zEq (fun c => c ≠ 89 ∧ c ≠ 107) h h') → zWv E d m_X10_laySafe 19 [vo 89, vn, vi b, vi t, vn] h' Q := ih
    generalize wz C g z (k + 1) j = p at *
    have p12 : p < 12 := Nat.lt_of_lt_of_le u1 hn12
    refine r_X10_laySafe_19 ⟨fun c => by omega, fun _ => ?_⟩
    -- one look at q
    have look : ∀ q, q < cn C → ((q ≠ z ∧ spr g (spS C) p q ≠ -1 ∧ spr g (spS C) p q * pP (spr g (spS C)) (cn C) z t q = pP (spr g (spS C)) (cn C) z (t + 1) p) → (0 ≤ hI h3 89 37 ∧ hI h3 89 37 < 12) ∧ ∀ h6, h6 = stI h3 107 (hI h3 89 37).toNat q → ∀ h7, h7 = stI h6 89 37 (w32 ((hI h6 89 37) + 1)) → zWv E d m_X10_laySafe 19 [vo 89, vn, vi q, vi t, vn] h7 Q) → (¬ (q ≠ z ∧ spr g (spS C) p q ≠ -1 ∧ spr g (spS C) p q * pP (spr g (spS C)) (cn C) z t q = pP (spr g (spS C)) (cn C) z (t + 1) p) → zWv E d m_X10_laySafe 26 [vo 89, vn, vi p, vi ((t + 1 : Nat) : Int), vi ((q + 1 : Nat) : Int)] h3 Q) → zWv E d m_X10_laySafe 26 [vo 89, vn, vi p, vi ((t + 1 : Nat) : Int), vi q] h3 Q := by
      intro q hq yes no
      have q12 : q < 12 := Nat.lt_of_lt_of_le hq hn12
      have w1 : w32 (((t + 1 : Nat) : Int) - 1) = (t : Int) := by rw [w32_id (by omega) (by omega)]; omega
      have w2 : w32 (((t + 1 : Nat) : Int) + -1) = (t : Int) := by rw [w32_id (by omega) (by omega)]; omega
      refine r_X10_laySafe_26 ?_
      rw [w1, w2, w32q p12 q12, w32q (show t < 12 by omega) q12, w32q (show t + 1 < 12 by omega) p12, w32t q12]
      clear w1 w2
      refine ⟨by omega, ?_⟩
      simp only [Int.toNat_natCast]
      rw [wC3.2.2.2.2.2.2.1 p q p12 q12, wC3.2.2.2.1, wC3.2.2.1, hg, hz, (wC3.2.2.2.2.2.1 q hq).2.2.2.1, u7.L (by omega), u7.L (by omega), hP t q (by omega) hq, hP (t + 1) p (by omega) u1]
      have tr := (hC.2.2.2.2.2.2 p q).1
      have rq := (hC.2.2.2.2.2.1 q hq).2.2.2.1
      refine ⟨fun c1 => no (fun x => x.2.1 ?_), fun c1 => ⟨fun c2 => no (fun x => x.1 (by omega)), fun c2 => ⟨fun c3 => no (fun x => x.2.1 ?_), fun c3 => ⟨by omega, by omega, by omega, ?_⟩⟩⟩⟩
      · unfold spr spS
        split
        · rfl
        · rw [if_neg (by omega)]
      · unfold spr; rw [if_pos (by omega)]
      · have es : spr g (spS C) p q = 100 - cri C q := by
          unfold spr spS
          rw [if_neg (by omega), if_pos (by omega), hz, if_neg c2]
        have pq := pP_rng (z := z) so t q hq
        have kr := (hK_mul (k := t + 1) (by omega)).2
        rw [hK_s] at kr
        rw [es] at yes no
        generalize pP (spr g (spS C)) (cn C) z t q = P at *
        have m1 := Int.mul_le_mul_of_nonneg_right (show 100 - cri C q ≤ 100 by omega) pq.1
        have m2 := Int.mul_nonneg (show 0 ≤ 100 - cri C q by omega) pq.1
        rw [w64_id (z := 100 - cri C q) (by omega) (by omega), w64_id (by omega) (by omega)]
        exact ⟨fun c4 => yes ⟨by omega, by omega, lc_0.mp c4⟩, fun c4 => no (fun x => c4 (lc_0.mpr x.2.2))⟩
    refine z_upS (σ := Unit) (n := b) (fun q _ => zWv E d m_X10_laySafe 26 [vo 89, vn, vi p, vi ((t + 1 : Nat) : Int), vi q] h3 Q) (fun _ _ => True) ?_ ?_ 0 () (by omega) trivial
    · intro _ _
      refine look b bn (fun _ => ?_) (fun n => absurd cb n)
      rw [u4]
      refine ⟨by omega, ?_⟩
      simp only [Int.toNat_natCast]
      intro h6 e6
      have W6 : zEw (fun c i => ¬ (c = 89 ∧ i = 37) ∧ c ≠ 107) h3 h6 := by rw [e6]; exact zEw_I (by simp)
      obtain ⟨v6, n6, q6⟩ := st_cp e6
      clear e6
      have l6 : hI h6 89 37 = ((j + 1 : Nat) : Int) := by rw [q6.I (by omega)]; exact u4
      rw [l6, w32s (by omega)]
      intro h7 e7
      have W7 : zEw (fun c i => ¬ (c = 89 ∧ i = 37) ∧ c ≠ 107) h6 h7 := by rw [e7]; exact zEw_I (by simp)
      obtain ⟨v7, n7, q7⟩ := st_cp e7
      clear e7
      refine ih h7 ⟨bn, cb.1, fun e => ?_, v7, fun i hi => ?_, u6.tr (W6.tr W7), u7.tr ((q6.wk (fun c q => q.2)).tr (q7.wk (fun c q => q.1)))⟩
      · have := cb.2.2
        rw [e, Int.mul_zero] at this
        exact u3 this.symm
      · by_cases e : i = j + 1
        · rw [e, q7.I (by omega), v6, wb]
        · rw [q7.I (by omega), n6 _ _ (fun q => e q.2)]; exact u5 i (by omega)
    · intro q _ hq _ ih2
      exact look q (Nat.lt_trans hq bn) (fun x => absurd x (nb q hq)) (fun _ => ih2 () trivial)
  · have : i = 0 := by omega
    rw [this, q2.I (by omega), v1]
    rfl
end S2
