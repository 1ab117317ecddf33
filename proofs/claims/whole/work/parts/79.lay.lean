/-! lay: the best way, and the way that lies there then -/
section LY
variable {E : zE} {d : Nat} {h : zS}
theorem c_hasEnds {k1 : Nat} {C : zCt} {Q : Int → zS → Prop} (hk1 : isCity k1) (wC : hI h k1 0 = (cn C : Int) ∧ hI h k1 2 = cga C ∧ hI h k1 3 = cse C) (H1 : (0 ≤ cga C ∧ cga C < cn C) ∧ (0 ≤ cse C ∧ cse C < cn C) → Q 1 h) (H0 : ¬ ((0 ≤ cga C ∧ cga C < cn C) ∧ (0 ≤ cse C ∧ cse C < cn C)) → Q 0 h) : zCi E (d + 1) m_X0_hasEnds [vo k1] h Q := by
  refine v_X0_hasEnds hk1 ?_
  rw [wC.2.1]
  refine c_has hk1 wC.1 ?_
  by_cases c : 0 ≤ cga C ∧ cga C < cn C
  · rw [if_pos c]
    refine ⟨fun e => by omega, fun _ => ?_⟩
    rw [wC.2.2]
    refine c_has hk1 wC.1 ?_
    by_cases c2 : 0 ≤ cse C ∧ cse C < cn C
    · rw [if_pos c2]; exact ⟨fun e => by omega, fun _ => H1 ⟨c, c2⟩⟩
    · rw [if_neg c2]; exact ⟨fun _ => H0 (fun q => c2 q.2), fun e => absurd rfl e⟩
  · rw [if_neg c]; exact ⟨fun _ => H0 (fun q => c q.1), fun e => absurd rfl e⟩
theorem c_lay {k1 : Nat} {C : zCt} {bo s0 : Int} {op : Int → Int → Int} {sp : Nat → Nat → Int} {L : Nat} {Q : Int → zS → Prop} (hk1 : isCity k1) (hn12 : cn C ≤ 12) (wC : hI h k1 0 = (cn C : Int) ∧ hI h k1 2 = cga C ∧ hI h k1 3 = cse C) (hL11 : L ≤ 11) (hs : spH h (cn C) sp) (hbo : hI h 30 2 = bo) (ho : ∀ z, z < cn C → ∀ l, l < L → opk bo op sp (cn C) (bL op s0 sp (cn C) z l))
    (H0 : ¬ ((0 ≤ cga C ∧ cga C < cn C) ∧ (0 ≤ cse C ∧ cse C < cn C)) → ∀ h1, hI h1 30 4 = 0 → zEq (fun c => c ≠ 30 ∧ c ≠ 32 ∧ c ≠ 33) h h1 → Q 4000000000000000000 h1)
    (H1 : ∀ g z : Nat, cga C = g → cse C = z → g < cn C → z < cn C → mn (fun l => bL op s0 sp (cn C) z l g) (L + 1) = 4000000000000000000 → ∀ h1, hI h1 30 4 = 0 → zEq (fun c => c ≠ 30 ∧ c ≠ 32 ∧ c ≠ 33) h h1 → Q 4000000000000000000 h1)
    (H2 : ∀ g z m : Nat, cga C = g → cse C = z → g < cn C → z < cn C → mn (fun l => bL op s0 sp (cn C) z l g) (L + 1) ≠ 4000000000000000000 → m = am (fun l => bL op s0 sp (cn C) z l g) (L + 1) → ∀ (w : Nat → Nat) h1, w 0 = g → (∀ k, k < m → fbI op s0 sp (cn C) z (m - 1 - k) (w k) (w (k + 1))) → hI h1 30 4 = ((m + 1 : Nat) : Int) → (∀ i, i ≤ m → hI h1 33 i = (w i : Int)) → zEq (fun c => c ≠ 30 ∧ c ≠ 32 ∧ c ≠ 33) h h1 → Q (mn (fun l => bL op s0 sp (cn C) z l g) (L + 1)) h1) : zCl E (d + 4) m_X7_lay [vo 30, vo k1, vi L, vl s0] h Q := by
  have kd := (city_lt hk1).2
  refine v_X7_lay hk1 ?_
  intro h1 e1
  obtain ⟨v1, n1, q1⟩ := st_cp e1
  clear e1
  have z1 : zEq (fun c => c ≠ 30 ∧ c ≠ 32 ∧ c ≠ 33) h h1 := q1.wk (fun c q => q.1)
  have wC1 : hI h1 k1 0 = (cn C : Int) ∧ hI h1 k1 2 = cga C ∧ hI h1 k1 3 = cse C := ⟨by rw [q1.I (by omega)]; exact wC.1, by rw [q1.I (by omega)]; exact wC.2.1, by rw [q1.I (by omega)]; exact wC.2.2⟩
  refine c_hasEnds hk1 wC1 (fun c => ⟨fun _ => ?_, fun e => by omega⟩) (fun c => ⟨fun e => absurd rfl e, fun _ => H0 c h1 v1 z1⟩)
  obtain ⟨g, hg⟩ : ∃ g : Nat, cga C = g := ⟨(cga C).toNat, by omega⟩
  obtain ⟨z, hz⟩ : ∃ z : Nat, cse C = z := ⟨(cse C).toNat, by omega⟩
  have hgn : g < cn C := by omega
  have hzn : z < cn C := by omega
  have H1 := H1 g z hg hz hgn hzn
  have H2 := fun m => H2 g z m hg hz hgn hzn
  have s1 : spH h1 (cn C) sp := fun a b ha hb => by rw [q1.I (by omega)]; exact hs a b ha hb
  have b1 : hI h1 30 2 = bo := by rw [n1 _ _ (by omega)]; exact hbo
  refine c_fillBest (s0 := s0) (z := z) hk1 wC1.1 (by rw [wC1.2.2, hz]) hn12 hzn hL11 s1 b1 (ho z hzn) (fun h4 B4 q4 => ?_)
  have z4 : zEq (fun c => c ≠ 30 ∧ c ≠ 32 ∧ c ≠ 33) h h4 := z1.tr (q4.wk (fun c q => q.2.1))
  have g4 : hI h4 k1 2 = (g : Int) := by rw [q4.I (by omega), wC1.2.1, hg]
  have len4 : hI h4 30 4 = 0 := by rw [q4.I (by omega)]; exact v1
  generalize hf : (fun l => bL op s0 sp (cn C) z l g) = f at *
  have fB : ∀ l, l ≤ L → hL h4 32 (12 * l + g) = f l := fun l hl => by rw [B4 l g hl hgn, ← hf]
  refine z_upS (σ := Unit) (n := L + 1) (fun i _ => zWl E (d + 3 + 1) m_X7_lay 34 [vo 30, vo k1, vi L, vn, vn, vl (mn f i), vn, vi (am f i : Nat), vi i] h4 Q) (fun _ _ => True) ?_ ?_ 0 () (by omega) trivial
  · intro _ _
    refine r_X7_lay_34 hk1 ⟨fun _ => ⟨fun c => ?_, fun c => ?_⟩, fun c => by omega⟩
    · have c := lc_0.mp c
      rw [c]; exact H1 c h4 len4 z4
    · have c : mn f (L + 1) ≠ 4000000000000000000 := fun e => c (lc_0.mpr e)
      have am1 := am_is (L + 1) c
      have hv : bL op s0 sp (cn C) z (am f (L + 1)) g ≠ 4000000000000000000 := by
        have : bL op s0 sp (cn C) z (am f (L + 1)) g = f (am f (L + 1)) := by rw [← hf]
        rw [this, am1.2.1]; exact c
      refine c_trace (s0 := s0) (z := z) (g := g) (L := L) hk1 (by rw [q4.I (by omega)]; exact wC1.1) g4 hn12 hgn (fun a b ha hb => by rw [q4.I (by omega)]; exact s1 a b ha hb) (by rw [q4.I (by omega)]; exact b1) B4 (ho z hzn) hL11 (by omega) hv (fun w h5 w0 wk l5 y5 z5 => ?_)
      exact H2 _ c rfl w h5 w0 wk l5 y5 (z4.tr (z5.wk (fun c q => ⟨q.1, q.2.2⟩)))
  · intro i _ hi _ ih
    refine r_X7_lay_34 hk1 ⟨fun c => by omega, fun _ => ?_⟩
    rw [w32s (by omega), g4]
    refine c_pair (by omega) (by omega) ⟨by omega, ?_⟩
    simp only [Int.toNat_natCast]
    rw [fB i (by omega)]
    have ih := ih () trivial
    have e1 : mn f (i + 1) = if f i < mn f i then f i else mn f i := rfl
    have e2 : am f (i + 1) = if f i < mn f i then i else am f i := rfl
    refine ⟨fun c => ?_, fun c => ?_⟩
    · have c := lc_g.mp c
      rw [e1, e2, if_neg (by omega), if_neg (by omega)] at ih; exact ih
    · have c := lc_l.mp c
      rw [g4]
      refine c_pair (by omega) (by omega) ⟨by omega, ?_⟩
      simp only [Int.toNat_natCast]
      rw [fB i (by omega)]
      rw [e1, e2, if_pos c, if_pos c] at ih; exact ih
end LY
