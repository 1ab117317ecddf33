/-! image: both sides -/
def imU (Im : Nat → Option zEn) (a : Nat) (N : zEn) : Nat → Option zEn := fun b => if b = a then some N else Im b
theorem imU_p {Im : Nat → Option zEn} {a b : Nat} {N : zEn} (e : b = a) : imU Im a N b = some N := if_pos e
theorem imU_n {Im : Nat → Option zEn} {a b : Nat} {N : zEn} (e : ¬ b = a) : imU Im a N b = Im b := if_neg e
section I3
variable {E : zE} {d : Nat} {h : zS}
theorem c_M_image {x : Nat} {C : zCt} {N : zEn} {Q : Int → zS → Prop} (hx : x < 3) (hC : okC C) (hN : okN C N) (wN : MEarn h C N)
    (HQ : ∀ h1, MBox h1 x C N → (∀ b N', b < 3 → b ≠ x → MBox h b C N' → okN C N' → MBox h1 b C N') → (∀ b, hI h1 130 b = if b = x then 1 else hI h 130 b) → zEq (fun c => ¬ (130 ≤ c ∧ c ≤ 134)) h h1 → Q (nd N) h1) : zCi E (d + 1) m_X10_image [vo 89, vi x] h Q := by
  have hn12 := hC.1
  have ht12 := hN.2.1
  refine v_X10_image ?_
  refine c_M_isBox ?_
  rw [if_pos (by omega)]
  refine ⟨fun _ => ⟨by omega, ?_⟩, fun e => by omega⟩
  have a1 : w32 (2 * (x : Int)) = ((2 * x : Nat) : Int) := by rw [w32_id (by omega) (by omega)]; omega
  have a2 : w32 (((2 * x : Nat) : Int) + 1) = ((2 * x + 1 : Nat) : Int) := by rw [w32_id (by omega) (by omega)]; omega
  rw [a1, a2]
  simp only [Int.toNat_natCast]
  intro h4 x4
  obtain ⟨v4, n4, q4⟩ := st_cp x4
  clear x4
  refine ⟨by omega, ?_⟩
  intro h6 x6
  obtain ⟨v6, n6, q6⟩ := st_cp x6
  clear x6
  refine ⟨by omega, ?_⟩
  intro h8 x8
  obtain ⟨v8', n8, q8⟩ := st_cp x8
  clear x8
  have e8 : zEq (fun c => c ≠ 130 ∧ c ≠ 131) h h8 := (q4.wk (fun c q => q.1)).tr ((q6.wk (fun c q => q.2)).tr (q8.wk (fun c q => q.2)))
  have f1 : hI h8 131 (2 * x) = nd N := by rw [n8 _ _ (by omega), v6, n4 _ _ (by omega)]; exact wN.1
  have f2 : hI h8 131 (2 * x + 1) = nt N := by rw [v8', n6 _ _ (by omega), n4 _ _ (by omega)]; exact wN.2.1
  have f3 : ∀ j, j < 2 * x ∨ 2 * x + 1 < j → hI h8 131 j = hI h 131 j := fun j hj => by rw [n8 _ _ (by omega), n6 _ _ (by omega), n4 _ _ (by omega)]
  have f4 : ∀ b, hI h8 130 b = if b = x then 1 else hI h 130 b := by
    intro b
    rw [n8 _ _ (by omega), n6 _ _ (by omega)]
    by_cases c : b = x
    · rw [if_pos c, c, v4]
    · rw [if_neg c, n4 _ _ (by omega)]
  clear v4 n4 q4 v6 n6 q6 v8' n8 q8
  refine c_M_im1 hx (fun h9 p1 p2 p3 => ?_)
  refine c_M_im2 hx (fun h10 s1 s2 s3 => ?_)
  refine c_M_im3 hx (fun h11 u1 u2 u3 => ?_)
  have F : zEq (fun c => ¬ (130 ≤ c ∧ c ≤ 134)) h h11 := (e8.wk (fun c q => by omega)).tr ((p3.wk (fun c q => by omega)).tr ((s3.wk (fun c q => by omega)).tr (u3.wk (fun c q => by omega))))
  have k130 : ∀ j, hI h11 130 j = hI h8 130 j := fun j => by rw [u3.I (by simp), s3.I (by simp), p3.I (by simp)]
  have k131 : ∀ j, hI h11 131 j = hI h8 131 j := fun j => by rw [u3.I (by simp), s3.I (by simp), p3.I (by simp)]
  have k132 : ∀ j, hI h11 132 j = hI h9 132 j := fun j => by rw [u3.I (by simp), s3.I (by simp)]
  have k133 : ∀ j, hI h11 133 j = hI h10 133 j := fun j => by rw [u3.I (by simp)]
  have e1 : hI h11 89 54 = nd N := by rw [F.I (by omega)]; exact wN.1
  rw [e1]
  have P : ∀ j, j < 12 → hI h11 132 (3 * (12 * x + j)) = hI h 115 j ∧ hI h11 132 (3 * (12 * x + j) + 1) = hI h 116 j ∧ hI h11 132 (3 * (12 * x + j) + 2) = hI h 117 j := by
    intro j hj
    have := p1 j hj
    rw [e8.I (by simp), e8.I (by simp), e8.I (by simp)] at this
    rw [k132, k132, k132]; exact this
  have U : ∀ c, 118 ≤ c → c ≤ 123 → ∀ j, hI h10 c j = hI h c j := fun c _ _ j => by rw [s3.I (by omega), p3.I (by omega), e8.I (by omega)]
  have T : ∀ j, j < 12 → hI h11 134 (5 * (12 * x + j)) = hI h 119 j ∧ hI h11 134 (5 * (12 * x + j) + 1) = hI h 120 j ∧ hI h11 134 (5 * (12 * x + j) + 2) = hI h 121 j ∧ hI h11 134 (5 * (12 * x + j) + 3) = hI h 122 j ∧ hI h11 134 (5 * (12 * x + j) + 4) = hI h 123 j := by
    intro j hj
    have := u1 j hj
    rw [U 119 (by omega) (by omega), U 120 (by omega) (by omega), U 121 (by omega) (by omega), U 122 (by omega) (by omega), U 123 (by omega) (by omega)] at this
    exact this
  have G : ∀ j, j < 144 → hI h11 133 (144 * x + j) = hI h 118 j := by
    intro j hj
    have := s1 j hj
    rw [p3.I (by simp), e8.I (by simp)] at this
    rw [k133]; exact this
  have P2 : ∀ j, j < 36 * x ∨ 36 * x + 36 ≤ j → hI h11 132 j = hI h 132 j := fun j hj => by rw [k132, p2 j hj, e8.I (by simp)]
  have G2 : ∀ j, j < 144 * x ∨ 144 * x + 144 ≤ j → hI h11 133 j = hI h 133 j := fun j hj => by rw [k133, s2 j hj, p3.I (by simp), e8.I (by simp)]
  have T2 : ∀ j, j < 60 * x ∨ 60 * x + 60 ≤ j → hI h11 134 j = hI h 134 j := fun j hj => by rw [u2 j hj, s3.I (by simp), p3.I (by simp), e8.I (by simp)]
  clear p1 p2 p3 s1 s2 s3 u1 u2 u3 U
  refine HQ h11 ⟨?_, ?_, fun i hi => ?_, fun t ht => ?_, fun a b ha hb => ?_⟩ (fun b N' hb hne w2 ok2 => ?_) (fun b => ?_) F
  · rw [k131]; exact f1
  · rw [k131]; exact f2
  · have q := P i (by omega)
    have q2 := wN.2.2.1 i hi
    exact ⟨q.1.trans q2.1, q.2.1.trans q2.2.1, q.2.2.trans q2.2.2⟩
  · have q := T t (by omega)
    have q2 := wN.2.2.2.1 t ht
    exact ⟨q.1.trans q2.1, q.2.1.trans q2.2.1, q.2.2.1.trans q2.2.2.1, q.2.2.2.1.trans q2.2.2.2.1, q.2.2.2.2.trans q2.2.2.2.2⟩
  · rw [G _ (by omega)]; exact wN.2.2.2.2 a b ha hb
  · obtain ⟨m1, m2, m3, m4, m5⟩ := w2
    have ok12 := ok2.2.1
    refine ⟨?_, ?_, fun i hi => ?_, fun t ht => ?_, fun a c ha hc => ?_⟩
    · rw [k131, f3 _ (by omega)]; exact m1
    · rw [k131, f3 _ (by omega)]; exact m2
    · rw [P2 _ (by omega), P2 _ (by omega), P2 _ (by omega)]; exact m3 i hi
    · rw [T2 _ (by omega), T2 _ (by omega), T2 _ (by omega), T2 _ (by omega), T2 _ (by omega)]; exact m4 t ht
    · rw [G2 _ (by omega)]; exact m5 a c ha hc
  · rw [k130]; exact f4 b
theorem p_image {x : Int} (w : zGo h) : zPair E m_X9_image m_X10_image [vi x] h := by
  obtain ⟨t, S, hS, wX, wM⟩ := w
  have hC := hS.2.1
  have hN := hS.2.2.1
  have hI3 := hS.2.2.2.1
  by_cases c : 0 ≤ x ∧ x < 3
  · obtain ⟨a, rfl⟩ : ∃ a : Nat, x = a := ⟨x.toNat, by omega⟩
    have ha : a < 3 := by omega
    have ok : okS (sI S (imU (aIm S) a (aN S))) := by
      refine hS.sI (fun b N hb hi => ?_)
      by_cases e : b = a
      · rw [imU_p e] at hi; cases hi; exact hN
      · rw [imU_n e] at hi; exact hI3 b N hb hi
    refine p_of (S := S) (S' := sI S (imU (aIm S) a (aN S))) (r := nd (aN S)) (t := t) ok wM (fun Q HQ => ?_) (fun h1 Q w1 HQ => ?_)
    · have wI := wX.2.2.2.2.2.2.1
      refine v_X9_image ⟨fun _ => by omega, fun _ => ⟨fun _ => ⟨by omega, 47 + 12 * a, ?_, box_e ha, ?_⟩, fun _ => by omega⟩⟩
      · rw [Int.toNat_natCast]; exact wI.2.1 a ha
      · refine c_copy (box_e ha) (by unfold isEarnest; omega) (by omega) hC.1 hN.2.1 wX.2.2.2.2.2.1 ?_
        intro h3 g1 g2
        have b0 : hI h3 0 9 = (bset (fun b => decide (b < 3) && (aIm S b).isSome) : Nat) := by rw [g2.I (by omega)]; exact wI.1
        rw [b0, zb_1 (by omega), zb_or (by have := bset_lt (fun b => decide (b < 3) && (aIm S b).isSome); omega) (by have := zb_2k (show a < 12 by omega); omega), bset_or (by omega)]
        intro h4 e4
        obtain ⟨v4, n4, q4⟩ := st_cp e4
        have r4 : hR h4 = hR h3 := by rw [e4, hR_stI]
        clear e4
        have y1 : hI h4 34 0 = nd (aN S) := by rw [q4.I (by simp), g2.I (by omega)]; exact wX.2.2.2.2.2.1.1
        rw [y1]
        refine HQ h4 t (wX.sI ?_ ⟨?_, fun b hb => ?_, fun b N hb hi => ?_⟩) ((g2.wk (fun c q => by omega)).tr (q4.wk (fun c q => by omega)))
        · intro c i hc
          have := city_lt wX.1.2.1
          refine ⟨?_, ?_⟩
          · rw [n4 _ _ (fun q => hc.2.2 q), g2.I (by omega)]
          · rw [r4, g2.R (by omega)]
        · rw [v4]
          congr 1
          refine bset_ext (fun b _ => ?_)
          by_cases e : b = a
          · rw [imU_p e]; simp [e, ha]
          · rw [imU_n e]; simp [e]
        · rw [q4.R (by simp), g2.R (by omega)]; exact wI.2.1 b hb
        · by_cases e : b = a
          · rw [imU_p e] at hi; cases hi
            rw [e]; exact g1.fr q4 (fun j hj => by omega)
          · rw [imU_n e] at hi
            exact ((wI.2.2 b N hb hi).fr g2 (fun j hj => by omega)).fr q4 (fun j hj => by omega)
    · refine c_M_image ha hC hN w1.2.2.2.1 ?_
      intro h2 g1 g2 g3 g4
      have wI := w1.2.2.2.2.1
      refine HQ h2 (w1.sI (zEw.of g4 (fun c i q => q.2)) ⟨fun b hb => ?_, fun b N hb hi => ?_⟩) (g4.wk (fun c q => by omega))
      · rw [g3 b]
        by_cases e : b = a
        · rw [if_pos e, imU_p e]; rfl
        · rw [if_neg e, imU_n e]; exact wI.1 b hb
      · by_cases e : b = a
        · rw [imU_p e] at hi; cases hi
          rw [e]; exact g1
        · rw [imU_n e] at hi
          exact g2 b N hb e (wI.2 b N hb hi) (hI3 b N hb hi)
  · refine p_of (S := S) (S' := S) (r := -1) (t := t) hS wM (fun Q HQ => ?_) (fun h1 Q w1 HQ => ?_)
    · have HQ := HQ h t wX zEq.rf
      exact v_X9_image ⟨fun _ => HQ, fun c1 => ⟨fun c2 => absurd ⟨c1, c2⟩ c, fun _ => HQ⟩⟩
    · have HQ := HQ h1 w1 zEq.rf
      refine v_X10_image ?_
      refine c_M_isBox ?_
      rw [if_neg c]
      exact ⟨fun e => absurd rfl e, fun _ => HQ⟩
end I3
