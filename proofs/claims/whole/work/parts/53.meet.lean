/-! meet -/
def thN (C : zCt) (N : zEn) (a : Nat) : Bool := thB (cn C) (ntk N) (ngo N) a
def cMt (C : zCt) (N : zEn) (a b c : Nat) : Prop := a ≠ b ∧ a ≠ c ∧ b ≠ c ∧ ngv N a b = 0 ∧ thN C N a = true ∧ thN C N b = true ∧ thN C N c = true ∧ (nkn N c).testBit a = true ∧ (nkn N c).testBit b = true
def isPer (C : zCt) (N : zEn) (x : Int) : Prop := ∃ a : Nat, x = a ∧ a < cn C ∧ ckd C a ≠ 3 ∧ thN C N a = true
def nMeet (N : zEn) (a b : Nat) : zEn := ((nd N, nt N), ntk N, ngo N, (fun i => if i = a then nkn N a ||| 2 ^ b else if i = b then nkn N b ||| 2 ^ a else nkn N i), (fun x y => if x = a ∧ y = b then 1 else ngv N x y), nth N)
theorem thN_t {C : zCt} {N : zEn} {a : Nat} (hn12 : cn C ≤ 12) (ha : a < cn C) : (bset (thB (cn C) (ntk N) (ngo N))).testBit a = thN C N a := by
  rw [bset_t]
  have : a < 12 := by omega
  simp [this, thN]
theorem okN_meet {C : zCt} {N : zEn} {a b : Nat} (hC : okC C) (hN : okN C N) (ha : a < cn C) (hb : b < cn C) (hab : a ≠ b) (ka : ckd C a ≠ 3) (kb : ckd C b ≠ 3) : okN C (nMeet N a b) := by
  obtain ⟨n1, n2, n3, n4, n5, n6, n7, n8⟩ := hN
  have hn12 := hC.1
  have kn : ∀ i, nkn (nMeet N a b) i = if i = a then nkn N a ||| 2 ^ b else if i = b then nkn N b ||| 2 ^ a else nkn N i := fun _ => rfl
  have gv : ∀ x y, ngv (nMeet N a b) x y = if x = a ∧ y = b then 1 else ngv N x y := fun _ _ => rfl
  refine ⟨n1, n2, n3, fun i hi => ?_, fun i j hi hj => ?_, n6, fun x y => ?_, n8⟩
  · rw [kn]
    split
    · exact zb_orlt (n4 a ha) (zb_2k (by omega))
    · split
      · exact zb_orlt (n4 b hb) (zb_2k (by omega))
      · exact n4 i hi
  · rw [kn] at hj
    split at hj
    · rename_i e
      rw [Nat.testBit_or, zb_t2, Bool.or_eq_true, decide_eq_true_eq] at hj
      rcases hj with q | q
      · rw [e]; exact n5 a j ha q
      · rw [e, ← q]; exact ⟨hb, ka, kb⟩
    · split at hj
      · rename_i e
        rw [Nat.testBit_or, zb_t2, Bool.or_eq_true, decide_eq_true_eq] at hj
        rcases hj with q | q
        · rw [e]; exact n5 b j hb q
        · rw [e, ← q]; exact ⟨ha, kb, ka⟩
      · exact n5 i j hi hj
  · rw [gv]
    split
    · rename_i e
      exact ⟨by omega, fun _ => ⟨by omega, by omega, by omega⟩⟩
    · exact n7 x y
section MT
variable {E : zE} {d : Nat} {h : zS}
theorem c_canMeet {k0 : Nat} {C : zCt} {N : zEn} {a b c : Nat} {Q : Int → zS → Prop} (hk0 : isEarnest k0) (hC : okC C) (hN : okN C N) (wN : XEarn h k0 C N) (ha : a < cn C) (hb : b < cn C) (hc : c < cn C)
    (H1 : cMt C N a b c → Q 1 h) (H0 : ¬ cMt C N a b c → Q 0 h) : zCi E (d + 2) m_X1_canMeet [vo k0, vi a, vi b, vi c] h Q := by
  have hn12 := hC.1
  obtain ⟨w1, w2, w3, w4, w5, w6⟩ := wN
  have kf := (earn_f hk0).1
  unfold cMt at H1 H0
  refine v_X1_canMeet hk0 ⟨fun e => H0 (fun q => q.1 (by omega)), fun e1 => ⟨fun e => H0 (fun q => q.2.1 (by omega)), fun e2 => ⟨fun e => H0 (fun q => q.2.2.1 (by omega)), fun e3 => ?_⟩⟩⟩
  refine c_pair (by omega) (by omega) ⟨by omega, ?_⟩
  simp only [Int.toNat_natCast]
  rw [w5 a b (by omega) (by omega)]
  refine ⟨fun e => H0 (fun q => e q.2.2.2.1), fun e4 => ?_⟩
  refine c_isThere kf w2.1 (bset_lt _) (by omega) ?_
  rw [thN_t hn12 ha]
  cases t1 : thN C N a with
  | false => exact ⟨fun _ => H0 (fun q => by have := q.2.2.2.2.1; rw [t1] at this; cases this), fun e => absurd rfl e⟩
  | true =>
  refine ⟨fun e => by simp at e, fun _ => ?_⟩
  refine c_isThere kf w2.1 (bset_lt _) (by omega) ?_
  rw [thN_t hn12 hb]
  cases t2 : thN C N b with
  | false => exact ⟨fun _ => H0 (fun q => by have := q.2.2.2.2.2.1; rw [t2] at this; cases this), fun e => absurd rfl e⟩
  | true =>
  refine ⟨fun e => by simp at e, fun _ => ?_⟩
  refine c_isThere kf w2.1 (bset_lt _) (by omega) ?_
  rw [thN_t hn12 hc]
  cases t3 : thN C N c with
  | false => exact ⟨fun _ => H0 (fun q => by have := q.2.2.2.2.2.2.1; rw [t3] at this; cases this), fun e => absurd rfl e⟩
  | true =>
  refine ⟨fun e => by simp at e, fun _ => ⟨by omega, ?_⟩⟩
  rw [w6 c hc]
  refine c_isIn (hN.2.2.2.1 c hc) (by omega) ?_
  cases t4 : (nkn N c).testBit a with
  | false => exact ⟨fun _ => H0 (fun q => by have := q.2.2.2.2.2.2.2.1; rw [t4] at this; cases this), fun e => absurd rfl e⟩
  | true =>
  refine ⟨fun e => by simp at e, fun _ => ?_⟩
  rw [w6 c hc]
  refine c_isIn (hN.2.2.2.1 c hc) (by omega) ?_
  cases t5 : (nkn N c).testBit b with
  | false => exact ⟨fun _ => H0 (fun q => by have := q.2.2.2.2.2.2.2.2; rw [t5] at this; cases this), fun e => absurd rfl e⟩
  | true =>
  exact ⟨fun e => by simp at e, fun _ => H1 ⟨by omega, by omega, by omega, e4, t1, t2, t3, t4, t5⟩⟩
theorem c_acquaint {C : zCt} {N : zEn} {a b : Nat} {Q : zS → Prop} (hC : okC C) (hN : okN C N) (wN : XEarn h 34 C N) (ha : a < cn C) (hb : b < cn C) (hab : a ≠ b)
    (HQ : ∀ h1, XEarn h1 34 C (nMeet N a b) → zEq (fun c => c ≠ 43 ∧ c ≠ 44) h h1 → Q h1) : zCv E (d + 1) m_X1_acquaint [vo 34, vi a, vi b] h Q := by
  have hn12 := hC.1
  have n4 := hN.2.2.2.1
  obtain ⟨w1, w2, w3, w4, w5, w6⟩ := wN
  simp only [Nat.reduceAdd] at w2 w3 w4 w5 w6
  refine v_X1_acquaint (by unfold isEarnest; omega) ?_
  refine c_pair (by omega) (by omega) ⟨by omega, ?_⟩
  simp only [Int.toNat_natCast, Nat.reduceAdd]
  intro h4 x4
  obtain ⟨v4, m4, q4⟩ := st_cp x4
  clear x4
  refine ⟨by omega, ?_⟩
  rw [q4.I (by simp), w6 a ha, zb_1 (by omega), zb_or (by have := n4 a ha; omega) (by have := zb_2k (show b < 12 by omega); omega)]
  intro h6 x6
  obtain ⟨v6, m6, q6⟩ := st_cp x6
  clear x6
  refine ⟨by omega, ?_⟩
  rw [m6 _ _ (fun q => hab q.2.symm), q4.I (by simp), w6 b hb, zb_1 (by omega), zb_or (by have := n4 b hb; omega) (by have := zb_2k (show a < 12 by omega); omega)]
  intro h8 x8
  obtain ⟨v8, m8, q8⟩ := st_cp x8
  clear x8
  have F : zEq (fun c => c ≠ 43 ∧ c ≠ 44) h h8 := (q4.wk (fun c q => q.1)).tr ((q6.wk (fun c q => q.2)).tr (q8.wk (fun c q => q.2)))
  refine HQ h8 ⟨?_, w2.fr F (by omega) (by omega), ?_, fun t ht => ?_, fun x y hx hy => ?_, fun i hi => ?_⟩ F
  · rw [F.I (by omega)]; exact w1
  · rw [F.I (by omega)]; exact w3
  · rw [F.I (by omega), F.I (by omega), F.I (by omega), F.I (by omega), F.I (by omega)]; exact w4 t ht
  · show hI h8 43 (12 * x + y) = if x = a ∧ y = b then 1 else ngv N x y
    rw [q8.I (by simp), q6.I (by simp)]
    by_cases e : x = a ∧ y = b
    · rw [if_pos e, e.1, e.2, v4]
    · rw [if_neg e, m4 _ _ (by omega)]; exact w5 x y hx hy
  · show hI h8 44 i = ((if i = a then nkn N a ||| 2 ^ b else if i = b then nkn N b ||| 2 ^ a else nkn N i : Nat) : Int)
    by_cases e : i = a
    · rw [if_pos e, e, m8 _ _ (fun q => hab q.2), v6]
    · rw [if_neg e]
      by_cases e2 : i = b
      · rw [if_pos e2, e2, v8]
      · rw [if_neg e2, m8 _ _ (fun q => e2 q.2), m6 _ _ (fun q => e q.2), q4.I (by simp)]; exact w6 i hi
theorem c_M_isThere {C : zCt} {N : zEn} {a : Nat} {Q : Int → zS → Prop} (hn12 : cn C ≤ 12) (wN : MEarn h C N) (ha : a < cn C) (HQ : Q (if thN C N a then 1 else 0) h) : zCi E d m_X10_isThere [vo 89, vi a] h Q := by
  have q := wN.2.2.1 a ha
  refine v_X10_isThere ⟨by omega, ?_⟩
  simp only [Int.toNat_natCast]
  rw [q.1, q.2.1]
  refine ⟨fun c => ?_, fun c => ⟨fun c2 => ?_, fun c2 => ?_⟩⟩
  · have : thN C N a = false := by unfold thN thB; simp; omega
    rw [this] at HQ; exact HQ
  · have : thN C N a = false := by unfold thN thB; simp; omega
    rw [this] at HQ; exact HQ
  · have : thN C N a = true := by unfold thN thB; simp [ha, c, c2]
    rw [this] at HQ; exact HQ
theorem c_M_isPerson {C : zCt} {N : zEn} {x : Int} {Q : Int → zS → Prop} (hC : okC C) (wC : MCity h C) (wN : MEarn h C N) (H1 : isPer C N x → Q 1 h) (H0 : ¬ isPer C N x → Q 0 h) : zCi E (d + 1) m_X10_isPerson [vo 89, vi x] h Q := by
  have hn12 := hC.1
  refine v_X10_isPerson ?_
  refine c_M_isOne wC.1 ?_
  by_cases c : 0 ≤ x ∧ x < cn C
  · rw [if_pos c]
    obtain ⟨a, rfl⟩ : ∃ a : Nat, x = a := ⟨x.toNat, by omega⟩
    have ha : a < cn C := by omega
    refine ⟨fun e => by omega, fun _ => ⟨by omega, ?_⟩⟩
    simp only [Int.toNat_natCast]
    rw [(wC.2.2.2.2.2.1 a ha).1]
    refine ⟨fun k => H0 ?_, fun k => ?_⟩
    · rintro ⟨a', e, _, k', _⟩
      have : a' = a := by omega
      exact k' (by rw [this]; exact k)
    · refine c_M_isThere hn12 wN ha ?_
      cases t : thN C N a with
      | false =>
        refine ⟨fun _ => H0 ?_, fun e => absurd rfl e⟩
        rintro ⟨a', e, _, _, t'⟩
        have : a' = a := by omega
        rw [this, t] at t'; cases t'
      | true => exact ⟨fun e => by simp at e, fun _ => H1 ⟨a, rfl, ha, k, t⟩⟩
  · rw [if_neg c]
    refine ⟨fun _ => H0 ?_, fun e => absurd rfl e⟩
    rintro ⟨a', e, h', _⟩
    omega
theorem c_M_canMeetBy {C : zCt} {N : zEn} {a b : Nat} {x : Int} {Q : Int → zS → Prop} (hC : okC C) (hN : okN C N) (wC : MCity h C) (wN : MEarn h C N) (ha : a < cn C) (hb : b < cn C)
    (H1 : (∃ c : Nat, x = c ∧ c < cn C ∧ c ≠ a ∧ c ≠ b ∧ thN C N c = true ∧ (nkn N c).testBit a = true ∧ (nkn N c).testBit b = true) → Q 1 h)
    (H0 : (¬ ∃ c : Nat, x = c ∧ c < cn C ∧ c ≠ a ∧ c ≠ b ∧ thN C N c = true ∧ (nkn N c).testBit a = true ∧ (nkn N c).testBit b = true) → Q 0 h) : zCi E (d + 2) m_X10_canMeetBy [vo 89, vi a, vi b, vi x] h Q := by
  have hn12 := hC.1
  refine v_X10_canMeetBy ⟨fun e => H0 ?_, fun e1 => ⟨fun e => H0 ?_, fun e2 => ?_⟩⟩
  · rintro ⟨c, ec, _, k, _⟩; omega
  · rintro ⟨c, ec, _, _, k, _⟩; omega
  · refine c_M_isPerson hC wC wN ?_ ?_
    · rintro ⟨c, rfl, hc, kc, tc⟩
      refine ⟨fun e => by omega, fun _ => ⟨by omega, ?_⟩⟩
      simp only [Int.toNat_natCast]
      have q := (wN.2.2.1 c hc).2.2
      have hl := hN.2.2.2.1 c hc
      rw [q, zb_bit (by omega) (by omega), zb_bit (by omega) (by omega)]
      cases t4 : (nkn N c).testBit a with
      | false =>
        refine ⟨fun _ => H0 ?_, fun e => by simp at e⟩
        rintro ⟨c', ec, _, _, _, _, k, _⟩
        have : c' = c := by omega
        rw [this, t4] at k; cases k
      | true =>
      refine ⟨fun e => by simp at e, fun _ => ?_⟩
      cases t5 : (nkn N c).testBit b with
      | false =>
        refine ⟨fun _ => H0 ?_, fun e => by simp at e⟩
        rintro ⟨c', ec, _, _, _, _, _, k⟩
        have : c' = c := by omega
        rw [this, t5] at k; cases k
      | true => exact ⟨fun e => by simp at e, fun _ => H1 ⟨c, rfl, hc, by omega, by omega, tc, t4, t5⟩⟩
    · intro np
      refine ⟨fun _ => H0 ?_, fun e => absurd rfl e⟩
      rintro ⟨c, ec, hc, _, _, tc, k, _⟩
      exact np ⟨c, ec, hc, (hN.2.2.2.2.1 c a hc k).2.1, tc⟩
end MT
