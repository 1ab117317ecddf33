/-! take: both sides -/
theorem ct_or {p q : Nat → Bool} : ∀ l : List Nat, (∀ i, i ∈ l → ¬ (p i = true ∧ q i = true)) → (l.filter (fun i => p i || q i)).length = (l.filter p).length + (l.filter q).length
  | [], _ => rfl
  | a :: l, h => by
    have ih := ct_or (p := p) (q := q) l (fun i hi => h i (List.mem_cons_of_mem _ hi))
    have ha := h a List.mem_cons_self
    cases hp : p a <;> cases hq : q a <;> simp only [List.filter_cons, hp, hq, Bool.or_false, Bool.or_true, Bool.false_or, if_true, if_false, Bool.false_eq_true, List.length_cons] <;> first | omega | exact absurd ⟨hp, hq⟩ ha
theorem pc_dis {a b : Nat} (h : ∀ i, i < 12 → ¬ (a.testBit i = true ∧ b.testBit i = true)) : pc12 (a ||| b) = pc12 a + pc12 b := by
  rw [pc12_eq, pc12_eq, pc12_eq]
  unfold pcC
  have := ct_or (p := fun i => a.testBit i) (q := fun i => b.testBit i) (List.range 12) (fun i hi => h i (by simpa using hi))
  simp only [Nat.testBit_or]
  exact this
noncomputable def tkA (C : zCt) (N : zEn) (one : Nat) : Nat := clS (cn C) (bset (thB (cn C) (ntk N) (ngo N))) (2 ^ one) (cpr C) (nkn N)
noncomputable def nTake (C : zCt) (N : zEn) (one : Nat) : zEn := ((nd N, nt N), tkF (tkA C N one) (nd N) (ntk N), ngo N, nkn N, ngv N, nth N)
theorem tkA_th {C : zCt} {N : zEn} {one q : Nat} (h : (tkA C N one).testBit q = true) : q < cn C ∧ ntk N q < 0 ∧ ngo N q < 0 := by
  have := clo_a ((clS_t (bset_lt _) q).mp h)
  rw [bset_t] at this
  simp only [thB, Bool.and_eq_true, decide_eq_true_eq] at this
  exact ⟨this.2.1.1, this.2.1.2, this.2.2⟩
theorem tkA_bx {C : zCt} {N : zEn} {one q : Nat} (hN : okN C N) (hk : ckd C one ≠ 3) (h : (tkA C N one).testBit q = true) : ckd C q ≠ 3 := by
  have := (clS_t (bset_lt _) q).mp h
  refine this (fun q => ckd C q ≠ 3) (fun q hq => ?_) (fun p q _ _ hp hb _ => (hN.2.2.2.2.1 p q hp hb).2.2)
  rw [Nat.testBit_and, zb_t2, Bool.and_eq_true, decide_eq_true_eq] at hq
  rw [← hq.1]; exact hk
theorem okN_take {C : zCt} {N : zEn} {one : Nat} (hN : okN C N) (hk : ckd C one ≠ 3) : okN C (nTake C N one) := by
  obtain ⟨n1, n2, n3, n4, n5, n6, n7, n8⟩ := hN
  have hN : okN C N := ⟨n1, n2, n3, n4, n5, n6, n7, n8⟩
  refine ⟨n1, n2, fun i hi => ?_, n4, n5, fun i hi h3 => ?_, n7, n8⟩
  · have q := n3 i hi
    show (-1 ≤ tkF _ _ _ i ∧ tkF _ _ _ i ≤ ((nd N : Nat) : Int)) ∧ (-1 ≤ ngo N i ∧ ngo N i ≤ ((nd N : Nat) : Int)) ∧ (tkF _ _ _ i < 0 ∨ ngo N i < 0)
    unfold tkF
    split
    · rename_i hb
      have := tkA_th hb
      exact ⟨by omega, q.2.1, Or.inr this.2.2⟩
    · exact q
  · have q := n6 i hi h3
    refine ⟨?_, q.2⟩
    show tkF _ _ _ i < 0
    unfold tkF
    split
    · rename_i hb
      exact absurd h3 (tkA_bx hN hk hb)
    · exact q.1
section T3
variable {E : zE} {d : Nat} {h : zS}
theorem p_take {x : Int} (w : zGo h) : zPair E m_X9_take m_X10_take [vi x] h := by
  obtain ⟨t, S, hS, wX, wM⟩ := w
  have hC := hS.2.1
  have hN := hS.2.2.1
  have hn12 := hC.1
  have wC := wX.2.2.2.1
  have wN := wX.2.2.2.2.2.1
  have wF : XFate h 35 (cn (aC S)) (ntk (aN S)) (ngo (aN S)) := wN.2.1
  by_cases G : ∃ a : Nat, x = a ∧ a < cn (aC S) ∧ ckd (aC S) a ≠ 3 ∧ thN (aC S) (aN S) a = true
  · obtain ⟨a, rfl, ha, ka, ta⟩ := G
    refine p_of (S := S) (S' := sN S (nTake (aC S) (aN S) a)) (r := (pc12 (tkA (aC S) (aN S) a) : Nat)) (t := t) (hS.sN (okN_take hN ka)) wM (fun Q HQ => ?_) (fun h1 Q w1 HQ => ?_)
    · refine v_X9_take ⟨t, wX.1.1, wX.1.2.1, ?_⟩
      refine c_has wX.1.2.1 wC.1 ?_
      rw [if_pos (by omega)]
      refine ⟨fun e => by omega, fun _ => ⟨t, wX.1.1, wX.1.2.1, ?_⟩⟩
      refine c_isBox wX.1.2.1 hC wC ha ?_
      rw [if_neg ka]
      refine ⟨fun e => absurd rfl e, fun _ => ?_⟩
      refine c_isThere (by unfold isFate; omega) wF.1 (bset_lt _) (by omega) ?_
      rw [thN_t hn12 ha, ta]
      refine ⟨fun _ => ⟨t, wX.1.1, wX.1.2.1, ?_⟩, fun e => by simp at e⟩
      rw [zb_1 (by omega), wN.1]
      refine c_seize (n := cn (aC S)) (kf := nkn (aN S)) (pr := cpr (aC S)) (by unfold isFate; omega) wX.1.2.1 ga_44 (by omega) wC.1 hn12 wF.1 (bset_lt _) (fun q hq => ?_) wF.2.1 (bset_lt _) (zb_2k (by omega)) wC.2.2.2.2.2.2.2.2.2.1 (bset_lt _) (fun i hi => ⟨wN.2.2.2.2.2 i hi, hN.2.2.2.1 i hi⟩) ?_
      · rw [bset_t] at hq
        simp only [thB, Bool.and_eq_true, decide_eq_true_eq] at hq
        exact hq.2.1.1
      · intro A h2 hA g1 g2 g3 g4
        have eA : A = tkA (aC S) (aN S) a := isCl_eq (bset_lt _) hA
        have dis : pc12 (bset (seB (cn (aC S)) (ntk (aN S))) ||| A) = pc12 (bset (seB (cn (aC S)) (ntk (aN S)))) + pc12 A := by
          refine pc_dis (fun i _ q => ?_)
          rw [eA] at q
          have q2 := tkA_th q.2
          have q1 := q.1
          rw [bset_t] at q1
          simp only [seB, Bool.and_eq_true, decide_eq_true_eq] at q1
          omega
        have e1 : ((pc12 (bset (seB (cn (aC S)) (ntk (aN S))) ||| A) : Nat) : Int) - (pc12 (bset (seB (cn (aC S)) (ntk (aN S)))) : Nat) = (pc12 (tkA (aC S) (aN S) a) : Nat) := by
          rw [dis, eA]; omega
        rw [e1]
        have fx := XFate_tk hn12 (Int.natCast_nonneg (nd (aN S))) wF hA.1 (fun q hq => clo_a ((hA.2 q).mp hq)) g1 g2 g3
        rw [eA] at fx
        refine HQ h2 t (wX.sN (zEw.of g4 (fun c i q => by omega)) ⟨?_, fx, ?_, fun i hi => ?_, fun p q hp hq => ?_, fun i hi => ?_⟩) (g4.wk (fun c q => by omega))
        · rw [g4.I (by omega)]; exact wN.1
        · rw [g4.I (by omega)]; exact wN.2.2.1
        · rw [g4.I (by omega), g4.I (by omega), g4.I (by omega), g4.I (by omega), g4.I (by omega)]; exact wN.2.2.2.1 i hi
        · rw [g4.I (by omega)]; exact wN.2.2.2.2.1 p q hp hq
        · rw [g4.I (by omega)]; exact wN.2.2.2.2.2 i hi
    · have wN := w1.2.2.2.1
      have wC := w1.2.2.1
      refine v_X10_take ?_
      refine c_M_canFall hC wC ?_
      rw [if_pos ⟨by omega, by omega, by simpa using ka⟩]
      refine ⟨fun e => by omega, fun _ => ?_⟩
      refine c_M_isThere hn12 wN ha ?_
      rw [ta]
      refine ⟨fun _ => ?_, fun e => by simp at e⟩
      refine c_M_bring ?_
      intro h5 b1 b2
      have wN5 : MEarn h5 (aC S) (aN S) := wN.fr b2 ⟨by omega, fun j _ _ => by omega⟩
      have wC5 : MCity h5 (aC S) := wC.fr b2 (by omega)
      refine ⟨by omega, ?_⟩
      simp only [Int.toNat_natCast]
      rw [wN5.1]
      intro h7 x7
      have mf : MFate h7 (cn (aC S)) (tkF (2 ^ a) (nd (aN S)) (ntk (aN S))) (ngo (aN S)) (nkn (aN S)) := by
        have m0 : MFate h5 (cn (aC S)) (tkF 0 (nd (aN S)) (ntk (aN S))) (ngo (aN S)) (nkn (aN S)) := by
          have e : tkF 0 (nd (aN S)) (ntk (aN S)) = ntk (aN S) := by funext i; unfold tkF; simp
          rw [e]
          intro i hi
          have q := b1 i (by omega)
          have q2 := wN.2.2.1 i hi
          exact ⟨q.1.trans q2.1, q.2.1.trans q2.2.1, q.2.2.trans q2.2.2⟩
        have := MFate_st (q := a) m0
        rw [Nat.zero_or] at this
        rw [x7]; exact this
      have e7 : zEq (fun c => c ≠ 112) h5 h7 := by rw [x7]; exact zEq_I (fun q => q rfl)
      clear x7
      have wN7 : MEarn h7 (aC S) (aN S) := wN5.fr e7 ⟨by omega, fun j _ _ => by omega⟩
      have wC7 : MCity h7 (aC S) := wC5.fr e7 (by omega)
      refine c_M_takeL hC wC7 ha ta mf (fun i hi => (wN7.2.2.1 i hi).1) wN7.1 ⟨by omega, by have := hN.1; omega⟩ hN.2.2.2.1 ?_
      intro h8 m8 e8
      refine c_M_takeBack ?_
      intro h9 k1 k2
      have F : zEq (fun c => c ≠ 112 ∧ c ≠ 113 ∧ c ≠ 114 ∧ c ≠ 115 ∧ c ≠ 116) h1 h9 := (b2.wk (fun c q => by omega)).tr ((e7.wk (fun c q => by omega)).tr ((e8.wk (fun c q => by omega)).tr (k2.wk (fun c q => by omega))))
      refine HQ h9 (w1.sN (zEw.of F (fun c i q => by have := q.1; unfold MK at this; omega)) ⟨?_, ?_, fun i hi => ⟨?_, ?_, ?_⟩, fun i hi => ?_, fun p q hp hq => ?_⟩) (F.wk (fun c q => by omega))
      · rw [F.I (by omega)]; exact wN.1
      · rw [F.I (by omega)]; exact wN.2.1
      · rw [(k1 i (by omega)).1]; exact (m8 i hi).1
      · rw [(k1 i (by omega)).2]; exact (m8 i hi).2.1
      · rw [F.I (by omega)]; exact (wN.2.2.1 i hi).2.2
      · rw [F.I (by omega), F.I (by omega), F.I (by omega), F.I (by omega), F.I (by omega)]; exact wN.2.2.2.1 i hi
      · rw [F.I (by omega)]; exact wN.2.2.2.2 p q hp hq
  · refine p_of (S := S) (S' := S) (r := -1) (t := t) hS wM (fun Q HQ => ?_) (fun h1 Q w1 HQ => ?_)
    · have HQ := HQ h t wX zEq.rf
      refine v_X9_take ⟨t, wX.1.1, wX.1.2.1, ?_⟩
      refine c_has wX.1.2.1 wC.1 ?_
      by_cases c : 0 ≤ x ∧ x < cn (aC S)
      · rw [if_pos c]
        obtain ⟨a, rfl⟩ : ∃ a : Nat, x = a := ⟨x.toNat, by omega⟩
        have ha : a < cn (aC S) := by omega
        refine ⟨fun e => by omega, fun _ => ⟨t, wX.1.1, wX.1.2.1, ?_⟩⟩
        refine c_isBox wX.1.2.1 hC wC ha ?_
        by_cases k : ckd (aC S) a = 3
        · rw [if_pos k]; exact ⟨fun _ => HQ, fun e => by omega⟩
        · rw [if_neg k]
          refine ⟨fun e => absurd rfl e, fun _ => ?_⟩
          refine c_isThere (by unfold isFate; omega) wF.1 (bset_lt _) (by omega) ?_
          rw [thN_t hn12 ha]
          cases ta : thN (aC S) (aN S) a with
          | false => exact ⟨fun e => absurd rfl e, fun _ => HQ⟩
          | true => exact absurd ⟨a, rfl, ha, k, ta⟩ G
      · rw [if_neg c]; exact ⟨fun _ => HQ, fun e => absurd rfl e⟩
    · have HQ := HQ h1 w1 zEq.rf
      refine v_X10_take ?_
      refine c_M_canFall hC w1.2.2.1 ?_
      by_cases c : 0 ≤ x ∧ x < cn (aC S) ∧ ckd (aC S) x.toNat ≠ 3
      · rw [if_pos c]
        obtain ⟨a, rfl⟩ : ∃ a : Nat, x = a := ⟨x.toNat, by omega⟩
        simp only [Int.toNat_natCast] at c
        have ha : a < cn (aC S) := by omega
        refine ⟨fun e => by omega, fun _ => ?_⟩
        refine c_M_isThere hn12 w1.2.2.2.1 ha ?_
        cases ta : thN (aC S) (aN S) a with
        | false => exact ⟨fun e => absurd rfl e, fun _ => HQ⟩
        | true => exact absurd ⟨a, rfl, ha, c.2.2, ta⟩ G
      · rw [if_neg c]; exact ⟨fun _ => HQ, fun e => absurd rfl e⟩
end T3
