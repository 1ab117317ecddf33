/-! end, later, one, thing, untell, late, taken -/
section S2
variable {E : zE} {d kc ks : Nat} {M : zM} {pc : Nat} {ls st : List zV} {G : zG} {h : zS} {P : Option zV → zG → zS → Prop}
/-- what lies in a place for locals is an int -/
theorem z_rng {x : Int} (hm : vi x ∈ ls) (w : r32 x → zAt E d kc ks M pc ls st G h P) : zAt E d kc ks M pc ls st G h P := by
  intro p e R s m args below meth c0 C hd1 hl1 H locs cells slots lr h1 h2 h3 h4 h5 h6 h7 Q hq
  exact w (h6.2.2.2.1 _ hm) p e R s m args below meth c0 C hd1 hl1 H locs cells slots lr h1 h2 h3 h4 h5 h6 h7 Q hq
theorem z_rngH (w : zokH h → zAt E d kc ks M pc ls st G h P) : zAt E d kc ks M pc ls st G h P := by
  intro p e R s m args below meth c0 C hd1 hl1 H locs cells slots lr h1 h2 h3 h4 h5 h6 h7 Q hq
  exact w h4.2.1 p e R s m args below meth c0 C hd1 hl1 H locs cells slots lr h1 h2 h3 h4 h5 h6 h7 Q hq
theorem zls_m {as : List zV} {v : zV} {n : Nat} (hm : v ∈ zmk as) : v ∈ zls as n := List.mem_append_left _ hm
theorem p_end {x : Int} (w : zGo h) : zPair E m_X9_end m_X10_end [vi x] h := by
  obtain ⟨t, S, hS, wX, wM⟩ := w
  have hT := wX.2.1
  by_cases c : 0 ≤ x ∧ x ≤ aTn S
  · refine p_of (S := S) (S' := sT S x.toNat (aTb S)) (r := x) (t := t) (hS.sT ⟨by have := hS.1.1; omega, hS.1.2⟩) wM (fun Q HQ => ?_) (fun h1 Q w1 HQ => ?_)
    · refine v_X9_end ⟨fun _ => by omega, fun _ => ⟨fun _ => ?_, fun c2 => by rw [hT.1] at c2; omega⟩⟩
      rintro h1 rfl
      refine HQ _ t (wX.sT (zEw_I (fun q => q.2.1 ⟨rfl, rfl⟩)) ⟨?_, fun i hi => ?_⟩) (zEq_I (by omega))
      · rw [hI_stI, if_pos ⟨rfl, rfl⟩]; omega
      · rw [hI_stI, if_neg (by omega)]; exact hT.2 i (by omega)
    · have hT := w1.1
      refine v_X10_end ⟨fun _ => by omega, fun _ => ⟨fun _ => ?_, fun c2 => by rw [hT.1] at c2; omega⟩⟩
      rintro h2 rfl
      refine HQ _ (w1.sT (zEw_I (fun q => q.2.1 ⟨rfl, rfl⟩)) ⟨?_, fun i hi => ?_⟩) (zEq_I (by omega))
      · rw [hI_stI, if_pos ⟨rfl, rfl⟩]; omega
      · rw [hI_stI, if_neg (by omega)]; exact hT.2 i (by omega)
  · refine p_of (S := S) (S' := S) (r := -1) (t := t) hS wM (fun Q HQ => ?_) (fun h1 Q w1 HQ => ?_)
    · have HQ := HQ h t wX zEq.rf
      exact v_X9_end ⟨fun _ => HQ, fun _ => ⟨fun c2 => by rw [hT.1] at c2; omega, fun _ => HQ⟩⟩
    · have HQ := HQ h1 w1 zEq.rf
      exact v_X10_end ⟨fun _ => HQ, fun _ => ⟨fun c2 => by rw [w1.1.1] at c2; omega, fun _ => HQ⟩⟩
theorem p_later {x : Int} (w : zGo h) : zPair E m_X9_later m_X10_later [vi x] h := by
  obtain ⟨t, S, hS, wX, wM⟩ := w
  have hY := hS.2.2.2.2.1
  have wY := wX.2.2.2.2.2.2.2.1
  have hw : ∀ y : Int, 0 ≤ y → y ≤ 1000 → w32 ((et (aY S) : Int) + y) = (et (aY S) : Int) + y := fun y h1 h2 => w32_id (by omega) (by have := hY.2.1; omega)
  by_cases c : (0 ≤ x ∧ x ≤ 1000) ∧ (et (aY S) : Int) + x ≤ 100000
  · have ok : okY (aC S) ((ec (aY S), et (aY S) + x.toNat), ea (aY S)) := by
      refine ⟨hY.1, ?_, fun i hi => ?_⟩
      · show et (aY S) + x.toNat ≤ 100000
        omega
      · have q := hY.2.2 i hi
        refine ⟨q.1, q.2.1, ⟨q.2.2.1.1, ?_⟩, q.2.2.2.1, ?_⟩
        · show ea (aY S) 3 i ≤ ((et (aY S) + x.toNat : Nat) : Int)
          have := q.2.2.1.2
          omega
        · show ea (aY S) 4 i ≤ ((et (aY S) + x.toNat : Nat) : Int)
          have := q.2.2.2.2
          omega
    refine p_of (S := S) (S' := sY S ((ec (aY S), et (aY S) + x.toNat), ea (aY S))) (r := (et (aY S) : Int) + x) (t := t) (hS.sY ok) wM (fun Q HQ => ?_) (fun h1 Q w1 HQ => ?_)
    · refine v_X9_later ⟨fun _ => by omega, fun _ => ⟨fun _ => by omega, fun _ => ?_⟩⟩
      rw [wY.1, hw x (by omega) (by omega)]
      refine ⟨fun _ => ?_, fun _ => by omega⟩
      rintro h1 rfl
      rw [hI_stI, if_pos ⟨rfl, rfl⟩]
      refine HQ _ t (wX.sY (zEw_I (fun q => q.2 (by omega))) ⟨?_, ?_, fun i hi => ?_⟩) (zEq_I (by omega))
      · rw [hI_stI, if_pos ⟨rfl, rfl⟩]
        show (et (aY S) : Int) + x = ((et (aY S) + x.toNat : Nat) : Int)
        omega
      · rw [hI_stI, if_neg (by omega)]; exact wY.2.1
      · have q := wY.2.2 i hi
        exact ⟨by rw [hI_stI, if_neg (by omega)]; exact q.1, by rw [hI_stI, if_neg (by omega)]; exact q.2.1, by rw [hI_stI, if_neg (by omega)]; exact q.2.2.1, by rw [hI_stI, if_neg (by omega)]; exact q.2.2.2.1, by rw [hI_stI, if_neg (by omega)]; exact q.2.2.2.2⟩
    · have wY := w1.2.2.2.2.2.1
      refine v_X10_later ⟨fun _ => by omega, fun _ => ⟨fun _ => by omega, fun _ => ?_⟩⟩
      rw [wY.1, hw x (by omega) (by omega)]
      refine ⟨fun _ => ?_, fun _ => by omega⟩
      rintro h2 rfl
      rw [hI_stI, if_pos ⟨rfl, rfl⟩]
      refine HQ _ (w1.sY (zEw_I (fun q => q.2.1 (by omega))) ⟨?_, ?_, fun i hi => ?_⟩) (zEq_I (by omega))
      · rw [hI_stI, if_pos ⟨rfl, rfl⟩]
        show (et (aY S) : Int) + x = ((et (aY S) + x.toNat : Nat) : Int)
        omega
      · rw [hI_stI, if_neg (by omega)]; exact wY.2.1
      · have q := wY.2.2 i hi
        exact ⟨by rw [hI_stI, if_neg (by omega)]; exact q.1, by rw [hI_stI, if_neg (by omega)]; exact q.2.1, by rw [hI_stI, if_neg (by omega)]; exact q.2.2.1, by rw [hI_stI, if_neg (by omega)]; exact q.2.2.2.1, by rw [hI_stI, if_neg (by omega)]; exact q.2.2.2.2⟩
  · refine p_of (S := S) (S' := S) (r := -1) (t := t) hS wM (fun Q HQ => ?_) (fun h1 Q w1 HQ => ?_)
    · have HQ := HQ h t wX zEq.rf
      refine v_X9_later ⟨fun _ => HQ, fun c1 => ⟨fun _ => HQ, fun c2 => ?_⟩⟩
      rw [wY.1, hw x c1 c2]
      exact ⟨fun c3 => absurd ⟨⟨c1, c2⟩, c3⟩ c, fun _ => HQ⟩
    · have HQ := HQ h1 w1 zEq.rf
      refine v_X10_later ⟨fun _ => HQ, fun c1 => ⟨fun _ => HQ, fun c2 => ?_⟩⟩
      rw [w1.2.2.2.2.2.1.1, hw x c1 c2]
      exact ⟨fun c3 => absurd ⟨⟨c1, c2⟩, c3⟩ c, fun _ => HQ⟩
theorem p_thing {x y : Int} (w : zGo h) : zPair E m_X9_thing m_X10_thing [vi x, vi y] h := by
  obtain ⟨t, S, hS, wX, wM⟩ := w
  have hN := hS.2.2.1
  have wN := wX.2.2.2.2.2.1
  refine p_of (S := S) (S' := S) (r := if 0 ≤ x ∧ x < nt (aN S) then (if 0 ≤ y ∧ y ≤ 4 then nth (aN S) y.toNat x.toNat else -4) else -4) (t := t) hS wM (fun Q HQ => ?_) (fun h1 Q w1 HQ => ?_)
  · have HQ := HQ h t wX zEq.rf
    have q1 := wN.2.2.1
    have q2 := wN.2.2.2.1 x.toNat
    simp only [Nat.reduceAdd] at q1 q2
    refine v_X9_thing ⟨fun c => ?_, fun c => ⟨fun c2 => ?_, fun c2 => ?_⟩⟩
    · rw [if_neg (by omega)] at HQ; exact HQ
    · rw [q1] at c2
      rw [if_pos ⟨c, c2⟩] at HQ
      have q2 := q2 (by omega)
      have := hN.2.1
      refine ⟨fun e => ⟨by omega, ?_⟩, fun e => ⟨by omega, ?_⟩, fun e => ⟨by omega, ?_⟩, fun e => ⟨by omega, ?_⟩, fun e => ⟨by omega, ?_⟩, fun e => ?_⟩
      · rw [q2.1]; rw [if_pos (by omega), e] at HQ; exact HQ
      · rw [q2.2.1]; rw [if_pos (by omega), e] at HQ; exact HQ
      · rw [q2.2.2.1]; rw [if_pos (by omega), e] at HQ; exact HQ
      · rw [q2.2.2.2.1]; rw [if_pos (by omega), e] at HQ; exact HQ
      · rw [q2.2.2.2.2]; rw [if_pos (by omega), e] at HQ; exact HQ
      · rw [if_neg (by omega)] at HQ; exact HQ
    · rw [q1] at c2
      rw [if_neg (by omega)] at HQ; exact HQ
  · have HQ := HQ h1 w1 zEq.rf
    have wN := w1.2.2.2.1
    have q1 := wN.2.1
    have q2 := wN.2.2.2.1 x.toNat
    refine v_X10_thing ⟨fun c => ?_, fun c => ⟨fun c2 => ?_, fun c2 => ?_⟩⟩
    · rw [if_neg (by omega)] at HQ; exact HQ
    · rw [q1] at c2
      rw [if_pos ⟨c, c2⟩] at HQ
      have q2 := q2 (by omega)
      have := hN.2.1
      refine ⟨fun e => ⟨by omega, ?_⟩, fun e => ⟨by omega, ?_⟩, fun e => ⟨by omega, ?_⟩, fun e => ⟨by omega, ?_⟩, fun e => ⟨by omega, ?_⟩, fun e => ?_⟩
      · rw [q2.1]; rw [if_pos (by omega), e] at HQ; exact HQ
      · rw [q2.2.1]; rw [if_pos (by omega), e] at HQ; exact HQ
      · rw [q2.2.2.1]; rw [if_pos (by omega), e] at HQ; exact HQ
      · rw [q2.2.2.2.1]; rw [if_pos (by omega), e] at HQ; exact HQ
      · rw [q2.2.2.2.2]; rw [if_pos (by omega), e] at HQ; exact HQ
      · rw [if_neg (by omega)] at HQ; exact HQ
    · rw [q1] at c2
      rw [if_neg (by omega)] at HQ; exact HQ
theorem p_one {x y : Int} (w : zGo h) : zPair E m_X9_one m_X10_one [vi x, vi y] h := by
  obtain ⟨t, S, hS, wX, wM⟩ := w
  have hN := hS.2.2.1
  have hn12 := hS.2.1.1
  have wN := wX.2.2.2.2.2.1
  by_cases c : 0 ≤ x ∧ x < cn (aC S)
  · obtain ⟨a, rfl⟩ : ∃ a : Nat, x = a := ⟨x.toNat, by omega⟩
    have ha : a < cn (aC S) := by omega
    have hF := hN.2.2.1 a ha
    refine p_of (S := S) (S' := S) (r := if y = 0 then (if ntk (aN S) a < 0 ∧ ngo (aN S) a < 0 then 0 else if 0 ≤ ntk (aN S) a then 1 else 2) else if y = 1 then (if 0 ≤ ntk (aN S) a then ntk (aN S) a else ngo (aN S) a) else if y = 2 then (nkn (aN S) a : Int) else -1) (t := t) hS wM (fun Q HQ => ?_) (fun h1 Q w1 HQ => ?_)
    · have HQ := HQ h t wX zEq.rf
      refine v_X9_one ⟨t, wX.1.1, wX.1.2.1, ?_⟩
      refine c_has wX.1.2.1 wX.2.2.2.1.1 ?_
      rw [if_pos c]
      have wF : XFate h 35 (cn (aC S)) (ntk (aN S)) (ngo (aN S)) := wN.2.1
      refine ⟨fun _ => ⟨fun e => ?_, fun e => ⟨by omega, ?_⟩, fun e => ⟨by omega, ?_⟩, fun e => ?_⟩, fun e => by omega⟩
      · refine c_stateOf (by unfold isFate; omega) wF.1 (bset_lt _) wF.2.1 (bset_lt _) (by omega) ?_
        rw [bset_t, bset_t]
        rw [if_pos e] at HQ
        have h12 : a < 12 := by omega
        have e1 : (decide (a < 12) && thB (cn (aC S)) (ntk (aN S)) (ngo (aN S)) a) = decide (ntk (aN S) a < 0 ∧ ngo (aN S) a < 0) := by
          unfold thB; simp [h12, ha]
        have e2 : (decide (a < 12) && seB (cn (aC S)) (ntk (aN S)) a) = decide (0 ≤ ntk (aN S) a) := by
          unfold seB; simp [h12, ha]
        rw [e1, e2]
        simp only [decide_eq_true_eq]
        exact HQ
      · rw [if_neg (by omega), if_pos e] at HQ
        rw [wF.2.2 _ (by omega)]; exact HQ
      · rw [if_neg (by omega), if_neg (by omega), if_pos e] at HQ
        have := wN.2.2.2.2.2 a ha
        simp only [Nat.reduceAdd] at this
        simp only [Int.toNat_natCast]
        rw [this]; exact HQ
      · rw [if_neg (by omega), if_neg (by omega), if_neg (by omega)] at HQ; exact HQ
    · have HQ := HQ h1 w1 zEq.rf
      refine v_X10_one ?_
      refine c_M_isOne w1.2.2.1.1 ?_
      rw [if_pos c]
      have q := w1.2.2.2.1.2.2.1 a ha
      refine ⟨fun _ => ⟨fun e => ?_, fun e => ⟨by omega, ?_⟩, fun e => ⟨by omega, ?_⟩, fun e => ?_⟩, fun e => by omega⟩
      · rw [if_pos e] at HQ
        refine v_X10_isThere ⟨by omega, ?_⟩
        simp only [Int.toNat_natCast]
        rw [q.1, q.2.1]
        refine ⟨fun c1 => ⟨fun _ => ⟨by omega, fun _ => by omega, fun _ => ?_⟩, fun e => absurd rfl e⟩, fun c1 => ⟨fun c2 => ⟨fun _ => ⟨by omega, fun _ => ?_, fun _ => by omega⟩, fun e => absurd rfl e⟩, fun c2 => ⟨fun e => by omega, fun _ => ?_⟩⟩⟩
        · rw [if_neg (by omega), if_pos c1] at HQ; exact HQ
        · rw [if_neg (by omega), if_neg (by omega)] at HQ; exact HQ
        · rw [if_pos ⟨c1, c2⟩] at HQ; exact HQ
      · rw [if_neg (by omega), if_pos e] at HQ
        simp only [Int.toNat_natCast]
        rw [q.1, q.2.1]
        refine ⟨fun c1 => ?_, fun c1 => ?_⟩
        · rw [if_neg (by omega)] at HQ; exact HQ
        · rw [if_pos c1] at HQ; exact HQ
      · rw [if_neg (by omega), if_neg (by omega), if_pos e] at HQ
        simp only [Int.toNat_natCast]
        rw [q.2.2]; exact HQ
      · rw [if_neg (by omega), if_neg (by omega), if_neg (by omega)] at HQ; exact HQ
  · refine p_of (S := S) (S' := S) (r := -1) (t := t) hS wM (fun Q HQ => ?_) (fun h1 Q w1 HQ => ?_)
    · refine v_X9_one ⟨t, wX.1.1, wX.1.2.1, ?_⟩
      refine c_has wX.1.2.1 wX.2.2.2.1.1 ?_
      rw [if_neg c]
      exact ⟨fun e => absurd rfl e, fun _ => HQ h t wX zEq.rf⟩
    · refine v_X10_one ?_
      refine c_M_isOne w1.2.2.1.1 ?_
      rw [if_neg c]
      exact ⟨fun e => absurd rfl e, fun _ => HQ h1 w1 zEq.rf⟩
end S2
