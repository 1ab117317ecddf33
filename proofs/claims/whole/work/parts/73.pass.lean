/-! a day in earnest: what becomes of each thing -/
theorem dOk_ex (C : zCt) (N : zEn) : ∃ v, dOk C N v := by
  by_cases c : ∃ z : Nat, cse C = z ∧ z < cn C ∧ thN C N z = true
  · obtain ⟨z, a, b, t⟩ := c
    obtain ⟨D, hD⟩ := isD_ex (n := cn C) (W := dW C N) (z := z) (F := 1000000) (sD (fun i => if i = z then 0 else 1000000) (cn C) + 1) _ vD_0 (by omega)
    exact ⟨D, .inl ⟨z, a, b, t, hD⟩⟩
  · exact ⟨fun _ => 1000000, .inr ⟨c, fun _ _ => rfl⟩⟩
noncomputable def dV (C : zCt) (N : zEn) : Nat → Int := Classical.choose (dOk_ex C N)
theorem dV_ok (C : zCt) (N : zEn) : dOk C N (dV C N) := Classical.choose_spec (dOk_ex C N)
noncomputable def chG (C : zCt) (N : zEn) (r : Nat → Int) : Nat → Int := r5 (r 0) (r 1) (r 2) (chF C N (dV C N) (r 0).toNat (cn C)).2.1 (chF C N (dV C N) (r 0).toNat (cn C)).2.2
theorem chR_G {C : zCt} {N : zEn} {v : Nat → Int} {t p : Nat} (h : dOk C N v) (hp : rT N t 0 = p) : chR C N v t p (cn C) = chG C N (rT N t) := by
  have e : (rT N t 0).toNat = p := by rw [hp, Int.toNat_natCast]
  unfold chR chG
  rw [e, chF_ext (dOk_u h (dV_ok C N)) (cn C) (Nat.le_refl _)]
def hoG (C : zCt) (N : zEn) (r : Nat → Int) : Nat → Int := if 0 ≤ r 0 ∧ 0 ≤ r 3 ∧ r 4 = nd N ∧ thN C N (r 0).toNat = true ∧ thN C N (r 3).toNat = true then (if r 3 = cse C then r5 (-3) (r 1) (nd N) (-1) (-1) else r5 (r 3) (r 1) (r 2) (-1) (-1)) else r
def loG (C : zCt) (N : zEn) (r : Nat → Int) : Nat → Int := if 0 ≤ r 0 ∧ thN C N (r 0).toNat = false then r5 (-2) (r 1) (nd N) (-1) (-1) else r
noncomputable def anG (C : zCt) (N : zEn) (r : Nat → Int) : Nat → Int := if 0 ≤ r 0 ∧ (r 3 < 0 ∨ thN C N (r 3).toNat = false) then chG C N r else r
def mapT (N : zEn) (g : (Nat → Int) → Nat → Int) (i : Nat) : zEn := ((nd N, nt N), ntk N, ngo N, nkn N, ngv N, fun j s => if s < i then g (rT N s) j else nth N j s)
theorem mapT_0 (N : zEn) (g : (Nat → Int) → Nat → Int) : mapT N g 0 = N := rfl
theorem mapT_eq {N : zEn} {f g : Nat → Nat → Int} (h : ∀ j s, f j s = g j s) : (((nd N, nt N), ntk N, ngo N, nkn N, ngv N, f) : zEn) = ((nd N, nt N), ntk N, ngo N, nkn N, ngv N, g) := by
  have : f = g := funext (fun j => funext (fun s => h j s))
  rw [this]
theorem mapT_s {N : zEn} {g : (Nat → Int) → Nat → Int} {i : Nat} : setT (mapT N g i) i (g (rT N i)) = mapT N g (i + 1) := by
  refine mapT_eq (N := N) (fun j s => ?_)
  show (if s = i then g (rT N i) j else (if s < i then g (rT N s) j else nth N j s)) = (if s < i + 1 then g (rT N s) j else nth N j s)
  by_cases e : s = i
  · rw [if_pos e, if_pos (by omega), e]
  · rw [if_neg e]
    by_cases l : s < i
    · rw [if_pos l, if_pos (by omega)]
    · rw [if_neg l, if_neg (by omega)]
theorem mapT_k {N : zEn} {g : (Nat → Int) → Nat → Int} {i : Nat} (h : g (rT N i) = rT N i) : mapT N g i = mapT N g (i + 1) := by
  refine mapT_eq (N := N) (fun j s => ?_)
  by_cases e : s = i
  · rw [if_neg (by omega), if_pos (by omega), e, h]; rfl
  · by_cases l : s < i
    · rw [if_pos l, if_pos (by omega)]
    · rw [if_neg l, if_neg (by omega)]
theorem rT_map {N : zEn} {g : (Nat → Int) → Nat → Int} {i : Nat} : rT (mapT N g i) i = rT N i := by
  funext j
  show (if i < i then g (rT N i) j else nth N j i) = nth N j i
  rw [if_neg (by omega)]
theorem mapT_2 {N : zEn} {g f : (Nat → Int) → Nat → Int} {i : Nat} : mapT (mapT N g i) f i = mapT N (fun r => f (g r)) i := by
  refine mapT_eq (N := N) (fun j s => ?_)
  show (if s < i then f (rT (mapT N g i) s) j else (if s < i then g (rT N s) j else nth N j s)) = (if s < i then f (g (rT N s)) j else nth N j s)
  by_cases l : s < i
  · have e : rT (mapT N g i) s = g (rT N s) := by
      funext j
      show (if s < i then g (rT N s) j else nth N j s) = _
      rw [if_pos l]
    rw [if_pos l, if_pos l, e]
  · rw [if_neg l, if_neg l, if_neg l]
theorem okN_mapT {C : zCt} {N : zEn} {g : (Nat → Int) → Nat → Int} {i : Nat} (h : okN C N) (hg : ∀ r, okT C (nd N) r → okT C (nd N) (g r)) : okN C (mapT N g i) := by
  obtain ⟨n1, n2, n3, n4, n5, n6, n7, n8⟩ := h
  refine ⟨n1, n2, n3, n4, n5, n6, n7, fun s hs => ?_⟩
  have q := n8 s hs
  have e : okT C (nd N) (fun j => if s < i then g (rT N s) j else nth N j s) := by
    by_cases l : s < i
    · have := hg (rT N s) q
      simp only [if_pos l]; exact this
    · simp only [if_neg l]; exact q
  exact e
theorem okT_ho {C : zCt} {N : zEn} {r : Nat → Int} (h : okT C (nd N) r) : okT C (nd N) (hoG C N r) := by
  unfold hoG
  split
  · rename_i c
    obtain ⟨a1, a2, a3, a4, a5, a6⟩ := h
    split
    · exact ⟨by show (-3 : Int) ≤ -3 ∧ (-3 : Int) < _; omega, a2, by show (-1 : Int) ≤ nd N ∧ (nd N : Int) ≤ nd N; omega, by show (-1 : Int) ≤ -1 ∧ (-1 : Int) < _; omega, by show (-1 : Int) ≤ -1 ∧ (-1 : Int) ≤ _; omega, by show (-3 : Int) ≠ -1; omega⟩
    · exact ⟨by show -3 ≤ r 3 ∧ r 3 < _; omega, a2, a3, by show (-1 : Int) ≤ -1 ∧ (-1 : Int) < _; omega, by show (-1 : Int) ≤ -1 ∧ (-1 : Int) ≤ _; omega, by show r 3 ≠ -1; omega⟩
  · exact h
theorem okT_lo {C : zCt} {N : zEn} {r : Nat → Int} (h : okT C (nd N) r) : okT C (nd N) (loG C N r) := by
  unfold loG
  split
  · obtain ⟨a1, a2, a3, a4, a5, a6⟩ := h
    exact ⟨by show (-3 : Int) ≤ -2 ∧ (-2 : Int) < _; omega, a2, by show (-1 : Int) ≤ nd N ∧ (nd N : Int) ≤ nd N; omega, by show (-1 : Int) ≤ -1 ∧ (-1 : Int) < _; omega, by show (-1 : Int) ≤ -1 ∧ (-1 : Int) ≤ _; omega, by show (-2 : Int) ≠ -1; omega⟩
  · exact h
theorem okT_chG {C : zCt} {N : zEn} {r : Nat → Int} (hN : okN C N) (h : okT C (nd N) r) : okT C (nd N) (chG C N r) := by
  obtain ⟨a1, a2, a3, a4, a5, a6⟩ := h
  have k := chF_ok hN (v := dV C N) (p := (r 0).toNat) (cn C) (Nat.le_refl _)
  exact ⟨a1, a2, a3, ⟨k.2.1, k.2.2.1⟩, ⟨k.2.2.2.1, k.2.2.2.2⟩, a6⟩
theorem okT_an {C : zCt} {N : zEn} {r : Nat → Int} (hN : okN C N) (h : okT C (nd N) r) : okT C (nd N) (anG C N r) := by
  unfold anG
  split
  · exact okT_chG hN h
  · exact h
theorem xTh_of {h : zS} {C : zCt} {N : zEn} (w : XEarn h 34 C N) {t : Nat} (ht : t < nt N) : xTh h t (rT N t) := w.2.2.2.1 t ht
theorem mTh_of {h : zS} {C : zCt} {N : zEn} (w : MEarn h C N) {t : Nat} (ht : t < nt N) : mTh h t (rT N t) := w.2.2.2.1 t ht
section HO
variable {E : zE} {d : Nat} {h : zS}
theorem c_thereX {C : zCt} {N : zEn} {a : Nat} {Q : Int → zS → Prop} (hn12 : cn C ≤ 12) (wN : XEarn h 34 C N) (ha : a < cn C) (HQ : Q (if thN C N a then 1 else 0) h) : zCi E (d + 1) m_X4_isThere [vo 35, vi a] h Q := by
  refine c_isThere isFate_35 wN.2.1.1 (bset_lt _) (by omega) ?_
  rw [thN_t hn12 ha]; exact HQ
theorem c_handOn {k1 : Nat} {C : zCt} {N : zEn} {Q : zS → Prop} (hk1 : isCity k1) (hC : okC C) (wC : XCity h k1 C) (hN : okN C N) (wN : XEarn h 34 C N)
    (HQ : ∀ h1, XEarn h1 34 C (mapT N (hoG C N) (nt N)) → zEq (fun c => c < 38 ∨ 42 < c) h h1 → Q h1) : zCv E (d + 2) m_X1_handOn [vo 34, vo k1] h Q := by
  have hn12 := hC.1
  have ht12 := hN.2.1
  have kd := (city_lt hk1).2
  refine v_X1_handOn isEarnest_34 hk1 ?_
  refine z_up (n := nt N) (fun i h2 => zWv E (d + 1 + 1) m_X1_handOn 2 [vo 34, vo k1, vi i, vn] h2 Q) (fun i h2 => XEarn h2 34 C (mapT N (hoG C N) i) ∧ zEq (fun c => c < 38 ∨ 42 < c) h h2) ?_ ?_ 0 h (by omega) ⟨wN, zEq.rf⟩
  · rintro h2 ⟨u1, u2⟩
    refine r_X1_handOn_2 isEarnest_34 hk1 ⟨fun _ => HQ h2 u1 u2, fun c => ?_⟩
    have := u1.2.2.1
    have : hI h2 (34 + 3) 0 = (nt N : Int) := this
    omega
  · rintro i h2 hi ⟨u1, u2⟩ ih
    have cnt : hI h2 (34 + 3) 0 = (nt N : Int) := u1.2.2.1
    have x := xTh_of (t := i) u1 hi
    rw [rT_map] at x
    have ot := okT_of hN hi
    generalize hr : rT N i = r at *
    have d2 : hI h2 34 0 = (nd N : Int) := u1.1
    have same : hoG C N r = r → zWv E (d + 1 + 1) m_X1_handOn 2 [vo 34, vo k1, vi ((i + 1 : Nat) : Int), vn] h2 Q := fun e => ih h2 ⟨by rw [← mapT_k (by rw [hr]; exact e)]; exact u1, u2⟩
    refine r_X1_handOn_2 isEarnest_34 hk1 ⟨fun c => by omega, fun _ => ⟨by omega, ?_⟩⟩
    rw [w32s (by omega)]
    simp only [Int.toNat_natCast, Nat.reduceAdd]
    rw [x.2.2.2.1]
    rintro y2 rfl
    refine c_isHeld (by omega) x ?_
    by_cases c0 : 0 ≤ r 0
    · rw [if_pos c0]
      refine ⟨fun e => by omega, fun _ => ⟨fun c1 => same ?_, fun c1 => ?_⟩⟩
      · unfold hoG; rw [if_neg (fun q => by have := q.2.1; omega)]
      · have c1' : 0 ≤ r 3 := by have := ot.2.2.2.1; omega
        rw [x.2.2.2.2, d2, x.1]
        refine ⟨fun c2 => same ?_, fun c2 => ?_⟩
        · unfold hoG; rw [if_neg (fun q => c2 q.2.2.1)]
        · obtain ⟨a, ha⟩ : ∃ a : Nat, r 0 = a := ⟨(r 0).toNat, by omega⟩
          obtain ⟨b, hb⟩ : ∃ b : Nat, r 3 = b := ⟨(r 3).toNat, by omega⟩
          have an : a < cn C := by have := ot.1; omega
          have bn : b < cn C := by have := ot.2.2.2.1; omega
          rw [ha]
          refine c_thereX hn12 u1 an ?_
          show ((if thN C N a = true then (1 : Int) else 0) = 0 → _) ∧ ((if thN C N a = true then (1 : Int) else 0) ≠ 0 → _)
          cases ta : thN C N a with
          | false =>
            refine ⟨fun _ => same ?_, fun e => absurd rfl e⟩
            unfold hoG; rw [if_neg (fun q => by have := q.2.2.2.1; rw [ha, Int.toNat_natCast, ta] at this; cases this)]
          | true =>
          refine ⟨fun e => by simp at e, fun _ => ?_⟩
          rw [hb]
          refine c_thereX hn12 u1 bn ?_
          show ((if thN C N b = true then (1 : Int) else 0) = 0 → _) ∧ ((if thN C N b = true then (1 : Int) else 0) ≠ 0 → _)
          cases tb : thN C N b with
          | false =>
            refine ⟨fun _ => same ?_, fun e => absurd rfl e⟩
            unfold hoG; rw [if_neg (fun q => by have := q.2.2.2.2; rw [hb, Int.toNat_natCast, tb] at this; cases this)]
          | true =>
          refine ⟨fun e => by simp at e, fun _ => ?_⟩
          have eG : hoG C N r = if (b : Int) = cse C then r5 (-3) (r 1) (nd N) (-1) (-1) else r5 b (r 1) (r 2) (-1) (-1) := by
            unfold hoG
            rw [if_pos ⟨c0, c1', c2, by rw [ha, Int.toNat_natCast]; exact ta, by rw [hb, Int.toNat_natCast]; exact tb⟩, hb]
          rw [d2]
          refine c_giveTo hk1 (by omega) x (z := cse C) (by rw [u2.I (by omega)]; exact wC.2.2.2.1) (fun h9 x9 f9 => ?_)
          rw [← eG, ← hr] at x9
          refine ih h9 ⟨?_, u2.tr f9.1⟩
          rw [← mapT_s]
          exact XEarn_setT u1 f9 x9
    · rw [if_neg c0]
      refine ⟨fun _ => same ?_, fun e => absurd rfl e⟩
      unfold hoG; rw [if_neg (fun q => c0 q.1)]
theorem c_loseThings {C : zCt} {N : zEn} {Q : zS → Prop} (hC : okC C) (hN : okN C N) (wN : XEarn h 34 C N)
    (HQ : ∀ h1, XEarn h1 34 C (mapT N (loG C N) (nt N)) → zEq (fun c => c < 38 ∨ 42 < c) h h1 → Q h1) : zCv E (d + 2) m_X1_loseThings [vo 34] h Q := by
  have hn12 := hC.1
  have ht12 := hN.2.1
  refine v_X1_loseThings isEarnest_34 ?_
  refine z_up (n := nt N) (fun i h2 => zWv E (d + 1 + 1) m_X1_loseThings 2 [vo 34, vi i] h2 Q) (fun i h2 => XEarn h2 34 C (mapT N (loG C N) i) ∧ zEq (fun c => c < 38 ∨ 42 < c) h h2) ?_ ?_ 0 h (by omega) ⟨wN, zEq.rf⟩
  · rintro h2 ⟨u1, u2⟩
    refine r_X1_loseThings_2 isEarnest_34 ⟨fun _ => HQ h2 u1 u2, fun c => ?_⟩
    have : hI h2 (34 + 3) 0 = (nt N : Int) := u1.2.2.1
    omega
  · rintro i h2 hi ⟨u1, u2⟩ ih
    have cnt : hI h2 (34 + 3) 0 = (nt N : Int) := u1.2.2.1
    have x := xTh_of (t := i) u1 hi
    rw [rT_map] at x
    have ot := okT_of hN hi
    generalize hr : rT N i = r at *
    have d2 : hI h2 34 0 = (nd N : Int) := u1.1
    have same : loG C N r = r → zWv E (d + 1 + 1) m_X1_loseThings 2 [vo 34, vi ((i + 1 : Nat) : Int)] h2 Q := fun e => ih h2 ⟨by rw [← mapT_k (by rw [hr]; exact e)]; exact u1, u2⟩
    refine r_X1_loseThings_2 isEarnest_34 ⟨fun c => by omega, fun _ => ?_⟩
    rw [w32s (by omega)]
    simp only [Int.toNat_natCast, Nat.reduceAdd]
    refine c_isHeld (by omega) x ?_
    by_cases c0 : 0 ≤ r 0
    · rw [if_pos c0]
      refine ⟨fun e => by omega, fun _ => ⟨by omega, ?_⟩⟩
      rw [x.1]
      obtain ⟨a, ha⟩ : ∃ a : Nat, r 0 = a := ⟨(r 0).toNat, by omega⟩
      have an : a < cn C := by have := ot.1; omega
      rw [ha]
      refine c_thereX hn12 u1 an ?_
      show ((if thN C N a = true then (1 : Int) else 0) ≠ 0 → _) ∧ ((if thN C N a = true then (1 : Int) else 0) = 0 → _)
      cases ta : thN C N a with
      | true =>
        refine ⟨fun _ => same ?_, fun e => by simp at e⟩
        unfold loG; rw [if_neg (fun q => by have := q.2; rw [ha, Int.toNat_natCast, ta] at this; cases this)]
      | false =>
        refine ⟨fun e => absurd rfl e, fun _ => ?_⟩
        have eG : loG C N r = r5 (-2) (r 1) (nd N) (-1) (-1) := by
          unfold loG
          rw [if_pos ⟨c0, by rw [ha, Int.toNat_natCast]; exact ta⟩]
        rw [d2]
        refine c_finish (by omega) x (fun h9 x9 f9 => ?_)
        rw [← eG, ← hr] at x9
        refine ih h9 ⟨?_, u2.tr f9.1⟩
        rw [← mapT_s]
        exact XEarn_setT u1 f9 x9
    · rw [if_neg c0]
      refine ⟨fun _ => same ?_, fun e => absurd rfl e⟩
      unfold loG; rw [if_neg (fun q => c0 q.1)]
end HO
