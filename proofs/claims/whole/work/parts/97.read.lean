/-! reading, in plain words: where one is (a fault, or a token), what was told so far -/
abbrev zSt : Type := (Int × Int) ⊕ zTk
def fz (T : zTk) (why : Int) : Int × Int := (if tcd T = 17 then 1 else why, (tpl T : Int))
def adv (n : Nat) (b : Nat → Nat) (T : zTk) : zTk := tokF n b (tnx T)
def psS (n : Nat) (b : Nat → Nat) (k : Nat) : zSt → zSt
  | .inl e => .inl e
  | .inr T => if tcd T = k then .inr (adv n b T) else .inl (fz T 2)
def nmS (n : Nat) (b : Nat → Nat) (lo hi : Int) : zSt → zSt
  | .inl e => .inl e
  | .inr T => if tcd T ≠ 14 then .inl (fz T 2) else if tnu T < lo ∨ hi < tnu T then .inl (fz T 4) else .inr (adv n b T)
def nmV : zSt → Int
  | .inl _ => 0
  | .inr T => tnu T
/-- a draft: the city so far, the names, whether luck was told -/
abbrev zDf : Type := zCt × (Nat → Int) × Bool
def dC (D : zDf) : zCt := D.1
def dN (D : zDf) : Nat → Int := D.2.1
def dL (D : zDf) : Bool := D.2.2
def fnd (nm : Nat → Int) (w : Int) : Nat → Int
  | 0 => -1
  | k + 1 => if nm k = w then (k : Int) else fnd nm w k
theorem fnd_is {nm : Nat → Int} {w : Int} : ∀ n, (fnd nm w n = -1 ∧ ∀ k, k < n → nm k ≠ w) ∨ ∃ k : Nat, fnd nm w n = k ∧ k < n ∧ nm k = w
  | 0 => .inl ⟨rfl, fun k hk => by omega⟩
  | n + 1 => by
    unfold fnd
    split
    · rename_i c; exact .inr ⟨n, rfl, by omega, c⟩
    · rename_i c
      rcases fnd_is (nm := nm) (w := w) n with ⟨h1, h2⟩ | ⟨k, h1, h2, h3⟩
      · refine .inl ⟨h1, fun k hk => ?_⟩
        by_cases e : k = n
        · rw [e]; exact c
        · exact h2 k (by omega)
      · exact .inr ⟨k, h1, by omega, h3⟩
def dF (D : zDf) (T : zTk) : Int := fnd (dN D) (twd T) (cn (dC D))
def knS (n : Nat) (b : Nat → Nat) (D : zDf) : zSt → zSt
  | .inl e => .inl e
  | .inr T => if tcd T ≠ 13 then .inl (fz T 2) else if dF D T = -1 then .inl (fz T 5) else .inr (adv n b T)
def knV (D : zDf) : zSt → Int
  | .inl _ => -1
  | .inr T => dF D T
def okD (D : zDf) : Prop := okC (dC D) ∧ (∀ i j, i < cn (dC D) → j < cn (dC D) → dN D i = dN D j → i = j) ∧ (dL D = false → clu (dC D) = 0)
/-! one line: one .. -/
def kdT (T : zTk) : Nat := if tcd T = 1 ∨ tcd T = 2 ∨ tcd T = 3 then tcd T else 0
def ro0 (n : Nat) (b : Nat → Nat) (T : zTk) : zSt := .inr (if kdT (adv n b T) ≠ 0 then adv n b (adv n b T) else adv n b T)
def ro1 (n : Nat) (b : Nat → Nat) (T : zTk) : zSt := psS n b 4 (ro0 n b T)
def ro2 (n : Nat) (b : Nat → Nat) (T : zTk) : zSt := psS n b 5 (nmS n b 0 9 (ro1 n b T))
def ro3 (n : Nat) (b : Nat → Nat) (T : zTk) : zSt := psS n b 6 (nmS n b 0 9 (ro2 n b T))
def ro4 (n : Nat) (b : Nat → Nat) (T : zTk) : zSt := psS n b 7 (nmS n b 0 99 (ro3 n b T))
def ro5 (n : Nat) (b : Nat → Nat) (T : zTk) : zSt := nmS n b 0 999 (ro4 n b T)
def roS (n : Nat) (b : Nat → Nat) (D : zDf) (T : zTk) : zSt := if tcd T ≠ 13 then .inl (fz T 2) else if dF D T ≠ -1 then .inl (fz T 3) else ro5 n b T
def addP (D : zDf) (w : Int) (v : Nat → Int) : zDf := (((cn (dC D) + 1, cgl (dC D), cga (dC D), cse (dC D), clu (dC D)), (fun j i => if i = cn (dC D) then v j else (dC D).2.1 j i), (dC D).2.2), (fun i => if i = cn (dC D) then w else dN D i), dL D)
def roD (n : Nat) (b : Nat → Nat) (D : zDf) (T : zTk) : zDf := addP D (twd T) (r5 (kdT (adv n b T)) (nmV (ro1 n b T)) (nmV (ro2 n b T)) (nmV (ro3 n b T)) (nmV (ro4 n b T)))
/-! gives .. -/
def gvO (D : zDf) (T : zTk) : Int := if tcd T = 13 then dF D T else -1
def gvB (D : zDf) (g : Int) (T : zTk) : Prop := gvO D T ≠ -1 ∧ (gvO D T = g ∨ 0 < ctk (dC D) g.toNat (gvO D T).toNat)
noncomputable def rg2 (n : Nat) (b : Nat → Nat) (D : zDf) (g : Int) : zSt → zSt
  | .inl e => .inl e
  | .inr T => if bD (gvB D g T) = true then .inl (fz T 3) else nmS n b 1 9 (psS n b 9 (knS n b D (.inr T)))
noncomputable def rgS (n : Nat) (b : Nat → Nat) (D : zDf) (T : zTk) : zSt := rg2 n b D (dF D T) (knS n b D (.inr T))
def setG (D : zDf) (g o : Nat) (v : Int) : zDf := (((cn (dC D), cgl (dC D) + 1, cga (dC D), cse (dC D), clu (dC D)), (dC D).2.1, (fun x y => if x = g ∧ y = o then v else ctk (dC D) x y)), dN D, dL D)
def rgD (n : Nat) (b : Nat → Nat) (D : zDf) (T : zTk) : zDf := setG D (dF D T).toNat (dF D (adv n b T)).toNat (nmV (psS n b 9 (knS n b D (.inr (adv n b T)))))
/-! from, to, luck -/
def setA (D : zDf) (g : Int) : zDf := (((cn (dC D), cgl (dC D), g, cse (dC D), clu (dC D)), (dC D).2), dN D, dL D)
def setZ (D : zDf) (z : Int) : zDf := (((cn (dC D), cgl (dC D), cga (dC D), z, clu (dC D)), (dC D).2), dN D, dL D)
def setL (D : zDf) (l : Int) : zDf := (((cn (dC D), cgl (dC D), cga (dC D), cse (dC D), l), (dC D).2), dN D, true)
def mayB (D : zDf) (T : zTk) : Prop := (tcd T = 0 ∧ cn (dC D) < 12) ∨ (tcd T = 8 ∧ cgl (dC D) < 30) ∨ (tcd T = 10 ∧ cga (dC D) = -1) ∨ (tcd T = 11 ∧ cse (dC D) = -1) ∨ (tcd T = 12 ∧ dL D = false)
noncomputable def lnS (n : Nat) (b : Nat → Nat) (D : zDf) (T : zTk) : zSt :=
  if bD (mayB D T) = true then psS n b 15 (if tcd T = 0 then roS n b D (adv n b T) else if tcd T = 8 then rgS n b D (adv n b T) else if tcd T = 12 then nmS n b 0 9 (.inr (adv n b T)) else knS n b D (.inr (adv n b T))) else .inl (fz T 2)
def lnD (n : Nat) (b : Nat → Nat) (D : zDf) (T : zTk) : zDf := if tcd T = 0 then roD n b D (adv n b T) else if tcd T = 8 then rgD n b D (adv n b T) else if tcd T = 12 then setL D (tnu (adv n b T)) else if tcd T = 10 then setA D (dF D (adv n b T)) else setZ D (dF D (adv n b T))
noncomputable def rdL (n : Nat) (b : Nat → Nat) : Nat → zDf → zTk → (Int × Int) ⊕ zDf
  | 0, D, _ => .inr D
  | f + 1, D, T => if tcd T = 16 then .inr D else match lnS n b D T with
    | .inl e => .inl e
    | .inr T' => rdL n b f (lnD n b D T) T'
theorem psS_i {n k : Nat} {b : Nat → Nat} {T : zTk} : psS n b k (.inr T) = (if tcd T = k then .inr (adv n b T) else .inl (fz T 2)) := rfl
theorem nmS_i {n : Nat} {b : Nat → Nat} {lo hi : Int} {T : zTk} : nmS n b lo hi (.inr T) = (if tcd T ≠ 14 then .inl (fz T 2) else if tnu T < lo ∨ hi < tnu T then .inl (fz T 4) else .inr (adv n b T)) := rfl
theorem knS_i {n : Nat} {b : Nat → Nat} {D : zDf} {T : zTk} : knS n b D (.inr T) = (if tcd T ≠ 13 then .inl (fz T 2) else if dF D T = -1 then .inl (fz T 5) else .inr (adv n b T)) := rfl
theorem rg2_i {n : Nat} {b : Nat → Nat} {D : zDf} {g : Int} {T : zTk} : rg2 n b D g (.inr T) = (if bD (gvB D g T) = true then .inl (fz T 3) else nmS n b 1 9 (psS n b 9 (knS n b D (.inr T)))) := rfl
/-! what comes out is a city that a text can tell -/
theorem psS_r {n k : Nat} {b : Nat → Nat} {s : zSt} {T' : zTk} (h : psS n b k s = .inr T') : ∃ T, s = .inr T ∧ tcd T = k ∧ T' = adv n b T := by
  cases s with
  | inl e => cases h
  | inr T =>
    rw [psS_i] at h
    by_cases c : tcd T = k
    · rw [if_pos c] at h; cases h; exact ⟨T, rfl, c, rfl⟩
    · rw [if_neg c] at h; cases h
theorem nmS_r {n : Nat} {b : Nat → Nat} {lo hi : Int} {s : zSt} {T' : zTk} (h : nmS n b lo hi s = .inr T') : ∃ T, s = .inr T ∧ tcd T = 14 ∧ lo ≤ tnu T ∧ tnu T ≤ hi ∧ T' = adv n b T ∧ nmV s = tnu T := by
  cases s with
  | inl e => cases h
  | inr T =>
    rw [nmS_i] at h
    by_cases c : tcd T ≠ 14
    · rw [if_pos c] at h; cases h
    · rw [if_neg c] at h
      by_cases c2 : tnu T < lo ∨ hi < tnu T
      · rw [if_pos c2] at h; cases h
      · rw [if_neg c2] at h; cases h
        exact ⟨T, rfl, by omega, by omega, by omega, rfl, rfl⟩
theorem knS_r {n : Nat} {b : Nat → Nat} {D : zDf} {s : zSt} {T' : zTk} (h : knS n b D s = .inr T') : ∃ T, s = .inr T ∧ tcd T = 13 ∧ T' = adv n b T ∧ ∃ k : Nat, dF D T = k ∧ k < cn (dC D) := by
  cases s with
  | inl e => cases h
  | inr T =>
    rw [knS_i] at h
    by_cases c : tcd T ≠ 13
    · rw [if_pos c] at h; cases h
    · rw [if_neg c] at h
      by_cases c2 : dF D T = -1
      · rw [if_pos c2] at h; cases h
      · rw [if_neg c2] at h; cases h
        refine ⟨T, rfl, by omega, rfl, ?_⟩
        rcases fnd_is (nm := dN D) (w := twd T) (cn (dC D)) with ⟨q, _⟩ | ⟨k, q1, q2, _⟩
        · exact absurd q c2
        · exact ⟨k, q1, q2⟩
theorem okD_add {D : zDf} {w : Int} {v : Nat → Int} (h : okD D) (hn : cn (dC D) < 12) (hw : ∀ k, k < cn (dC D) → dN D k ≠ w) (hv : (0 ≤ v 0 ∧ v 0 ≤ 3) ∧ (0 ≤ v 1 ∧ v 1 ≤ 9) ∧ (0 ≤ v 2 ∧ v 2 ≤ 9) ∧ (0 ≤ v 3 ∧ v 3 ≤ 99) ∧ (0 ≤ v 4 ∧ v 4 ≤ 999)) : okD (addP D w v) := by
  obtain ⟨⟨c1, c2, c3, c4, c5, c6, c7⟩, h2, h3⟩ := h
  refine ⟨⟨hn, c2, ⟨c3.1, ?_⟩, ⟨c4.1, ?_⟩, c5, fun i hi => ?_, fun x y => ?_⟩, fun i j hi hj e => ?_, h3⟩
  · show cga (dC D) < ((cn (dC D) + 1 : Nat) : Int); omega
  · show cse (dC D) < ((cn (dC D) + 1 : Nat) : Int); omega
  · have hi : i < cn (dC D) + 1 := hi
    show (0 ≤ (if i = cn (dC D) then v 0 else ckd (dC D) i) ∧ (if i = cn (dC D) then v 0 else ckd (dC D) i) ≤ 3) ∧ (0 ≤ (if i = cn (dC D) then v 1 else csl (dC D) i) ∧ (if i = cn (dC D) then v 1 else csl (dC D) i) ≤ 9) ∧ (0 ≤ (if i = cn (dC D) then v 2 else cho (dC D) i) ∧ (if i = cn (dC D) then v 2 else cho (dC D) i) ≤ 9) ∧ (0 ≤ (if i = cn (dC D) then v 3 else cri (dC D) i) ∧ (if i = cn (dC D) then v 3 else cri (dC D) i) ≤ 99) ∧ (0 ≤ (if i = cn (dC D) then v 4 else cke (dC D) i) ∧ (if i = cn (dC D) then v 4 else cke (dC D) i) ≤ 999)
    by_cases e : i = cn (dC D)
    · simp only [if_pos e]; exact hv
    · simp only [if_neg e]; exact c6 i (by omega)
  · have q := c7 x y
    refine ⟨q.1, fun p => ?_⟩
    have := q.2 p
    show x < cn (dC D) + 1 ∧ y < cn (dC D) + 1 ∧ x ≠ y
    omega
  · have hi : i < cn (dC D) + 1 := hi
    have hj : j < cn (dC D) + 1 := hj
    have e : (if i = cn (dC D) then w else dN D i) = (if j = cn (dC D) then w else dN D j) := e
    by_cases e1 : i = cn (dC D) <;> by_cases e2 : j = cn (dC D)
    · omega
    · rw [if_pos e1, if_neg e2] at e; exact absurd e.symm (hw j (by omega))
    · rw [if_neg e1, if_pos e2] at e; exact absurd e (hw i (by omega))
    · rw [if_neg e1, if_neg e2] at e; exact h2 i j (by omega) (by omega) e
theorem ro5_r {n : Nat} {b : Nat → Nat} {T T' : zTk} (h : ro5 n b T = .inr T') : (0 ≤ nmV (ro1 n b T) ∧ nmV (ro1 n b T) ≤ 9) ∧ (0 ≤ nmV (ro2 n b T) ∧ nmV (ro2 n b T) ≤ 9) ∧ (0 ≤ nmV (ro3 n b T) ∧ nmV (ro3 n b T) ≤ 99) ∧ (0 ≤ nmV (ro4 n b T) ∧ nmV (ro4 n b T) ≤ 999) := by
  obtain ⟨T4, a1, _, a3, a4, _, a6⟩ := nmS_r h
  obtain ⟨T4', b1, _, _⟩ := psS_r a1
  obtain ⟨T3, c1, _, c3, c4, _, c6⟩ := nmS_r b1
  obtain ⟨T3', d1, _, _⟩ := psS_r c1
  obtain ⟨T2, e1, _, e3, e4, _, e6⟩ := nmS_r d1
  obtain ⟨T2', f1, _, _⟩ := psS_r e1
  obtain ⟨T1, g1, _, g3, g4, _, g6⟩ := nmS_r f1
  rw [a6, c6, e6, g6]
  exact ⟨⟨g3, g4⟩, ⟨e3, e4⟩, ⟨c3, c4⟩, ⟨a3, a4⟩⟩
theorem okD_ln {n : Nat} {b : Nat → Nat} {D : zDf} {T T' : zTk} (h : okD D) (hl : lnS n b D T = .inr T') : okD (lnD n b D T) := by
  unfold lnS at hl
  by_cases mb : bD (mayB D T) = true
  · rw [if_pos mb] at hl
    have mb := bD_t.mp mb
    obtain ⟨Tk, hk, _, _⟩ := psS_r hl
    clear hl
    unfold lnD
    by_cases t0 : tcd T = 0
    · rw [if_pos t0] at hk ⊢
      have n12 : cn (dC D) < 12 := by rcases mb with q | q | q | q | q <;> omega
      unfold roS at hk
      by_cases c1 : tcd (adv n b T) ≠ 13
      · rw [if_pos c1] at hk; cases hk
      · rw [if_neg c1] at hk
        by_cases c2 : dF D (adv n b T) ≠ -1
        · rw [if_pos c2] at hk; cases hk
        · rw [if_neg c2] at hk
          have r := ro5_r hk
          refine okD_add h n12 ?_ ⟨?_, r.1, r.2.1, r.2.2.1, r.2.2.2⟩
          · rcases fnd_is (nm := dN D) (w := twd (adv n b T)) (cn (dC D)) with ⟨_, q⟩ | ⟨k, q1, _, _⟩
            · exact q
            · exact absurd q1 (by have : dF D (adv n b T) = -1 := by omega
                                  unfold dF at this; omega)
          · show (0 : Int) ≤ (kdT (adv n b (adv n b T)) : Nat) ∧ ((kdT (adv n b (adv n b T)) : Nat) : Int) ≤ 3
            unfold kdT; split <;> omega
    · rw [if_neg t0] at hk ⊢
      by_cases t8 : tcd T = 8
      · rw [if_pos t8] at hk ⊢
        have g30 : cgl (dC D) < 30 := by rcases mb with q | q | q | q | q <;> omega
        unfold rgS at hk
        cases s1 : knS n b D (.inr (adv n b T)) with
        | inl e => rw [s1] at hk; cases hk
        | inr T1 =>
          obtain ⟨Ta, a1, a2, a3, g, a4, a5⟩ := knS_r s1
          cases a1
          rw [s1] at hk
          rw [rg2_i] at hk
          by_cases nb' : bD (gvB D (dF D (adv n b T)) T1) = true
          · rw [if_pos nb'] at hk; cases hk
          · rw [if_neg nb'] at hk
            have nb' : ¬ gvB D (dF D (adv n b T)) T1 := fun q => nb' (bD_t.mpr q)
            obtain ⟨T3, b1, _, b3, b4, _, b6⟩ := nmS_r hk
            obtain ⟨T2, c1, _, _⟩ := psS_r b1
            obtain ⟨Tb, d1, d2, d3, o, d4, d5⟩ := knS_r c1
            cases d1
            subst a3
            have go : gvO D (adv n b (adv n b T)) = (o : Int) := by unfold gvO; rw [if_pos d2]; exact d4
            have ne : g ≠ o := fun e => nb' ⟨by rw [go]; omega, .inl (by rw [go, a4, e])⟩
            unfold rgD
            rw [a4, d4, b6]
            simp only [Int.toNat_natCast]
            obtain ⟨⟨k1, k2, k3, k4, k5, k6, k7⟩, h2, h3⟩ := h
            refine ⟨⟨k1, g30, k3, k4, k5, k6, fun x y => ?_⟩, h2, h3⟩
            show (0 ≤ (if x = g ∧ y = o then tnu T3 else ctk (dC D) x y) ∧ (if x = g ∧ y = o then tnu T3 else ctk (dC D) x y) ≤ 9) ∧ (0 < (if x = g ∧ y = o then tnu T3 else ctk (dC D) x y) → x < cn (dC D) ∧ y < cn (dC D) ∧ x ≠ y)
            by_cases e : x = g ∧ y = o
            · rw [if_pos e]; exact ⟨by omega, fun _ => by omega⟩
            · rw [if_neg e]; exact k7 x y
      · rw [if_neg t8] at hk ⊢
        by_cases t12 : tcd T = 12
        · rw [if_pos t12] at hk ⊢
          obtain ⟨Ta, a1, _, a3, a4, _, _⟩ := nmS_r hk
          cases a1
          obtain ⟨⟨k1, k2, k3, k4, k5, k6, k7⟩, h2, h3⟩ := h
          exact ⟨⟨k1, k2, k3, k4, ⟨a3, a4⟩, k6, k7⟩, h2, fun e => by cases e⟩
        · rw [if_neg t12] at hk ⊢
          obtain ⟨Ta, a1, _, _, g, a4, a5⟩ := knS_r hk
          cases a1
          obtain ⟨⟨k1, k2, k3, k4, k5, k6, k7⟩, h2, h3⟩ := h
          rw [a4]
          split
          · exact ⟨⟨k1, k2, ⟨by show (-1 : Int) ≤ (g : Int); omega, by show (g : Int) < (cn (dC D) : Int); omega⟩, k4, k5, k6, k7⟩, h2, h3⟩
          · exact ⟨⟨k1, k2, k3, ⟨by show (-1 : Int) ≤ (g : Int); omega, by show (g : Int) < (cn (dC D) : Int); omega⟩, k5, k6, k7⟩, h2, h3⟩
  · rw [if_neg mb] at hl; cases hl
