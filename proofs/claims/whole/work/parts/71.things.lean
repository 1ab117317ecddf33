/-! things: what a thing is (holder, sent, over, next, due); one thing changed -/
def r5 (a b c d e : Int) (j : Nat) : Int := if j = 0 then a else if j = 1 then b else if j = 2 then c else if j = 3 then d else e
def setT (N : zEn) (t : Nat) (r : Nat → Int) : zEn := ((nd N, nt N), ntk N, ngo N, nkn N, ngv N, fun j s => if s = t then r j else nth N j s)
def addT (N : zEn) (r : Nat → Int) : zEn := ((nd N, nt N + 1), ntk N, ngo N, nkn N, ngv N, fun j s => if s = nt N then r j else nth N j s)
def okT (C : zCt) (n : Nat) (r : Nat → Int) : Prop := (-3 ≤ r 0 ∧ r 0 < cn C) ∧ (0 ≤ r 1 ∧ r 1 ≤ n) ∧ (-1 ≤ r 2 ∧ r 2 ≤ n) ∧ (-1 ≤ r 3 ∧ r 3 < cn C) ∧ (-1 ≤ r 4 ∧ r 4 ≤ n + 9) ∧ r 0 ≠ -1
def rT (N : zEn) (t j : Nat) : Int := nth N j t
theorem okT_of {C : zCt} {N : zEn} (h : okN C N) {t : Nat} (ht : t < nt N) : okT C (nd N) (rT N t) := h.2.2.2.2.2.2.2 t ht
theorem okN_setT {C : zCt} {N : zEn} {t : Nat} {r : Nat → Int} (h : okN C N) (hr : okT C (nd N) r) : okN C (setT N t r) := by
  obtain ⟨n1, n2, n3, n4, n5, n6, n7, n8⟩ := h
  refine ⟨n1, n2, n3, n4, n5, n6, n7, fun s hs => ?_⟩
  show (-3 ≤ (if s = t then r 0 else nth N 0 s) ∧ (if s = t then r 0 else nth N 0 s) < cn C) ∧ (0 ≤ (if s = t then r 1 else nth N 1 s) ∧ (if s = t then r 1 else nth N 1 s) ≤ nd N) ∧ (-1 ≤ (if s = t then r 2 else nth N 2 s) ∧ (if s = t then r 2 else nth N 2 s) ≤ nd N) ∧ (-1 ≤ (if s = t then r 3 else nth N 3 s) ∧ (if s = t then r 3 else nth N 3 s) < cn C) ∧ (-1 ≤ (if s = t then r 4 else nth N 4 s) ∧ (if s = t then r 4 else nth N 4 s) ≤ nd N + 9) ∧ (if s = t then r 0 else nth N 0 s) ≠ -1
  by_cases e : s = t
  · simp only [if_pos e]; exact hr
  · simp only [if_neg e]; exact n8 s hs
theorem okN_addT {C : zCt} {N : zEn} {r : Nat → Int} (h : okN C N) (hl : nt N < 12) (hr : okT C (nd N) r) : okN C (addT N r) := by
  obtain ⟨n1, n2, n3, n4, n5, n6, n7, n8⟩ := h
  refine ⟨n1, hl, n3, n4, n5, n6, n7, fun s hs => ?_⟩
  have hs : s < nt N + 1 := hs
  show (-3 ≤ (if s = nt N then r 0 else nth N 0 s) ∧ (if s = nt N then r 0 else nth N 0 s) < cn C) ∧ (0 ≤ (if s = nt N then r 1 else nth N 1 s) ∧ (if s = nt N then r 1 else nth N 1 s) ≤ nd N) ∧ (-1 ≤ (if s = nt N then r 2 else nth N 2 s) ∧ (if s = nt N then r 2 else nth N 2 s) ≤ nd N) ∧ (-1 ≤ (if s = nt N then r 3 else nth N 3 s) ∧ (if s = nt N then r 3 else nth N 3 s) < cn C) ∧ (-1 ≤ (if s = nt N then r 4 else nth N 4 s) ∧ (if s = nt N then r 4 else nth N 4 s) ≤ nd N + 9) ∧ (if s = nt N then r 0 else nth N 0 s) ≠ -1
  by_cases e : s = nt N
  · simp only [if_pos e]; exact hr
  · simp only [if_neg e]; exact n8 s (by omega)
def xTh (h : zS) (t : Nat) (r : Nat → Int) : Prop := hI h 38 t = r 0 ∧ hI h 39 t = r 1 ∧ hI h 40 t = r 2 ∧ hI h 41 t = r 3 ∧ hI h 42 t = r 4
def mTh (h : zS) (t : Nat) (r : Nat → Int) : Prop := hI h 119 t = r 0 ∧ hI h 120 t = r 1 ∧ hI h 121 t = r 2 ∧ hI h 122 t = r 3 ∧ hI h 123 t = r 4
def xFT (t : Nat) (h h1 : zS) : Prop := zEq (fun c => c < 38 ∨ 42 < c) h h1 ∧ ∀ c i, i ≠ t → hI h1 c i = hI h c i
def mFT (t : Nat) (h h1 : zS) : Prop := zEq (fun c => c < 119 ∨ 123 < c) h h1 ∧ ∀ c i, i ≠ t → hI h1 c i = hI h c i
theorem xFT.tr {t : Nat} {h h1 h2 : zS} (a : xFT t h h1) (b : xFT t h1 h2) : xFT t h h2 := ⟨a.1.tr b.1, fun c i hi => (b.2 c i hi).trans (a.2 c i hi)⟩
theorem mFT.tr {t : Nat} {h h1 h2 : zS} (a : mFT t h h1) (b : mFT t h1 h2) : mFT t h h2 := ⟨a.1.tr b.1, fun c i hi => (b.2 c i hi).trans (a.2 c i hi)⟩
theorem xFT.rf {t : Nat} {h : zS} : xFT t h h := ⟨zEq.rf, fun _ _ _ => rfl⟩
theorem mFT.rf {t : Nat} {h : zS} : mFT t h h := ⟨zEq.rf, fun _ _ _ => rfl⟩
theorem xFT_st {t k : Nat} {x : Int} {h h1 : zS} (e : h1 = stI h k t x) (h1' : 38 ≤ k) (h2 : k ≤ 42) : xFT t h h1 := by
  obtain ⟨_, n, q⟩ := st_cp e
  exact ⟨q.wk (fun c hc => by omega), fun c i hi => n c i (fun z => hi z.2)⟩
theorem mFT_st {t k : Nat} {x : Int} {h h1 : zS} (e : h1 = stI h k t x) (h1' : 119 ≤ k) (h2 : k ≤ 123) : mFT t h h1 := by
  obtain ⟨_, n, q⟩ := st_cp e
  exact ⟨q.wk (fun c hc => by omega), fun c i hi => n c i (fun z => hi z.2)⟩
theorem XEarn_setT {h h1 : zS} {C : zCt} {N : zEn} {t : Nat} {r : Nat → Int} (w : XEarn h 34 C N) (f : xFT t h h1) (x : xTh h1 t r) : XEarn h1 34 C (setT N t r) := by
  obtain ⟨w1, w2, w3, w4, w5, w6⟩ := w
  refine ⟨by rw [f.1.I (by omega)]; exact w1, w2.fr f.1 (by omega) (by omega), by rw [f.1.I (by omega)]; exact w3, fun s hs => ?_, fun a b ha hb => by rw [f.1.I (by omega)]; exact w5 a b ha hb, fun i hi => by rw [f.1.I (by omega)]; exact w6 i hi⟩
  show hI h1 38 s = (if s = t then r 0 else nth N 0 s) ∧ hI h1 39 s = (if s = t then r 1 else nth N 1 s) ∧ hI h1 40 s = (if s = t then r 2 else nth N 2 s) ∧ hI h1 41 s = (if s = t then r 3 else nth N 3 s) ∧ hI h1 42 s = (if s = t then r 4 else nth N 4 s)
  by_cases e : s = t
  · simp only [if_pos e]; rw [e]; exact x
  · simp only [if_neg e, f.2 _ _ e]; exact w4 s hs
theorem MEarn_setT {h h1 : zS} {C : zCt} {N : zEn} {t : Nat} {r : Nat → Int} (w : MEarn h C N) (f : mFT t h h1) (x : mTh h1 t r) : MEarn h1 C (setT N t r) := by
  obtain ⟨w1, w2, w3, w4, w5⟩ := w
  refine ⟨by rw [f.1.I (by omega)]; exact w1, by rw [f.1.I (by omega)]; exact w2, fun i hi => ?_, fun s hs => ?_, fun a b ha hb => by rw [f.1.I (by omega)]; exact w5 a b ha hb⟩
  · rw [f.1.I (by omega), f.1.I (by omega), f.1.I (by omega)]; exact w3 i hi
  · show hI h1 119 s = (if s = t then r 0 else nth N 0 s) ∧ hI h1 120 s = (if s = t then r 1 else nth N 1 s) ∧ hI h1 121 s = (if s = t then r 2 else nth N 2 s) ∧ hI h1 122 s = (if s = t then r 3 else nth N 3 s) ∧ hI h1 123 s = (if s = t then r 4 else nth N 4 s)
    by_cases e : s = t
    · simp only [if_pos e]; rw [e]; exact x
    · simp only [if_neg e, f.2 _ _ e]; exact w4 s hs
section TH
variable {E : zE} {d : Nat} {h : zS}
theorem c_isHeld {t : Nat} {r : Nat → Int} {Q : Int → zS → Prop} (ht : t < 12) (w : xTh h t r) (HQ : Q (if 0 ≤ r 0 then 1 else 0) h) : zCi E d m_X8_isHeld [vo 37, vi t] h Q := by
  refine v_X8_isHeld isThings_37 ⟨by omega, ?_⟩
  simp only [Int.toNat_natCast, Nat.reduceAdd]
  rw [w.1]
  refine ⟨fun c => ?_, fun c => ?_⟩
  · rw [if_neg (by omega)] at HQ; exact HQ
  · rw [if_pos c] at HQ; exact HQ
theorem c_finish {t : Nat} {r : Nat → Int} {x2 x3 : Int} {Q : zS → Prop} (ht : t < 12) (w : xTh h t r) (HQ : ∀ h1, xTh h1 t (r5 x2 (r 1) x3 (-1) (-1)) → xFT t h h1 → Q h1) : zCv E d m_X8_finish [vo 37, vi t, vi x2, vi x3] h Q := by
  refine v_X8_finish isThings_37 ⟨by omega, ?_⟩
  simp only [Int.toNat_natCast, Nat.reduceAdd]
  intro h2 e2 h3 e3 h4 e4 h5 e5
  have f2 := xFT_st e2 (by omega) (by omega)
  have f3 := xFT_st e3 (by omega) (by omega)
  have f4 := xFT_st e4 (by omega) (by omega)
  have f5 := xFT_st e5 (by omega) (by omega)
  obtain ⟨v2, _, q2⟩ := st_cp e2
  obtain ⟨v3, _, q3⟩ := st_cp e3
  obtain ⟨v4, _, q4⟩ := st_cp e4
  obtain ⟨v5, _, q5⟩ := st_cp e5
  clear e2 e3 e4 e5
  refine HQ h5 ⟨?_, ?_, ?_, ?_, ?_⟩ (f2.tr (f3.tr (f4.tr f5)))
  · rw [q5.I (by omega), q4.I (by omega), q3.I (by omega), v2]; rfl
  · rw [q5.I (by omega), q4.I (by omega), q3.I (by omega), q2.I (by omega)]; exact w.2.1
  · rw [q5.I (by omega), q4.I (by omega), v3]; rfl
  · rw [q5.I (by omega), v4]; rfl
  · rw [v5]; rfl
theorem c_giveTo {k3 t : Nat} {r : Nat → Int} {x2 x4 z : Int} {Q : zS → Prop} (hk3 : isCity k3) (ht : t < 12) (w : xTh h t r) (hz : hI h k3 3 = z) (HQ : ∀ h1, xTh h1 t (if x2 = z then r5 (-3) (r 1) x4 (-1) (-1) else r5 x2 (r 1) (r 2) (-1) (-1)) → xFT t h h1 → Q h1) : zCv E (d + 1) m_X8_giveTo [vo 37, vi t, vi x2, vo k3, vi x4] h Q := by
  have kd := (city_lt hk3).2
  refine v_X8_giveTo isThings_37 hk3 ⟨by omega, ?_⟩
  simp only [Int.toNat_natCast, Nat.reduceAdd]
  intro h2 e2 h3 e3 h4 e4
  have f2 := xFT_st e2 (by omega) (by omega)
  have f3 := xFT_st e3 (by omega) (by omega)
  have f4 := xFT_st e4 (by omega) (by omega)
  obtain ⟨v2, _, q2⟩ := st_cp e2
  obtain ⟨v3, _, q3⟩ := st_cp e3
  obtain ⟨v4, _, q4⟩ := st_cp e4
  clear e2 e3 e4
  have f := f2.tr (f3.tr f4)
  have w4 : xTh h4 t (r5 x2 (r 1) (r 2) (-1) (-1)) := by
    refine ⟨?_, ?_, ?_, ?_, ?_⟩
    · rw [q4.I (by omega), q3.I (by omega), v2]; rfl
    · rw [q4.I (by omega), q3.I (by omega), q2.I (by omega)]; exact w.2.1
    · rw [q4.I (by omega), q3.I (by omega), q2.I (by omega)]; exact w.2.2.1
    · rw [q4.I (by omega), v3]; rfl
    · rw [v4]; rfl
  rw [f.1.I (by omega), hz]
  refine ⟨fun c => ?_, fun c => ?_⟩
  · have HQ := HQ h4
    rw [if_neg c] at HQ
    exact HQ w4 f
  · refine c_finish ht w4 (fun h5 w5 f5 => ?_)
    have HQ := HQ h5
    rw [if_pos c] at HQ
    exact HQ w5 (f.tr f5)
theorem c_M_comes {t : Nat} {r : Nat → Int} {x : Int} {Q : zS → Prop} (ht : t < 12) (hx : hI h 89 54 = x) (w : mTh h t r) (HQ : ∀ h1, mTh h1 t (r5 (-3) (r 1) x (-1) (-1)) → mFT t h h1 → Q h1) : zCv E d m_X10_comes [vo 89, vi t] h Q := by
  refine v_X10_comes ⟨by omega, ?_⟩
  simp only [Int.toNat_natCast]
  intro h2 e2 h3 e3 h4 e4 h5 e5
  have f2 := mFT_st e2 (by omega) (by omega)
  have f3 := mFT_st e3 (by omega) (by omega)
  have f4 := mFT_st e4 (by omega) (by omega)
  have f5 := mFT_st e5 (by omega) (by omega)
  obtain ⟨v2, _, q2⟩ := st_cp e2
  obtain ⟨v3, _, q3⟩ := st_cp e3
  obtain ⟨v4, _, q4⟩ := st_cp e4
  obtain ⟨v5, _, q5⟩ := st_cp e5
  clear e2 e3 e4 e5
  refine HQ h5 ⟨?_, ?_, ?_, ?_, ?_⟩ (f2.tr (f3.tr (f4.tr f5)))
  · rw [q5.I (by omega), q4.I (by omega), q3.I (by omega), v2]; rfl
  · rw [q5.I (by omega), q4.I (by omega), q3.I (by omega), q2.I (by omega)]; exact w.2.1
  · rw [q5.I (by omega), q4.I (by omega), v3, q2.I (by omega), hx]; rfl
  · rw [q5.I (by omega), v4]; rfl
  · rw [v5]; rfl
end TH
