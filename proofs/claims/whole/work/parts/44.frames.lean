/-! what of the heap a state speaks of, place by place; one piece of the state changed -/
def zEw (W : Nat → Nat → Prop) (h h1 : zS) : Prop := ∀ c i, W c i → hI h1 c i = hI h c i ∧ hR h1 c i = hR h c i
theorem zEw.rf {W : Nat → Nat → Prop} {h : zS} : zEw W h h := fun _ _ _ => ⟨rfl, rfl⟩
theorem zEw.tr {W : Nat → Nat → Prop} {h h1 h2 : zS} (a : zEw W h h1) (b : zEw W h1 h2) : zEw W h h2 := fun c i hc => ⟨(b c i hc).1.trans (a c i hc).1, (b c i hc).2.trans (a c i hc).2⟩
theorem zEw.wk {W V : Nat → Nat → Prop} {h h1 : zS} (a : zEw W h h1) (hb : ∀ c i, V c i → W c i) : zEw V h h1 := fun c i hc => a c i (hb c i hc)
theorem zEw.of {W : Nat → Nat → Prop} {A : Nat → Prop} {h h1 : zS} (a : zEq A h h1) (hb : ∀ c i, W c i → A c) : zEw W h h1 := fun c i hc => ⟨a.I (hb c i hc) i, a.R (hb c i hc) i⟩
theorem zEw_I {W : Nat → Nat → Prop} {h : zS} {k j : Nat} {x : Int} (hk : ¬ W k j) : zEw W h (stI h k j x) := by
  intro c i hc
  refine ⟨?_, rfl⟩
  have n : ¬ (c = k ∧ i = j) := fun e => hk (by rw [← e.1, ← e.2]; exact hc)
  rw [hI_stI, if_neg n]
theorem zEw_R {W : Nat → Nat → Prop} {h : zS} {k j : Nat} {x : Option Nat} (hk : ¬ W k j) : zEw W h (stR h k j x) := by
  intro c i hc
  refine ⟨rfl, ?_⟩
  have n : ¬ (c = k ∧ i = j) := fun e => hk (by rw [← e.1, ← e.2]; exact hc)
  rw [hR_stR, if_neg n]
def MK (c i : Nat) : Prop := (c = 89 ∧ (i = 1 ∨ i = 2 ∨ i = 3 ∨ (29 ≤ i ∧ i ≤ 33) ∨ i = 37 ∨ i = 54 ∨ i = 55 ∨ i = 62 ∨ i = 63)) ∨ c = 90 ∨ (98 ≤ c ∧ c ≤ 104) ∨ c = 107 ∨ (115 ≤ c ∧ c ≤ 123) ∨ (125 ≤ c ∧ c ≤ 134)
def XK (t c i : Nat) : Prop := (c = 0 ∧ (i = 1 ∨ i = 3 ∨ i = 4 ∨ i = 9)) ∨ c = 1 ∨ (c = 2 ∧ (i = 3 ∨ i = 4)) ∨ (t ≤ c ∧ c ≤ t + 9) ∨ (25 ≤ c ∧ c ≤ 27) ∨ (c = 30 ∧ i = 4) ∨ c = 33 ∨ (34 ≤ c ∧ c ≤ 44) ∨ (46 ≤ c ∧ c ≤ 88)
theorem XTape.w {h h1 : zS} {n : Nat} {b : Nat → Nat} (w : XTape h n b) (p : hI h1 0 1 = hI h 0 1) (q : ∀ i, hI h1 1 i = hI h 1 i) : XTape h1 n b := by
  unfold XTape at *; simp only [p, q]; exact w
theorem MTape.w {h h1 : zS} {n : Nat} {b : Nat → Nat} (w : MTape h n b) (p : hI h1 89 1 = hI h 89 1) (q : ∀ i, hI h1 90 i = hI h 90 i) : MTape h1 n b := by
  unfold MTape at *; simp only [p, q]; exact w
theorem XWay.w {h h1 : zS} {n : Nat} {b : Nat → Int} (w : XWay h n b) (p : hI h1 30 4 = hI h 30 4) (q : ∀ i, hI h1 33 i = hI h 33 i) : XWay h1 n b := by
  unfold XWay at *; simp only [p, q]; exact w
theorem MWay.w {h h1 : zS} {n : Nat} {b : Nat → Int} (w : MWay h n b) (p : hI h1 89 37 = hI h 89 37) (q : ∀ i, hI h1 107 i = hI h 107 i) : MWay h1 n b := by
  unfold MWay at *; simp only [p, q]; exact w
theorem MCity.w {h h1 : zS} {C : zCt} (w : MCity h C) (p : ∀ i, 29 ≤ i → i ≤ 33 → hI h1 89 i = hI h 89 i) (q : ∀ j, 98 ≤ j → j ≤ 104 → ∀ i, hI h1 j i = hI h j i) : MCity h1 C := by
  unfold MCity at *
  simp only [p 29 (by omega) (by omega), p 30 (by omega) (by omega), p 31 (by omega) (by omega), p 32 (by omega) (by omega), p 33 (by omega) (by omega), q 98 (by omega) (by omega), q 99 (by omega) (by omega), q 100 (by omega) (by omega), q 101 (by omega) (by omega), q 102 (by omega) (by omega), q 103 (by omega) (by omega), q 104 (by omega) (by omega)]
  exact w
theorem MEarn.w {h h1 : zS} {C : zCt} {N : zEn} (w : MEarn h C N) (p : hI h1 89 54 = hI h 89 54) (p2 : hI h1 89 55 = hI h 89 55) (q : ∀ j, 115 ≤ j → j ≤ 123 → ∀ i, hI h1 j i = hI h j i) : MEarn h1 C N := by
  unfold MEarn at *
  simp only [p, p2, q 115 (by omega) (by omega), q 116 (by omega) (by omega), q 117 (by omega) (by omega), q 118 (by omega) (by omega), q 119 (by omega) (by omega), q 120 (by omega) (by omega), q 121 (by omega) (by omega), q 122 (by omega) (by omega), q 123 (by omega) (by omega)]
  exact w
theorem MEnt.w {h h1 : zS} {Y : zNt} (w : MEnt h Y) (p : hI h1 89 62 = hI h 89 62) (p2 : hI h1 89 63 = hI h 89 63) (q : ∀ j, 125 ≤ j → j ≤ 129 → ∀ i, hI h1 j i = hI h j i) : MEnt h1 Y := by
  unfold MEnt at *
  simp only [p, p2, q 125 (by omega) (by omega), q 126 (by omega) (by omega), q 127 (by omega) (by omega), q 128 (by omega) (by omega), q 129 (by omega) (by omega)]
  exact w
theorem MInv.parts {h h1 : zS} {S : zAb} {W : Nat → Nat → Prop} (w : MInv h S) (e : zEw W h h1) :
    ((W 89 1 ∧ ∀ i, W 90 i) → MTape h1 (aTn S) (aTb S)) ∧ ((W 89 2 ∧ W 89 3) → hI h1 89 2 = aFa S ∧ hI h1 89 3 = aPl S) ∧
    (((∀ i, 29 ≤ i → i ≤ 33 → W 89 i) ∧ ∀ j i, 98 ≤ j → j ≤ 104 → W j i) → MCity h1 (aC S)) ∧
    ((W 89 54 ∧ W 89 55 ∧ ∀ j i, 115 ≤ j → j ≤ 123 → W j i) → MEarn h1 (aC S) (aN S)) ∧
    ((∀ j i, 130 ≤ j → j ≤ 134 → W j i) → MImg h1 (aC S) (aIm S)) ∧
    ((W 89 62 ∧ W 89 63 ∧ ∀ j i, 125 ≤ j → j ≤ 129 → W j i) → MEnt h1 (aY S)) ∧
    ((W 89 37 ∧ ∀ i, W 107 i) → MWay h1 (aWn S) (aWf S)) := by
  obtain ⟨a, b, c, d, f, g, i⟩ := w
  refine ⟨fun k => a.w (e _ _ k.1).1 (fun i => (e _ _ (k.2 i)).1), fun k => ⟨by rw [(e _ _ k.1).1]; exact b.1, by rw [(e _ _ k.2).1]; exact b.2⟩, fun k => c.w (fun i h1 h2 => (e _ _ (k.1 i h1 h2)).1) (fun j h1 h2 i => (e _ _ (k.2 j i h1 h2)).1), fun k => d.w (e _ _ k.1).1 (e _ _ k.2.1).1 (fun j h1 h2 i => (e _ _ (k.2.2 j i h1 h2)).1), fun k => ?_, fun k => g.w (e _ _ k.1).1 (e _ _ k.2.1).1 (fun j h1 h2 i => (e _ _ (k.2.2 j i h1 h2)).1), fun k => i.w (e _ _ k.1).1 (fun i => (e _ _ (k.2 i)).1)⟩
  have q : ∀ j, 130 ≤ j → j ≤ 134 → ∀ i, hI h1 j i = hI h j i := fun j h1 h2 i => (e _ _ (k j i h1 h2)).1
  unfold MImg MBox at *
  simp only [q 130 (by omega) (by omega), q 131 (by omega) (by omega), q 132 (by omega) (by omega), q 133 (by omega) (by omega), q 134 (by omega) (by omega)]
  exact f
theorem XCity.w {h h1 : zS} {t : Nat} {C : zCt} (w : XCity h t C) (p : ∀ j, j < 10 → ∀ i, hI h1 (t + j) i = hI h (t + j) i) : XCity h1 t C := by
  have q0 := p 0 (by omega)
  simp only [Nat.add_zero] at q0
  unfold XCity at *
  simp only [q0, p 2 (by omega), p 3 (by omega), p 4 (by omega), p 5 (by omega), p 6 (by omega), p 7 (by omega), p 8 (by omega), p 9 (by omega)]
  exact w
theorem XEarn.w {h h1 : zS} {k : Nat} {C : zCt} {N : zEn} (w : XEarn h k C N) (q : ∀ j, j < 11 → ∀ i, hI h1 (k + j) i = hI h (k + j) i) : XEarn h1 k C N := by
  have q0 := q 0 (by omega)
  simp only [Nat.add_zero] at q0
  unfold XEarn XFate at *
  simp only [q0, Nat.add_assoc, Nat.reduceAdd, q 1 (by omega), q 2 (by omega), q 3 (by omega), q 4 (by omega), q 5 (by omega), q 6 (by omega), q 7 (by omega), q 8 (by omega), q 9 (by omega), q 10 (by omega)] at w ⊢
  exact w
theorem XEnt.w {h h1 : zS} {Y : zNt} (w : XEnt h Y) (q : ∀ j, 83 ≤ j → j ≤ 88 → ∀ i, hI h1 j i = hI h j i) : XEnt h1 Y := by
  unfold XEnt at *
  simp only [q 83 (by omega) (by omega), q 84 (by omega) (by omega), q 85 (by omega) (by omega), q 86 (by omega) (by omega), q 87 (by omega) (by omega), q 88 (by omega) (by omega)]
  exact w
theorem XInv.parts {h h1 : zS} {t : Nat} {S : zAb} {W : Nat → Nat → Prop} (w : XInv h t S) (e : zEw W h h1) :
    ((W 0 3 ∧ W 0 4) → XTold h1 t) ∧ ((W 0 1 ∧ ∀ i, W 1 i) → XTape h1 (aTn S) (aTb S)) ∧ ((W 2 3 ∧ W 2 4) → hI h1 2 3 = aFa S ∧ hI h1 2 4 = aPl S) ∧
    ((∀ j i, t ≤ j → j ≤ t + 9 → W j i) → XCity h1 t (aC S)) ∧ ((∀ j i, 25 ≤ j → j ≤ 27 → W j i) → XFalls h1 (aC S)) ∧
    ((∀ j i, 34 ≤ j → j ≤ 44 → W j i) → XEarn h1 34 (aC S) (aN S)) ∧ ((W 0 9 ∧ ∀ j i, 46 ≤ j → j ≤ 82 → W j i) → XImg h1 (aC S) (aIm S)) ∧
    ((∀ j i, 83 ≤ j → j ≤ 88 → W j i) → XEnt h1 (aY S)) ∧ ((W 30 4 ∧ ∀ i, W 33 i) → XWay h1 (aWn S) (aWf S)) := by
  obtain ⟨a, b, c, d, f, g, i, j, k⟩ := w
  refine ⟨fun l => ?_, fun l => b.w (e _ _ l.1).1 (fun i => (e _ _ (l.2 i)).1), fun l => ⟨by rw [(e _ _ l.1).1]; exact c.1, by rw [(e _ _ l.2).1]; exact c.2⟩, fun l => d.w (fun j hj i => (e _ _ (l _ i (by omega) (by omega))).1), fun l => ?_, fun l => g.w (fun j hj i => (e _ _ (l _ i (by omega) (by omega))).1), fun l => ?_, fun l => j.w (fun j h1 h2 i => (e _ _ (l j i h1 h2)).1), fun l => k.w (e _ _ l.1).1 (fun i => (e _ _ (l.2 i)).1)⟩
  · obtain ⟨a1, a2, t', a3, a4⟩ := a
    exact ⟨by rw [(e _ _ l.1).2]; exact a1, a2, t', by rw [(e _ _ l.2).2]; exact a3, a4⟩
  · have q : ∀ j, 25 ≤ j → j ≤ 27 → ∀ i, hI h1 j i = hI h j i := fun j h1 h2 i => (e _ _ (l j i h1 h2)).1
    unfold XFalls at *
    simp only [q 25 (by omega) (by omega), q 26 (by omega) (by omega), q 27 (by omega) (by omega)]
    exact f
  · refine ⟨by rw [(e _ _ l.1).1]; exact i.1, fun b hb => by rw [(e _ _ (l.2 46 b (by omega) (by omega))).2]; exact i.2.1 b hb, fun b N hb hi => (i.2.2 b N hb hi).w (fun j hj i => (e _ _ (l.2 _ i (by omega) (by omega))).1)⟩
def sT (S : zAb) (n : Nat) (b : Nat → Nat) : zAb := (((n, b), S.1.2), S.2)
def sN (S : zAb) (N : zEn) : zAb := (S.1, (S.2.1.1, N, S.2.1.2.2), S.2.2)
def sI (S : zAb) (I : Nat → Option zEn) : zAb := (S.1, (S.2.1.1, S.2.1.2.1, I), S.2.2)
def sY (S : zAb) (Y : zNt) : zAb := (S.1, S.2.1, Y, S.2.2.2)
def sW (S : zAb) (n : Nat) (f : Nat → Int) : zAb := (S.1, S.2.1, S.2.2.1, (n, f))
theorem okS.sT {S : zAb} {n : Nat} {b : Nat → Nat} (w : okS S) (x : n ≤ 1600 ∧ ∀ i, b i < 256) : okS (sT S n b) := ⟨x, w.2⟩
theorem okS.sN {S : zAb} {N : zEn} (w : okS S) (x : okN (aC S) N) : okS (sN S N) := ⟨w.1, w.2.1, x, w.2.2.2⟩
theorem okS.sI {S : zAb} {I : Nat → Option zEn} (w : okS S) (x : ∀ b N, b < 3 → I b = some N → okN (aC S) N) : okS (sI S I) := ⟨w.1, w.2.1, w.2.2.1, x, w.2.2.2.2⟩
theorem okS.sY {S : zAb} {Y : zNt} (w : okS S) (x : okY (aC S) Y) : okS (sY S Y) := ⟨w.1, w.2.1, w.2.2.1, w.2.2.2.1, x, w.2.2.2.2.2⟩
theorem okS.sW {S : zAb} {n : Nat} {f : Nat → Int} (w : okS S) (x : n ≤ 12) : okS (sW S n f) := ⟨w.1, w.2.1, w.2.2.1, w.2.2.2.1, w.2.2.2.2.1, x⟩
theorem MInv.k {h h1 : zS} {S : zAb} (w : MInv h S) (e : zEw MK h h1) : MInv h1 S := by
  obtain ⟨a, b, c, d, f, g, i⟩ := w.parts e
  unfold MK at a b c d f g i
  exact ⟨a ⟨by omega, fun i => by omega⟩, b (by omega), c ⟨fun i _ _ => by omega, fun j i _ _ => by omega⟩, d ⟨by omega, by omega, fun j i _ _ => by omega⟩, f (fun j i _ _ => by omega), g ⟨by omega, by omega, fun j i _ _ => by omega⟩, i ⟨by omega, fun i => by omega⟩⟩
theorem MInv.sT {h h1 : zS} {S : zAb} {n : Nat} {b : Nat → Nat} (w : MInv h S) (e : zEw (fun c i => MK c i ∧ ¬ (c = 89 ∧ i = 1) ∧ c ≠ 90) h h1) (x : MTape h1 n b) : MInv h1 (sT S n b) := by
  obtain ⟨a, b, c, d, f, g, i⟩ := w.parts e
  unfold MK at a b c d f g i
  exact ⟨x, b (by omega), c ⟨fun i _ _ => by omega, fun j i _ _ => by omega⟩, d ⟨by omega, by omega, fun j i _ _ => by omega⟩, f (fun j i _ _ => by omega), g ⟨by omega, by omega, fun j i _ _ => by omega⟩, i ⟨by omega, fun i => by omega⟩⟩
theorem MInv.sN {h h1 : zS} {S : zAb} {N : zEn} (w : MInv h S) (e : zEw (fun c i => MK c i ∧ ¬ (c = 89 ∧ (i = 54 ∨ i = 55)) ∧ ¬ (115 ≤ c ∧ c ≤ 123)) h h1) (x : MEarn h1 (aC S) N) : MInv h1 (sN S N) := by
  obtain ⟨a, b, c, d, f, g, i⟩ := w.parts e
  unfold MK at a b c d f g i
  exact ⟨a ⟨by omega, fun i => by omega⟩, b (by omega), c ⟨fun i _ _ => by omega, fun j i _ _ => by omega⟩, x, f (fun j i _ _ => by omega), g ⟨by omega, by omega, fun j i _ _ => by omega⟩, i ⟨by omega, fun i => by omega⟩⟩
theorem MInv.sI {h h1 : zS} {S : zAb} {I : Nat → Option zEn} (w : MInv h S) (e : zEw (fun c i => MK c i ∧ ¬ (130 ≤ c ∧ c ≤ 134)) h h1) (x : MImg h1 (aC S) I) : MInv h1 (sI S I) := by
  obtain ⟨a, b, c, d, f, g, i⟩ := w.parts e
  unfold MK at a b c d f g i
  exact ⟨a ⟨by omega, fun i => by omega⟩, b (by omega), c ⟨fun i _ _ => by omega, fun j i _ _ => by omega⟩, d ⟨by omega, by omega, fun j i _ _ => by omega⟩, x, g ⟨by omega, by omega, fun j i _ _ => by omega⟩, i ⟨by omega, fun i => by omega⟩⟩
theorem MInv.sY {h h1 : zS} {S : zAb} {Y : zNt} (w : MInv h S) (e : zEw (fun c i => MK c i ∧ ¬ (c = 89 ∧ (i = 62 ∨ i = 63)) ∧ ¬ (125 ≤ c ∧ c ≤ 129)) h h1) (x : MEnt h1 Y) : MInv h1 (sY S Y) := by
  obtain ⟨a, b, c, d, f, g, i⟩ := w.parts e
  unfold MK at a b c d f g i
  exact ⟨a ⟨by omega, fun i => by omega⟩, b (by omega), c ⟨fun i _ _ => by omega, fun j i _ _ => by omega⟩, d ⟨by omega, by omega, fun j i _ _ => by omega⟩, f (fun j i _ _ => by omega), x, i ⟨by omega, fun i => by omega⟩⟩
theorem MInv.sW {h h1 : zS} {S : zAb} {n : Nat} {v : Nat → Int} (w : MInv h S) (e : zEw (fun c i => MK c i ∧ ¬ (c = 89 ∧ i = 37) ∧ c ≠ 107) h h1) (x : MWay h1 n v) : MInv h1 (sW S n v) := by
  obtain ⟨a, b, c, d, f, g, i⟩ := w.parts e
  unfold MK at a b c d f g i
  exact ⟨a ⟨by omega, fun i => by omega⟩, b (by omega), c ⟨fun i _ _ => by omega, fun j i _ _ => by omega⟩, d ⟨by omega, by omega, fun j i _ _ => by omega⟩, f (fun j i _ _ => by omega), g ⟨by omega, by omega, fun j i _ _ => by omega⟩, x⟩
theorem XInv.k {h h1 : zS} {t : Nat} {S : zAb} (w : XInv h t S) (e : zEw (XK t) h h1) : XInv h1 t S := by
  obtain ⟨a, b, c, d, f, g, i, j, k⟩ := w.parts e
  unfold XK at a b c d f g i j k
  exact ⟨a (by omega), b ⟨by omega, fun i => by omega⟩, c (by omega), d (fun j i _ _ => by omega), f (fun j i _ _ => by omega), g (fun j i _ _ => by omega), i ⟨by omega, fun j i _ _ => by omega⟩, j (fun j i _ _ => by omega), k ⟨by omega, fun i => by omega⟩⟩
theorem XInv.sT {h h1 : zS} {t : Nat} {S : zAb} {n : Nat} {v : Nat → Nat} (w : XInv h t S) (e : zEw (fun c i => XK t c i ∧ ¬ (c = 0 ∧ i = 1) ∧ c ≠ 1) h h1) (x : XTape h1 n v) : XInv h1 t (sT S n v) := by
  have := city_lt w.1.2.1
  obtain ⟨a, b, c, d, f, g, i, j, k⟩ := w.parts e
  unfold XK at a b c d f g i j k
  exact ⟨a (by omega), x, c (by omega), d (fun j i _ _ => by omega), f (fun j i _ _ => by omega), g (fun j i _ _ => by omega), i ⟨by omega, fun j i _ _ => by omega⟩, j (fun j i _ _ => by omega), k ⟨by omega, fun i => by omega⟩⟩
theorem XInv.sN {h h1 : zS} {t : Nat} {S : zAb} {N : zEn} (w : XInv h t S) (e : zEw (fun c i => XK t c i ∧ ¬ (34 ≤ c ∧ c ≤ 44)) h h1) (x : XEarn h1 34 (aC S) N) : XInv h1 t (sN S N) := by
  have := city_lt w.1.2.1
  obtain ⟨a, b, c, d, f, g, i, j, k⟩ := w.parts e
  unfold XK at a b c d f g i j k
  exact ⟨a (by omega), b ⟨by omega, fun i => by omega⟩, c (by omega), d (fun j i _ _ => by omega), f (fun j i _ _ => by omega), x, i ⟨by omega, fun j i _ _ => by omega⟩, j (fun j i _ _ => by omega), k ⟨by omega, fun i => by omega⟩⟩
theorem XInv.sI {h h1 : zS} {t : Nat} {S : zAb} {I : Nat → Option zEn} (w : XInv h t S) (e : zEw (fun c i => XK t c i ∧ ¬ (46 ≤ c ∧ c ≤ 82) ∧ ¬ (c = 0 ∧ i = 9)) h h1) (x : XImg h1 (aC S) I) : XInv h1 t (sI S I) := by
  have := city_lt w.1.2.1
  obtain ⟨a, b, c, d, f, g, i, j, k⟩ := w.parts e
  unfold XK at a b c d f g i j k
  exact ⟨a (by omega), b ⟨by omega, fun i => by omega⟩, c (by omega), d (fun j i _ _ => by omega), f (fun j i _ _ => by omega), g (fun j i _ _ => by omega), x, j (fun j i _ _ => by omega), k ⟨by omega, fun i => by omega⟩⟩
theorem XInv.sY {h h1 : zS} {t : Nat} {S : zAb} {Y : zNt} (w : XInv h t S) (e : zEw (fun c i => XK t c i ∧ ¬ (83 ≤ c ∧ c ≤ 88)) h h1) (x : XEnt h1 Y) : XInv h1 t (sY S Y) := by
  have := city_lt w.1.2.1
  obtain ⟨a, b, c, d, f, g, i, j, k⟩ := w.parts e
  unfold XK at a b c d f g i j k
  exact ⟨a (by omega), b ⟨by omega, fun i => by omega⟩, c (by omega), d (fun j i _ _ => by omega), f (fun j i _ _ => by omega), g (fun j i _ _ => by omega), i ⟨by omega, fun j i _ _ => by omega⟩, x, k ⟨by omega, fun i => by omega⟩⟩
theorem XInv.sW {h h1 : zS} {t : Nat} {S : zAb} {n : Nat} {v : Nat → Int} (w : XInv h t S) (e : zEw (fun c i => XK t c i ∧ ¬ (c = 30 ∧ i = 4) ∧ c ≠ 33) h h1) (x : XWay h1 n v) : XInv h1 t (sW S n v) := by
  have := city_lt w.1.2.1
  obtain ⟨a, b, c, d, f, g, i, j, k⟩ := w.parts e
  unfold XK at a b c d f g i j k
  exact ⟨a (by omega), b ⟨by omega, fun i => by omega⟩, c (by omega), d (fun j i _ _ => by omega), f (fun j i _ _ => by omega), g (fun j i _ _ => by omega), i ⟨by omega, fun j i _ _ => by omega⟩, j (fun j i _ _ => by omega), x⟩
