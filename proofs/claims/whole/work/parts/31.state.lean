/-! what a state IS: plain numbers and functions; how the two objects hold it -/
def bsetC (p : Nat → Bool) : Nat := (List.range 12).foldr (fun i a => a ||| (if p i then 2 ^ i else 0)) 0
/-- the same, shut -/
noncomputable def bset (p : Nat → Bool) : Nat := Classical.choose (⟨bsetC p, rfl⟩ : ∃ n, n = bsetC p)
theorem bset_eq (p : Nat → Bool) : bset p = bsetC p := Classical.choose_spec (⟨bsetC p, rfl⟩ : ∃ n, n = bsetC p)
theorem bset_f (p : Nat → Bool) (l : List Nat) (i : Nat) : (l.foldr (fun i a => a ||| (if p i then 2 ^ i else 0)) 0).testBit i = (l.contains i && p i) := by
  induction l with
  | nil => simp
  | cons a l ih =>
    simp only [List.foldr_cons, Nat.testBit_or, ih]
    by_cases ha : p a = true
    · simp only [ha, if_true, zb_t2]
      by_cases e : a = i
      · subst e; simp [ha]
      · simp [e, Ne.symm e]
    · simp only [ha]
      by_cases e : a = i
      · subst e; simp [ha]
      · simp [Ne.symm e]
theorem bset_t (p : Nat → Bool) (i : Nat) : (bset p).testBit i = (decide (i < 12) && p i) := by
  rw [bset_eq]; unfold bsetC
  rw [bset_f]
  by_cases h : i < 12
  · have : (List.range 12).contains i = true := by simp [h]
    simp [this, h]
  · have : (List.range 12).contains i = false := by simp; omega
    simp [this, h]
theorem lt_of_bits {a : Nat} (h : ∀ i, 12 ≤ i → a.testBit i = false) : a < 4096 := Nat.lt_pow_two_of_testBit (n := 12) a h
theorem bset_lt (p : Nat → Bool) : bset p < 4096 := lt_of_bits (fun i hi => by rw [bset_t]; simp; omega)
theorem nat_bits {a b : Nat} (ha : a < 4096) (hb : b < 4096) (h : ∀ i, i < 12 → a.testBit i = b.testBit i) : a = b := by
  apply Nat.eq_of_testBit_eq
  intro i
  by_cases hi : i < 12
  · exact h i hi
  · rw [zb_big ha (by omega), zb_big hb (by omega)]
theorem bset_ext {p q : Nat → Bool} (h : ∀ i, i < 12 → p i = q i) : bset p = bset q := nat_bits (bset_lt p) (bset_lt q) (fun i hi => by rw [bset_t, bset_t, h i hi])
theorem bset_of {a : Nat} (ha : a < 4096) : bset (fun i => a.testBit i) = a := nat_bits (bset_lt _) ha (fun i hi => by rw [bset_t]; simp [hi])
/-- a city: (people, gives lines, gate, sea, luck), what each is (kind, slow, holds, risk, keeps), who gives to whom -/
abbrev zCt : Type := (Nat × Nat × Int × Int × Int) × (Nat → Nat → Int) × (Nat → Nat → Int)
def cn (C : zCt) : Nat := C.1.1
def cgl (C : zCt) : Nat := C.1.2.1
def cga (C : zCt) : Int := C.1.2.2.1
def cse (C : zCt) : Int := C.1.2.2.2.1
def clu (C : zCt) : Int := C.1.2.2.2.2
def ckd (C : zCt) (i : Nat) : Int := C.2.1 0 i
def csl (C : zCt) (i : Nat) : Int := C.2.1 1 i
def cho (C : zCt) (i : Nat) : Int := C.2.1 2 i
def cri (C : zCt) (i : Nat) : Int := C.2.1 3 i
def cke (C : zCt) (i : Nat) : Int := C.2.1 4 i
def ctk (C : zCt) (a b : Nat) : Int := C.2.2 a b
/-- a city that a text can tell -/
def okC (C : zCt) : Prop := cn C ≤ 12 ∧ cgl C ≤ 30 ∧ (-1 ≤ cga C ∧ cga C < cn C) ∧ (-1 ≤ cse C ∧ cse C < cn C) ∧ (0 ≤ clu C ∧ clu C ≤ 9) ∧
  (∀ i, i < cn C → (0 ≤ ckd C i ∧ ckd C i ≤ 3) ∧ (0 ≤ csl C i ∧ csl C i ≤ 9) ∧ (0 ≤ cho C i ∧ cho C i ≤ 9) ∧ (0 ≤ cri C i ∧ cri C i ≤ 99) ∧ (0 ≤ cke C i ∧ cke C i ≤ 999)) ∧
  (∀ a b, (0 ≤ ctk C a b ∧ ctk C a b ≤ 9) ∧ (0 < ctk C a b → a < cn C ∧ b < cn C ∧ a ≠ b))
/-- whom a knows as told -/
def cknB (C : zCt) (a b : Nat) : Bool := decide (a < cn C) && decide (b < cn C) && decide (ckd C a ≠ 3) && decide (ckd C b ≠ 3) && (decide (0 < ctk C a b) || (decide (0 < ctk C b a) && decide (ckd C a ≠ 1)))
noncomputable def ckn (C : zCt) (a : Nat) : Nat := bset (cknB C a)
noncomputable def cbox (C : zCt) : Nat := bset (fun i => decide (i < cn C) && decide (ckd C i = 3))
def cprB (C : zCt) (i : Nat) : Bool := decide (i < cn C) && (decide (ckd C i = 2) || decide (cho C i = 0))
noncomputable def cpr (C : zCt) : Nat := bset (cprB C)
noncomputable def cst (C : zCt) : Nat := bset (fun i => decide (i < cn C) && (decide (ckd C i = 2) || decide (ckd C i = 3)))
noncomputable def crc (C : zCt) (a : Nat) : Nat := bset (fun b => decide (b < cn C) && decide (0 < ctk C a b))
noncomputable def cev (C : zCt) : Nat := bset (fun i => decide (i < cn C))
def XCity (h : zS) (t : Nat) (C : zCt) : Prop :=
  hI h t 0 = cn C ∧ hI h t 1 = cgl C ∧ hI h t 2 = cga C ∧ hI h t 3 = cse C ∧ hI h t 4 = clu C ∧
  (∀ i, i < cn C → hI h (t + 2) i = ckd C i ∧ hI h (t + 3) i = csl C i ∧ hI h (t + 4) i = cho C i ∧ hI h (t + 5) i = cri C i ∧ hI h (t + 6) i = cke C i) ∧
  (∀ a b, a < 12 → b < 12 → hI h (t + 7) (12 * a + b) = ctk C a b) ∧ (∀ i, i < cn C → hI h (t + 8) i = crc C i ∧ hI h (t + 9) i = ckn C i) ∧
  hI h t 14 = cbox C ∧ hI h t 15 = cpr C ∧ hI h t 16 = cst C
def MCity (h : zS) (C : zCt) : Prop :=
  hI h 89 29 = cn C ∧ hI h 89 30 = cgl C ∧ hI h 89 31 = cga C ∧ hI h 89 32 = cse C ∧ hI h 89 33 = clu C ∧
  (∀ i, i < cn C → hI h 98 i = ckd C i ∧ hI h 99 i = csl C i ∧ hI h 100 i = cho C i ∧ hI h 101 i = cri C i ∧ hI h 102 i = cke C i) ∧
  (∀ a b, a < 12 → b < 12 → hI h 103 (12 * a + b) = ctk C a b) ∧ (∀ i, i < cn C → hI h 104 i = ckn C i)
/-- in earnest: (day, how many things), taken on, gone on, whom each knows, who gives to whom, of each thing (holder, sent, over, next, due) -/
abbrev zEn : Type := (Nat × Nat) × (Nat → Int) × (Nat → Int) × (Nat → Nat) × (Nat → Nat → Int) × (Nat → Nat → Int)
def nd (N : zEn) : Nat := N.1.1
def nt (N : zEn) : Nat := N.1.2
def ntk (N : zEn) : Nat → Int := N.2.1
def ngo (N : zEn) : Nat → Int := N.2.2.1
def nkn (N : zEn) : Nat → Nat := N.2.2.2.1
def ngv (N : zEn) : Nat → Nat → Int := N.2.2.2.2.1
def nth (N : zEn) : Nat → Nat → Int := N.2.2.2.2.2
def thB (n : Nat) (T Gn : Nat → Int) (i : Nat) : Bool := decide (i < n) && decide (T i < 0) && decide (Gn i < 0)
def seB (n : Nat) (T : Nat → Int) (i : Nat) : Bool := decide (i < n) && decide (0 ≤ T i)
/-- a Fate holds who was taken when, who is gone since when -/
def XFate (h : zS) (k n : Nat) (T Gn : Nat → Int) : Prop := hI h k 0 = bset (thB n T Gn) ∧ hI h k 1 = bset (seB n T) ∧ ∀ i, i < n → hI h (k + 1) i = if 0 ≤ T i then T i else Gn i
def okF (n dd : Nat) (T Gn : Nat → Int) : Prop := ∀ i, i < n → (-1 ≤ T i ∧ T i ≤ dd) ∧ (-1 ≤ Gn i ∧ Gn i ≤ dd) ∧ (T i < 0 ∨ Gn i < 0)
def XEarn (h : zS) (k : Nat) (C : zCt) (N : zEn) : Prop :=
  hI h k 0 = nd N ∧ XFate h (k + 1) (cn C) (ntk N) (ngo N) ∧ hI h (k + 3) 0 = nt N ∧
  (∀ t, t < nt N → hI h (k + 4) t = nth N 0 t ∧ hI h (k + 5) t = nth N 1 t ∧ hI h (k + 6) t = nth N 2 t ∧ hI h (k + 7) t = nth N 3 t ∧ hI h (k + 8) t = nth N 4 t) ∧
  (∀ a b, a < 12 → b < 12 → hI h (k + 9) (12 * a + b) = ngv N a b) ∧ (∀ i, i < cn C → hI h (k + 10) i = nkn N i)
def MEarn (h : zS) (C : zCt) (N : zEn) : Prop :=
  hI h 89 54 = nd N ∧ hI h 89 55 = nt N ∧ (∀ i, i < cn C → hI h 115 i = ntk N i ∧ hI h 116 i = ngo N i ∧ hI h 117 i = nkn N i) ∧
  (∀ t, t < nt N → hI h 119 t = nth N 0 t ∧ hI h 120 t = nth N 1 t ∧ hI h 121 t = nth N 2 t ∧ hI h 122 t = nth N 3 t ∧ hI h 123 t = nth N 4 t) ∧
  (∀ a b, a < 12 → b < 12 → hI h 118 (12 * a + b) = ngv N a b)
def MBox (h : zS) (x : Nat) (C : zCt) (N : zEn) : Prop :=
  hI h 131 (2 * x) = nd N ∧ hI h 131 (2 * x + 1) = nt N ∧ (∀ i, i < cn C → hI h 132 (3 * (12 * x + i)) = ntk N i ∧ hI h 132 (3 * (12 * x + i) + 1) = ngo N i ∧ hI h 132 (3 * (12 * x + i) + 2) = nkn N i) ∧
  (∀ t, t < nt N → hI h 134 (5 * (12 * x + t)) = nth N 0 t ∧ hI h 134 (5 * (12 * x + t) + 1) = nth N 1 t ∧ hI h 134 (5 * (12 * x + t) + 2) = nth N 2 t ∧ hI h 134 (5 * (12 * x + t) + 3) = nth N 3 t ∧ hI h 134 (5 * (12 * x + t) + 4) = nth N 4 t) ∧
  (∀ a b, a < 12 → b < 12 → hI h 133 (144 * x + (12 * a + b)) = ngv N a b)
/-- what can be in earnest -/
def okN (C : zCt) (N : zEn) : Prop :=
  nd N ≤ 1000 ∧ nt N ≤ 12 ∧ okF (cn C) (nd N) (ntk N) (ngo N) ∧ (∀ i, i < cn C → nkn N i < 4096) ∧
  (∀ i j, i < cn C → (nkn N i).testBit j = true → j < cn C ∧ ckd C i ≠ 3 ∧ ckd C j ≠ 3) ∧ (∀ i, i < cn C → ckd C i = 3 → ntk N i < 0 ∧ ngo N i < 0) ∧
  (∀ a b, (0 ≤ ngv N a b ∧ ngv N a b ≤ 9) ∧ (0 < ngv N a b → a < cn C ∧ b < cn C ∧ a ≠ b)) ∧
  (∀ t, t < nt N → (-3 ≤ nth N 0 t ∧ nth N 0 t < cn C) ∧ (0 ≤ nth N 1 t ∧ nth N 1 t ≤ nd N) ∧ (-1 ≤ nth N 2 t ∧ nth N 2 t ≤ nd N) ∧ (-1 ≤ nth N 3 t ∧ nth N 3 t < cn C) ∧ (-1 ≤ nth N 4 t ∧ nth N 4 t ≤ nd N + 9) ∧ nth N 0 t ≠ -1)
/-- entries: (count, time), of each (kind, who, days, told at, untold at) -/
abbrev zNt : Type := (Nat × Nat) × (Nat → Nat → Int)
def ec (Y : zNt) : Nat := Y.1.1
def et (Y : zNt) : Nat := Y.1.2
def ea (Y : zNt) : Nat → Nat → Int := Y.2
def XEnt (h : zS) (Y : zNt) : Prop := hI h 83 0 = et Y ∧ hI h 83 1 = ec Y ∧ ∀ i, i < ec Y →
  (hI h 84 i = if ea Y 0 i = 0 then -1 else ea Y 1 i) ∧ (hI h 85 i = if ea Y 0 i = 0 then ea Y 1 i else 0) ∧ hI h 86 i = ea Y 2 i ∧ hI h 87 i = ea Y 3 i ∧ hI h 88 i = ea Y 4 i
def MEnt (h : zS) (Y : zNt) : Prop := hI h 89 63 = et Y ∧ hI h 89 62 = ec Y ∧ ∀ i, i < ec Y → hI h 125 i = ea Y 0 i ∧ hI h 126 i = ea Y 1 i ∧ hI h 127 i = ea Y 2 i ∧ hI h 128 i = ea Y 3 i ∧ hI h 129 i = ea Y 4 i
def okY (C : zCt) (Y : zNt) : Prop := ec Y ≤ 40 ∧ et Y ≤ 100000 ∧ ∀ i, i < ec Y → ((ea Y 0 i = 0 ∧ 0 ≤ ea Y 1 i ∧ ea Y 1 i < (2 ^ cn C : Nat)) ∨ (ea Y 0 i = 1 ∧ 0 ≤ ea Y 1 i ∧ ea Y 1 i < cn C ∧ ckd C (ea Y 1 i).toNat ≠ 3)) ∧ (0 ≤ ea Y 2 i ∧ ea Y 2 i ≤ 99) ∧ (0 ≤ ea Y 3 i ∧ ea Y 3 i ≤ et Y) ∧ (-1 ≤ ea Y 4 i ∧ ea Y 4 i ≤ et Y)
/-- the tape: how many bytes, each 0 .. 255; what the latest city said -/
def XTape (h : zS) (n : Nat) (b : Nat → Nat) : Prop := hI h 0 1 = n ∧ ∀ i, i < n → hI h 1 i = if b i < 128 then (b i : Int) else (b i : Int) - 256
def MTape (h : zS) (n : Nat) (b : Nat → Nat) : Prop := hI h 89 1 = n ∧ ∀ i, i < n → hI h 90 i = b i
/-- the way that lies there -/
def XWay (h : zS) (n : Nat) (w : Nat → Int) : Prop := hI h 30 4 = n ∧ ∀ i, i < n → hI h 33 i = w i
def MWay (h : zS) (n : Nat) (w : Nat → Int) : Prop := hI h 89 37 = n ∧ ∀ i, i < n → hI h 107 i = w i
/-- cells that are as they were -/
def zEq (A : Nat → Prop) (h h1 : zS) : Prop := ∀ c, A c → (∀ i, hI h1 c i = hI h c i) ∧ (∀ i, hL h1 c i = hL h c i) ∧ ∀ i, hR h1 c i = hR h c i
theorem zEq.rf {A : Nat → Prop} {h : zS} : zEq A h h := fun _ _ => ⟨fun _ => rfl, fun _ => rfl, fun _ => rfl⟩
theorem zEq.tr {A : Nat → Prop} {h h1 h2 : zS} (a : zEq A h h1) (b : zEq A h1 h2) : zEq A h h2 := fun c hc =>
  ⟨fun i => ((b c hc).1 i).trans ((a c hc).1 i), fun i => ((b c hc).2.1 i).trans ((a c hc).2.1 i), fun i => ((b c hc).2.2 i).trans ((a c hc).2.2 i)⟩
theorem zEq.wk {A B : Nat → Prop} {h h1 : zS} (a : zEq A h h1) (hb : ∀ c, B c → A c) : zEq B h h1 := fun c hc => a c (hb c hc)
theorem zEq.I {A : Nat → Prop} {h h1 : zS} (a : zEq A h h1) {c : Nat} (hc : A c) (i : Nat) : hI h1 c i = hI h c i := (a c hc).1 i
theorem zEq.L {A : Nat → Prop} {h h1 : zS} (a : zEq A h h1) {c : Nat} (hc : A c) (i : Nat) : hL h1 c i = hL h c i := (a c hc).2.1 i
theorem zEq.R {A : Nat → Prop} {h h1 : zS} (a : zEq A h h1) {c : Nat} (hc : A c) (i : Nat) : hR h1 c i = hR h c i := (a c hc).2.2 i
theorem zEq_I {A : Nat → Prop} {h : zS} {k i : Nat} {x : Int} (hk : ¬ A k) : zEq A h (stI h k i x) := by
  intro c hc
  refine ⟨fun j => ?_, fun _ => rfl, fun _ => rfl⟩
  have n : ¬ (c = k ∧ j = i) := fun e => hk (by rw [← e.1]; exact hc)
  rw [hI_stI, if_neg n]
theorem zEq_L {A : Nat → Prop} {h : zS} {k i : Nat} {x : Int} (hk : ¬ A k) : zEq A h (stL h k i x) := by
  intro c hc
  refine ⟨fun _ => rfl, fun j => ?_, fun _ => rfl⟩
  have n : ¬ (c = k ∧ j = i) := fun e => hk (by rw [← e.1]; exact hc)
  rw [hL_stL, if_neg n]
theorem zEq_R {A : Nat → Prop} {h : zS} {k i : Nat} {x : Option Nat} (hk : ¬ A k) : zEq A h (stR h k i x) := by
  intro c hc
  refine ⟨fun _ => rfl, fun _ => rfl, fun j => ?_⟩
  have n : ¬ (c = k ∧ j = i) := fun e => hk (by rw [← e.1]; exact hc)
  rw [hR_stR, if_neg n]
theorem zEq_Row {A : Nat → Prop} {h : zS} {k : Nat} {f : Nat → Int} (hk : ¬ A k) : zEq A h (stRow h k f) := by
  intro c hc
  refine ⟨fun j => ?_, fun _ => rfl, fun _ => rfl⟩
  have n : ¬ (c = k) := fun e => hk (by rw [← e]; exact hc)
  rw [hI_stRow, if_neg n]
theorem XCity.fr {h h1 : zS} {t : Nat} {C : zCt} {A : Nat → Prop} (w : XCity h t C) (e : zEq A h h1) (hA : ∀ j, j < 10 → A (t + j)) : XCity h1 t C := by
  have q : ∀ j, j < 10 → ∀ i, hI h1 (t + j) i = hI h (t + j) i := fun j hj i => e.I (hA j hj) i
  have q0 := q 0 (by omega)
  simp only [Nat.add_zero] at q0
  unfold XCity at *
  simp only [q0, q 2 (by omega), q 3 (by omega), q 4 (by omega), q 5 (by omega), q 6 (by omega), q 7 (by omega), q 8 (by omega), q 9 (by omega)]
  exact w
theorem MCity.fr {h h1 : zS} {C : zCt} {A : Nat → Prop} (w : MCity h C) (e : zEq A h h1) (hA : A 89 ∧ A 98 ∧ A 99 ∧ A 100 ∧ A 101 ∧ A 102 ∧ A 103 ∧ A 104) : MCity h1 C := by
  unfold MCity at *
  obtain ⟨a, b, c, d, f, g, i, j⟩ := hA
  simp only [e.I a, e.I b, e.I c, e.I d, e.I f, e.I g, e.I i, e.I j]
  exact w
theorem XFate.fr {h h1 : zS} {k n : Nat} {T Gn : Nat → Int} {A : Nat → Prop} (w : XFate h k n T Gn) (e : zEq A h h1) (h0 : A k) (h2 : A (k + 1)) : XFate h1 k n T Gn := by
  unfold XFate at *
  simp only [e.I h0, e.I h2]
  exact w
theorem XEarn.fr {h h1 : zS} {k : Nat} {C : zCt} {N : zEn} {A : Nat → Prop} (w : XEarn h k C N) (e : zEq A h h1) (hA : ∀ j, j < 11 → A (k + j)) : XEarn h1 k C N := by
  have q : ∀ j, j < 11 → ∀ i, hI h1 (k + j) i = hI h (k + j) i := fun j hj i => e.I (hA j hj) i
  have q0 := q 0 (by omega)
  simp only [Nat.add_zero] at q0
  unfold XEarn XFate at *
  simp only [q0, Nat.add_assoc, Nat.reduceAdd, q 1 (by omega), q 2 (by omega), q 3 (by omega), q 4 (by omega), q 5 (by omega), q 6 (by omega), q 7 (by omega), q 8 (by omega), q 9 (by omega), q 10 (by omega)] at w ⊢
  exact w
theorem MEarn.fr {h h1 : zS} {C : zCt} {N : zEn} {A : Nat → Prop} (w : MEarn h C N) (e : zEq A h h1) (hA : A 89 ∧ ∀ j, 115 ≤ j → j ≤ 123 → A j) : MEarn h1 C N := by
  have q : ∀ j, 115 ≤ j → j ≤ 123 → ∀ i, hI h1 j i = hI h j i := fun j h1 h2 i => e.I (hA.2 j h1 h2) i
  unfold MEarn at *
  simp only [e.I hA.1, q 115 (by omega) (by omega), q 116 (by omega) (by omega), q 117 (by omega) (by omega), q 118 (by omega) (by omega), q 119 (by omega) (by omega), q 120 (by omega) (by omega), q 121 (by omega) (by omega), q 122 (by omega) (by omega), q 123 (by omega) (by omega)]
  exact w
theorem XEnt.fr {h h1 : zS} {Y : zNt} {A : Nat → Prop} (w : XEnt h Y) (e : zEq A h h1) (hA : ∀ j, 83 ≤ j → j ≤ 88 → A j) : XEnt h1 Y := by
  have q : ∀ j, 83 ≤ j → j ≤ 88 → ∀ i, hI h1 j i = hI h j i := fun j h1 h2 i => e.I (hA j h1 h2) i
  unfold XEnt at *
  simp only [q 83 (by omega) (by omega), q 84 (by omega) (by omega), q 85 (by omega) (by omega), q 86 (by omega) (by omega), q 87 (by omega) (by omega), q 88 (by omega) (by omega)]
  exact w
theorem MEnt.fr {h h1 : zS} {Y : zNt} {A : Nat → Prop} (w : MEnt h Y) (e : zEq A h h1) (hA : A 89 ∧ ∀ j, 125 ≤ j → j ≤ 129 → A j) : MEnt h1 Y := by
  have q : ∀ j, 125 ≤ j → j ≤ 129 → ∀ i, hI h1 j i = hI h j i := fun j h1 h2 i => e.I (hA.2 j h1 h2) i
  unfold MEnt at *
  simp only [e.I hA.1, q 125 (by omega) (by omega), q 126 (by omega) (by omega), q 127 (by omega) (by omega), q 128 (by omega) (by omega), q 129 (by omega) (by omega)]
  exact w
