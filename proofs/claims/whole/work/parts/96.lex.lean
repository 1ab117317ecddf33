/-! tokens -/
def isSp (v : Nat) : Bool := decide (v = 32) || decide (v = 10)
def isLt (v : Nat) : Bool := decide (97 ≤ v) && decide (v ≤ 122)
def isDg (v : Nat) : Bool := decide (48 ≤ v) && decide (v ≤ 57)
def rn (p : Nat → Bool) (b : Nat → Nat) : Nat → Nat → Nat
  | 0, _ => 0
  | f + 1, i => if p (b i) = true then rn p b f (i + 1) + 1 else 0
theorem rn_is {p : Nat → Bool} {b : Nat → Nat} : ∀ f i, rn p b f i ≤ f ∧ (∀ k, k < rn p b f i → p (b (i + k)) = true) ∧ (rn p b f i < f → p (b (i + rn p b f i)) = false)
  | 0, i => ⟨Nat.le_refl _, fun k hk => by unfold rn at hk; omega, fun h => by unfold rn at h; omega⟩
  | f + 1, i => by
    obtain ⟨h1, h2, h3⟩ := rn_is (p := p) (b := b) f (i + 1)
    unfold rn
    split
    · rename_i c
      refine ⟨by omega, fun k hk => ?_, fun hl => ?_⟩
      · by_cases e : k = 0
        · rw [e]; exact c
        · have := h2 (k - 1) (by omega)
          rw [show i + 1 + (k - 1) = i + k by omega] at this; exact this
      · have := h3 (by omega)
        rw [show i + 1 + rn p b f (i + 1) = i + (rn p b f (i + 1) + 1) by omega] at this; exact this
    · rename_i c
      exact ⟨by omega, fun k hk => by omega, fun _ => by simpa using c⟩
theorem rn_u {p : Nat → Bool} {b : Nat → Nat} {f i r : Nat} (h1 : r ≤ f) (h2 : ∀ k, k < r → p (b (i + k)) = true) (h3 : r < f → p (b (i + r)) = false) : rn p b f i = r := by
  obtain ⟨g1, g2, g3⟩ := rn_is (p := p) (b := b) f i
  by_cases a : rn p b f i < r
  · have := h2 _ a
    rw [g3 (by omega)] at this; cases this
  · by_cases c : r < rn p b f i
    · have := g2 _ c
      rw [h3 (by omega)] at this; cases this
    · omega
def wd (b : Nat → Nat) (i : Nat) : Nat → Nat
  | 0 => 0
  | k + 1 => 256 * wd b i k + b (i + k)
def nu (b : Nat → Nat) (i : Nat) : Nat → Nat
  | 0 => 0
  | k + 1 => 10 * nu b i k + (b (i + k) - 48)
def mnF (w : Int) : Nat → Nat → Nat
  | 0, _ => 13
  | f + 1, k => if z_own.getD k 0 = w then k else mnF w f (k + 1)
def mean (w : Int) : Nat := mnF w 13 0
/-- (what, place, word, number, behind it) -/
abbrev zTk : Type := Nat × Nat × Int × Int × Nat
def tcd (T : zTk) : Nat := T.1
def tpl (T : zTk) : Nat := T.2.1
def twd (T : zTk) : Int := T.2.2.1
def tnu (T : zTk) : Int := T.2.2.2.1
def tnx (T : zTk) : Nat := T.2.2.2.2
def tokJ (n : Nat) (b : Nat → Nat) (j : Nat) : zTk :=
  if n ≤ j then (16, j, 0, 0, j)
  else if 0 < rn isLt b (n - j) j then ((if 8 < rn isLt b (n - j) j then 17 else mean (wd b j (rn isLt b (n - j) j) : Nat)), j, ((wd b j (rn isLt b (n - j) j) : Nat) : Int), 0, j + rn isLt b (n - j) j)
  else if 0 < rn isDg b (n - j) j then ((if 4 < rn isDg b (n - j) j ∨ 0 < rn isLt b (n - (j + rn isDg b (n - j) j)) (j + rn isDg b (n - j) j) then 17 else 14), j, 0, ((nu b j (rn isDg b (n - j) j) : Nat) : Int), j + rn isDg b (n - j) j)
  else ((if b j = 59 then 15 else 17), j, 0, 0, j + 1)
def tokF (n : Nat) (b : Nat → Nat) (i : Nat) : zTk := tokJ n b (i + rn isSp b (n - i) i)
theorem mean_is (w : Int) : mean w ≤ 13 ∧ (mean w < 13 → z_own.getD (mean w) 0 = w) ∧ (∀ k, k < 13 → k < mean w → z_own.getD k 0 ≠ w) := by
  have key : ∀ f k, f + k = 13 → mnF w f k ≤ 13 ∧ (mnF w f k < 13 → z_own.getD (mnF w f k) 0 = w) ∧ k ≤ mnF w f k ∧ (∀ j, k ≤ j → j < 13 → j < mnF w f k → z_own.getD j 0 ≠ w) := by
    intro f
    induction f with
    | zero => intro k hk; exact ⟨Nat.le_refl _, fun h => by unfold mnF at h; omega, by unfold mnF; omega, fun j h1 h2 => by omega⟩
    | succ f ih =>
      intro k hk
      obtain ⟨a1, a2, a3, a4⟩ := ih (k + 1) (by omega)
      unfold mnF
      split
      · rename_i c
        exact ⟨by omega, fun _ => c, Nat.le_refl _, fun j h1 h2 h3 => by omega⟩
      · rename_i c
        refine ⟨a1, a2, by omega, fun j h1 h2 h3 => ?_⟩
        by_cases e : j = k
        · rw [e]; exact c
        · exact a4 j (by omega) h2 h3
  obtain ⟨k1, k2, _, k4⟩ := key 13 0 rfl
  exact ⟨k1, k2, fun k h1 h2 => k4 k (by omega) h1 h2⟩
theorem own_d : ∀ i j : Fin 13, z_own.getD i.val 0 = z_own.getD j.val 0 → i = j := by decide +kernel
theorem mean_k {w : Int} {k : Nat} (hk : k < 13) : mean w = k ↔ w = z_own.getD k 0 := by
  obtain ⟨h1, h2, h3⟩ := mean_is w
  constructor
  · intro e; rw [← e]; exact (h2 (by omega)).symm
  · intro e
    by_cases l : mean w < 13
    · have q := h2 l
      have := own_d ⟨mean w, l⟩ ⟨k, hk⟩ (by show z_own.getD (mean w) 0 = z_own.getD k 0; rw [q, e])
      exact congrArg (fun x => x.val) this
    · exact absurd e.symm (h3 k hk (by omega))
theorem tok_nx {n : Nat} {b : Nat → Nat} {i : Nat} (hi : i ≤ n) : tnx (tokF n b i) ≤ n ∧ i ≤ tnx (tokF n b i) ∧ (tcd (tokF n b i) = 16 ∨ i < tnx (tokF n b i)) ∧ tpl (tokF n b i) ≤ n := by
  have s := (rn_is (p := isSp) (b := b) (n - i) i).1
  unfold tokF
  have ij : i ≤ i + rn isSp b (n - i) i := by omega
  have jn : i + rn isSp b (n - i) i ≤ n := by omega
  generalize i + rn isSp b (n - i) i = j at *
  have a := (rn_is (p := isLt) (b := b) (n - j) j).1
  have d := (rn_is (p := isDg) (b := b) (n - j) j).1
  unfold tokJ
  by_cases c1 : n ≤ j
  · rw [if_pos c1]; exact ⟨jn, ij, .inl rfl, jn⟩
  · rw [if_neg c1]
    by_cases c2 : 0 < rn isLt b (n - j) j
    · rw [if_pos c2]
      refine ⟨?_, ?_, .inr ?_, jn⟩
      · show j + rn isLt b (n - j) j ≤ n; omega
      · show i ≤ j + rn isLt b (n - j) j; omega
      · show i < j + rn isLt b (n - j) j; omega
    · rw [if_neg c2]
      by_cases c3 : 0 < rn isDg b (n - j) j
      · rw [if_pos c3]
        refine ⟨?_, ?_, .inr ?_, jn⟩
        · show j + rn isDg b (n - j) j ≤ n; omega
        · show i ≤ j + rn isDg b (n - j) j; omega
        · show i < j + rn isDg b (n - j) j; omega
      · rw [if_neg c3]
        refine ⟨?_, ?_, .inr ?_, jn⟩
        · show j + 1 ≤ n; omega
        · show i ≤ j + 1; omega
        · show i < j + 1; omega
theorem wd_b {b : Nat → Nat} {i : Nat} : ∀ k, (∀ j, j ≤ k → b (i + j) < 128) → wd b i (k + 1) < 128 * 256 ^ k
  | 0, h => by
    have := h 0 (by omega)
    show 256 * 0 + b (i + 0) < 128 * 1
    omega
  | k + 1, h => by
    have ih := wd_b (b := b) (i := i) k (fun j hj => h j (by omega))
    have := h (k + 1) (by omega)
    show 256 * wd b i (k + 1) + b (i + (k + 1)) < 128 * 256 ^ (k + 1)
    rw [Nat.pow_succ]
    omega
theorem wd_55 {b : Nat → Nat} {i k : Nat} (hk : k ≤ 7) (h : ∀ j, j < k → b (i + j) < 128) : wd b i k < 2 ^ 55 := by
  by_cases e : k = 0
  · rw [e]; show 0 < 2 ^ 55; omega
  · obtain ⟨m, rfl⟩ : ∃ m, k = m + 1 := ⟨k - 1, by omega⟩
    have := wd_b (b := b) (i := i) m (fun j hj => h j (by omega))
    have p : 256 ^ m ≤ 256 ^ 6 := Nat.pow_le_pow_right (by omega) (by omega)
    have q : 128 * 256 ^ 6 = 2 ^ 55 := by decide +kernel
    omega
theorem zl_i (x : Int64) (h : x.toBitVec.toNat < 2 ^ 63) : x.toInt = (x.toBitVec.toNat : Int) := by
  show x.toBitVec.toInt = _
  exact BitVec.toInt_eq_toNat_of_lt (by omega)
theorem zl_n {a : Nat} (h : a < 2 ^ 63) : (i64 (a : Int)).toBitVec.toNat = a := by
  have e := i64_t (x := (a : Int)) (show r64 _ by unfold r64; omega)
  have l := BitVec.toInt_eq_toNat_cond (i64 (a : Int)).toBitVec
  have e : (i64 (a : Int)).toBitVec.toInt = (a : Int) := e
  rw [e] at l
  split at l
  · omega
  · have := (i64 (a : Int)).toBitVec.isLt
    omega
theorem lor8 {x v : Nat} (hx : x < 2 ^ 55) (hv : v < 256) : z_lor (z_lshl (x : Int) 8) (v : Int) = ((256 * x + v : Nat) : Int) := by
  have s8 : (((i32 8).toInt64 &&& 63).toBitVec.smod 64).toNat = 8 := by decide +kernel
  have e1 : i64 (z_lshl (x : Int) 8) = i64 (x : Int) <<< ((i32 8).toInt64 &&& 63) := by unfold z_lshl; rw [i64_of]
  have e2 : (i64 (x : Int) <<< ((i32 8).toInt64 &&& 63) ||| i64 (v : Int)).toBitVec.toNat = 256 * x + v := by
    rw [Int64.toBitVec_or, BitVec.toNat_or, Int64.toBitVec_shiftLeft, BitVec.shiftLeft_eq', s8, BitVec.toNat_shiftLeft, zl_n (by omega), zl_n (by omega), Nat.shiftLeft_eq, Nat.mod_eq_of_lt (by omega), ← Nat.shiftLeft_eq, ← Nat.shiftLeft_add_eq_or_of_lt (by omega), Nat.shiftLeft_eq]
    omega
  unfold z_lor
  rw [e1, zl_i _ (by rw [e2]; omega), e2]
