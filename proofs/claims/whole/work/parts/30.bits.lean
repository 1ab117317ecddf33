/-! sets of people as bits: Nat below 2^12 (below 2^31 where it costs nothing) -/
theorem zb_i (x : Int32) (h : x.toBitVec.toNat < 2 ^ 31) : x.toInt = (x.toBitVec.toNat : Int) := by
  show x.toBitVec.toInt = _
  exact BitVec.toInt_eq_toNat_of_lt (by omega)
theorem zb_n {a : Nat} (h : a < 2 ^ 31) : (i32 (a : Int)).toBitVec.toNat = a := by
  rw [← z_ofNat]
  show (BitVec.ofNat 32 a).toNat = a
  rw [BitVec.toNat_ofNat]; omega
theorem zb_and {a b : Nat} (ha : a < 2 ^ 31) (hb : b < 2 ^ 31) : z_and a b = ((a &&& b : Nat) : Int) := by
  have e : (i32 (a : Int) &&& i32 (b : Int)).toBitVec.toNat = a &&& b := by
    rw [Int32.toBitVec_and, BitVec.toNat_and, zb_n ha, zb_n hb]
  unfold z_and
  rw [zb_i _ (by rw [e]; exact Nat.lt_of_le_of_lt Nat.and_le_left ha), e]
theorem zb_or {a b : Nat} (ha : a < 2 ^ 31) (hb : b < 2 ^ 31) : z_or a b = ((a ||| b : Nat) : Int) := by
  have e : (i32 (a : Int) ||| i32 (b : Int)).toBitVec.toNat = a ||| b := by
    rw [Int32.toBitVec_or, BitVec.toNat_or, zb_n ha, zb_n hb]
  unfold z_or
  rw [zb_i _ (by rw [e]; exact Nat.or_lt_two_pow ha hb), e]
/-- those of a that are not in b -/
def nb (a b : Nat) : Nat := a ^^^ (a &&& b)
theorem nb_t (a b i : Nat) : (nb a b).testBit i = (a.testBit i && !b.testBit i) := by
  unfold nb; rw [Nat.testBit_xor, Nat.testBit_and]; cases a.testBit i <;> cases b.testBit i <;> rfl
theorem nb_lt {a b n : Nat} (ha : a < 2 ^ n) : nb a b < 2 ^ n := by
  unfold nb; exact Nat.xor_lt_two_pow ha (Nat.lt_of_le_of_lt Nat.and_le_left ha)
theorem zb_nb {a b : Nat} (ha : a < 2 ^ 31) (hb : b < 2 ^ 31) : z_and a (z_xor b (-1)) = ((nb a b : Nat) : Int) := by
  have e1 : i32 (z_xor b (-1)) = i32 (b : Int) ^^^ i32 (-1) := by unfold z_xor; rw [i32_of]
  have e : (i32 (a : Int) &&& (i32 (b : Int) ^^^ i32 (-1))).toBitVec.toNat = nb a b := by
    apply Nat.eq_of_testBit_eq
    intro i
    rw [nb_t, Int32.toBitVec_and, Int32.toBitVec_xor, BitVec.toNat_and, BitVec.toNat_xor, zb_n ha, zb_n hb, Nat.testBit_and, Nat.testBit_xor]
    have h1 : (i32 (-1)).toBitVec.toNat = 2 ^ 32 - 1 := by decide +kernel
    rw [h1, Nat.testBit_two_pow_sub_one]
    by_cases hi : i < 32
    · simp [hi]
    · have : a.testBit i = false := Nat.testBit_lt_two_pow (Nat.lt_of_lt_of_le ha (Nat.pow_le_pow_right (by omega) (by omega)))
      simp [this]
  unfold z_and
  rw [e1, zb_i _ (by rw [e]; exact nb_lt ha), e]
theorem zb_sm : ∀ k : Fin 31, ((i32 (k.val : Int) &&& 31).toBitVec.smod 32).toNat = k.val := by decide +kernel
theorem zb_shr {a k : Nat} (ha : a < 2 ^ 31) (hk : k < 31) : z_shr a k = ((a / 2 ^ k : Nat) : Int) := by
  unfold z_shr
  rw [pk_shr _ _ k (zb_sm ⟨k, hk⟩), i32_t (show r32 _ by unfold r32; omega), Int.shiftRight_eq_div_pow]
  omega
theorem zb_shl1 : ∀ k : Fin 31, z_shl 1 (k.val : Int) = ((2 ^ k.val : Nat) : Int) := by decide +kernel
theorem zb_1 {k : Nat} (hk : k < 31) : z_shl 1 k = ((2 ^ k : Nat) : Int) := zb_shl1 ⟨k, hk⟩
theorem zb_bit {a k : Nat} (ha : a < 2 ^ 31) (hk : k < 31) : z_and (z_shr a k) 1 = if a.testBit k then 1 else 0 := by
  rw [zb_shr ha hk]
  have h1 : a / 2 ^ k < 2 ^ 31 := Nat.lt_of_le_of_lt (Nat.div_le_self _ _) ha
  have := zb_and h1 (show 1 < 2 ^ 31 by omega)
  rw [show ((1 : Nat) : Int) = 1 from rfl] at this
  rw [this, Nat.and_one_is_mod, Nat.testBit_eq_decide_div_mod_eq]
  by_cases h : a / 2 ^ k % 2 = 1
  · simp [h]
  · have : a / 2 ^ k % 2 = 0 := by omega
    simp [this]
theorem zb_2k {k : Nat} (hk : k < 12) : 2 ^ k < 4096 := by
  have : 2 ^ k < 2 ^ 12 := Nat.pow_lt_pow_right (by omega) hk
  omega
theorem zb_lt {a : Nat} (h : a < 4096) : a < 2 ^ 31 := by omega
theorem zb_orlt {a b : Nat} (ha : a < 4096) (hb : b < 4096) : a ||| b < 4096 := Nat.or_lt_two_pow (n := 12) ha hb
theorem zb_andlt {a b : Nat} (ha : a < 4096) : a &&& b < 4096 := Nat.lt_of_le_of_lt Nat.and_le_left ha
theorem zb_nblt {a b : Nat} (ha : a < 4096) : nb a b < 4096 := nb_lt (n := 12) ha
theorem zb_t2 (k i : Nat) : (2 ^ k).testBit i = decide (k = i) := Nat.testBit_two_pow
theorem zb_big {a i : Nat} (ha : a < 4096) (hi : 12 ≤ i) : a.testBit i = false := Nat.testBit_lt_two_pow (Nat.lt_of_lt_of_le (show a < 2 ^ 12 from ha) (Nat.pow_le_pow_right (by omega) hi))
/-- how many -/
def pcC (a : Nat) : Nat := ((List.range 12).filter (fun i => a.testBit i)).length
/-- the same, shut: nobody is to unfold it -/
noncomputable def pc12 (a : Nat) : Nat := Classical.choose (⟨pcC a, rfl⟩ : ∃ n, n = pcC a)
theorem pc12_eq (a : Nat) : pc12 a = pcC a := Classical.choose_spec (⟨pcC a, rfl⟩ : ∃ n, n = pcC a)
def bitcountz (x0 : Int) : Int :=
  let y1 := w32 (x0 - (z_and (z_ushr x0 1) 1431655765))
  let y2 := w32 ((z_and y1 858993459) + (z_and (z_ushr y1 2) 858993459))
  let y3 := z_and (w32 (y2 + (z_ushr y2 4))) 252645135
  let y4 := w32 ((w32 (y3 + (z_ushr y3 8))) + (z_ushr (w32 (y3 + (z_ushr y3 8))) 16))
  z_and y4 63
theorem zb_count0 : ∀ a b : Fin 64, bitcountz ((64 * a.val + b.val : Nat) : Int) = (pcC (64 * a.val + b.val) : Int) := by decide +kernel
theorem zb_count {a : Nat} (h : a < 4096) : bitcountz (a : Int) = (pc12 a : Int) := by
  have := zb_count0 ⟨a / 64, by omega⟩ ⟨a % 64, by omega⟩
  have e : 64 * (a / 64) + a % 64 = a := by omega
  simp only [e] at this
  rw [pc12_eq]; exact this
theorem w32s {k : Nat} (h : k < 2147483647) : w32 ((k : Int) + 1) = ((k + 1 : Nat) : Int) := by rw [w32_id] <;> omega
section ZB
variable {E : zE} {d : Nat} {h : zS} {Q : Int → zS → Prop}
theorem c_isIn {s i : Nat} (hs : s < 4096) (hi : i < 31) (HQ : Q (if s.testBit i then 1 else 0) h) : zCi E d m_X9_isIn [vi s, vi i] h Q := by
  refine v_X9_isIn ?_
  rw [zb_bit (zb_lt hs) hi]
  by_cases c : s.testBit i = true
  · simp only [c, if_true] at HQ ⊢; exact ⟨fun e => by omega, fun _ => HQ⟩
  · simp only [c, if_false] at HQ ⊢; exact ⟨fun _ => HQ, fun e => absurd rfl e⟩
theorem c_pair {a b : Nat} (ha : a < 12) (hb : b < 12) (HQ : Q ((12 * a + b : Nat) : Int) h) : zCi E d m_X9_pair [vi a, vi b] h Q := by
  refine v_X9_pair ?_
  have e : w32 (w32 ((a : Int) * 12) + (b : Int)) = ((12 * a + b : Nat) : Int) := by unfold w32; omega
  rw [e]; exact HQ
theorem c_bitCount {a : Nat} (ha : a < 4096) (HQ : Q (pc12 a : Int) h) : zCi E d m_J6_bitCount_0f7a4 [vi a] h Q := by
  refine v_J6_bitCount_0f7a4 ?_
  intro y1 e1 y2 e2 y3 e3 y4 e4
  subst e1; subst e2; subst e3; subst e4
  have := zb_count ha
  unfold bitcountz at this
  simp only at this
  rw [this]; exact HQ
end ZB
