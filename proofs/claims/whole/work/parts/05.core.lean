/-! the small world: numbers are Int, cells are numbered from the law's entry on -/
abbrev zV : Type := Int ⊕ (Int ⊕ Option Nat)
abbrev vi (x : Int) : zV := .inl x
abbrev vl (x : Int) : zV := .inr (.inl x)
abbrev vo (k : Nat) : zV := .inr (.inr (some k))
abbrev vn : zV := .inr (.inr none)
def i32 (x : Int) : Int32 := Int32.ofInt x
def i64 (x : Int) : Int64 := Int64.ofInt x
def w32 (z : Int) : Int := (z + 2147483648) % 4294967296 - 2147483648
def w64 (z : Int) : Int := (z + 9223372036854775808) % 18446744073709551616 - 9223372036854775808
def w8 (z : Int) : Int := (z + 128) % 256 - 128
def r32 (x : Int) : Prop := -2147483648 ≤ x ∧ x < 2147483648
def r64 (x : Int) : Prop := -9223372036854775808 ≤ x ∧ x < 9223372036854775808
theorem r32_w (z : Int) : r32 (w32 z) := by unfold r32 w32; omega
theorem r64_w (z : Int) : r64 (w64 z) := by unfold r64 w64; omega
theorem r32_w8 (z : Int) : r32 (w8 z) := by unfold r32 w8; omega
theorem w32_id {z : Int} (h1 : -2147483648 ≤ z) (h2 : z < 2147483648) : w32 z = z := by unfold w32; omega
theorem w64_id {z : Int} (h1 : -9223372036854775808 ≤ z) (h2 : z < 9223372036854775808) : w64 z = z := by unfold w64; omega
theorem r32_i (x : Int32) : r32 x.toInt := ⟨by have := Int32.le_toInt x; omega, by have := Int32.toInt_lt x; omega⟩
theorem r64_i (x : Int64) : r64 x.toInt := ⟨by have := Int64.le_toInt x; omega, by have := Int64.toInt_lt x; omega⟩
theorem bm32 (x : Int) : x.bmod Int32.size = w32 x := by
  show (if x % ((4294967296 : Nat) : Int) < (((4294967296 : Nat) : Int) + 1) / 2 then x % ((4294967296 : Nat) : Int) else x % ((4294967296 : Nat) : Int) - ((4294967296 : Nat) : Int)) = w32 x
  unfold w32; split <;> omega
theorem bm64 (x : Int) : x.bmod Int64.size = w64 x := by
  show (if x % ((18446744073709551616 : Nat) : Int) < (((18446744073709551616 : Nat) : Int) + 1) / 2 then x % ((18446744073709551616 : Nat) : Int) else x % ((18446744073709551616 : Nat) : Int) - ((18446744073709551616 : Nat) : Int)) = w64 x
  unfold w64; split <;> omega
theorem bm8 (x : Int) : x.bmod Int8.size = w8 x := by
  show (if x % ((256 : Nat) : Int) < (((256 : Nat) : Int) + 1) / 2 then x % ((256 : Nat) : Int) else x % ((256 : Nat) : Int) - ((256 : Nat) : Int)) = w8 x
  unfold w8; split <;> omega
theorem i32_t {x : Int} (h : r32 x) : (i32 x).toInt = x := by
  unfold i32; rw [Int32.toInt_ofInt, bm32]; exact w32_id h.1 h.2
theorem i64_t {x : Int} (h : r64 x) : (i64 x).toInt = x := by
  unfold i64; rw [Int64.toInt_ofInt, bm64]; exact w64_id h.1 h.2
theorem i32_of (x : Int32) : i32 x.toInt = x := by unfold i32; exact Int32.ofInt_toInt x
theorem i64_of (x : Int64) : i64 x.toInt = x := by unfold i64; exact Int64.ofInt_toInt x
theorem i32_w (z : Int) : i32 (w32 z) = i32 z := by
  apply Int32.toInt_inj.mp; unfold i32; rw [Int32.toInt_ofInt, Int32.toInt_ofInt, bm32, bm32]; unfold w32; omega
theorem i64_w (z : Int) : i64 (w64 z) = i64 z := by
  apply Int64.toInt_inj.mp; unfold i64; rw [Int64.toInt_ofInt, Int64.toInt_ofInt, bm64, bm64]; unfold w64; omega
theorem i32_add (a b : Int) : i32 a + i32 b = i32 (w32 (a + b)) := by rw [i32_w]; unfold i32; rw [Int32.ofInt_add]
theorem i32_sub (a b : Int) : i32 a - i32 b = i32 (w32 (a - b)) := by rw [i32_w]; unfold i32; rw [Int32.ofInt_sub]
theorem i32_mul (a b : Int) : i32 a * i32 b = i32 (w32 (a * b)) := by rw [i32_w]; unfold i32; rw [Int32.ofInt_mul]
theorem i64_add (a b : Int) : i64 a + i64 b = i64 (w64 (a + b)) := by rw [i64_w]; unfold i64; rw [Int64.ofInt_add]
theorem i64_sub (a b : Int) : i64 a - i64 b = i64 (w64 (a - b)) := by rw [i64_w]; unfold i64; rw [Int64.ofInt_sub]
theorem i64_mul (a b : Int) : i64 a * i64 b = i64 (w64 (a * b)) := by rw [i64_w]; unfold i64; rw [Int64.ofInt_mul]
theorem i64_neg (a : Int) : -(i64 a) = i64 (w64 (-a)) := by rw [i64_w]; unfold i64; rw [Int64.ofInt_neg]
theorem i32_lt {a b : Int} (ha : r32 a) (hb : r32 b) : i32 a < i32 b ↔ a < b := by rw [Int32.lt_iff_toInt_lt, i32_t ha, i32_t hb]
theorem i32_le {a b : Int} (ha : r32 a) (hb : r32 b) : i32 a ≤ i32 b ↔ a ≤ b := by rw [Int32.le_iff_toInt_le, i32_t ha, i32_t hb]
theorem i32_eq {a b : Int} (ha : r32 a) (hb : r32 b) : i32 a = i32 b ↔ a = b := by rw [← Int32.toInt_inj, i32_t ha, i32_t hb]
theorem i32_0 : (0 : Int32) = i32 0 := by decide +kernel
theorem r32_0 : r32 0 := by unfold r32; omega
theorem i64_lt {a b : Int} (ha : r64 a) (hb : r64 b) : i64 a < i64 b ↔ a < b := by rw [Int64.lt_iff_toInt_lt, i64_t ha, i64_t hb]
theorem i64_eq {a b : Int} (ha : r64 a) (hb : r64 b) : i64 a = i64 b ↔ a = b := by rw [← Int64.toInt_inj, i64_t ha, i64_t hb]
theorem i32_l {a : Int} (ha : r32 a) : (i32 a).toInt64 = i64 a := by
  apply Int64.toInt_inj.mp; rw [Int32.toInt_toInt64, i32_t ha, i64_t]; unfold r32 at ha; unfold r64; omega
theorem i64_i (a : Int) : (i64 a).toInt32 = i32 (w32 a) := by
  rw [i32_w]; unfold i64 i32; exact Int64.toInt32_ofInt ..
theorem i32_b (a : Int) : (i32 a).toInt8.toInt32 = i32 (w8 a) := by
  apply Int32.toInt_inj.mp
  have h : r32 (w8 a) := r32_w8 a
  rw [i32_t h, Int8.toInt_toInt32]; unfold i32; rw [Int32.toInt8_ofInt, Int8.toInt_ofInt, bm8]
theorem i32_c {a : Int} (ha : r32 a) : (i32 a).toNatClampNeg = a.toNat := by
  show (i32 a).toInt.toNat = a.toNat; rw [i32_t ha]
