/-! ways: rows of steps up to the sea, by how many steps are left -/
def mn (f : Nat → Int) : Nat → Int
  | 0 => 4000000000000000000
  | k + 1 => if f k < mn f k then f k else mn f k
def am (f : Nat → Int) : Nat → Nat
  | 0 => 0
  | k + 1 => if f k < mn f k then k else am f k
theorem mn_le {f : Nat → Int} : ∀ k, mn f k ≤ 4000000000000000000 ∧ ∀ b, b < k → mn f k ≤ f b
  | 0 => ⟨Int.le_refl _, fun b hb => by omega⟩
  | k + 1 => by
    obtain ⟨h1, h2⟩ := mn_le (f := f) k
    unfold mn
    split
    · rename_i c
      refine ⟨by omega, fun b hb => ?_⟩
      by_cases e : b = k
      · rw [e]; omega
      · have := h2 b (by omega); omega
    · rename_i c
      refine ⟨h1, fun b hb => ?_⟩
      by_cases e : b = k
      · rw [e]; omega
      · exact h2 b (by omega)
theorem mn_ex {f : Nat → Int} : ∀ k, mn f k = 4000000000000000000 ∨ ∃ b, b < k ∧ mn f k = f b
  | 0 => .inl rfl
  | k + 1 => by
    unfold mn
    split
    · exact .inr ⟨k, by omega, rfl⟩
    · rcases mn_ex (f := f) k with h | ⟨b, h1, h2⟩
      · exact .inl h
      · exact .inr ⟨b, by omega, h2⟩
theorem am_is {f : Nat → Int} : ∀ k, mn f k ≠ 4000000000000000000 → am f k < k ∧ f (am f k) = mn f k ∧ ∀ b, b < am f k → mn f k < f b
  | 0, h => absurd rfl h
  | k + 1, h => by
    unfold mn at h ⊢
    unfold am
    split
    · rename_i c
      rw [if_pos c] at h
      exact ⟨by omega, rfl, fun b hb => by have := (mn_le (f := f) k).2 b hb; omega⟩
    · rename_i c
      rw [if_neg c] at h
      obtain ⟨a1, a2, a3⟩ := am_is (f := f) k h
      exact ⟨by omega, a2, a3⟩
def onw (op : Int → Int → Int) (sp : Nat → Nat → Int) (g : Nat → Int) (a b : Nat) : Int := if sp a b = -1 ∨ g b = 4000000000000000000 then 4000000000000000000 else op (g b) (sp a b)
def bL (op : Int → Int → Int) (s0 : Int) (sp : Nat → Nat → Int) (n z : Nat) : Nat → Nat → Int
  | 0, a => if a = z then s0 else 4000000000000000000
  | l + 1, a => if a = z then 4000000000000000000 else mn (onw op sp (bL op s0 sp n z l) a) n
/-- the first that leads on best -/
def fbI (op : Int → Int → Int) (s0 : Int) (sp : Nat → Nat → Int) (n z l a b : Nat) : Prop := b < n ∧ onw op sp (bL op s0 sp n z l) a b = bL op s0 sp n z (l + 1) a ∧ ∀ c, c < b → onw op sp (bL op s0 sp n z l) a c ≠ bL op s0 sp n z (l + 1) a
/-! least sums, then fewest steps: one number -/
abbrev opA : Int → Int → Int := fun r c => r + c
def okSp (sp : Nat → Nat → Int) (n : Nat) : Prop := ∀ a b, a < n → b < n → -1 ≤ sp a b ∧ sp a b ≤ 999
def kW (sp : Nat → Nat → Int) (a b : Nat) : Int := if 0 ≤ sp a b then 1000 * sp a b + 1 else 0
abbrev kF : Int := 1001000000
theorem kW_pos {sp : Nat → Nat → Int} {a b : Nat} (h : 0 < kW sp a b) : 0 ≤ sp a b ∧ kW sp a b = 1000 * sp a b + 1 := by
  unfold kW at *
  split at h
  · rename_i c; exact ⟨c, by rw [if_pos c]⟩
  · omega
theorem kW_of {sp : Nat → Nat → Int} {a b : Nat} (h : 0 ≤ sp a b) : kW sp a b = 1000 * sp a b + 1 := by unfold kW; rw [if_pos h]
theorem bL_rng {sp : Nat → Nat → Int} {n z : Nat} (hs : okSp sp n) : ∀ l a, a < n → bL opA 0 sp n z l a = 4000000000000000000 ∨ (0 ≤ bL opA 0 sp n z l a ∧ bL opA 0 sp n z l a ≤ 999 * l)
  | 0, a, _ => by
    unfold bL
    split
    · right; omega
    · left; rfl
  | l + 1, a, ha => by
    unfold bL
    split
    · left; rfl
    · rcases mn_ex (f := onw opA sp (bL opA 0 sp n z l) a) n with h | ⟨b, hb, h⟩
      · exact .inl h
      · rw [h]
        unfold onw
        split
        · left; rfl
        · rename_i c
          rcases bL_rng hs l b hb with q | q
          · exact absurd (.inr q) c
          · have s := hs a b ha hb
            have : sp a b ≠ -1 := fun e => c (.inl e)
            right
            show 0 ≤ bL opA 0 sp n z l b + sp a b ∧ bL opA 0 sp n z l b + sp a b ≤ _
            omega
theorem bL_ge {sp : Nat → Nat → Int} {n z : Nat} {D : Nat → Int} (hs : okSp sp n) (hD : isD n (kW sp) z kF D) : ∀ l a, l ≤ 12 → a < n → bL opA 0 sp n z l a ≠ 4000000000000000000 → D a ≤ 1000 * bL opA 0 sp n z l a + l
  | 0, a, _, ha, h => by
    unfold bL at h ⊢
    split at h
    · rename_i e
      rw [if_pos e, e, hD.1]; omega
    · exact absurd rfl h
  | l + 1, a, hl, ha, h => by
    unfold bL at h ⊢
    split at h
    · exact absurd rfl h
    · rename_i e
      rw [if_neg e]
      rcases mn_ex (f := onw opA sp (bL opA 0 sp n z l) a) n with q | ⟨b, hb, q⟩
      · exact absurd q h
      · rw [q] at h ⊢
        unfold onw at h ⊢
        split at h
        · exact absurd rfl h
        · rename_i c
          rw [if_neg c]
          have nb : bL opA 0 sp n z l b ≠ 4000000000000000000 := fun e => c (.inr e)
          have ih := bL_ge hs hD l b (by omega) hb nb
          have s := hs a b ha hb
          have s0 : 0 ≤ sp a b := by
            have : sp a b ≠ -1 := fun e => c (.inl e)
            omega
          have r := bL_rng (z := z) hs l b hb
          have := hD.2.2.1 a b ha hb (by rw [kW_of s0]; omega) (by show D b < 1001000000; omega)
          rw [kW_of s0] at this
          show D a ≤ 1000 * (bL opA 0 sp n z l b + sp a b) + _
          omega
noncomputable def lwS (n : Nat) (D : Nat → Int) (x : Int) : Nat := bset (fun c => decide (c < n) && decide (D c < x))
theorem lwS_t {n : Nat} {D : Nat → Int} {x : Int} {a : Nat} (hn : n ≤ 12) : (lwS n D x).testBit a = true ↔ a < n ∧ D a < x := by
  unfold lwS
  rw [bset_t]
  simp only [Bool.and_eq_true, decide_eq_true_eq]
  exact ⟨fun q => q.2, fun q => ⟨by omega, q⟩⟩
theorem lwS_11 {n : Nat} {D : Nat → Int} {a : Nat} (hn : n ≤ 12) (ha : a < n) : pc12 (lwS n D (D a)) ≤ 11 := by
  have h : pc12 (lwS n D (D a)) < pc12 4095 := by
    refine pc_lt (fun i hi _ => ?_) (i := a) (by omega) ?_ ?_
    · have : (4095 : Nat) = 2 ^ 12 - 1 := rfl
      rw [this, Nat.testBit_two_pow_sub_one]; simpa using hi
    · have : (4095 : Nat) = 2 ^ 12 - 1 := rfl
      rw [this, Nat.testBit_two_pow_sub_one]
      have : a < 12 := by omega
      simpa using this
    · cases q : (lwS n D (D a)).testBit a
      · rfl
      · have := ((lwS_t hn).mp q).2; omega
  have := pc_12 4095
  omega
/-- what the distance is made of -/
theorem D_dec {sp : Nat → Nat → Int} {n z : Nat} {D : Nat → Int} (hn : n ≤ 12) (hz : z < n) (hs : okSp sp n) (hD : isD n (kW sp) z kF D) : ∀ k : Nat, ∀ a, a < n → (D a).toNat < k → D a < kF → ∃ c m : Nat, D a = 1000 * c + m ∧ c ≤ 999 * m ∧ m ≤ pc12 (lwS n D (D a)) ∧ bL opA 0 sp n z m a ≤ c
  | 0, a, _, h, _ => by omega
  | k + 1, a, ha, hk, hf => by
    by_cases e : a = z
    · refine ⟨0, 0, by rw [e, hD.1]; rfl, by omega, by omega, ?_⟩
      show bL opA 0 sp n z 0 a ≤ 0
      unfold bL; rw [if_pos e]; omega
    · obtain ⟨b, hb, hw, hbf, he⟩ := hD.2.2.2 a ha e hf
      obtain ⟨s0, hkw⟩ := kW_pos hw
      have Db := (hD.2.1 b hb).1
      rw [hkw] at he
      obtain ⟨c, m, h1, h2, h3, h4⟩ := D_dec hn hz hs hD k b hb (by omega) hbf
      have s := hs a b ha hb
      obtain ⟨x, hx⟩ : ∃ x : Nat, sp a b = x := ⟨(sp a b).toNat, by omega⟩
      have lt : pc12 (lwS n D (D b)) < pc12 (lwS n D (D a)) := by
        refine pc_lt (fun i _ q => (lwS_t hn).mpr ?_) (i := b) (by omega) ((lwS_t hn).mpr ⟨hb, by omega⟩) ?_
        · have := (lwS_t hn).mp q; exact ⟨this.1, by omega⟩
        · cases q : (lwS n D (D b)).testBit b
          · rfl
          · have := ((lwS_t hn).mp q).2; omega
      refine ⟨c + x, m + 1, by omega, by omega, by omega, ?_⟩
      unfold bL
      rw [if_neg e]
      have r := bL_rng (z := z) hs m b hb
      have m11 : pc12 (lwS n D (D b)) ≤ 11 := lwS_11 hn hb
      have q := (mn_le (f := onw opA sp (bL opA 0 sp n z m) a) n).2 b hb
      unfold onw at q
      rw [if_neg (by omega)] at q
      have q : mn (onw opA sp (bL opA 0 sp n z m) a) n ≤ bL opA 0 sp n z m b + sp a b := q
      show mn (onw opA sp (bL opA 0 sp n z m) a) n ≤ _
      omega
theorem D_is {sp : Nat → Nat → Int} {n z : Nat} {D : Nat → Int} (hn : n ≤ 12) (hz : z < n) (hs : okSp sp n) (hD : isD n (kW sp) z kF D) {a : Nat} (ha : a < n) (hf : D a < kF) : ∃ c m : Nat, D a = 1000 * c + m ∧ c ≤ 999 * m ∧ m ≤ 11 ∧ bL opA 0 sp n z m a = c := by
  obtain ⟨c, m, h1, h2, h3, h4⟩ := D_dec hn hz hs hD ((D a).toNat + 1) a ha (by omega) hf
  have m11 : pc12 (lwS n D (D a)) ≤ 11 := lwS_11 hn ha
  have r := bL_rng (z := z) hs m a ha
  have := bL_ge hs hD m a (by omega) ha (by omega)
  exact ⟨c, m, h1, h2, by omega, by omega⟩
