/-! odds: theory -/
theorem zl_div {a b : Nat} (ha : a < 9223372036854775808) (hb : b < 9223372036854775808) : z_ldiv (a : Int) (b : Int) = ((a / b : Nat) : Int) := by
  unfold z_ldiv
  have h1 : (i64 (a : Int)).toInt = a := i64_t (show r64 _ by unfold r64; omega)
  have h2 : (i64 (b : Int)).toInt = b := i64_t (show r64 _ by unfold r64; omega)
  have e : (i64 (a : Int) / i64 (b : Int)).toInt = (((i64 (a : Int)).toInt).tdiv ((i64 (b : Int)).toInt)).bmod Int64.size := Int64.toInt_div _ _
  rw [e, h1, h2, bm64]
  have q : Int.tdiv (a : Int) (b : Int) = ((a / b : Nat) : Int) := rfl
  have l : a / b ≤ a := Nat.div_le_self _ _
  rw [q]
  generalize a / b = x at *
  rw [w64_id (by omega) (by omega)]
theorem zl_ndiv {a b : Nat} (ha : a < 9223372036854775808) (hb : b < 9223372036854775808) : z_ldiv (-(a : Int)) (b : Int) = -((a / b : Nat) : Int) := by
  unfold z_ldiv
  have h1 : (i64 (-(a : Int))).toInt = -(a : Int) := i64_t (show r64 _ by unfold r64; omega)
  have h2 : (i64 (b : Int)).toInt = b := i64_t (show r64 _ by unfold r64; omega)
  have e : (i64 (-(a : Int)) / i64 (b : Int)).toInt = (((i64 (-(a : Int))).toInt).tdiv ((i64 (b : Int)).toInt)).bmod Int64.size := Int64.toInt_div _ _
  rw [e, h1, h2, bm64, Int.neg_tdiv]
  have q : Int.tdiv (a : Int) (b : Int) = ((a / b : Nat) : Int) := rfl
  have l : a / b ≤ a := Nat.div_le_self _ _
  rw [q]
  generalize a / b = x at *
  rw [w64_id (by omega) (by omega)]
theorem zl_rem {a b : Nat} (ha : a < 9223372036854775808) (hb : b < 9223372036854775808) : z_lrem (a : Int) (b : Int) = ((a % b : Nat) : Int) := by
  have e : i64 (a : Int) / i64 (b : Int) = i64 ((a / b : Nat) : Int) := by
    have := zl_div ha hb
    unfold z_ldiv at this
    rw [← this, i64_of]
  have l : a / b * b ≤ a := Nat.div_mul_le_self _ _
  have m : a = a / b * b + a % b := by have := Nat.div_add_mod a b; rw [Nat.mul_comm] at this; omega
  have c : ((a / b : Nat) : Int) * (b : Int) = ((a / b * b : Nat) : Int) := by simp
  unfold z_lrem
  rw [e, i64_mul, c, w64_id (by omega) (by omega), i64_sub, w64_id (by omega) (by omega), i64_t (show r64 _ by unfold r64; omega)]
  omega
def opO (r c : Int) : Int := -(((-r).toNat / 100 : Nat) : Int) * c
abbrev oS : Int := -1000000000000000000
theorem opO_ge {r c : Int} (hr : r ≤ 0) (hc : 0 ≤ c) (hc2 : c ≤ 100) : r ≤ opO r c := by
  unfold opO
  have h := Int.mul_le_mul_of_nonneg_left hc2 (show (0 : Int) ≤ (((-r).toNat / 100 : Nat) : Int) by omega)
  rw [Int.neg_mul]
  omega
theorem opO_le {r c : Int} (hc : 0 ≤ c) : opO r c ≤ 0 := by
  unfold opO
  have h := Int.mul_nonneg (show (0 : Int) ≤ (((-r).toNat / 100 : Nat) : Int) by omega) hc
  rw [Int.neg_mul]
  omega
theorem opO_mono {r s c : Int} (h : r ≤ s) (hc : 0 ≤ c) : opO r c ≤ opO s c := by
  unfold opO
  have h := Int.mul_le_mul_of_nonneg_right (show (((-s).toNat / 100 : Nat) : Int) ≤ (((-r).toNat / 100 : Nat) : Int) by omega) hc
  rw [Int.neg_mul, Int.neg_mul]
  omega
theorem opO_x {x c : Int} (hx : 0 ≤ x) : opO (-(x * 100)) c = -(x * c) := by
  unfold opO
  have : (((-(-(x * 100))).toNat / 100 : Nat) : Int) = x := by omega
  rw [this, Int.neg_mul]
def okO (sp : Nat → Nat → Int) (n : Nat) : Prop := ∀ a b, a < n → b < n → sp a b = -1 ∨ (1 ≤ sp a b ∧ sp a b ≤ 100)
abbrev bO (sp : Nat → Nat → Int) (n z : Nat) : Nat → Nat → Int := bL opO oS sp n z
def spr (g : Nat) (sp : Nat → Nat → Int) (a b : Nat) : Int := if b = g then -1 else sp a b
theorem okO_r {sp : Nat → Nat → Int} {n g : Nat} (h : okO sp n) : okO (spr g sp) n := by
  intro a b ha hb
  unfold spr
  split
  · left; rfl
  · exact h a b ha hb
theorem bO_s {sp : Nat → Nat → Int} {n z l a : Nat} : bO sp n z (l + 1) a = if a = z then 4000000000000000000 else mn (onw opO sp (bO sp n z l) a) n := rfl
theorem bO_0 {sp : Nat → Nat → Int} {n z a : Nat} : bO sp n z 0 a = if a = z then oS else 4000000000000000000 := rfl
theorem bO_rng {sp : Nat → Nat → Int} {n z : Nat} (hs : okO sp n) : ∀ l a, a < n → bO sp n z l a = 4000000000000000000 ∨ (-1000000000000000000 ≤ bO sp n z l a ∧ bO sp n z l a ≤ 0)
  | 0, a, _ => by
    rw [bO_0]
    split
    · right; show -1000000000000000000 ≤ (-1000000000000000000 : Int) ∧ (-1000000000000000000 : Int) ≤ 0; omega
    · left; rfl
  | l + 1, a, ha => by
    rw [bO_s]
    split
    · left; rfl
    · rcases mn_ex (f := onw opO sp (bO sp n z l) a) n with h | ⟨b, hb, h⟩
      · exact .inl h
      · rw [h]
        unfold onw
        split
        · left; rfl
        · rename_i c
          rcases bO_rng hs l b hb with q | q
          · exact absurd (.inr q) c
          · rcases hs a b ha hb with s | s
            · exact absurd (.inl s) c
            · right
              have h1 := opO_ge (r := bO sp n z l b) (c := sp a b) q.2 (by omega) s.2
              have h2 := opO_le (r := bO sp n z l b) (c := sp a b) (by omega)
              exact ⟨Int.le_trans q.1 h1, h2⟩
theorem bO_mono {sp : Nat → Nat → Int} {n z g : Nat} (hs : okO sp n) : ∀ l a, a < n → bO sp n z l a ≤ bO (spr g sp) n z l a
  | 0, a, _ => by rw [bO_0, bO_0]; exact Int.le_refl _
  | l + 1, a, ha => by
    rw [bO_s, bO_s]
    split
    · exact Int.le_refl _
    · rcases mn_ex (f := onw opO (spr g sp) (bO (spr g sp) n z l) a) n with h | ⟨b, hb, h⟩
      · rw [h]; exact (mn_le n).1
      · rw [h]
        have k := (mn_le (f := onw opO sp (bO sp n z l) a) n)
        unfold onw
        split
        · exact k.1
        · rename_i c
          have ih := bO_mono (g := g) (z := z) hs l b hb
          have r1 := bO_rng (z := z) hs l b hb
          have r2 := bO_rng (z := z) (okO_r (g := g) hs) l b hb
          have e : spr g sp a b = sp a b := by
            unfold spr at c ⊢
            split
            · rename_i e; exact absurd (.inl (if_pos e)) c
            · rfl
          rw [e] at c ⊢
          have nb : bO sp n z l b ≠ 4000000000000000000 := by
            have : bO (spr g sp) n z l b ≠ 4000000000000000000 := fun q => c (.inr q)
            omega
          have k2 := k.2 b hb
          unfold onw at k2
          rw [if_neg (fun q => q.elim (fun q => c (.inl q)) nb)] at k2
          refine Int.le_trans k2 (opO_mono ih ?_)
          rcases hs a b ha hb with s | s
          · exact absurd (.inl s) c
          · omega
/-- a way that is better through the gate: the rest from the gate is as good, and shorter -/
theorem bO_ring {sp : Nat → Nat → Int} {n z g : Nat} (hs : okO sp n) : ∀ l a, a < n → bO sp n z l a < bO (spr g sp) n z l a → ∃ l', l' < l ∧ bO sp n z l' g ≤ bO sp n z l a
  | 0, a, _, h => by rw [bO_0, bO_0] at h; exact absurd h (Int.lt_irrefl _)
  | l + 1, a, ha, h => by
    rw [bO_s, bO_s] at h
    rw [bO_s]
    split at h
    · exact absurd h (Int.lt_irrefl _)
    · rename_i az
      rw [if_neg az]
      rcases mn_ex (f := onw opO sp (bO sp n z l) a) n with e | ⟨b, hb, e⟩
      · have := (mn_le (f := onw opO (spr g sp) (bO (spr g sp) n z l) a) n).1
        omega
      · rw [e] at h ⊢
        have k := (mn_le (f := onw opO (spr g sp) (bO (spr g sp) n z l) a) n)
        unfold onw at h ⊢
        split
        · rename_i c
          rw [if_pos c] at h
          have := k.1
          unfold onw at this
          omega
        · rename_i c
          rw [if_neg c] at h
          have r1 := bO_rng (z := z) hs l b hb
          have nb : bO sp n z l b ≠ 4000000000000000000 := fun q => c (.inr q)
          have rs : 1 ≤ sp a b ∧ sp a b ≤ 100 := by
            rcases hs a b ha hb with s | s
            · exact absurd (.inl s) c
            · exact s
          have ge := opO_ge (r := bO sp n z l b) (c := sp a b) (by omega) (by omega) rs.2
          by_cases bg : b = g
          · exact ⟨l, by omega, by rw [← bg]; exact ge⟩
          · by_cases lt : bO sp n z l b < bO (spr g sp) n z l b
            · obtain ⟨l', h1, h2⟩ := bO_ring hs l b hb lt
              exact ⟨l', by omega, Int.le_trans h2 ge⟩
            · have eq : bO (spr g sp) n z l b = bO sp n z l b := by
                have := bO_mono (g := g) (z := z) hs l b hb
                omega
              have k2 := k.2 b hb
              unfold onw at k2
              have es : spr g sp a b = sp a b := by unfold spr; rw [if_neg bg]
              rw [es, eq, if_neg c] at k2
              exact absurd (Int.lt_of_lt_of_le h k2) (Int.lt_irrefl _)
theorem am_u {f : Nat → Int} {x : Nat} {v : Int} : ∀ k, x < k → f x = v → v < 4000000000000000000 → (∀ b, b < k → v ≤ f b) → (∀ b, b < x → v < f b) → mn f k = v ∧ am f k = x := by
  intro k hx hv hn h1 h2
  have a1 := (mn_le (f := f) k).2 x hx
  have a2 : mn f k = v := by
    rcases mn_ex (f := f) k with q | ⟨b, hb, q⟩
    · omega
    · have := h1 b hb; omega
  refine ⟨a2, ?_⟩
  obtain ⟨b1, b2, b3⟩ := am_is (f := f) k (by omega)
  by_cases lt : x < am f k
  · have := b3 x lt; omega
  · by_cases gt : am f k < x
    · have := h2 _ gt; omega
    · omega
/-- the best from the gate: never through the gate again -/
theorem bO_am {sp : Nat → Nat → Int} {n z g K : Nat} (hs : okO sp n) (hg : g < n) : mn (fun l => bO sp n z l g) K = mn (fun l => bO (spr g sp) n z l g) K ∧ (mn (fun l => bO sp n z l g) K ≠ 4000000000000000000 → am (fun l => bO sp n z l g) K = am (fun l => bO (spr g sp) n z l g) K) := by
  have mo : ∀ l, bO sp n z l g ≤ bO (spr g sp) n z l g := fun l => bO_mono hs l g hg
  by_cases h : mn (fun l => bO sp n z l g) K = 4000000000000000000
  · refine ⟨?_, fun q => absurd h q⟩
    rw [h]
    rcases mn_ex (f := fun l => bO (spr g sp) n z l g) K with q | ⟨l, hl, q⟩
    · exact q.symm
    · have a := (mn_le (f := fun l => bO sp n z l g) K).2 l hl
      have a2 : mn (fun l => bO sp n z l g) K ≤ bO sp n z l g := a
      have b := (mn_le (f := fun l => bO (spr g sp) n z l g) K).1
      have q2 : mn (fun l => bO (spr g sp) n z l g) K = bO (spr g sp) n z l g := q
      have := mo l
      omega
  · obtain ⟨a1, a2, a3⟩ := am_is (f := fun l => bO sp n z l g) K h
    have a2 : bO sp n z (am (fun l => bO sp n z l g) K) g = mn (fun l => bO sp n z l g) K := a2
    have a3 : ∀ b, b < am (fun l => bO sp n z l g) K → mn (fun l => bO sp n z l g) K < bO sp n z b g := a3
    have le := fun b hb => (mn_le (f := fun l => bO sp n z l g) K).2 b hb
    have le : ∀ b, b < K → mn (fun l => bO sp n z l g) K ≤ bO sp n z b g := le
    have b4 := (mn_le (f := fun l => bO sp n z l g) K).1
    generalize am (fun l => bO sp n z l g) K = m at *
    generalize mn (fun l => bO sp n z l g) K = v at *
    have e : bO (spr g sp) n z m g = bO sp n z m g := by
      refine Classical.byContradiction (fun ne => ?_)
      have := mo m
      obtain ⟨l', h1, h2⟩ := bO_ring hs m g hg (show bO sp n z m g < bO (spr g sp) n z m g by omega)
      have := a3 l' h1
      omega
    obtain ⟨c1, c2⟩ := am_u (f := fun l => bO (spr g sp) n z l g) (x := m) (v := v) K a1 (by show bO (spr g sp) n z m g = v; omega) (by omega) (fun b hb => Int.le_trans (le b hb) (mo b)) (fun b hb => Int.lt_of_lt_of_le (a3 b hb) (mo b))
    exact ⟨c1.symm, fun _ => c2.symm⟩
/-- on the best way both lead on alike -/
theorem bO_fb {sp : Nat → Nat → Int} {n z g l p b : Nat} (hs : okO sp n) (hp : p < n) (hv : bO (spr g sp) n z (l + 1) p = bO sp n z (l + 1) p) (nw : bO sp n z (l + 1) p ≠ 4000000000000000000) (star : ∀ l', l' ≤ l → ¬ bO sp n z l' g ≤ bO sp n z (l + 1) p) (h : fbI opO oS sp n z l p b) : fbI opO oS (spr g sp) n z l p b ∧ bO (spr g sp) n z l b = bO sp n z l b ∧ bO sp n z l b ≤ bO sp n z (l + 1) p := by
  have pz : p ≠ z := fun e => nw (by rw [bO_s, if_pos e])
  have fw : ∀ q, q < n → onw opO sp (bO sp n z l) p q = bO sp n z (l + 1) p → onw opO (spr g sp) (bO (spr g sp) n z l) p q = bO (spr g sp) n z (l + 1) p ∧ bO (spr g sp) n z l q = bO sp n z l q ∧ bO sp n z l q ≤ bO sp n z (l + 1) p := by
    intro q hq e
    have e' := e
    unfold onw at e
    split at e
    · exact absurd e.symm nw
    · rename_i c
      have r1 := bO_rng (z := z) hs l q hq
      have nb : bO sp n z l q ≠ 4000000000000000000 := fun q => c (.inr q)
      have rs : 1 ≤ sp p q ∧ sp p q ≤ 100 := by
        rcases hs p q hp hq with s | s
        · exact absurd (.inl s) c
        · exact s
      have ge := opO_ge (r := bO sp n z l q) (c := sp p q) (by omega) (by omega) rs.2
      rw [e] at ge
      have qg : q ≠ g := fun x => star l (Nat.le_refl _) (by rw [← x]; exact ge)
      have eq : bO (spr g sp) n z l q = bO sp n z l q := by
        refine Classical.byContradiction (fun ne => ?_)
        have := bO_mono (g := g) (z := z) hs l q hq
        obtain ⟨l', h1, h2⟩ := bO_ring hs l q hq (show bO sp n z l q < bO (spr g sp) n z l q by omega)
        exact star l' (by omega) (Int.le_trans h2 ge)
      refine ⟨?_, eq, ge⟩
      unfold onw
      have es : spr g sp p q = sp p q := by unfold spr; rw [if_neg qg]
      rw [es, eq, if_neg c, e, hv]
  obtain ⟨f1, f2, f3⟩ := h
  obtain ⟨k1, k2, k3⟩ := fw b f1 f2
  refine ⟨⟨f1, k1, fun c hc e => f3 c hc ?_⟩, k2, k3⟩
  have cn : c < n := Nat.lt_trans hc f1
  have e : onw opO (spr g sp) (bO (spr g sp) n z l) p c = bO (spr g sp) n z (l + 1) p := e
  rw [hv] at e
  have lo : bO sp n z (l + 1) p ≤ onw opO sp (bO sp n z l) p c := by
    rw [bO_s, if_neg pz]
    exact (mn_le n).2 c cn
  have hi : onw opO sp (bO sp n z l) p c ≤ bO sp n z (l + 1) p := by
    unfold onw at e
    split at e
    · exact absurd e.symm nw
    · rename_i c'
      have es : spr g sp p c = sp p c := by
        unfold spr at c' ⊢
        split
        · rename_i e; exact absurd (.inl (if_pos e)) c'
        · rfl
      rw [es] at c' e
      have ih := bO_mono (g := g) (z := z) hs l c cn
      have r1 := bO_rng (z := z) hs l c cn
      have r2 := bO_rng (z := z) (okO_r (g := g) hs) l c cn
      have nb : bO sp n z l c ≠ 4000000000000000000 := by
        have : bO (spr g sp) n z l c ≠ 4000000000000000000 := fun q => c' (.inr q)
        omega
      unfold onw
      rw [if_neg (fun q => q.elim (fun q => c' (.inl q)) nb), ← e]
      refine opO_mono ih ?_
      rcases hs p c hp cn with s | s
      · exact absurd (.inl s) c'
      · omega
  exact Int.le_antisymm hi lo
