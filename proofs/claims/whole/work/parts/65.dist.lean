/-! distances: positive weights (0: no step), at most 12 places, F: out of reach -/
def isD (n : Nat) (W : Nat → Nat → Int) (z : Nat) (F : Int) (D : Nat → Int) : Prop :=
  D z = 0 ∧ (∀ a, a < n → 0 ≤ D a ∧ D a ≤ F) ∧ (∀ a b, a < n → b < n → 0 < W a b → D b < F → D a ≤ W a b + D b) ∧ ∀ a, a < n → a ≠ z → D a < F → ∃ b, b < n ∧ 0 < W a b ∧ D b < F ∧ D a = W a b + D b
/-- on the way there: what stands can be gone -/
def vD (n : Nat) (W : Nat → Nat → Int) (z : Nat) (F : Int) (v : Nat → Int) : Prop :=
  v z = 0 ∧ (∀ a, a < n → 0 ≤ v a ∧ v a ≤ F) ∧ ∀ a, a < n → a ≠ z → v a < F → ∃ b, b < n ∧ 0 < W a b ∧ v b < F ∧ W a b + v b ≤ v a
theorem isD_v {n : Nat} {W : Nat → Nat → Int} {z : Nat} {F : Int} {D : Nat → Int} (h : isD n W z F D) : vD n W z F D :=
  ⟨h.1, h.2.1, fun a ha hz hf => by obtain ⟨b, h1, h2, h3, h4⟩ := h.2.2.2 a ha hz hf; exact ⟨b, h1, h2, h3, by omega⟩⟩
theorem isD_le {n : Nat} {W : Nat → Nat → Int} {z : Nat} {F : Int} {D v : Nat → Int} (h : isD n W z F D) (g : vD n W z F v) : ∀ m : Nat, ∀ a, a < n → (v a).toNat < m → D a ≤ v a
  | 0, a, _, hm => by omega
  | m + 1, a, ha, hm => by
    by_cases hz : a = z
    · rw [hz, h.1, g.1]; omega
    · have h1 := h.2.1 a ha
      have g1 := g.2.1 a ha
      by_cases hf : v a < F
      · obtain ⟨b, hb, hw, hbf, hle⟩ := g.2.2 a ha hz hf
        have gb := g.2.1 b hb
        have ih := isD_le h g m b hb (by omega)
        have := h.2.2.1 a b ha hb hw (by omega)
        omega
      · omega
theorem isD_lv {n : Nat} {W : Nat → Nat → Int} {z : Nat} {F : Int} {D v : Nat → Int} (h : isD n W z F D) (g : vD n W z F v) {a : Nat} (ha : a < n) : D a ≤ v a := isD_le h g ((v a).toNat + 1) a ha (by omega)
theorem isD_u {n : Nat} {W : Nat → Nat → Int} {z : Nat} {F : Int} {D D' : Nat → Int} (h : isD n W z F D) (h' : isD n W z F D') {a : Nat} (ha : a < n) : D a = D' a := by
  have := isD_lv h (isD_v h') ha
  have := isD_lv h' (isD_v h) ha
  omega
theorem isD_of {n : Nat} {W : Nat → Nat → Int} {z : Nat} {F : Int} {v : Nat → Int} (g : vD n W z F v) (f : ∀ a b, a < n → b < n → 0 < W a b → v b < F → v a ≤ W a b + v b) : isD n W z F v :=
  ⟨g.1, g.2.1, f, fun a ha hz hf => by
    obtain ⟨b, h1, h2, h3, h4⟩ := g.2.2 a ha hz hf
    have := f a b ha h1 h2 h3
    exact ⟨b, h1, h2, h3, by omega⟩⟩
def sD (v : Nat → Int) : Nat → Nat
  | 0 => 0
  | n + 1 => sD v n + (v n).toNat
theorem sD_le {v w : Nat → Int} : ∀ n, (∀ a, a < n → (w a).toNat ≤ (v a).toNat) → sD w n ≤ sD v n
  | 0, _ => Nat.le_refl _
  | n + 1, h => by
    have := sD_le n (fun a ha => h a (by omega))
    have := h n (by omega)
    show sD w n + _ ≤ sD v n + _
    omega
theorem sD_lt {v w : Nat → Int} : ∀ n, (∀ a, a < n → (w a).toNat ≤ (v a).toNat) → (∃ a, a < n ∧ (w a).toNat < (v a).toNat) → sD w n < sD v n
  | 0, _, ⟨a, ha, _⟩ => by omega
  | n + 1, h, ⟨a, ha, hl⟩ => by
    have h1 := h n (by omega)
    show sD w n + _ < sD v n + _
    by_cases e : a = n
    · subst e
      have := sD_le a (fun b hb => h b (by omega))
      omega
    · have := sD_lt n (fun b hb => h b (by omega)) ⟨a, by omega, hl⟩
      omega
/-- one step taken into account -/
theorem vD_up {n : Nat} {W : Nat → Nat → Int} {z : Nat} {F : Int} {v : Nat → Int} (g : vD n W z F v) {a b : Nat} (ha : a < n) (hb : b < n) (hw : 0 < W a b) (hf : v b < F) (hl : W a b + v b < v a) : vD n W z F (fun c => if c = a then W a b + v b else v c) := by
  have ga := g.2.1 a ha
  have gb := g.2.1 b hb
  have az : a ≠ z := fun e => by
    have : v a = 0 := by rw [e]; exact g.1
    omega
  have ba : b ≠ a := fun e => by
    have : v b = v a := by rw [e]
    omega
  have e1 : ∀ c, c ≠ a → (if c = a then W a b + v b else v c) = v c := fun c hc => if_neg hc
  refine ⟨by dsimp only; rw [e1 z (fun e => az e.symm)]; exact g.1, fun c hc => ?_, fun c hc hz hcf => ?_⟩
  · dsimp only
    by_cases e : c = a
    · rw [if_pos e]; omega
    · rw [if_neg e]; exact g.2.1 c hc
  · dsimp only at hcf ⊢
    by_cases e : c = a
    · refine ⟨b, hb, by rw [e]; exact hw, by rw [if_neg ba]; exact hf, ?_⟩
      rw [if_neg ba, if_pos e, e]; omega
    · rw [if_neg e] at hcf ⊢
      obtain ⟨x, h1, h2, h3, h4⟩ := g.2.2 c hc hz hcf
      refine ⟨x, h1, h2, ?_, ?_⟩
      · by_cases ex : x = a
        · rw [if_pos ex]; omega
        · rw [if_neg ex]; exact h3
      · by_cases ex : x = a
        · rw [if_pos ex]; rw [ex] at h4 ⊢; omega
        · rw [if_neg ex]; exact h4
theorem isD_ex {n : Nat} {W : Nat → Nat → Int} {z : Nat} {F : Int} : ∀ m : Nat, ∀ v, vD n W z F v → sD v n < m → ∃ D, isD n W z F D
  | 0, _, _, hm => by omega
  | m + 1, v, g, hm => by
    by_cases f : ∀ a b, a < n → b < n → 0 < W a b → v b < F → v a ≤ W a b + v b
    · exact ⟨v, isD_of g f⟩
    · simp only [Classical.not_forall] at f
      obtain ⟨a, b, ha, hb, hw, hf, hl⟩ := f
      have hl : W a b + v b < v a := by omega
      have gb := g.2.1 b hb
      refine isD_ex m _ (vD_up g ha hb hw hf hl) (Nat.lt_of_lt_of_le (sD_lt (v := v) n (fun c hc => ?_) ⟨a, ha, ?_⟩) (by omega))
      · by_cases e : c = a
        · rw [if_pos e, e]; omega
        · rw [if_neg e]; omega
      · rw [if_pos rfl]; omega
