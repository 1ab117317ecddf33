/-! loops; how many are in a set -/
theorem z_up {n : Nat} (Wf : Nat → zS → Prop) (I : Nat → zS → Prop) (hend : ∀ h, I n h → Wf n h) (hstep : ∀ i h, i < n → I i h → (∀ h', I (i + 1) h' → Wf (i + 1) h') → Wf i h) : ∀ i h, i ≤ n → I i h → Wf i h := by
  have key : ∀ m i h, m + i = n → I i h → Wf i h := by
    intro m
    induction m with
    | zero => intro i h e w; have : i = n := by omega
              subst this; exact hend h w
    | succ m ih => intro i h e w; exact hstep i h (by omega) w (fun h' w' => ih (i + 1) h' (by omega) w')
  intro i h hi w
  exact key (n - i) i h (by omega) w
theorem z_upS {σ : Type} {n : Nat} (Wf : Nat → σ → Prop) (I : Nat → σ → Prop) (hend : ∀ s, I n s → Wf n s) (hstep : ∀ i s, i < n → I i s → (∀ s', I (i + 1) s' → Wf (i + 1) s') → Wf i s) : ∀ i s, i ≤ n → I i s → Wf i s := by
  have key : ∀ m i s, m + i = n → I i s → Wf i s := by
    intro m
    induction m with
    | zero => intro i s e w; have : i = n := by omega
              subst this; exact hend s w
    | succ m ih => intro i s e w; exact hstep i s (by omega) w (fun s' w' => ih (i + 1) s' (by omega) w')
  intro i s hi w
  exact key (n - i) i s (by omega) w
/-- a loop with a measure -/
theorem z_ms {σ : Type} (Wf : σ → Prop) (I : σ → Prop) (μ : σ → Nat) (hstep : ∀ s, I s → (∀ s', I s' → μ s' < μ s → Wf s') → Wf s) : ∀ s, I s → Wf s := by
  have key : ∀ m s, μ s < m → I s → Wf s := by
    intro m
    induction m with
    | zero => intro s h; omega
    | succ m ih => intro s h w; exact hstep s w (fun s' w' hl => ih s' (by omega) w')
  intro s w
  exact key (μ s + 1) s (by omega) w
theorem ct_le {p q : Nat → Bool} : ∀ l : List Nat, (∀ i, i ∈ l → p i = true → q i = true) → (l.filter p).length ≤ (l.filter q).length
  | [], _ => Nat.le_refl _
  | a :: l, h => by
    have ih := ct_le l (fun i hi => h i (List.mem_cons_of_mem _ hi))
    have ha := h a List.mem_cons_self
    simp only [List.filter_cons]
    cases hp : p a <;> cases hq : q a <;> simp <;> first | omega | (simp [hp, hq] at ha)
theorem ct_lt {p q : Nat → Bool} : ∀ l : List Nat, (∀ i, i ∈ l → p i = true → q i = true) → (∃ i, i ∈ l ∧ q i = true ∧ p i = false) → (l.filter p).length < (l.filter q).length
  | [], _, h => by obtain ⟨i, hi, _⟩ := h; simp at hi
  | a :: l, h, hx => by
    have hl := fun i hi => h i (List.mem_cons_of_mem _ hi)
    have ha := h a List.mem_cons_self
    obtain ⟨i, hi, h1, h2⟩ := hx
    simp only [List.filter_cons]
    by_cases e : i = a
    · subst e
      have := ct_le l hl
      simp [h1, h2]; omega
    · have ih := ct_lt l hl ⟨i, by simpa [e] using hi, h1, h2⟩
      cases hp : p a <;> cases hq : q a <;> simp <;> first | omega | (simp [hp, hq] at ha)
theorem pc_le {a b : Nat} (h : ∀ i, i < 12 → a.testBit i = true → b.testBit i = true) : pc12 a ≤ pc12 b := by
  rw [pc12_eq, pc12_eq]; exact ct_le _ (fun i hi => h i (List.mem_range.mp hi))
theorem pc_lt {a b : Nat} (h : ∀ i, i < 12 → a.testBit i = true → b.testBit i = true) {i : Nat} (hi : i < 12) (h1 : b.testBit i = true) (h2 : a.testBit i = false) : pc12 a < pc12 b := by
  rw [pc12_eq, pc12_eq]; exact ct_lt _ (fun i hi => h i (List.mem_range.mp hi)) ⟨i, List.mem_range.mpr hi, h1, h2⟩
theorem pc_12 (a : Nat) : pc12 a ≤ 12 := by
  rw [pc12_eq]; unfold pcC
  have := List.length_filter_le (fun i => a.testBit i) (List.range 12)
  simp only [List.length_range] at this
  exact this
theorem pc_0 {a : Nat} (ha : a < 4096) (h : pc12 a = 0) : a = 0 := by
  rw [pc12_eq] at h
  apply nat_bits ha (by omega)
  intro i hi
  have h1 : (List.range 12).filter (fun i => a.testBit i) = [] := List.eq_nil_of_length_eq_zero h
  have h2 := List.filter_eq_nil_iff.mp h1 i (List.mem_range.mpr hi)
  simp at h2 ⊢; exact h2
theorem pc_bit (a : Nat) (l : List Nat) (hn : l.Nodup) (q : Nat) (hq : a.testBit q = false) : (l.filter (fun i => (a ||| 2 ^ q).testBit i)).length = (l.filter (fun i => a.testBit i)).length + (if q ∈ l then 1 else 0) := by
  induction l with
  | nil => simp
  | cons b l ih =>
    obtain ⟨h1, h2⟩ := List.nodup_cons.mp hn
    have ih := ih h2
    simp only [List.filter_cons, Nat.testBit_or, zb_t2] at ih ⊢
    by_cases e : q = b
    · subst e
      have : ¬ q ∈ l := h1
      simp only [this, if_false] at ih
      simp [hq]
      simpa using ih
    · have e2 : decide (q = b) = false := by simpa using e
      simp only [e2, Bool.or_false, List.mem_cons, e, false_or]
      cases hb : a.testBit b <;> simp <;> rw [ih] <;> omega
theorem pc_or {a q : Nat} (hq : a.testBit q = false) (h : q < 12) : pc12 (a ||| 2 ^ q) = pc12 a + 1 := by
  rw [pc12_eq, pc12_eq]; unfold pcC
  rw [pc_bit a _ (List.nodup_range) q hq]
  simp [h]
theorem ne0_bit {a : Nat} (h : a ≠ 0) (ha : a < 4096) : ∃ i, i < 12 ∧ a.testBit i = true := by
  refine Classical.byContradiction (fun hn => h ?_)
  apply nat_bits ha (by omega)
  intro i hi
  have : ¬ a.testBit i = true := fun e => hn ⟨i, hi, e⟩
  simp at this ⊢; exact this
/-- those whom some of s know -/
def orK (s : Nat) (kf : Nat → Nat) : Nat → Nat
  | 0 => 0
  | n + 1 => if s.testBit n then orK s kf n ||| kf n else orK s kf n
theorem orK_lt {s : Nat} {kf : Nat → Nat} : ∀ n, (∀ i, i < n → kf i < 4096) → orK s kf n < 4096
  | 0, _ => by unfold orK; omega
  | n + 1, h => by
    have ih := orK_lt (s := s) n (fun i hi => h i (by omega))
    unfold orK
    split
    · exact zb_orlt ih (h n (by omega))
    · exact ih
theorem orK_t {s : Nat} {kf : Nat → Nat} {q : Nat} : ∀ n, (orK s kf n).testBit q = true ↔ ∃ p, p < n ∧ s.testBit p = true ∧ (kf p).testBit q = true
  | 0 => by simp [orK]
  | n + 1 => by
    have ih := orK_t (s := s) (kf := kf) (q := q) n
    unfold orK
    split
    · rename_i hs
      rw [Nat.testBit_or, Bool.or_eq_true, ih]
      constructor
      · rintro (⟨p, h1, h2, h3⟩ | h)
        · exact ⟨p, by omega, h2, h3⟩
        · exact ⟨n, by omega, hs, h⟩
      · rintro ⟨p, h1, h2, h3⟩
        by_cases e : p = n
        · subst e; exact Or.inr h3
        · exact Or.inl ⟨p, by omega, h2, h3⟩
    · rename_i hs
      rw [ih]
      constructor
      · rintro ⟨p, h1, h2, h3⟩; exact ⟨p, by omega, h2, h3⟩
      · rintro ⟨p, h1, h2, h3⟩
        by_cases e : p = n
        · subst e; exact absurd h2 hs
        · exact ⟨p, by omega, h2, h3⟩
