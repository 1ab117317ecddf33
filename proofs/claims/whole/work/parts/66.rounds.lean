/-! distances: a round makes one more right -/
def rD (n : Nat) (W : Nat → Nat → Int) (F : Int) (v v' : Nat → Int) : Prop := (∀ a, a < n → v' a ≤ v a) ∧ ∀ a b, a < n → b < n → 0 < W a b → v b < F → v' a ≤ W a b + v b
noncomputable def nf (n : Nat) (D v : Nat → Int) : Nat := bset (fun a => decide (a < n) && decide (v a ≠ D a))
theorem nf_t {n : Nat} {D v : Nat → Int} {a : Nat} (hn : n ≤ 12) : (nf n D v).testBit a = true ↔ a < n ∧ v a ≠ D a := by
  unfold nf
  rw [bset_t]
  simp only [Bool.and_eq_true, decide_eq_true_eq]
  exact ⟨fun q => q.2, fun q => ⟨by omega, q⟩⟩
theorem nf_min {n : Nat} {D v : Nat → Int} : ∀ m : Nat, ∀ a, a < n → v a ≠ D a → (∀ b, b < n → 0 ≤ D b) → (D a).toNat < m → ∃ a, a < n ∧ v a ≠ D a ∧ ∀ b, b < n → D b < D a → v b = D b
  | 0, _, _, _, _, hm => by omega
  | m + 1, a, ha, hv, h0, hm => by
    by_cases g : ∀ b, b < n → D b < D a → v b = D b
    · exact ⟨a, ha, hv, g⟩
    · simp only [Classical.not_forall] at g
      obtain ⟨b, hb, hl, hne⟩ := g
      have := h0 b hb
      exact nf_min m b hb hne h0 (by omega)
theorem nf_down {n : Nat} {W : Nat → Nat → Int} {z : Nat} {F : Int} {D v v' : Nat → Int} (hn : n ≤ 12) (hz : z < n) (h : isD n W z F D) (g : vD n W z F v) (g' : vD n W z F v') (r : rD n W F v v') : nf n D v = 0 ∨ pc12 (nf n D v') < pc12 (nf n D v) := by
  by_cases e : nf n D v = 0
  · exact .inl e
  · refine .inr ?_
    obtain ⟨i, hi, ti⟩ := ne0_bit e (bset_lt _)
    have ti := (nf_t hn).mp ti
    obtain ⟨a, ha, hv, hm⟩ := nf_min ((D i).toNat + 1) i ti.1 ti.2 (fun b hb => (h.2.1 b hb).1) (by omega)
    have la := isD_lv h g ha
    have la' := isD_lv h g' ha
    have az : a ≠ z := fun q => hv (by rw [q, g.1, h.1])
    have va := g.2.1 a ha
    obtain ⟨b, hb, hw, hbf, he⟩ := h.2.2.2 a ha az (by omega)
    have vb := hm b hb (by omega)
    have := r.2 a b ha hb hw (by omega)
    refine pc_lt (fun j _ q => (nf_t hn).mpr ?_) (i := a) (by omega) ((nf_t hn).mpr ⟨ha, hv⟩) ?_
    · have q := (nf_t hn).mp q
      refine ⟨q.1, fun q2 => q.2 ?_⟩
      have l1 := isD_lv h g' q.1
      have l2 := r.1 j q.1
      omega
    · cases q : (nf n D v').testBit a
      · rfl
      · exact absurd (by omega) ((nf_t hn).mp q).2
theorem nf_0 {n : Nat} {D v : Nat → Int} (hn : n ≤ 12) (e : nf n D v = 0) {a : Nat} (ha : a < n) : v a = D a := by
  refine Classical.byContradiction (fun q => ?_)
  have := (nf_t (D := D) (v := v) hn).mpr ⟨ha, q⟩
  rw [e, Nat.zero_testBit] at this
  cases this
