/-! the way that lies there: from each the first that leads on -/
def Ld (D : Nat → Int) (sp : Nat → Nat → Int) (p q : Nat) : Prop := 0 ≤ sp p q ∧ D q < kF ∧ D p = kW sp p q + D q
def nxI (n : Nat) (D : Nat → Int) (sp : Nat → Nat → Int) (p q : Nat) : Prop := q < n ∧ Ld D sp p q ∧ ∀ c, c < q → ¬ Ld D sp p c
theorem nat_least {P : Nat → Prop} : ∀ n, P n → ∃ b, b ≤ n ∧ P b ∧ ∀ c, c < b → ¬ P c := by
  intro n
  induction n using Nat.strongRecOn with
  | ind n ih =>
    intro h
    by_cases c : ∃ c, c < n ∧ P c
    · obtain ⟨c, hc, hp⟩ := c
      obtain ⟨b, h1, h2, h3⟩ := ih c hc hp
      exact ⟨b, by omega, h2, h3⟩
    · exact ⟨n, Nat.le_refl _, h, fun d hd hp => c ⟨d, hd, hp⟩⟩
theorem nx_ex {sp : Nat → Nat → Int} {n z : Nat} {D : Nat → Int} (hD : isD n (kW sp) z kF D) {a : Nat} (ha : a < n) (hz : a ≠ z) (hf : D a < kF) : ∃ b, nxI n D sp a b := by
  obtain ⟨b, hb, hw, hbf, he⟩ := hD.2.2.2 a ha hz hf
  obtain ⟨c, c1, c2, c3⟩ := nat_least (P := fun q => Ld D sp a q) b ⟨(kW_pos hw).1, hbf, he⟩
  exact ⟨c, by omega, c2, c3⟩
theorem nx_u {sp : Nat → Nat → Int} {n : Nat} {D : Nat → Int} {a b c : Nat} (h1 : nxI n D sp a b) (h2 : nxI n D sp a c) : b = c := by
  have q1 : ¬ b < c := fun l => h2.2.2 b l h1.2.1
  have q2 : ¬ c < b := fun l => h1.2.2 c l h2.2.1
  omega
noncomputable def nx (n : Nat) (D : Nat → Int) (sp : Nat → Nat → Int) (a : Nat) : Nat := Classical.epsilon (fun b => nxI n D sp a b)
theorem nx_is {sp : Nat → Nat → Int} {n : Nat} {D : Nat → Int} {a : Nat} (h : ∃ b, nxI n D sp a b) : nxI n D sp a (nx n D sp a) := Classical.epsilon_spec h
noncomputable def wy (n : Nat) (D : Nat → Int) (sp : Nat → Nat → Int) (g : Nat) : Nat → Nat
  | 0 => g
  | k + 1 => nx n D sp (wy n D sp g k)
theorem D_u {x : Int} {c m c' m' : Nat} (h : x = 1000 * c + m) (h' : x = 1000 * c' + m') (l : m < 1000) (l' : m' < 1000) : c = c' ∧ m = m' := by omega
theorem wy_ok {sp : Nat → Nat → Int} {n z : Nat} {D : Nat → Int} (hn : n ≤ 12) (hz : z < n) (hs : okSp sp n) (hD : isD n (kW sp) z kF D) {g c m : Nat} (hg : g < n) (hc : D g = 1000 * c + m) (hf : D g < kF) (hm : m < 1000) : ∀ k, k ≤ m → wy n D sp g k < n ∧ (∃ ck : Nat, D (wy n D sp g k) = 1000 * ck + (m - k : Nat) ∧ bL opA 0 sp n z (m - k) (wy n D sp g k) = ck) ∧ D (wy n D sp g k) < kF ∧ (k < m → wy n D sp g k ≠ z) ∧ (k = m → wy n D sp g k = z) := by
  have base : ∀ a k, a < n → k ≤ m → D a < kF → (∃ ck : Nat, D a = 1000 * ck + (m - k : Nat)) → (∃ ck : Nat, D a = 1000 * ck + (m - k : Nat) ∧ bL opA 0 sp n z (m - k) a = ck) ∧ (k < m → a ≠ z) ∧ (k = m → a = z) := by
    intro a k ha hk haf ⟨ck, h⟩
    obtain ⟨c', m', d1, d2, d3, d4⟩ := D_is hn hz hs hD ha haf
    obtain ⟨e1, e2⟩ := D_u d1 h (by omega) (by omega)
    subst e1
    subst e2
    refine ⟨⟨c', h, d4⟩, fun hl e => ?_, fun e => ?_⟩
    · rw [e, hD.1] at h; omega
    · refine Classical.byContradiction (fun az => ?_)
      obtain ⟨b, hb, hw, hbf, he⟩ := hD.2.2.2 a ha az haf
      have Db := (hD.2.1 b hb).1
      omega
  intro k
  induction k with
  | zero =>
    intro _
    obtain ⟨b1, b2, b3⟩ := base g 0 hg (by omega) hf ⟨c, by rw [hc]; rfl⟩
    exact ⟨hg, b1, hf, b2, b3⟩
  | succ k ih =>
    intro hk
    obtain ⟨i1, ⟨ck, i2, _⟩, i3, i4, _⟩ := ih (by omega)
    have nxt := nx_is (nx_ex hD i1 (i4 (by omega)) i3)
    obtain ⟨x1, ⟨x2, x3, x4⟩, _⟩ := nxt
    have e : wy n D sp g (k + 1) = nx n D sp (wy n D sp g k) := rfl
    rw [e]
    rw [kW_of x2] at x4
    have s := hs _ _ i1 x1
    obtain ⟨c', m', d1, d2, d3, d4⟩ := D_is hn hz hs hD x1 x3
    obtain ⟨b1, b2, b3⟩ := base _ (k + 1) x1 hk x3 ⟨c', by omega⟩
    exact ⟨x1, b1, x3, b2, b3⟩
/-- the class's first best is the first that leads -/
theorem fb_nx {sp : Nat → Nat → Int} {n z : Nat} {D : Nat → Int} (hs : okSp sp n) (hD : isD n (kW sp) z kF D) (hn : n ≤ 12) (hz : z < n) {a b c l : Nat} (hl : l ≤ 11) (ha : a < n) (haf : D a < kF) (hc : D a = 1000 * c + (l + 1 : Nat)) (hb : bL opA 0 sp n z (l + 1) a = c) (h : fbI opA 0 sp n z l a b) : nxI n D sp a b := by
  have key : ∀ q, q < n → (onw opA sp (bL opA 0 sp n z l) a q = bL opA 0 sp n z (l + 1) a ↔ Ld D sp a q) := by
    intro q hq
    have s := hs a q ha hq
    have r := bL_rng (z := z) hs l q hq
    have haf' : D a < 1001000000 := haf
    rw [hb]
    constructor
    · intro e
      unfold onw at e
      split at e
      · omega
      · rename_i c1
        have e : bL opA 0 sp n z l q + sp a q = c := e
        have s0 : 0 ≤ sp a q := by
          have : sp a q ≠ -1 := fun x => c1 (.inl x)
          omega
        have nb : bL opA 0 sp n z l q ≠ 4000000000000000000 := fun x => c1 (.inr x)
        have u := bL_ge hs hD l q (by omega) hq nb
        have fq : D q < kF := by show D q < 1001000000; omega
        have w := hD.2.2.1 a q ha hq (by rw [kW_of s0]; omega) fq
        rw [kW_of s0] at w
        refine ⟨s0, fq, ?_⟩
        rw [kW_of s0]; omega
    · rintro ⟨s0, fq, e⟩
      rw [kW_of s0] at e
      obtain ⟨c', m', d1, d2, d3, d4⟩ := D_is hn hz hs hD hq fq
      have m1 : m' = l := by omega
      subst m1
      unfold onw
      rw [if_neg (by omega)]
      show bL opA 0 sp n z m' q + sp a q = c
      omega
  refine ⟨h.1, (key b h.1).mp h.2.1, fun x hx q => ?_⟩
  have xn : x < n := Nat.lt_trans hx h.1
  exact h.2.2 x hx ((key x xn).mpr q)
/-- the least of all numbers of steps -/
theorem mn_D {sp : Nat → Nat → Int} {n z : Nat} {D : Nat → Int} (hs : okSp sp n) (hD : isD n (kW sp) z kF D) (hn : n ≤ 12) (hz : z < n) {g : Nat} (hg : g < n) : (D g = kF → mn (fun l => bL opA 0 sp n z l g) 12 = 4000000000000000000) ∧ ∀ c m : Nat, D g = 1000 * c + m → D g < kF → m < 1000 → mn (fun l => bL opA 0 sp n z l g) 12 = c ∧ am (fun l => bL opA 0 sp n z l g) 12 = m ∧ bL opA 0 sp n z m g = c ∧ m ≤ 11 ∧ c ≤ 10989 := by
  refine ⟨fun e => ?_, fun c m hc hf hm => ?_⟩
  · rcases mn_ex (f := fun l => bL opA 0 sp n z l g) 12 with q | ⟨l, hl, q⟩
    · exact q
    · have q : mn (fun l => bL opA 0 sp n z l g) 12 = bL opA 0 sp n z l g := q
      rw [q]
      refine Classical.byContradiction (fun x => ?_)
      have := bL_ge hs hD l g (by omega) hg x
      have r := bL_rng (z := z) hs l g hg
      have : (kF : Int) = 1001000000 := rfl
      omega
  · obtain ⟨c', m', d1, d2, d3, d4⟩ := D_is hn hz hs hD hg hf
    obtain ⟨e1, e2⟩ := D_u hc d1 hm (by omega)
    subst e1
    subst e2
    have u := (mn_le (f := fun l => bL opA 0 sp n z l g) 12).2 m (by omega)
    have u : mn (fun l => bL opA 0 sp n z l g) 12 ≤ bL opA 0 sp n z m g := u
    have ne : mn (fun l => bL opA 0 sp n z l g) 12 ≠ 4000000000000000000 := by omega
    obtain ⟨a1, a2, a3⟩ := am_is (f := fun l => bL opA 0 sp n z l g) 12 ne
    have a2 : bL opA 0 sp n z (am (fun l => bL opA 0 sp n z l g) 12) g = mn (fun l => bL opA 0 sp n z l g) 12 := a2
    have ge := bL_ge hs hD (am (fun l => bL opA 0 sp n z l g) 12) g (by omega) hg (by rw [a2]; exact ne)
    have a4 : m < am (fun l => bL opA 0 sp n z l g) 12 → mn (fun l => bL opA 0 sp n z l g) 12 < bL opA 0 sp n z m g := a3 m
    generalize am (fun l => bL opA 0 sp n z l g) 12 = x at *
    generalize mn (fun l => bL opA 0 sp n z l g) 12 = y at *
    rw [a2] at ge
    have c1 : y = c := by omega
    refine ⟨c1, ?_, d4, d3, by omega⟩
    by_cases lt : m < x
    · have := a4 lt; omega
    · omega
