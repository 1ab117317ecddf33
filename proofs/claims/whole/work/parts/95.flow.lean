/-! flows: sums, cuts -/
def sm (F : Nat → Int) : Nat → Int
  | 0 => 0
  | n + 1 => sm F n + F n
theorem sm_ext {F G : Nat → Int} : ∀ n, (∀ i, i < n → F i = G i) → sm F n = sm G n
  | 0, _ => rfl
  | n + 1, h => by
    show sm F n + F n = sm G n + G n
    rw [sm_ext n (fun i hi => h i (by omega)), h n (by omega)]
theorem sm_le {F G : Nat → Int} : ∀ n, (∀ i, i < n → F i ≤ G i) → sm F n ≤ sm G n
  | 0, _ => Int.le_refl _
  | n + 1, h => by
    have := sm_le n (fun i hi => h i (by omega))
    have := h n (by omega)
    show sm F n + F n ≤ sm G n + G n
    omega
theorem sm_add {F G : Nat → Int} : ∀ n, sm (fun i => F i + G i) n = sm F n + sm G n
  | 0 => rfl
  | n + 1 => by
    have := sm_add (F := F) (G := G) n
    show sm (fun i => F i + G i) n + (F n + G n) = sm F n + F n + (sm G n + G n)
    omega
theorem sm_neg {F : Nat → Int} : ∀ n, sm (fun i => -(F i)) n = -(sm F n)
  | 0 => rfl
  | n + 1 => by
    have := sm_neg (F := F) n
    show sm (fun i => -(F i)) n + -(F n) = -(sm F n + F n)
    omega
theorem sm_0 : ∀ n, sm (fun _ => 0) n = 0
  | 0 => rfl
  | n + 1 => by
    have := sm_0 n
    show sm (fun _ => 0) n + 0 = 0
    omega
theorem sm_z {F : Nat → Int} {n : Nat} (h : ∀ i, i < n → F i = 0) : sm F n = 0 := (sm_ext n h).trans (sm_0 n)
theorem sm_nn {F : Nat → Int} {n : Nat} (h : ∀ i, i < n → 0 ≤ F i) : 0 ≤ sm F n := by
  have := sm_le (F := fun _ => 0) (G := F) n h
  rw [sm_0] at this; exact this
theorem sm_one {F G : Nat → Int} {j : Nat} {x : Int} : ∀ n, j < n → (∀ i, i < n → i ≠ j → G i = F i) → G j = F j + x → sm G n = sm F n + x
  | 0, h, _, _ => by omega
  | n + 1, h, h1, h2 => by
    show sm G n + G n = sm F n + F n + x
    by_cases e : j = n
    · have q := sm_ext (F := G) (G := F) n (fun i hi => h1 i (by omega) (by omega))
      rw [e] at h2
      omega
    · have := sm_one n (by omega) (fun i hi hj => h1 i (by omega) hj) h2
      have := h1 n (by omega) (by omega)
      omega
theorem sm_ge {F : Nat → Int} {j n : Nat} (hj : j < n) (h : ∀ i, i < n → 0 ≤ F i) : F j ≤ sm F n := by
  have q := sm_one (F := fun i => if i = j then 0 else F i) (G := F) (j := j) (x := F j) n hj (fun i _ hi => by rw [if_neg hi]) (by rw [if_pos rfl]; omega)
  have := sm_nn (F := fun i => if i = j then 0 else F i) (n := n) (fun i hi => by split; exact Int.le_refl _; exact h i hi)
  omega
theorem sm_mul {F : Nat → Int} {a : Int} : ∀ n, sm (fun i => a * F i) n = a * sm F n
  | 0 => by show (0 : Int) = a * 0; rw [Int.mul_zero]
  | n + 1 => by
    have := sm_mul (F := F) (a := a) n
    show sm (fun i => a * F i) n + a * F n = a * (sm F n + F n)
    rw [this, Int.mul_add]
theorem sm_swap {G : Nat → Nat → Int} {m : Nat} : ∀ n, sm (fun x => sm (fun y => G x y) m) n = sm (fun y => sm (fun x => G x y) n) m
  | 0 => by
    show 0 = sm (fun y => 0) m
    rw [sm_0]
  | n + 1 => by
    have ih := sm_swap (G := G) (m := m) n
    show sm (fun x => sm (fun y => G x y) m) n + sm (fun y => G n y) m = sm (fun y => sm (fun x => G x y) n + G n y) m
    rw [ih, sm_add]
theorem sm_pair {F : Nat → Int} : ∀ n, sm F (2 * n) = sm (fun i => F (2 * i) + F (2 * i + 1)) n
  | 0 => rfl
  | n + 1 => by
    have ih := sm_pair (F := F) n
    have e : 2 * (n + 1) = 2 * n + 1 + 1 := by omega
    rw [e]
    show sm F (2 * n) + F (2 * n) + F (2 * n + 1) = sm (fun i => F (2 * i) + F (2 * i + 1)) n + (F (2 * n) + F (2 * n + 1))
    omega
def ind (b : Bool) : Int := if b then 1 else 0
theorem ind_nn (b : Bool) : 0 ≤ ind b ∧ ind b ≤ 1 := by unfold ind; split <;> omega
/-- a flow of k: what is left of the room c -/
def FL (c f : Nat → Nat → Int) (fr to : Nat) (k : Int) : Prop :=
  (∀ x y, x < 24 → y < 24 → 0 ≤ f x y) ∧ (∀ x y, x < 24 → y < 24 → f x y + f y x = c x y + c y x) ∧ ∀ x, x < 24 → x ≠ to → sm (fun y => c x y - f x y) 24 = if x = fr then k else 0
def cutS (c : Nat → Nat → Int) (R : Nat → Bool) : Int := sm (fun x => sm (fun y => ind (R x && !R y) * c x y) 24) 24
theorem FL_cut {c f : Nat → Nat → Int} {fr to : Nat} {k : Int} (w : FL c f fr to k) {R : Nat → Bool} (hf : fr < 24) (h1 : R fr = true) (h2 : R to = false) : k = cutS (fun x y => c x y - f x y) R := by
  obtain ⟨w1, w2, w3⟩ := w
  have a1 : sm (fun x => ind (R x) * sm (fun y => c x y - f x y) 24) 24 = k := by
    have q := sm_one (F := fun _ => 0) (G := fun x => ind (R x) * sm (fun y => c x y - f x y) 24) (j := fr) (x := k) 24 hf (fun x hx xf => ?_) ?_
    · rw [q, sm_0]; omega
    · by_cases xt : x = to
      · rw [xt, h2]; unfold ind; rw [if_neg (by simp)]; omega
      · rw [w3 x hx xt, if_neg xf]; omega
    · have ft : fr ≠ to := fun e => by rw [e, h2] at h1; cases h1
      rw [h1, w3 fr hf ft, if_pos rfl]; unfold ind; rw [if_pos rfl]; omega
  have a2 : sm (fun x => ind (R x) * sm (fun y => c x y - f x y) 24) 24 = cutS (fun x y => c x y - f x y) R + sm (fun x => sm (fun y => ind (R x && R y) * (c x y - f x y)) 24) 24 := by
    unfold cutS
    rw [← sm_add]
    refine sm_ext 24 (fun x _ => ?_)
    rw [← sm_mul, ← sm_add]
    refine sm_ext 24 (fun y _ => ?_)
    cases R x <;> cases R y <;> simp [ind]
  have a3 : sm (fun x => sm (fun y => ind (R x && R y) * (c x y - f x y)) 24) 24 = -(sm (fun x => sm (fun y => ind (R x && R y) * (c x y - f x y)) 24) 24) := by
    have s1 := sm_swap (G := fun x y => ind (R x && R y) * (c x y - f x y)) (m := 24) 24
    rw [s1]
    have s2 : sm (fun y => sm (fun x => ind (R x && R y) * (c x y - f x y)) 24) 24 = -(sm (fun x => sm (fun y => ind (R x && R y) * (c x y - f x y)) 24) 24) := by
      rw [← sm_neg]
      refine sm_ext 24 (fun y hy => ?_)
      rw [← sm_neg]
      refine sm_ext 24 (fun x hx => ?_)
      have := w2 x y hx hy
      have e : c x y - f x y = -(c y x - f y x) := by omega
      rw [e, Bool.and_comm]
      rw [Int.mul_neg]
    rw [← s1] at s2 ⊢
    exact s2
  omega
theorem FL_le {c f : Nat → Nat → Int} {fr to : Nat} {k : Int} (w : FL c f fr to k) {R : Nat → Bool} (hf : fr < 24) (h1 : R fr = true) (h2 : R to = false) : k ≤ cutS c R := by
  rw [FL_cut w hf h1 h2]
  refine sm_le 24 (fun x hx => sm_le 24 (fun y hy => ?_))
  have := w.1 x y hx hy
  exact Int.mul_le_mul_of_nonneg_left (show c x y - f x y ≤ c x y by omega) (ind_nn _).1
theorem FL_eq {c f : Nat → Nat → Int} {fr to : Nat} {k : Int} (w : FL c f fr to k) {R : Nat → Bool} (hf : fr < 24) (h1 : R fr = true) (h2 : R to = false) (h3 : ∀ x y, x < 24 → y < 24 → R x = true → R y = false → f x y = 0) : k = cutS c R := by
  rw [FL_cut w hf h1 h2]
  refine sm_ext 24 (fun x hx => sm_ext 24 (fun y hy => ?_))
  cases rx : R x
  · simp [ind]
  · cases ry : R y
    · show ind (true && !false) * (c x y - f x y) = _
      rw [h3 x y hx hy rx ry]; simp
    · simp [ind]
/-- one step of a better flow, from the end backwards -/
def FT (c f : Nat → Nat → Int) (fr to : Nat) (k : Int) (u : Nat) : Prop :=
  (∀ x y, x < 24 → y < 24 → 0 ≤ f x y) ∧ (∀ x y, x < 24 → y < 24 → f x y + f y x = c x y + c y x) ∧ ∀ x, x < 24 → x ≠ to → sm (fun y => c x y - f x y) 24 = (if x = fr then k else 0) + (if x = u then 1 else 0)
def upF (f : Nat → Nat → Int) (p u : Nat) (x y : Nat) : Int := if x = p ∧ y = u then f p u - 1 else if x = u ∧ y = p then f u p + 1 else f x y
theorem FT_s {c f : Nat → Nat → Int} {fr to p u : Nat} {k : Int} (w : FT c f fr to k u) (hp : p < 24) (hu : u < 24) (pu : p ≠ u) (pt : p ≠ to) (pos : 1 ≤ f p u) : FT c (upF f p u) fr to k p := by
  obtain ⟨w1, w2, w3⟩ := w
  refine ⟨fun x y hx hy => ?_, fun x y hx hy => ?_, fun x hx xt => ?_⟩
  · unfold upF
    split
    · omega
    · split
      · have := w1 u p hu hp; omega
      · exact w1 x y hx hy
  · have q := w2 x y hx hy
    unfold upF
    by_cases e1 : x = p ∧ y = u
    · rw [if_pos e1, if_neg (by omega), if_pos (by omega)]
      rw [e1.1, e1.2] at q ⊢
      omega
    · by_cases e2 : x = u ∧ y = p
      · rw [if_neg e1, if_pos e2, if_pos (by omega)]
        rw [e2.1, e2.2] at q ⊢
        omega
      · rw [if_neg e1, if_neg e2, if_neg (by omega), if_neg (by omega)]
        exact q
  · have q := w3 x hx xt
    by_cases e1 : x = p
    · have s := sm_one (F := fun y => c x y - f x y) (G := fun y => c x y - upF f p u x y) (j := u) (x := 1) 24 hu (fun y _ hy => by
        unfold upF
        rw [if_neg (by omega), if_neg (by omega)]) (by
        unfold upF
        rw [if_pos ⟨e1, rfl⟩, e1]; omega)
      rw [s, q, if_pos e1, if_neg (show ¬ x = u by omega)]
      omega
    · by_cases e2 : x = u
      · have s := sm_one (F := fun y => c x y - f x y) (G := fun y => c x y - upF f p u x y) (j := p) (x := -1) 24 hp (fun y _ hy => by
          unfold upF
          rw [if_neg (by omega), if_neg (by omega)]) (by
          unfold upF
          rw [if_neg (by omega), if_pos ⟨e2, rfl⟩, e2]; omega)
        rw [s, q, if_neg e1, if_pos e2]
        omega
      · have s := sm_ext (F := fun y => c x y - upF f p u x y) (G := fun y => c x y - f x y) 24 (fun y _ => by
          unfold upF
          rw [if_neg (by omega), if_neg (by omega)])
        rw [s, q, if_neg e1, if_neg e2]
