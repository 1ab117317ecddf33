/-! origins: the two loops -/
section O3
variable {E : zE} {d : Nat} {h : zS}
noncomputable def orR (C : zCt) (Y : zNt) (x k : Int) : Int := if x = 0 then (orF C Y k (cn C)).1 else if x = 1 then ((orF C Y k (cn C)).2.1 : Nat) else (orF C Y k (cn C)).2.2
/-- where the model's inner loop is, d days on -/
def orV (s : Int × Nat × Int) (one : Nat) (y : Int) (dd : Nat) : Int × Nat × Int := if (y = 100 ∧ 0 < dd) ∨ (y ≠ 100 ∧ 0 ≤ y ∧ y < dd) then (s.1 + (if y ≠ 100 then 1 else (dd : Int)), s.2.1 ||| 2 ^ one, if s.2.2 ≠ -1 then s.2.2 else 100 * (one : Int) + (if y ≠ 100 then y else 0)) else s
theorem orV_t {s : Int × Nat × Int} {one : Nat} {y : Int} {dd : Nat} (c : (y = 100 ∧ 0 < dd) ∨ (y ≠ 100 ∧ 0 ≤ y ∧ y < dd)) : orV s one y dd = (s.1 + (if y ≠ 100 then 1 else (dd : Int)), s.2.1 ||| 2 ^ one, if s.2.2 ≠ -1 then s.2.2 else 100 * (one : Int) + (if y ≠ 100 then y else 0)) := if_pos c
theorem orV_e {s : Int × Nat × Int} {one : Nat} {y : Int} {dd : Nat} (c : ¬ ((y = 100 ∧ 0 < dd) ∨ (y ≠ 100 ∧ 0 ≤ y ∧ y < dd))) : orV s one y dd = s := if_neg c
theorem orV_0 {s : Int × Nat × Int} {one : Nat} {y : Int} : orV s one y 0 = s := orV_e (by omega)
theorem orV_100 {s : Int × Nat × Int} {one : Nat} {y : Int} (hy : y = -1 ∨ y = 100 ∨ (0 ≤ y ∧ y ≤ 99)) : orV s one y 100 = orU s one y := by
  by_cases c : y = -1
  · rw [orV_e (by omega)]; unfold orU; rw [if_pos c]
  · rw [orV_t (by omega)]; unfold orU; rw [if_neg c]; rfl
theorem orV_y {s : Int × Nat × Int} {one : Nat} {y : Int} {dd : Nat} (g : y = 100 ∨ (0 ≤ y ∧ y ≤ 99 ∧ (dd : Int) = y)) : orV s one y (dd + 1) = ((orV s one y dd).1 + 1, (orV s one y dd).2.1 ||| 2 ^ one, if (orV s one y dd).2.2 ≠ -1 then (orV s one y dd).2.2 else 100 * (one : Int) + dd) := by
  rw [orV_t (dd := dd + 1) (by omega)]
  by_cases c : y = 100
  · by_cases c2 : 0 < dd
    · rw [orV_t (dd := dd) (by omega)]
      simp only [c, ne_eq, not_true_eq_false, if_false]
      refine Prod.ext ?_ (Prod.ext ?_ ?_)
      · show s.1 + ((dd + 1 : Nat) : Int) = s.1 + (dd : Int) + 1
        omega
      · show s.2.1 ||| 2 ^ one = s.2.1 ||| 2 ^ one ||| 2 ^ one
        rw [Nat.or_assoc, Nat.or_self]
      · show (if ¬ s.2.2 = -1 then s.2.2 else 100 * (one : Int) + 0) = if ¬ (if ¬ s.2.2 = -1 then s.2.2 else 100 * (one : Int) + 0) = -1 then (if ¬ s.2.2 = -1 then s.2.2 else 100 * (one : Int) + 0) else 100 * (one : Int) + dd
        by_cases f : s.2.2 = -1
        · simp only [f, not_true_eq_false, if_false]
          rw [if_pos (by omega)]
        · simp only [f, not_false_eq_true, if_true]
    · have d0 : dd = 0 := by omega
      rw [orV_e (dd := dd) (by omega)]
      simp only [c, d0, ne_eq, not_true_eq_false, if_false]
      rfl
  · rw [orV_e (dd := dd) (by omega)]
    have e : (dd : Int) = y := by omega
    simp only [ne_eq, c, not_false_eq_true, if_true, e]
theorem orV_n {s : Int × Nat × Int} {one : Nat} {y : Int} {dd : Nat} (g : y = -1 ∨ (0 ≤ y ∧ y ≤ 99 ∧ (dd : Int) ≠ y)) : orV s one y (dd + 1) = orV s one y dd := by
  by_cases c : (y = 100 ∧ 0 < dd) ∨ (y ≠ 100 ∧ 0 ≤ y ∧ y < (dd : Int))
  · have c' : y ≠ 100 := by omega
    rw [orV_t c, orV_t (dd := dd + 1) (by omega)]
    simp only [ne_eq, c', not_false_eq_true, if_true]
  · rw [orV_e c, orV_e (dd := dd + 1) (by omega)]
end O3
