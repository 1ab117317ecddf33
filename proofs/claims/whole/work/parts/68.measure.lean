/-! measure -/
def dOk (C : zCt) (N : zEn) (v : Nat → Int) : Prop := (∃ z : Nat, cse C = z ∧ z < cn C ∧ thN C N z = true ∧ isD (cn C) (dW C N) z 1000000 v) ∨ ((¬ ∃ z : Nat, cse C = z ∧ z < cn C ∧ thN C N z = true) ∧ ∀ a, a < cn C → v a = 1000000)
theorem dOk_u {C : zCt} {N : zEn} {v w : Nat → Int} (a : dOk C N v) (b : dOk C N w) : ∀ i, i < cn C → v i = w i := by
  intro i hi
  rcases a with ⟨z, a1, a2, a3, a4⟩ | ⟨a1, a2⟩ <;> rcases b with ⟨y, b1, b2, b3, b4⟩ | ⟨b1, b2⟩
  · have : y = z := by omega
    subst this
    exact isD_u a4 b4 hi
  · exact absurd ⟨z, a1, a2, a3⟩ b1
  · exact absurd ⟨y, b1, b2, b3⟩ a1
  · rw [a2 i hi, b2 i hi]
theorem dW_pos {C : zCt} {N : zEn} {a b : Nat} (h : 0 < dW C N a b) : thN C N a = true ∧ thN C N b = true ∧ dW C N a b = ngv N a b ∧ 0 < ngv N a b := by
  unfold dW at *
  by_cases c : thN C N a = true ∧ thN C N b = true
  · rw [if_pos c] at h ⊢; exact ⟨c.1, c.2, rfl, h⟩
  · rw [if_neg c] at h; omega
theorem dW_by {C : zCt} {N : zEn} {v : Nat → Int} {a b : Nat} (h : 0 < dW C N a b) : byV C N v a b = dW C N a b + v b := by
  obtain ⟨h1, h2, h3, h4⟩ := dW_pos h
  unfold byV
  rw [if_pos ⟨h4, h2⟩, h3]
theorem by_dW {C : zCt} {N : zEn} {v : Nat → Int} {a b : Nat} (ta : thN C N a = true) (hl : byV C N v a b < 1000000) : 0 < dW C N a b ∧ byV C N v a b = dW C N a b + v b := by
  unfold byV at hl
  by_cases c : 0 < ngv N a b ∧ thN C N b = true
  · have e : dW C N a b = ngv N a b := by unfold dW; rw [if_pos ⟨ta, c.2⟩]
    have p : 0 < dW C N a b := by rw [e]; exact c.1
    exact ⟨p, dW_by p⟩
  · rw [if_neg c] at hl; omega
theorem vD_0 {C : zCt} {N : zEn} {z : Nat} : vD (cn C) (dW C N) z 1000000 (fun i => if i = z then 0 else 1000000) := by
  refine ⟨if_pos rfl, fun a _ => ?_, fun a _ hz hf => ?_⟩
  · dsimp only; split <;> omega
  · dsimp only at hf; rw [if_neg hz] at hf; omega
