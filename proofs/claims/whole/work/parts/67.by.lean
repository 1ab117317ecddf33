/-! how many days to the sea: by, leastBy -/
def dW (C : zCt) (N : zEn) (a b : Nat) : Int := if thN C N a = true ∧ thN C N b = true then ngv N a b else 0
def byV (C : zCt) (N : zEn) (v : Nat → Int) (a b : Nat) : Int := if 0 < ngv N a b ∧ thN C N b = true then ngv N a b + v b else 1000000
section BY
variable {E : zE} {d : Nat} {h : zS}
theorem c_by {k0 : Nat} {C : zCt} {N : zEn} {v : Nat → Int} {a b : Nat} {Q : Int → zS → Prop} (hk0 : isEarnest k0) (hC : okC C) (hN : okN C N) (wN : XEarn h k0 C N) (hv : ∀ i, i < cn C → hI h (k0 + 11) i = v i ∧ 0 ≤ v i ∧ v i ≤ 1000000) (ha : a < cn C) (hb : b < cn C) (HQ : Q (byV C N v a b) h) : zCi E (d + 1) m_X1_by [vo k0, vi a, vi b] h Q := by
  have hn12 := hC.1
  have g := (hN.2.2.2.2.2.2.1 a b).1
  have w5 := wN.2.2.2.2.1 a b (by omega) (by omega)
  unfold byV at HQ
  refine v_X1_by hk0 ?_
  refine c_pair (by omega) (by omega) ⟨by omega, ?_⟩
  simp only [Int.toNat_natCast]
  rw [w5]
  refine ⟨fun c => ?_, fun c => ?_⟩
  · rw [if_neg (by omega)] at HQ; exact HQ
  · rw [wN.2.1.1]
    refine c_isIn (bset_lt _) (by omega) ?_
    rw [thN_t hn12 hb]
    cases t : thN C N b with
    | false =>
      rw [if_neg (fun q => by have := q.2; rw [t] at this; cases this)] at HQ
      exact ⟨fun _ => HQ, fun e => absurd rfl e⟩
    | true =>
      rw [if_pos ⟨c, t⟩] at HQ
      refine ⟨fun e => by simp at e, fun _ => ⟨by omega, ?_⟩⟩
      have q := hv b hb
      rw [q.1, w32_id (by omega) (by omega)]
      exact HQ
theorem c_leastBy {k0 k1 : Nat} {C : zCt} {N : zEn} {v : Nat → Int} {a : Nat} {Q : Int → zS → Prop} (hk0 : isEarnest k0) (hk1 : isCity k1) (hC : okC C) (hn : hI h k1 0 = (cn C : Int)) (hN : okN C N) (wN : XEarn h k0 C N) (hv : ∀ i, i < cn C → hI h (k0 + 11) i = v i ∧ 0 ≤ v i ∧ v i ≤ 1000000) (ha : a < cn C)
    (HQ : ∀ y, y ≤ 1000000 → (∀ b, b < cn C → y ≤ byV C N v a b) → (y = 1000000 ∨ ∃ b, b < cn C ∧ y = byV C N v a b) → Q y h) : zCi E (d + 2) m_X1_leastBy [vo k0, vo k1, vi a] h Q := by
  have hn12 := hC.1
  refine v_X1_leastBy hk0 hk1 ?_
  refine z_upS (n := cn C) (fun i (y : Int) => zWi E (d + 1 + 1) m_X1_leastBy 6 [vo k0, vo k1, vi a, vi y, vi i] h Q) (fun i y => y ≤ 1000000 ∧ (∀ b, b < i → y ≤ byV C N v a b) ∧ (y = 1000000 ∨ ∃ b, b < cn C ∧ y = byV C N v a b)) ?_ ?_ 0 1000000 (by omega) ⟨by omega, fun b hb => by omega, .inl rfl⟩
  · rintro y ⟨y1, y2, y3⟩
    exact r_X1_leastBy_6 hk0 hk1 ⟨fun _ => HQ y y1 y2 y3, fun c => by rw [hn] at c; omega⟩
  · rintro i y hi ⟨y1, y2, y3⟩ ih
    refine r_X1_leastBy_6 hk0 hk1 ⟨fun c => by rw [hn] at c; omega, fun _ => ?_⟩
    rw [w32s (by omega)]
    refine c_by hk0 hC hN wN hv ha hi ?_
    rintro y' hy
    by_cases c : byV C N v a i < y
    · rw [if_pos c] at hy
      refine ih y' ⟨by omega, fun b hb => ?_, .inr ⟨i, hi, hy⟩⟩
      by_cases e : b = i
      · rw [e, hy]; omega
      · have := y2 b (by omega); omega
    · rw [if_neg c] at hy
      refine ih y' ⟨by omega, fun b hb => ?_, by rw [hy]; exact y3⟩
      by_cases e : b = i
      · rw [e, hy]; omega
      · have := y2 b (by omega); omega
end BY
