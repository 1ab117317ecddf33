/-! spies: what explains what was told -/
def eCt (Y : zNt) (e : Nat) (k : Int) : Prop := ea Y 3 e ≤ k ∧ (ea Y 4 e < 0 ∨ k < ea Y 4 e)
noncomputable def spOk (Y : zNt) (lu k : Int) (s e : Nat) : Prop := (ea Y 0 e = 0 ∧ eCt Y e k) → 0 ≤ ea Y 2 e - pc12 (s &&& (ea Y 1 e).toNat) ∧ ea Y 2 e - pc12 (s &&& (ea Y 1 e).toNat) ≤ lu
section SP
variable {E : zE} {d : Nat} {h : zS}
theorem c_M_ones {a : Nat} {Q : Int → zS → Prop} (ha : a < 4096) (HQ : Q (pc12 a : Nat) h) : zCi E d m_X10_ones [vi a] h Q := by
  refine v_X10_ones ?_
  have e12 : bset (seB 12 (fun j => if a.testBit j then 0 else -1)) = a := by
    apply nat_bits (bset_lt _) ha
    intro i hi
    rw [bset_t]
    cases hq : a.testBit i <;> simp [seB, hi, hq]
  refine z_upS (n := 12) (fun i (s : Int) => zWi E d m_X10_ones 4 [vi a, vi s, vi i] h Q) (fun i s => s = (pc12 (bset (seB i (fun j => if a.testBit j then 0 else -1))) : Nat)) ?_ ?_ 0 0 (by omega) (by rw [seB_0]; rfl)
  · rintro s rfl
    rw [e12]
    exact r_X10_ones_4 ⟨fun _ => HQ, fun c => by omega⟩
  · rintro i s hi rfl ih
    refine r_X10_ones_4 ⟨fun c => by omega, fun _ => ?_⟩
    rw [w32s (by omega), zb_bit (zb_lt ha) (by omega)]
    rintro y rfl
    refine ih _ ?_
    have hb := pc_12 (bset (seB i (fun j => if a.testBit j then 0 else -1)))
    rw [seB_up hi]
    cases hq : a.testBit i
    · simp only [Bool.false_eq_true, if_false]
      rw [w32_id (by omega) (by omega)]; simp
    · simp only [if_true]
      rw [w32_id (by omega) (by omega)]; simp
theorem c_counts {Y : zNt} {C : zCt} {e : Nat} {k : Int} {Q : Int → zS → Prop} (hY : okY C Y) (wY : XEnt h Y) (he : e < ec Y) (H1 : eCt Y e k → Q 1 h) (H0 : ¬ eCt Y e k → Q 0 h) : zCi E d m_X2_counts [vo 83, vi e, vi k] h Q := by
  have h40 := hY.1
  have q := wY.2.2 e he
  have r := hY.2.2 e he
  unfold eCt at H1 H0
  refine v_X2_counts ⟨by omega, ?_⟩
  simp only [Int.toNat_natCast]
  rw [q.2.2.2.1, q.2.2.2.2]
  exact ⟨fun c => H0 (by omega), fun c => ⟨fun c2 => H1 (by omega), fun c2 => ⟨fun c3 => H0 (by omega), fun c3 => H1 (by omega)⟩⟩⟩
theorem c_M_counts {Y : zNt} {C : zCt} {e : Nat} {s k : Int} {Q : Int → zS → Prop} (hY : okY C Y) (wY : MEnt h Y) (he : e < ec Y) (H1 : ea Y 0 e = s ∧ eCt Y e k → Q 1 h) (H0 : ¬ (ea Y 0 e = s ∧ eCt Y e k) → Q 0 h) : zCi E d m_X10_counts [vo 89, vi e, vi s, vi k] h Q := by
  have h40 := hY.1
  have q := wY.2.2 e he
  have r := hY.2.2 e he
  unfold eCt at H1 H0
  refine v_X10_counts ⟨by omega, ?_⟩
  simp only [Int.toNat_natCast]
  rw [q.1, q.2.2.2.1, q.2.2.2.2]
  exact ⟨fun c => H0 (by omega), fun c1 => ⟨fun c => H0 (by omega), fun c => ⟨fun c2 => H1 (by omega), fun c2 => ⟨fun c3 => H0 (by omega), fun c3 => H1 (by omega)⟩⟩⟩⟩
theorem c_explainedBy {Y : zNt} {C : zCt} {s : Nat} {lu k : Int} {Q : Int → zS → Prop} (hn12 : cn C ≤ 12) (hY : okY C Y) (wY : XEnt h Y) (hs : s < 4096) (H1 : (∀ e, e < ec Y → spOk Y lu k s e) → Q 1 h) (H0 : (¬ ∀ e, e < ec Y → spOk Y lu k s e) → Q 0 h) : zCi E (d + 1) m_X2_explainedBy [vo 83, vi s, vi lu, vi k] h Q := by
  have h40 := hY.1
  have p12 : 2 ^ cn C ≤ 2 ^ 12 := Nat.pow_le_pow_right (by omega) hn12
  refine v_X2_explainedBy ?_
  refine z_upS (n := ec Y) (fun i (_ : Unit) => zWi E (d + 1) m_X2_explainedBy 3 [vo 83, vi s, vi lu, vi k, vi i, vn] h Q) (fun i _ => ∀ e, e < i → spOk Y lu k s e) ?_ ?_ 0 () (by omega) (fun e he => by omega)
  · intro _ g
    exact r_X2_explainedBy_3 ⟨fun _ => H1 g, fun c => by rw [wY.2.1] at c; omega⟩
  · intro i _ hi g ih
    have q := wY.2.2 i hi
    have r := hY.2.2 i hi
    have step : spOk Y lu k s i → zWi E (d + 1) m_X2_explainedBy 3 [vo 83, vi s, vi lu, vi k, vi ((i + 1 : Nat) : Int), vn] h Q := fun g2 => ih () (fun e he => by
      by_cases e' : e = i
      · rw [e']; exact g2
      · exact g e (by omega))
    refine r_X2_explainedBy_3 ⟨fun c => by rw [wY.2.1] at c; omega, fun _ => ⟨by omega, ?_⟩⟩
    rw [w32s (by omega)]
    simp only [Int.toNat_natCast]
    refine ⟨fun c => step (fun w => ?_), fun c => ?_⟩
    · rw [q.1, if_pos w.1] at c; exact absurd rfl c
    · have k0 : ea Y 0 i = 0 := by
        rcases r.1 with z | z
        · exact z.1
        · rw [q.1, if_neg (by omega)] at c; omega
      have rr : 0 ≤ ea Y 1 i ∧ ea Y 1 i < (2 ^ cn C : Nat) := by
        rcases r.1 with z | z
        · exact z.2
        · omega
      obtain ⟨v, hv⟩ : ∃ v : Nat, ea Y 1 i = v := ⟨(ea Y 1 i).toNat, by omega⟩
      refine c_counts hY wY hi (fun ct => ⟨fun e => by omega, fun _ => ?_⟩) (fun nc => ⟨fun _ => step (fun w => absurd w.2 nc), fun e => absurd rfl e⟩)
      have q85 : hI h 85 i = (v : Int) := by rw [q.2.1, if_pos k0, hv]
      rw [q85, zb_and (by omega) (by omega), Nat.and_comm]
      refine c_bitCount (Nat.lt_of_le_of_lt Nat.and_le_left hs) ?_
      have hb := pc_12 (s &&& v)
      rintro y hy
      rw [q.2.2.1, w32_id (by omega) (by omega)] at hy
      have so : spOk Y lu k s i ↔ 0 ≤ y ∧ y ≤ lu := by
        unfold spOk
        rw [hv, Int.toNat_natCast, ← hy]
        exact ⟨fun w => w ⟨k0, ct⟩, fun w _ => w⟩
      refine ⟨fun c1 => H0 (fun al => ?_), fun c1 => ⟨fun c2 => step (so.mpr ⟨c1, c2⟩), fun c2 => H0 (fun al => ?_)⟩⟩
      · have := so.mp (al i hi); omega
      · have := so.mp (al i hi); omega
theorem c_M_canBeSpies {Y : zNt} {C : zCt} {s : Nat} {k : Int} {Q : Int → zS → Prop} (hC : okC C) (wC : MCity h C) (hY : okY C Y) (wY : MEnt h Y) (hs : s < 4096) (H1 : (∀ e, e < ec Y → spOk Y (clu C) k s e) → Q 1 h) (H0 : (¬ ∀ e, e < ec Y → spOk Y (clu C) k s e) → Q 0 h) : zCi E (d + 1) m_X10_canBeSpies [vo 89, vi s, vi k] h Q := by
  have hn12 := hC.1
  have h40 := hY.1
  have p12 : 2 ^ cn C ≤ 2 ^ 12 := Nat.pow_le_pow_right (by omega) hn12
  refine v_X10_canBeSpies ?_
  refine z_upS (n := ec Y) (fun i (b : Int) => zWi E (d + 1) m_X10_canBeSpies 5 [vo 89, vi s, vi k, vi b, vi i, vn] h Q) (fun i b => (b = 1 ∧ ∀ e, e < i → spOk Y (clu C) k s e) ∨ (b = 0 ∧ ¬ ∀ e, e < ec Y → spOk Y (clu C) k s e)) ?_ ?_ 0 1 (by omega) (.inl ⟨rfl, fun e he => by omega⟩)
  · rintro b g
    refine r_X10_canBeSpies_5 ⟨fun _ => ⟨by omega, ?_⟩, fun c => by rw [wY.2.1] at c; omega⟩
    rcases g with ⟨rfl, g⟩ | ⟨rfl, g⟩
    · exact H1 g
    · exact H0 g
  · rintro i b hi g ih
    have q := wY.2.2 i hi
    have r := hY.2.2 i hi
    refine r_X10_canBeSpies_5 ⟨fun c => by rw [wY.2.1] at c; omega, fun _ => ⟨by omega, ?_⟩⟩
    rw [w32s (by omega)]
    simp only [Int.toNat_natCast]
    have rr : 0 ≤ ea Y 1 i ∧ ea Y 1 i < 4096 := by
      rcases r.1 with z | z <;> omega
    obtain ⟨v, hv⟩ : ∃ v : Nat, ea Y 1 i = v := ⟨(ea Y 1 i).toNat, by omega⟩
    rw [q.2.1, hv, zb_and (by omega) (by omega)]
    refine c_M_ones (Nat.lt_of_le_of_lt Nat.and_le_left hs) ?_
    have hb := pc_12 (s &&& v)
    rintro y hy
    rw [q.2.2.1, w32_id (by omega) (by omega)] at hy
    refine ⟨fun c => ?_, fun c => ?_⟩
    · rcases g with ⟨rfl, g⟩ | ⟨rfl, g⟩
      · omega
      · exact ih 0 (.inr ⟨rfl, g⟩)
    · rcases g with ⟨rfl, g⟩ | ⟨rfl, g⟩
      · refine c_M_counts hY wY hi (fun ct => ?_) (fun nc => ?_)
        · rintro y10 hy10
          have so : spOk Y (clu C) k s i ↔ 0 ≤ y ∧ y ≤ clu C := by
            unfold spOk
            rw [hv, Int.toNat_natCast, ← hy]
            exact ⟨fun w => w ct, fun w _ => w⟩
          rw [if_neg (by omega)] at hy10
          simp only [wC.2.2.2.2.1] at hy10
          refine ih y10 ?_
          by_cases c1 : y < 0
          · rw [if_pos c1] at hy10
            exact .inr ⟨hy10, fun al => by have := so.mp (al i hi); omega⟩
          · rw [if_neg c1] at hy10
            by_cases c2 : clu C < y
            · rw [if_pos c2] at hy10
              exact .inr ⟨hy10, fun al => by have := so.mp (al i hi); omega⟩
            · rw [if_neg c2] at hy10
              refine .inl ⟨hy10, fun e he => ?_⟩
              by_cases e' : e = i
              · rw [e']; exact so.mpr (by omega)
              · exact g e (by omega)
        · rintro y10 hy10
          rw [if_pos rfl] at hy10
          refine ih y10 (.inl ⟨hy10, fun e he => ?_⟩)
          by_cases e' : e = i
          · rw [e']; exact fun w => absurd w nc
          · exact g e (by omega)
      · exact absurd rfl c
end SP
