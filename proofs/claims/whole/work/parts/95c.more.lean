/-! the model's layFlow and oneMore -/
theorem w24 {x y : Nat} (hx : x < 24) (hy : y < 24) : w32 (w32 (24 * (x : Int)) + (y : Int)) = ((24 * x + y : Nat) : Int) := by
  have b1 : w32 (24 * (x : Int)) = ((24 * x : Nat) : Int) := by rw [w32_id (by omega) (by omega)]; omega
  rw [b1, w32_id (by omega) (by omega)]; omega
theorem w2p {p : Nat} (hp : p < 12) : w32 (2 * (p : Int)) = ((2 * p : Nat) : Int) := by rw [w32_id (by omega) (by omega)]; omega
theorem w2p1 {p : Nat} (hp : p < 12) : w32 (w32 (2 * (p : Int)) + 1) = ((2 * p + 1 : Nat) : Int) := by rw [w2p hp, w32_id (by omega) (by omega)]; omega
theorem wA {p : Nat} (hp : p < 12) : w32 ((w32 ((w32 (24 * (w32 (2 * (p : Int))))) + (w32 (2 * (p : Int))))) + 1) = ((24 * (2 * p) + (2 * p + 1) : Nat) : Int) := by
  rw [w2p hp, w24 (by omega) (by omega), w32_id (by omega) (by omega)]; omega
theorem wB {p q : Nat} (hp : p < 12) (hq : q < 12) : w32 ((w32 (24 * (w32 ((w32 (2 * (p : Int))) + 1)))) + (w32 (2 * (q : Int)))) = ((24 * (2 * p + 1) + 2 * q : Nat) : Int) := by
  rw [w2p1 hp, w2p hq, w24 (by omega) (by omega)]
section LF
variable {E : zE} {d : Nat} {h : zS}
theorem fc_0 {C : zCt} {g z x y : Nat} (hC : okC C) (h : cn C ≤ x / 2) : fc C g z x y = 0 := by
  unfold fc
  split
  · rw [if_neg (by omega)]
  · rw [if_neg (fun q => by have := ((hC.2.2.2.2.2.2 _ _).2 q.2).1; omega)]
theorem fc_sf {C : zCt} {g z p : Nat} (hp : p < cn C) : fc C g z (2 * p) (2 * p + 1) = if p = g ∨ p = z then 12 else 1 := by
  unfold fc
  rw [if_pos (show 2 * p % 2 = 0 by omega), show 2 * p / 2 = p by omega, if_pos ⟨rfl, hp⟩]
theorem c_M_layFlow {C : zCt} {g z : Nat} {Q : zS → Prop} (hC : okC C) (wC : MCity h C) (hg : cga C = g) (hz : cse C = z)
    (HQ : ∀ h1, (∀ x y, x < 24 → y < 24 → hI h1 109 (24 * x + y) = fc C g z x y) → zEq (fun c => c ≠ 109) h h1 → Q h1) : zCv E d m_X10_layFlow [vo 89] h Q := by
  have hn12 := hC.1
  have fC : ∀ h2, zEq (fun c => c ≠ 109) h h2 → MCity h2 C := fun h2 e => wC.fr e (by omega)
  refine v_X10_layFlow ?_
  refine z_up (n := 576) (fun i h2 => zWv E d m_X10_layFlow 2 [vo 89, vi i, vn] h2 Q) (fun i h2 => (∀ j, j < i → hI h2 109 j = 0) ∧ zEq (fun c => c ≠ 109) h h2) ?_ ?_ 0 h (by omega) ⟨fun j hj => by omega, zEq.rf⟩
  · rintro h1 ⟨f1, f2⟩
    refine r_X10_layFlow_2 ⟨fun _ => ?_, fun c => by omega⟩
    refine z_up (n := cn C) (fun p h2 => zWv E d m_X10_layFlow 24 [vo 89, vi p, vn] h2 Q) (fun p h2 => (∀ x y, x < 24 → y < 24 → hI h2 109 (24 * x + y) = if x / 2 < p then fc C g z x y else 0) ∧ zEq (fun c => c ≠ 109) h h2) ?_ ?_ 0 h1 (by omega) ⟨fun x y hx hy => by rw [if_neg (by omega)]; exact f1 _ (by omega), f2⟩
    · rintro h2 ⟨u1, u2⟩
      refine r_X10_layFlow_24 ⟨fun _ => HQ h2 (fun x y hx hy => ?_) u2, fun c => by rw [(fC h2 u2).1] at c; omega⟩
      rw [u1 x y hx hy]
      split
      · rfl
      · rw [fc_0 hC (by omega)]
    · rintro p h2 hp ⟨u1, u2⟩ ih
      have p12 : p < 12 := Nat.lt_of_lt_of_le hp hn12
      refine r_X10_layFlow_24 ⟨fun c => by rw [(fC h2 u2).1] at c; omega, fun _ => ?_⟩
      rw [wA p12]
      refine ⟨by omega, ?_⟩
      simp only [Int.toNat_natCast]
      have k1 := (fC h2 u2).2.2.1
      have k2 := (fC h2 u2).2.2.2.1
      intro h4 e4
      have ev : (if (p : Int) = hI h2 89 31 then (12 : Int) else if (p : Int) ≠ hI h2 89 32 then 1 else 12) = fc C g z (2 * p) (2 * p + 1) := by
        rw [fc_sf hp]
        by_cases c1 : p = g
        · rw [if_pos (by rw [k1, hg, c1]), if_pos (.inl c1)]
        · rw [if_neg (by rw [k1, hg]; omega)]
          by_cases c2 : p = z
          · rw [if_neg (by rw [k2, hz, c2]; exact fun q => q rfl), if_pos (.inr c2)]
          · rw [if_pos (by rw [k2, hz]; omega), if_neg (by omega)]
      rw [ev] at e4
      clear ev k1 k2
      obtain ⟨v4, n4, q4⟩ := st_cp e4
      clear e4
      refine z_up (n := cn C) (fun q h3 => zWv E d m_X10_layFlow 73 [vo 89, vi p, vi q] h3 Q) (fun q h3 => (∀ x y, x < 24 → y < 24 → hI h3 109 (24 * x + y) = if x / 2 < p ∨ x = 2 * p ∨ (x = 2 * p + 1 ∧ y < 2 * q) then fc C g z x y else 0) ∧ zEq (fun c => c ≠ 109) h h3) ?_ ?_ 0 h4 (by omega) ⟨fun x y hx hy => ?_, u2.tr q4⟩
      · rintro h3 ⟨t1, t2⟩
        refine r_X10_layFlow_73 ⟨fun _ => ?_, fun c => by rw [(fC h3 t2).1] at c; omega⟩
        rw [w32t p12]
        refine ih h3 ⟨fun x y hx hy => ?_, t2⟩
        rw [t1 x y hx hy]
        by_cases c : x / 2 < p + 1
        · rw [if_pos c]
          split
          · rfl
          · have e1 : x = 2 * p + 1 := by omega
            unfold fc
            rw [if_neg (by omega), if_neg]
            rintro ⟨q1, q2⟩
            have := ((hC.2.2.2.2.2.2 _ _).2 q2).2.1
            omega
        · rw [if_neg c, if_neg (by omega)]
      · rintro q h3 hq ⟨t1, t2⟩ ih2
        have q12 : q < 12 := Nat.lt_of_lt_of_le hq hn12
        refine r_X10_layFlow_73 ⟨fun c => by rw [(fC h3 t2).1] at c; omega, fun _ => ?_⟩
        rw [w32q p12 q12, wB p12 q12, w32t q12]
        refine ⟨by omega, ?_⟩
        simp only [Int.toNat_natCast]
        rw [(fC h3 t2).2.2.2.2.2.2.1 p q p12 q12]
        have odd0 : fc C g z (2 * p + 1) (2 * q + 1) = 0 := by
          unfold fc
          rw [if_neg (by omega), if_neg (by omega)]
        refine ⟨fun c => ih2 h3 ⟨fun x y hx hy => ?_, t2⟩, fun c => ⟨by omega, ?_⟩⟩
        · rw [t1 x y hx hy]
          by_cases e : x = 2 * p + 1 ∧ y = 2 * q
          · rw [if_neg (by omega), if_pos (by omega), e.1, e.2]
            unfold fc
            rw [if_neg (by omega), show (2 * p + 1) / 2 = p by omega, show 2 * q / 2 = q by omega, if_neg (by omega)]
          · by_cases e' : x = 2 * p + 1 ∧ y = 2 * q + 1
            · rw [if_neg (by omega), if_pos (by omega), e'.1, e'.2, odd0]
            · by_cases c2 : x / 2 < p ∨ x = 2 * p ∨ (x = 2 * p + 1 ∧ y < 2 * q)
              · rw [if_pos c2, if_pos (by omega)]
              · rw [if_neg c2, if_neg (by omega)]
        · intro h5 e5
          obtain ⟨v5, n5, q5⟩ := st_cp e5
          clear e5
          refine ih2 h5 ⟨fun x y hx hy => ?_, t2.tr q5⟩
          by_cases e : x = 2 * p + 1 ∧ y = 2 * q
          · rw [if_pos (by omega), e.1, e.2, v5, fc_oi c]
          · rw [n5 _ _ (by omega), t1 x y hx hy]
            by_cases e' : x = 2 * p + 1 ∧ y = 2 * q + 1
            · rw [if_neg (by omega), if_pos (by omega), e'.1, e'.2, odd0]
            · by_cases c2 : x / 2 < p ∨ x = 2 * p ∨ (x = 2 * p + 1 ∧ y < 2 * q)
              · rw [if_pos c2, if_pos (by omega)]
              · rw [if_neg c2, if_neg (by omega)]
      · by_cases e : x = 2 * p ∧ y = 2 * p + 1
        · rw [if_pos (by omega), e.1, e.2, v4]
        · rw [n4 _ _ (by omega), u1 x y hx hy]
          by_cases e2 : x = 2 * p
          · rw [if_neg (by omega), if_pos (by omega)]
            unfold fc
            rw [if_pos (by omega), if_neg (by omega)]
          · by_cases c2 : x / 2 < p
            · rw [if_pos c2, if_pos (by omega)]
            · rw [if_neg c2, if_neg (by omega)]
  · rintro i h2 hi ⟨f1, f2⟩ ih
    refine r_X10_layFlow_2 ⟨fun c => by omega, fun _ => ⟨by omega, ?_⟩⟩
    rw [w32s (by omega)]
    simp only [Int.toNat_natCast]
    intro h6 e6
    obtain ⟨v6, n6, q6⟩ := st_cp e6
    clear e6
    refine ih h6 ⟨fun j hj => ?_, f2.tr q6⟩
    by_cases e : j = i
    · rw [e, v6]
    · rw [n6 _ _ (fun q => e q.2)]; exact f1 j (by omega)
/-- the search, in plain words -/
def BI (f : Nat → Nat → Int) (fr : Nat) (cf : Nat → Int) (qf : Nat → Nat) (a b : Nat) : Prop :=
  (1 ≤ b ∧ a ≤ b ∧ qf 0 = fr) ∧ (∀ i, i < b → qf i < 24 ∧ 0 ≤ cf (qf i)) ∧ (∀ v, v < 24 → cf v = -1 ∨ ∃ i, i < b ∧ qf i = v) ∧ (∀ i j, i < b → j < b → qf i = qf j → i = j) ∧ (∀ i, i < b → i ≠ 0 → ∃ j, j < i ∧ cf (qf i) = qf j ∧ f (qf j) (qf i) ≠ 0) ∧ (∀ i, i < a → ∀ y, y < 24 → f (qf i) y ≠ 0 → 0 ≤ cf y) ∧ (b : Int) = sm (fun v => ind (decide (0 ≤ cf v))) 24
theorem BI_24 {f : Nat → Nat → Int} {fr : Nat} {cf : Nat → Int} {qf : Nat → Nat} {a b : Nat} (w : BI f fr cf qf a b) : b ≤ 24 := by
  have h := w.2.2.2.2.2.2
  have l := sm_le (F := fun v => ind (decide (0 ≤ cf v))) (G := fun _ => 1) 24 (fun i _ => (ind_nn _).2)
  have e : sm (fun _ => 1) 24 = 24 := rfl
  rw [e] at l
  omega
theorem BI_add {f : Nat → Nat → Int} {fr : Nat} {cf cf' : Nat → Int} {qf qf' : Nat → Nat} {a b y : Nat} (w : BI f fr cf qf a b) {x : Nat} (hx : x < b) (hy : y < 24) (fy : f (qf x) y ≠ 0) (cy : cf y < 0) (c1 : cf' y = qf x) (c2 : ∀ v, v ≠ y → cf' v = cf v) (q1 : qf' b = y) (q2 : ∀ i, i ≠ b → qf' i = qf i) : BI f fr cf' qf' a (b + 1) ∧ b < 24 := by
  obtain ⟨⟨w1, w2, w3⟩, w4, w5, w6, w7, w8, w9⟩ := w
  have yq : ∀ i, i < b → qf i ≠ y := fun i hi e => by have := (w4 i hi).2; rw [e] at this; omega
  have cnt : sm (fun v => ind (decide (0 ≤ cf' v))) 24 = sm (fun v => ind (decide (0 ≤ cf v))) 24 + 1 := by
    refine sm_one (j := y) 24 hy (fun i _ hi => by rw [c2 i hi]) ?_
    rw [c1]
    have e1 : decide (0 ≤ (qf x : Int)) = true := by simp
    have e2 : decide (0 ≤ cf y) = false := by simp; omega
    rw [e1, e2]; rfl
  have wn : BI f fr cf' qf' a (b + 1) := by
    refine ⟨⟨by omega, by omega, by rw [q2 0 (by omega)]; exact w3⟩, fun i hi => ?_, fun v hv => ?_, fun i j hi hj e => ?_, fun i hi i0 => ?_, fun i hi y' hy' hf => ?_, ?_⟩
    · by_cases e : i = b
      · rw [e, q1, c1]; exact ⟨hy, by omega⟩
      · rw [q2 i e, c2 _ (yq i (by omega))]; exact w4 i (by omega)
    · by_cases e : v = y
      · right; exact ⟨b, by omega, by rw [q1]; exact e.symm⟩
      · rw [c2 v e]
        rcases w5 v hv with q | ⟨i, hi, q⟩
        · exact .inl q
        · exact .inr ⟨i, by omega, by rw [q2 i (by omega)]; exact q⟩
    · by_cases e1 : i = b <;> by_cases e2 : j = b
      · omega
      · rw [e1, q1, q2 j e2] at e; exact absurd e.symm (yq j (by omega))
      · rw [e2, q1, q2 i e1] at e; exact absurd e (yq i (by omega))
      · rw [q2 i e1, q2 j e2] at e; exact w6 i j (by omega) (by omega) e
    · by_cases e : i = b
      · refine ⟨x, by omega, ?_, ?_⟩
        · rw [e, q1, c1, q2 x (by omega)]
        · rw [e, q1, q2 x (by omega)]; exact fy
      · obtain ⟨j, j1, j2, j3⟩ := w7 i (by omega) i0
        refine ⟨j, j1, ?_, ?_⟩
        · rw [q2 i e, c2 _ (yq i (by omega)), q2 j (by omega)]; exact j2
        · rw [q2 i e, q2 j (by omega)]; exact j3
    · rw [q2 i (by omega)] at hf
      by_cases e : y' = y
      · rw [e, c1]; omega
      · rw [c2 y' e]; exact w8 i hi y' hy' hf
    · rw [cnt]; omega
  exact ⟨wn, by have := BI_24 wn; omega⟩
end LF
