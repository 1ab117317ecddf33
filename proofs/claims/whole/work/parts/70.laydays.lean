/-! the model's layDays -/
theorem nf_step {n : Nat} {W : Nat → Nat → Int} {z : Nat} {F : Int} {D v v' : Nat → Int} {r : Nat} (hn : n ≤ 12) (hz : z < n) (hD : isD n W z F D) (g : vD n W z F v) (g' : vD n W z F v') (rr : rD n W F v v') (w7 : nf n D v = 0 ∨ pc12 (nf n D v) + r ≤ n) : nf n D v' = 0 ∨ pc12 (nf n D v') + (r + 1) ≤ n := by
  rcases nf_down hn hz hD g g' rr with q | q
  · left
    apply nat_bits (bset_lt _) (by omega)
    intro i hi
    cases qq : (nf n D v').testBit i
    · rw [Nat.zero_testBit]; exact qq
    · have := (nf_t hn).mp qq
      have e1 := nf_0 hn q this.1
      have e2 := isD_lv hD g' this.1
      have e3 := rr.1 i this.1
      exact absurd (by omega) this.2
  · rcases w7 with q2 | q2
    · rw [q2] at q
      have : pc12 0 = 0 := by rw [pc12_eq]; rfl
      omega
    · right; omega
theorem nf_cnt {n : Nat} {D v : Nat → Int} (hn : n ≤ 12) : pc12 (nf n D v) ≤ n := by
  have cnt : ∀ m, m ≤ 12 → pc12 (bset (seB m (fun _ => 0))) = m := by
    intro m
    induction m with
    | zero => intro _; exact seB_0 _
    | succ m ihm => intro hm; rw [seB_up (by omega), ihm (by omega)]; simp
  refine Nat.le_trans (pc_le (b := bset (seB n (fun _ => 0))) (fun i _ q => ?_)) (Nat.le_of_eq (cnt n hn))
  have := (nf_t hn).mp q
  rw [bset_t]
  have h12 : i < 12 := by omega
  simp [seB, this.1, h12]
section LD
variable {E : zE} {d : Nat} {h : zS}
theorem vD_th {C : zCt} {N : zEn} {z : Nat} {v : Nat → Int} (tz : thN C N z = true) (g : vD (cn C) (dW C N) z 1000000 v) {b : Nat} (hb : b < cn C) (hf : v b < 1000000) : thN C N b = true := by
  by_cases e : b = z
  · rw [e]; exact tz
  · obtain ⟨c, _, hw, _⟩ := g.2.2 b hb e hf
    exact (dW_pos hw).1
theorem c_M_ldR {C : zCt} {N : zEn} {z r : Nat} {v : Nat → Int} {h2 : zS} {Q : zS → Prop} (hn12 : cn C ≤ 12) (hN : okN C N) (tz : thN C N z = true) (fC : ∀ h2, zEq (fun c => c ≠ 124) h h2 → hI h2 89 29 = (cn C : Int)) (fN : ∀ h2, zEq (fun c => c ≠ 124) h h2 → MEarn h2 C N) (hr : r < 12) (w3 : vD (cn C) (dW C N) z 1000000 v) (w4 : ∀ i, i < cn C → hI h2 124 i = v i) (w5 : zEq (fun c => c ≠ 124) h h2)
    (ih : ∀ v' h3, vD (cn C) (dW C N) z 1000000 v' → (∀ i, i < cn C → hI h3 124 i = v' i) → zEq (fun c => c ≠ 124) h h3 → rD (cn C) (dW C N) 1000000 v v' → zWv E (d + 1) m_X10_layDays 54 [vo 89, vi ((r + 1 : Nat) : Int), vn, vn, vn] h3 Q) : zWv E (d + 1) m_X10_layDays 64 [vo 89, vi r, vi 0, vn, vn] h2 Q := by
  refine z_upS (σ := (Nat → Int) × zS) (n := cn C) (fun i s => zWv E (d + 1) m_X10_layDays 64 [vo 89, vi r, vi i, vn, vn] s.2 Q)
    (fun i s => vD (cn C) (dW C N) z 1000000 s.1 ∧ (∀ i, i < cn C → hI s.2 124 i = s.1 i) ∧ zEq (fun c => c ≠ 124) h s.2 ∧ (∀ a, a < cn C → s.1 a ≤ v a) ∧ ∀ a b, a < i → a < cn C → b < cn C → 0 < dW C N a b → v b < 1000000 → s.1 a ≤ dW C N a b + v b) ?_ ?_ 0 (v, h2) (by omega) ⟨w3, w4, w5, fun a _ => Int.le_refl _, fun a b ha => by omega⟩
  · rintro ⟨v', h3⟩ ⟨u2, u3, u4, u5, u7⟩
    dsimp only at u2 u3 u4 u5 u7 ⊢
    refine r_X10_layDays_64 ⟨fun _ => ?_, fun c => by rw [fC h3 u4] at c; omega⟩
    rw [w32s (by omega)]
    exact ih v' h3 u2 u3 u4 ⟨u5, fun a b ha hb hw hf => u7 a b ha ha hb hw hf⟩
  · rintro i ⟨v', h3⟩ hi ⟨u2, u3, u4, u5, u7⟩ ih2
    dsimp only at u2 u3 u4 u5 u7 ih2 ⊢
    refine r_X10_layDays_64 ⟨fun c => by rw [fC h3 u4] at c; omega, fun _ => ?_⟩
    refine z_upS (σ := (Nat → Int) × zS) (n := cn C) (fun j s => zWv E (d + 1) m_X10_layDays 74 [vo 89, vi r, vi i, vi j, vn] s.2 Q)
      (fun j s => vD (cn C) (dW C N) z 1000000 s.1 ∧ (∀ i, i < cn C → hI s.2 124 i = s.1 i) ∧ zEq (fun c => c ≠ 124) h s.2 ∧ (∀ a, a < cn C → s.1 a ≤ v a) ∧ (∀ a b, a < i → a < cn C → b < cn C → 0 < dW C N a b → v b < 1000000 → s.1 a ≤ dW C N a b + v b) ∧ ∀ b, b < j → b < cn C → 0 < dW C N i b → v b < 1000000 → s.1 i ≤ dW C N i b + v b) ?_ ?_ 0 (v', h3) (by omega) ⟨u2, u3, u4, u5, u7, fun b hb => by omega⟩
    · rintro ⟨v2, h4⟩ ⟨t2, t3, t4, t5, t7, t8⟩
      dsimp only at t2 t3 t4 t5 t7 t8 ⊢
      refine r_X10_layDays_74 ⟨fun _ => ?_, fun c => by rw [fC h4 t4] at c; omega⟩
      rw [w32s (by omega)]
      refine ih2 (v2, h4) ⟨t2, t3, t4, t5, fun a b hai ha hb hw hf => ?_⟩
      by_cases e : a = i
      · rw [e] at hw ⊢; exact t8 b hb hb hw hf
      · exact t7 a b (by omega) ha hb hw hf
    · rintro j ⟨v2, h4⟩ hj ⟨t2, t3, t4, t5, t7, t8⟩ ih3
      dsimp only at t2 t3 t4 t5 t7 t8 ih3 ⊢
      refine r_X10_layDays_74 ⟨fun c => by rw [fC h4 t4] at c; omega, fun _ => ?_⟩
      refine c_M_isThere hn12 (fN h4 t4) hi ?_
      have b1 : w32 (12 * (i : Int)) = ((12 * i : Nat) : Int) := by rw [w32_id (by omega) (by omega)]; omega
      have b2 : w32 (((12 * i : Nat) : Int) + (j : Int)) = ((12 * i + j : Nat) : Int) := by rw [w32_id (by omega) (by omega)]; omega
      rw [b1, b2, w32s (by omega), w32s (by omega)]
      simp only [Int.toNat_natCast]
      have gb := (hN.2.2.2.2.2.2.1 i j).1
      have vi2 := t2.2.1 i hi
      have vj2 := t2.2.1 j hj
      cases ti : thN C N i with
      | false =>
        refine ⟨fun _ => ih2 (v2, h4) ⟨t2, t3, t4, t5, fun a b hai ha hb hw hf => ?_⟩, fun e => absurd rfl e⟩
        by_cases e : a = i
        · have := (dW_pos hw).1
          rw [e, ti] at this; cases this
        · exact t7 a b (by omega) ha hb hw hf
      | true =>
        refine ⟨fun e => by simp at e, fun _ => ⟨by omega, ?_⟩⟩
        rw [(fN h4 t4).2.2.2.2 i j (by omega) (by omega), t3 i hi, t3 j hj]
        have same : (0 < dW C N i j → v j < 1000000 → v2 i ≤ dW C N i j + v j) → zWv E (d + 1) m_X10_layDays 74 [vo 89, vi r, vi i, vi ((j + 1 : Nat) : Int), vn] h4 Q := fun al => ih3 (v2, h4) ⟨t2, t3, t4, t5, t7, fun b hbj hb hw hf => by
          by_cases e : b = j
          · rw [e] at hw hf ⊢; exact al hw hf
          · exact t8 b (by omega) hb hw hf⟩
        rintro y4 rfl
        refine ⟨fun c => same (fun hw _ => by have := dW_pos hw; omega), fun c => ⟨by omega, fun c2 => same (fun _ hf => by have := t5 j hj; omega), fun c2 => ⟨by omega, ?_⟩⟩⟩
        have tj := vD_th tz t2 hj c2
        have eW : dW C N i j = ngv N i j := by unfold dW; rw [if_pos ⟨ti, tj⟩]
        rw [w32_id (by omega) (by omega)]
        have vj := t5 j hj
        refine ⟨fun c3 => same (fun _ _ => by rw [eW]; omega), fun c3 => ?_⟩
        have up := vD_up t2 hi hj (by rw [eW]; exact c) c2 (by rw [eW]; omega)
        intro h8 x8
        obtain ⟨v8, n8, q8⟩ := st_cp x8
        clear x8
        refine ih3 ((fun c => if c = i then dW C N i j + v2 j else v2 c), h8) ⟨up, fun a ha => ?_, t4.tr q8, fun a ha => ?_, fun a b hai ha hb hw hf => ?_, fun b hbj hb hw hf => ?_⟩
        · dsimp only
          by_cases e : a = i
          · rw [if_pos e, e, v8, eW]; omega
          · rw [if_neg e, n8 _ _ (fun q => e q.2)]; exact t3 a ha
        · dsimp only
          have := t5 a ha
          by_cases e : a = i
          · rw [if_pos e]; rw [e] at this ⊢; omega
          · rw [if_neg e]; exact this
        · dsimp only
          rw [if_neg (by omega)]; exact t7 a b hai ha hb hw hf
        · dsimp only
          rw [if_pos rfl]
          by_cases e : b = j
          · rw [e]; omega
          · have := t8 b (by omega) hb hw hf
            omega
theorem c_M_layDays {C : zCt} {N : zEn} {Q : zS → Prop} (hC : okC C) (wC : MCity h C) (hN : okN C N) (wN : MEarn h C N)
    (HQ : ∀ v h1, dOk C N v → (∀ i, i < cn C → hI h1 124 i = v i ∧ 0 ≤ v i ∧ v i ≤ 1000000) → zEq (fun c => c ≠ 124) h h1 → Q h1) : zCv E (d + 1) m_X10_layDays [vo 89] h Q := by
  have hn12 := hC.1
  have fC : ∀ h2, zEq (fun c => c ≠ 124) h h2 → hI h2 89 29 = (cn C : Int) ∧ hI h2 89 32 = cse C := fun h2 e => ⟨by rw [e.I (by omega)]; exact wC.1, by rw [e.I (by omega)]; exact wC.2.2.2.1⟩
  have fN : ∀ h2, zEq (fun c => c ≠ 124) h h2 → MEarn h2 C N := fun h2 e => wN.fr e ⟨by omega, fun j _ _ => by omega⟩
  refine v_X10_layDays ?_
  refine z_up (n := 12) (fun i h2 => zWv E (d + 1) m_X10_layDays 2 [vo 89, vi i, vn, vn, vn] h2 Q) (fun i h2 => (∀ j, j < i → hI h2 124 j = 1000000) ∧ zEq (fun c => c ≠ 124) h h2) ?_ ?_ 0 h (by omega) ⟨fun j hj => by omega, zEq.rf⟩
  · rintro h1 ⟨f1, f2⟩
    refine r_X10_layDays_2 ⟨fun _ => ?_, fun c => by omega⟩
    rw [(fC h1 f2).2]
    have far : (¬ ∃ z : Nat, cse C = z ∧ z < cn C ∧ thN C N z = true) → Q h1 := fun nz => HQ (fun _ => 1000000) h1 (.inr ⟨nz, fun _ _ => rfl⟩) (fun i hi => ⟨f1 i (by omega), by omega, by omega⟩) f2
    have sb := hC.2.2.2.1
    refine ⟨fun c => far ?_, fun c => ?_⟩
    · rintro ⟨z, z1, z2, _⟩; omega
    · obtain ⟨z, hz⟩ : ∃ z : Nat, cse C = z := ⟨(cse C).toNat, by omega⟩
      rw [hz]
      have zn : z < cn C := by omega
      refine c_M_isThere hn12 (fN h1 f2) zn ?_
      cases tz : thN C N z with
      | false =>
        refine ⟨fun e => absurd rfl e, fun _ => far ?_⟩
        rintro ⟨y, y1, y2, y3⟩
        have : y = z := by omega
        rw [this, tz] at y3; cases y3
      | true =>
      refine ⟨fun _ => ?_, fun e => by simp at e⟩
      rw [(fC h1 f2).2, hz]
      refine ⟨by omega, ?_⟩
      intro h7 x7
      rw [Int.toNat_natCast] at x7
      obtain ⟨v7, n7, q7⟩ := st_cp x7
      clear x7
      obtain ⟨D, hD⟩ := isD_ex (n := cn C) (W := dW C N) (z := z) (F := 1000000) (sD (fun i => if i = z then 0 else 1000000) (cn C) + 1) _ vD_0 (by omega)
      -- rounds
      refine z_upS (σ := (Nat → Int) × zS) (n := cn C) (fun r s => zWv E (d + 1) m_X10_layDays 54 [vo 89, vi r, vn, vn, vn] s.2 Q)
        (fun r s => vD (cn C) (dW C N) z 1000000 s.1 ∧ (∀ i, i < cn C → hI s.2 124 i = s.1 i) ∧ zEq (fun c => c ≠ 124) h s.2 ∧ (nf (cn C) D s.1 = 0 ∨ pc12 (nf (cn C) D s.1) + r ≤ cn C)) ?_ ?_ 0 ((fun i => if i = z then 0 else 1000000), h7) (by omega) ?_
      · rintro ⟨v, h2⟩ ⟨w3, w4, w5, w7⟩
        dsimp only at w3 w4 w5 w7 ⊢
        refine r_X10_layDays_54 ⟨fun _ => ?_, fun c => by rw [(fC h2 w5).1] at c; omega⟩
        have nz : nf (cn C) D v = 0 := by
          rcases w7 with q | q
          · exact q
          · exact pc_0 (bset_lt _) (by omega)
        have eq : ∀ i, i < cn C → v i = D i := fun i hi => nf_0 hn12 nz hi
        refine HQ v h2 (.inl ⟨z, hz, zn, tz, isD_of w3 (fun a b ha hb hw hf => ?_)⟩) (fun i hi => ⟨w4 i hi, w3.2.1 i hi⟩) w5
        have q := hD.2.2.1 a b ha hb hw (by rw [← eq b hb]; exact hf)
        rw [eq a ha, eq b hb]
        exact q
      · rintro r ⟨v, h2⟩ hr ⟨w3, w4, w5, w7⟩ ih
        dsimp only at w3 w4 w5 w7 ih ⊢
        refine r_X10_layDays_54 ⟨fun c => by rw [(fC h2 w5).1] at c; omega, fun _ => ?_⟩
        exact c_M_ldR (z := z) (v := v) hn12 hN tz (fun h2 e => (fC h2 e).1) fN (by omega) w3 w4 w5 (fun v' h3 a1 a2 a3 a4 => ih (v', h3) ⟨a1, a2, a3, nf_step hn12 zn hD w3 a1 a4 w7⟩)
      · dsimp only
        refine ⟨vD_0, fun i hi => ?_, f2.tr q7, .inr ?_⟩
        · by_cases e : i = z
          · rw [if_pos e, e, v7]
          · rw [if_neg e, n7 _ _ (fun q => e q.2)]; exact f1 i (by omega)
        · rw [Nat.add_zero]; exact nf_cnt hn12
  · rintro i h2 hi ⟨f1, f2⟩ ih
    refine r_X10_layDays_2 ⟨fun c => by omega, fun _ => ⟨by omega, ?_⟩⟩
    rw [w32s (by omega)]
    simp only [Int.toNat_natCast]
    intro h6 x6
    obtain ⟨v6, n6, q6⟩ := st_cp x6
    clear x6
    refine ih h6 ⟨fun j hj => ?_, f2.tr q6⟩
    by_cases e : j = i
    · rw [e, v6]
    · rw [n6 _ _ (fun q => e q.2)]; exact f1 j (by omega)
end LD
