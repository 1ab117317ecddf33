/-! the model's layWays -/
def cmO (h : zS) (v : Nat → Int) (a bd : Nat) : Prop := (hI h 105 a = 1000000 ∧ hI h 106 a = 1000000 ∧ v a = 1001000000) ∨ ∃ c m : Nat, hI h 105 a = c ∧ hI h 106 a = m ∧ v a = 1000 * c + m ∧ c ≤ 999 * m ∧ m ≤ bd
theorem cmO.mono {h : zS} {v : Nat → Int} {a b b' : Nat} (w : cmO h v a b) (l : b ≤ b') : cmO h v a b' := by
  rcases w with q | ⟨c, m, q1, q2, q3, q4, q5⟩
  · exact .inl q
  · exact .inr ⟨c, m, q1, q2, q3, q4, by omega⟩
theorem cmO.w {h h1 : zS} {v v' : Nat → Int} {a b : Nat} (w : cmO h v a b) (e1 : hI h1 105 a = hI h 105 a) (e2 : hI h1 106 a = hI h 106 a) (e3 : v' a = v a) : cmO h1 v' a b := by
  unfold cmO at *; rw [e1, e2, e3]; exact w
theorem vD_0k {n z : Nat} {W : Nat → Nat → Int} {F : Int} (hF : 0 ≤ F) : vD n W z F (fun i => if i = z then 0 else F) := by
  refine ⟨if_pos rfl, fun a _ => ?_, fun a _ hz hf => ?_⟩
  · dsimp only; split <;> omega
  · dsimp only at hf; rw [if_neg hz] at hf; omega
section ML
variable {E : zE} {d : Nat} {h : zS}
theorem c_M_better {sp : Nat → Nat → Int} {v : Nat → Int} {a b z bd : Nat} {Q : zS → Prop} (hs : -1 ≤ sp a b ∧ sp a b ≤ 999) (hab : a ≠ b) (a12 : a < 12) (b12 : b < 12) (hz : hI h 89 32 = (z : Int)) (v0 : v z = 0) (ca : cmO h v a 144) (cb : cmO h v b bd) (hbd : bd ≤ 143)
    (H0 : (0 < kW sp a b → v b < kF → v a ≤ kW sp a b + v b) → Q h)
    (H1 : ∀ h1, 0 < kW sp a b → v b < kF → kW sp a b + v b < v a → cmO h1 (fun c => if c = a then kW sp a b + v b else v c) a (bd + 1) → (∀ c i, i ≠ a → hI h1 c i = hI h c i) → zEq (fun c => c ≠ 105 ∧ c ≠ 106) h h1 → Q h1) : zCv E d m_X10_better [vo 89, vi a, vi b, vi (frO (sp a b))] h Q := by
  refine v_X10_better ?_
  unfold frO
  by_cases s0 : sp a b = -1
  · rw [if_pos s0]
    refine ⟨fun _ => H0 (fun q => ?_), fun e => absurd rfl e⟩
    have := (kW_pos q).1; omega
  rw [if_neg s0]
  have sk : 0 ≤ sp a b := by omega
  refine ⟨fun e => by omega, fun _ => ⟨by omega, ?_⟩⟩
  simp only [Int.toNat_natCast]
  rcases cb with ⟨b1, b2, b3⟩ | ⟨c, m, b1, b2, b3, b4, b5⟩
  · rw [b1]
    refine ⟨fun _ => H0 (fun _ q => ?_), fun e => absurd rfl e⟩
    have : (kF : Int) = 1001000000 := rfl
    omega
  · have fb : v b < kF := by show v b < 1001000000; omega
    rw [b1, b2]
    refine ⟨fun e => by omega, fun _ => ?_⟩
    rw [hz]
    have ew : w32 ((c : Int) + sp a b) = (c : Int) + sp a b := w32_id (by omega) (by omega)
    have em : w32 ((m : Int) + 1) = ((m + 1 : Nat) : Int) := w32s (by omega)
    rw [ew, em]
    clear ew em
    have up : ∀ h5, h5 = stI h 105 a ((c : Int) + sp a b) → ∀ h6, h6 = stI h5 106 a ((m + 1 : Nat) : Int) → 1000 * ((c : Int) + sp a b) + (m + 1) < v a → Q h6 := by
      intro h5 e5 h6 e6 hl
      obtain ⟨v5, n5, q5⟩ := st_cp e5
      obtain ⟨v6, n6, q6⟩ := st_cp e6
      clear e5 e6
      refine H1 h6 (by rw [kW_of sk]; omega) fb (by rw [kW_of sk]; omega) (.inr ⟨c + (sp a b).toNat, m + 1, ?_, v6, ?_, by omega, by omega⟩) (fun x i hi => ?_) ((q5.wk (fun c q => q.1)).tr (q6.wk (fun c q => q.2)))
      · rw [q6.I (by omega), v5]; omega
      · dsimp only; rw [if_pos rfl, kW_of sk]; omega
      · rw [n6 _ _ (fun q => hi q.2), n5 _ _ (fun q => hi q.2)]
    refine ⟨fun cz => ?_, fun cz => H0 (fun q _ => ?_)⟩
    · rintro y2 rfl y3 rfl
      refine ⟨by omega, ?_⟩
      rcases ca with ⟨a1, a2, a3⟩ | ⟨c', m', a1, a2, a3, a4, a5⟩
      · rw [a1, a2]
        exact ⟨fun e => by omega, fun _ => ⟨fun _ h5 e5 h6 e6 => up h5 e5 h6 e6 (by omega), fun e => by omega⟩⟩
      · rw [a1, a2]
        refine ⟨fun e => H0 (fun q _ => ?_), fun e1 => ⟨fun e2 h5 e5 h6 e6 => up h5 e5 h6 e6 (by omega), fun e2 => ⟨fun e3 h5 e5 h6 e6 => up h5 e5 h6 e6 (by omega), fun e3 => H0 (fun q _ => ?_)⟩⟩⟩
        · rw [kW_of sk]; omega
        · rw [kW_of sk]; omega
    · have : a = z := by omega
      rw [this, v0]
      rw [kW_of (by rw [← this]; exact sk)]
      rw [← this]; omega
theorem c_M_lwR {C : zCt} {N : zEn} {y z r : Nat} {v : Nat → Int} {h2 : zS} {Q : zS → Prop} (hy : y ≤ 2) (hC : okC C) (hN : okN C N) (wC : MCity h C) (wN : MEarn h C N) (hz : cse C = z) (hr : r < 12) (w3 : vD (cn C) (kW (spO C N y)) z kF v) (w4 : ∀ x, x < cn C → cmO h2 v x (12 * r)) (w5 : zEq (fun c => c ≠ 105 ∧ c ≠ 106) h h2)
    (ih : ∀ v' h3, vD (cn C) (kW (spO C N y)) z kF v' → (∀ x, x < cn C → cmO h3 v' x (12 * (r + 1))) → zEq (fun c => c ≠ 105 ∧ c ≠ 106) h h3 → rD (cn C) (kW (spO C N y)) kF v v' → zWv E (d + 5) m_X10_layWays 54 [vo 89, vi y, vi ((r + 1 : Nat) : Int), vn, vn] h3 Q) : zWv E (d + 5) m_X10_layWays 64 [vo 89, vi y, vi r, vi 0, vn] h2 Q := by
  have hn12 := hC.1
  have hs := spO_ok (N := N) (y := y) hC
  have fC : ∀ h2, zEq (fun c => c ≠ 105 ∧ c ≠ 106) h h2 → MCity h2 C := fun h2 e => wC.fr e (by omega)
  have fN : ∀ h2, zEq (fun c => c ≠ 105 ∧ c ≠ 106) h h2 → MEarn h2 C N := fun h2 e => wN.fr e ⟨by omega, fun j _ _ => by omega⟩
  generalize hsp : spO C N y = sp at *
  refine z_upS (σ := (Nat → Int) × zS) (n := cn C) (fun i s => zWv E (d + 4 + 1) m_X10_layWays 64 [vo 89, vi y, vi r, vi i, vn] s.2 Q)
    (fun i s => vD (cn C) (kW sp) z kF s.1 ∧ (∀ x, x < cn C → cmO s.2 s.1 x (12 * r + i)) ∧ zEq (fun c => c ≠ 105 ∧ c ≠ 106) h s.2 ∧ (∀ a, a < cn C → s.1 a ≤ v a) ∧ ∀ a b, a < i → a < cn C → b < cn C → 0 < kW sp a b → v b < kF → s.1 a ≤ kW sp a b + v b) ?_ ?_ 0 (v, h2) (by omega) ⟨w3, w4, w5, fun a _ => Int.le_refl _, fun a b ha => by omega⟩
  · rintro ⟨v', h3⟩ ⟨u2, u3, u4, u5, u7⟩
    dsimp only at u2 u3 u4 u5 u7 ⊢
    refine r_X10_layWays_64 ⟨fun _ => ?_, fun c => by rw [(fC h3 u4).1] at c; omega⟩
    rw [w32t hr]
    exact ih v' h3 u2 (fun x hx => (u3 x hx).mono (by omega)) u4 ⟨u5, fun a b ha hb hw hf => u7 a b ha ha hb hw hf⟩
  · rintro i ⟨v', h3⟩ hi ⟨u2, u3, u4, u5, u7⟩ ih2
    dsimp only at u2 u3 u4 u5 u7 ih2 ⊢
    have i12 : i < 12 := by omega
    refine r_X10_layWays_64 ⟨fun c => by rw [(fC h3 u4).1] at c; omega, fun _ => ?_⟩
    refine z_upS (σ := (Nat → Int) × zS) (n := cn C) (fun j s => zWv E (d + 4 + 1) m_X10_layWays 75 [vo 89, vi y, vi r, vi i, vi j] s.2 Q)
      (fun j s => vD (cn C) (kW sp) z kF s.1 ∧ (∀ x, x < cn C → x ≠ i → cmO s.2 s.1 x (12 * r + i)) ∧ cmO s.2 s.1 i (12 * r + i + 1) ∧ zEq (fun c => c ≠ 105 ∧ c ≠ 106) h s.2 ∧ (∀ a, a < cn C → s.1 a ≤ v a) ∧ (∀ a b, a < i → a < cn C → b < cn C → 0 < kW sp a b → v b < kF → s.1 a ≤ kW sp a b + v b) ∧ ∀ b, b < j → b < cn C → 0 < kW sp i b → v b < kF → s.1 i ≤ kW sp i b + v b) ?_ ?_ 0 (v', h3) (by omega) ⟨u2, fun x hx _ => u3 x hx, (u3 i hi).mono (by omega), u4, u5, u7, fun b hb => by omega⟩
    · rintro ⟨v2, h4⟩ ⟨t2, t3, t3', t4, t5, t7, t8⟩
      dsimp only at t2 t3 t3' t4 t5 t7 t8 ⊢
      refine r_X10_layWays_75 ⟨fun _ => ?_, fun c => by rw [(fC h4 t4).1] at c; omega⟩
      rw [w32t i12]
      refine ih2 (v2, h4) ⟨t2, fun x hx => ?_, t4, t5, fun a b hai ha hb hw hf => ?_⟩
      · dsimp only
        by_cases e : x = i
        · rw [e]; exact t3'
        · exact (t3 x hx e).mono (by omega)
      · by_cases e : a = i
        · rw [e] at hw ⊢; exact t8 b hb hb hw hf
        · exact t7 a b (by omega) ha hb hw hf
    · rintro j ⟨v2, h4⟩ hj ⟨t2, t3, t3', t4, t5, t7, t8⟩ ih3
      dsimp only at t2 t3 t3' t4 t5 t7 t8 ih3 ⊢
      have j12 : j < 12 := by omega
      refine r_X10_layWays_75 ⟨fun c => by rw [(fC h4 t4).1] at c; omega, fun _ => ?_⟩
      rw [w32t j12]
      refine c_M_stepOf (N := N) hy hC hN (fC h4 t4) (fN h4 t4) hi hj ?_
      rw [hsp]
      have same : (0 < kW sp i j → v2 j < kF → v2 i ≤ kW sp i j + v2 j) → zWv E (d + 4 + 1) m_X10_layWays 75 [vo 89, vi y, vi r, vi i, vi ((j + 1 : Nat) : Int)] h4 Q := fun al => ih3 (v2, h4) ⟨t2, t3, t3', t4, t5, t7, fun b hbj hb hw hf => by
        dsimp only
        by_cases e : b = j
        · rw [e] at hw hf ⊢
          have q := t5 j hj
          have := al hw (by omega)
          omega
        · exact t8 b (by omega) hb hw hf⟩
      by_cases ij : i = j
      · have sm : sp i j = -1 := by rw [← hsp, ij]; exact spO_self hC hN j
        unfold frO
        rw [if_pos sm]
        refine v_X10_better ⟨fun _ => same (fun q => ?_), fun e => absurd rfl e⟩
        have := (kW_pos q).1; omega
      · refine c_M_better (v := v2) (z := z) (bd := 12 * r + i) (hs i j hi hj) ij i12 j12 (by rw [(fC h4 t4).2.2.2.1, hz]) t2.1 (t3'.mono (by omega)) (t3 j hj (fun e => ij e.symm)) (by omega) same (fun h8 k1 k2 k3 k4 k5 k6 => ?_)
        have up := vD_up t2 hi hj k1 k2 k3
        refine ih3 ((fun c => if c = i then kW sp i j + v2 j else v2 c), h8) ⟨up, fun x hx hxi => ?_, k4, t4.tr k6, fun a ha => ?_, fun a b hai ha hb hw hf => ?_, fun b hbj hb hw hf => ?_⟩
        · exact (t3 x hx hxi).w (k5 _ _ hxi) (k5 _ _ hxi) (by dsimp only; rw [if_neg hxi])
        · dsimp only
          have := t5 a ha
          by_cases e : a = i
          · rw [if_pos e]; rw [e] at this ⊢; omega
          · rw [if_neg e]; exact this
        · dsimp only
          rw [if_neg (by omega)]; exact t7 a b hai ha hb hw hf
        · dsimp only
          rw [if_pos rfl]
          have q := t5 j hj
          by_cases e : b = j
          · rw [e]; omega
          · have := t8 b (by omega) hb hw hf
            omega
theorem c_M_layWays {C : zCt} {N : zEn} {y z : Nat} {Q : zS → Prop} (hy : y ≤ 2) (hC : okC C) (hN : okN C N) (wC : MCity h C) (wN : MEarn h C N) (hz : cse C = z) (zn : z < cn C)
    (HQ : ∀ D h1, isD (cn C) (kW (spO C N y)) z kF D → (∀ x, x < cn C → cmO h1 D x 144) → zEq (fun c => c ≠ 105 ∧ c ≠ 106) h h1 → Q h1) : zCv E (d + 5) m_X10_layWays [vo 89, vi y] h Q := by
  have hn12 := hC.1
  have fC : ∀ h2, zEq (fun c => c ≠ 105 ∧ c ≠ 106) h h2 → MCity h2 C := fun h2 e => wC.fr e (by omega)
  refine v_X10_layWays ?_
  refine z_up (n := 12) (fun i h2 => zWv E (d + 4 + 1) m_X10_layWays 2 [vo 89, vi y, vi i, vn, vn] h2 Q) (fun i h2 => (∀ j, j < i → hI h2 105 j = 1000000 ∧ hI h2 106 j = 1000000) ∧ zEq (fun c => c ≠ 105 ∧ c ≠ 106) h h2) ?_ ?_ 0 h (by omega) ⟨fun j hj => by omega, zEq.rf⟩
  · rintro h1 ⟨f1, f2⟩
    refine r_X10_layWays_2 ⟨fun _ => ?_, fun c => by omega⟩
    rw [(fC h1 f2).2.2.2.1, hz]
    refine ⟨by omega, ?_⟩
    simp only [Int.toNat_natCast]
    intro h2 e2
    obtain ⟨v2, n2, q2⟩ := st_cp e2
    clear e2
    have z2 : hI h2 89 32 = (z : Int) := by rw [q2.I (by omega), (fC h1 f2).2.2.2.1, hz]
    rw [z2]
    refine ⟨by omega, ?_⟩
    simp only [Int.toNat_natCast]
    intro h4 e4
    obtain ⟨v4, n4, q4⟩ := st_cp e4
    clear e4
    obtain ⟨D, hD⟩ := isD_ex (n := cn C) (W := kW (spO C N y)) (z := z) (F := kF) (sD (fun i => if i = z then 0 else kF) (cn C) + 1) _ (vD_0k (by show (0 : Int) ≤ 1001000000; omega)) (by omega)
    refine z_upS (σ := (Nat → Int) × zS) (n := cn C) (fun r s => zWv E (d + 4 + 1) m_X10_layWays 54 [vo 89, vi y, vi r, vn, vn] s.2 Q)
      (fun r s => vD (cn C) (kW (spO C N y)) z kF s.1 ∧ (∀ x, x < cn C → cmO s.2 s.1 x (12 * r)) ∧ zEq (fun c => c ≠ 105 ∧ c ≠ 106) h s.2 ∧ (nf (cn C) D s.1 = 0 ∨ pc12 (nf (cn C) D s.1) + r ≤ cn C)) ?_ ?_ 0 ((fun i => if i = z then 0 else kF), h4) (by omega) ?_
    · rintro ⟨v, h3⟩ ⟨w3, w4, w5, w7⟩
      dsimp only at w3 w4 w5 w7 ⊢
      refine r_X10_layWays_54 ⟨fun _ => ?_, fun c => by rw [(fC h3 w5).1] at c; omega⟩
      have nz : nf (cn C) D v = 0 := by
        rcases w7 with q | q
        · exact q
        · exact pc_0 (bset_lt _) (by omega)
      clear w7
      have eq : ∀ i, i < cn C → v i = D i := fun i hi => nf_0 hn12 nz hi
      refine HQ v h3 (isD_of w3 (fun a b ha hb hw hf => ?_)) (fun x hx => (w4 x hx).mono (by omega)) w5
      have q := hD.2.2.1 a b ha hb hw (by rw [← eq b hb]; exact hf)
      rw [eq a ha, eq b hb]
      exact q
    · rintro r ⟨v, h3⟩ hr ⟨w3, w4, w5, w7⟩ ih
      dsimp only at w3 w4 w5 w7 ih ⊢
      refine r_X10_layWays_54 ⟨fun c => by rw [(fC h3 w5).1] at c; omega, fun _ => ?_⟩
      exact c_M_lwR (z := z) (v := v) hy hC hN wC wN hz (Nat.lt_of_lt_of_le hr hn12) w3 w4 w5 (fun v' h3 a1 a2 a3 a4 => ih (v', h3) ⟨a1, a2, a3, nf_step hn12 zn hD w3 a1 a4 w7⟩)
    · dsimp only
      refine ⟨vD_0k (by show (0 : Int) ≤ 1001000000; omega), fun x hx => ?_, f2.tr ((q2.wk (fun c q => q.1)).tr (q4.wk (fun c q => q.2))), .inr ?_⟩
      · by_cases e : x = z
        · refine .inr ⟨0, 0, ?_, ?_, ?_, by omega, by omega⟩
          · rw [q4.I (by omega), e]; exact v2
          · rw [e]; exact v4
          · dsimp only; rw [if_pos e]; rfl
        · refine .inl ⟨?_, ?_, ?_⟩
          · rw [q4.I (by omega), n2 _ _ (fun q => e q.2)]; exact (f1 x (by omega)).1
          · rw [n4 _ _ (fun q => e q.2), q2.I (by omega)]; exact (f1 x (by omega)).2
          · dsimp only; rw [if_neg e]
      · rw [Nat.add_zero]; exact nf_cnt hn12
  · rintro i h2 hi ⟨f1, f2⟩ ih
    refine r_X10_layWays_2 ⟨fun c => by omega, fun _ => ⟨by omega, ?_⟩⟩
    rw [w32t hi]
    simp only [Int.toNat_natCast]
    intro h6 e6 h7 e7
    obtain ⟨v6, n6, q6⟩ := st_cp e6
    obtain ⟨v7, n7, q7⟩ := st_cp e7
    clear e6 e7
    refine ih h7 ⟨fun j hj => ?_, f2.tr ((q6.wk (fun c q => q.1)).tr (q7.wk (fun c q => q.2)))⟩
    by_cases e : j = i
    · rw [e]; exact ⟨by rw [q7.I (by omega)]; exact v6, v7⟩
    · rw [n7 _ _ (fun q => e q.2), n7 _ _ (fun q => e q.2), n6 _ _ (fun q => e q.2), n6 _ _ (fun q => e q.2)]; exact f1 j (by omega)
end ML
