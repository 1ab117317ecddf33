/-! the class's lexer -/
def sg (v : Nat) : Int := if v < 128 then (v : Int) else (v : Int) - 256
def XL0 (h : zS) (n : Nat) (b : Nat → Nat) (i : Nat) : Prop := hR h 3 0 = some 1 ∧ hI h 3 1 = n ∧ hI h 3 2 = i ∧ ∀ k, k < n → hI h 1 k = sg (b k)
def XLex (h : zS) (n : Nat) (b : Nat → Nat) (T : zTk) : Prop := XL0 h n b (tnx T) ∧ hI h 3 3 = tcd T ∧ hI h 3 4 = tpl T ∧ (tcd T ≤ 13 → hL h 3 5 = twd T) ∧ (tcd T = 14 → hI h 3 6 = tnu T)
def rnP (p : Nat → Bool) (lo hi : Int) : Prop := ∀ v, v < 256 → (p v = true ↔ lo ≤ sg v ∧ sg v ≤ hi)
theorem rnP_l : rnP isLt 97 122 := by
  intro v hv
  unfold isLt sg
  simp only [Bool.and_eq_true, decide_eq_true_eq]
  split <;> omega
theorem rnP_d : rnP isDg 48 57 := by
  intro v hv
  unfold isDg sg
  simp only [Bool.and_eq_true, decide_eq_true_eq]
  split <;> omega
theorem isLt_b {v : Nat} (h : isLt v = true) : 97 ≤ v ∧ v ≤ 122 := by
  unfold isLt at h
  simpa only [Bool.and_eq_true, decide_eq_true_eq] using h
theorem isDg_b {v : Nat} (h : isDg v = true) : 48 ≤ v ∧ v ≤ 57 := by
  unfold isDg at h
  simpa only [Bool.and_eq_true, decide_eq_true_eq] using h
section LX
variable {E : zE} {d : Nat} {h : zS}
theorem c_runOf {n i : Nat} {b : Nat → Nat} {p : Nat → Bool} {lo hi : Int} {Q : Int → zS → Prop} (w : XL0 h n b i) (hn : n ≤ 1600) (hi' : i ≤ n) (hb : ∀ k, b k < 256) (hp : rnP p lo hi) (HQ : Q (rn p b (n - i) i : Nat) h) : zCi E d m_X5_runOf [vo 3, vi lo, vi hi] h Q := by
  obtain ⟨w1, w2, w3, w4⟩ := w
  refine v_X5_runOf ?_
  rw [w3]
  have fin : ∀ r, r ≤ n - i → (∀ k, k < r → p (b (i + k)) = true) → (r < n - i → p (b (i + r)) = false) → Q (w32 (((i + r : Nat) : Int) - (i : Int))) h := by
    intro r h1 h2 h3
    rw [rn_u h1 h2 h3] at HQ
    rw [w32_id (by omega) (by omega)]
    have : ((i + r : Nat) : Int) - (i : Int) = (r : Int) := by omega
    rw [this]; exact HQ
  refine z_upS (σ := Unit) (n := n - i) (fun r _ => zWi E d m_X5_runOf 5 [vo 3, vi lo, vi hi, vi ((i + r : Nat) : Int)] h Q) (fun r _ => ∀ k, k < r → p (b (i + k)) = true) ?_ ?_ 0 () (by omega) (fun k hk => by omega)
  · intro _ u
    refine r_X5_runOf_5 ?_
    rw [w2, w3]
    exact ⟨fun _ => fin (n - i) (Nat.le_refl _) u (fun e => by omega), fun c => by omega⟩
  · intro r _ hr u ih
    have bv := hp (b (i + r)) (hb _)
    have no : ¬ (lo ≤ sg (b (i + r)) ∧ sg (b (i + r)) ≤ hi) → p (b (i + r)) = false := fun q => by
      cases e : p (b (i + r))
      · rfl
      · exact absurd (bv.mp e) q
    refine r_X5_runOf_5 ?_
    rw [w2, w3]
    refine ⟨fun c => by omega, fun _ => ⟨1, w1, ga_1, by omega, ?_⟩⟩
    simp only [Int.toNat_natCast]
    rw [w4 _ (by omega)]
    refine ⟨fun c => fin r (by omega) u (fun _ => no (by omega)), fun c => ⟨1, w1, ga_1, ?_⟩⟩
    rw [w4 _ (by omega)]
    refine ⟨fun c2 => fin r (by omega) u (fun _ => no (by omega)), fun c2 => ?_⟩
    rw [w32s (by omega)]
    refine ih () (fun k hk => ?_)
    by_cases e : k = r
    · rw [e]; exact bv.mpr ⟨c, c2⟩
    · exact u k (by omega)
theorem c_packed {n i L : Nat} {b : Nat → Nat} {Q : Int → zS → Prop} (w : XL0 h n b i) (hn : n ≤ 1600) (hL : i + L ≤ n) (hb : ∀ k, k < L → isLt (b (i + k)) = true) (HQ : ∀ y : Int, (L ≤ 8 → y = (wd b i L : Nat)) → Q y h) : zCl E d m_X5_packed [vo 3, vi L] h Q := by
  obtain ⟨w1, w2, w3, w4⟩ := w
  refine v_X5_packed ?_
  rw [w3]
  refine z_upS (σ := Int) (n := L) (fun r y => zWl E d m_X5_packed 8 [vo 3, vi L, vl y, vn, vi ((i + r : Nat) : Int)] h Q) (fun r y => r ≤ 8 → y = (wd b i r : Nat)) ?_ ?_ 0 0 (by omega) (fun _ => rfl)
  · intro y u
    refine r_X5_packed_8 ?_
    rw [w3, w32_id (by omega) (by omega)]
    exact ⟨fun _ => HQ y u, fun c => by omega⟩
  · intro r y hr u ih
    refine r_X5_packed_8 ?_
    rw [w3, w32_id (z := (i : Int) + (L : Int)) (by omega) (by omega), w2]
    refine ⟨fun c => by omega, fun _ => ⟨fun c => by omega, fun _ => ⟨1, w1, ga_1, by omega, ?_⟩⟩⟩
    simp only [Int.toNat_natCast]
    rw [w4 _ (by omega), w32s (by omega)]
    have bl := isLt_b (hb r hr)
    have es : sg (b (i + r)) = (b (i + r) : Nat) := by unfold sg; rw [if_pos (by omega)]
    rw [es]
    rintro y3 rfl
    refine ih _ (fun l8 => ?_)
    rw [u (by omega), lor8 (wd_55 (by omega) (fun j hj => by have := isLt_b (hb j (by omega)); omega)) (by omega)]
    rfl
theorem c_valueOf {n i L : Nat} {b : Nat → Nat} {Q : Int → zS → Prop} (w : XL0 h n b i) (hn : n ≤ 1600) (hL : i + L ≤ n) (hb : ∀ k, k < L → isDg (b (i + k)) = true) (HQ : ∀ y : Int, (L ≤ 4 → y = (nu b i L : Nat)) → Q y h) : zCi E d m_X5_valueOf [vo 3, vi L] h Q := by
  obtain ⟨w1, w2, w3, w4⟩ := w
  refine v_X5_valueOf ?_
  rw [w3]
  have bnd : ∀ r, r ≤ 4 → r ≤ L → nu b i r ≤ 9999 ∧ (r ≤ 3 → nu b i r ≤ 999) ∧ (r ≤ 2 → nu b i r ≤ 99) ∧ (r ≤ 1 → nu b i r ≤ 9) ∧ (r = 0 → nu b i r = 0) := by
    intro r
    induction r with
    | zero => intro _ _; show (0 : Nat) ≤ 9999 ∧ _; exact ⟨by omega, fun _ => Nat.zero_le _, fun _ => Nat.zero_le _, fun _ => Nat.zero_le _, fun _ => rfl⟩
    | succ r ih =>
      intro h1 h2
      have ih := ih (by omega) (by omega)
      have bl := isDg_b (hb r (by omega))
      have e : nu b i (r + 1) = 10 * nu b i r + (b (i + r) - 48) := rfl
      rw [e]
      omega
  refine z_upS (σ := Int) (n := L) (fun r y => zWi E d m_X5_valueOf 7 [vo 3, vi L, vi y, vi ((i + r : Nat) : Int)] h Q) (fun r y => r ≤ 4 → y = (nu b i r : Nat)) ?_ ?_ 0 0 (by omega) (fun _ => rfl)
  · intro y u
    refine r_X5_valueOf_7 ?_
    rw [w3, w32_id (by omega) (by omega)]
    exact ⟨fun _ => HQ y u, fun c => by omega⟩
  · intro r y hr u ih
    refine r_X5_valueOf_7 ?_
    rw [w3, w32_id (z := (i : Int) + (L : Int)) (by omega) (by omega), w2]
    refine ⟨fun c => by omega, fun _ => ⟨fun c => by omega, fun _ => ⟨1, w1, ga_1, by omega, ?_⟩⟩⟩
    simp only [Int.toNat_natCast]
    rw [w4 _ (by omega), w32s (by omega)]
    have bl := isDg_b (hb r hr)
    have es : sg (b (i + r)) = (b (i + r) : Nat) := by unfold sg; rw [if_pos (by omega)]
    rw [es]
    rintro y3 rfl
    refine ih _ (fun l4 => ?_)
    have bd := bnd r (by omega) (by omega)
    have e : nu b i (r + 1) = 10 * nu b i r + (b (i + r) - 48) := rfl
    rw [u (by omega), e]
    generalize nu b i r = x at *
    rw [w32_id (z := (x : Int) * 10) (by omega) (by omega), w32_id (z := ((b (i + r) : Nat) : Int) - 48) (by omega) (by omega), w32_id (by omega) (by omega)]
    omega
theorem c_meaningOf {w : Int} {Q : Int → zS → Prop} (HQ : Q (mean w : Nat) h) : zCi E d m_X5_meaningOf [vl w] h Q := by
  refine v_X5_meaningOf ?_
  obtain ⟨m1, m2, m3⟩ := mean_is w
  refine z_upS (σ := Unit) (n := 13) (fun r _ => zWi E d m_X5_meaningOf 2 [vl w, vn, vi r] h Q) (fun r _ => ∀ k, k < r → z_own.getD k 0 ≠ w) ?_ ?_ 0 () (by omega) (fun k hk => by omega)
  · intro _ u
    refine r_X5_meaningOf_2 ⟨fun _ => ?_, fun c => by omega⟩
    have : mean w = 13 := by
      by_cases l : mean w < 13
      · exact absurd (m2 l) (u _ l)
      · omega
    rw [this] at HQ; exact HQ
  · intro r _ hr u ih
    refine r_X5_meaningOf_2 ⟨fun c => by omega, fun _ => ⟨by omega, ?_⟩⟩
    simp only [Int.toNat_natCast]
    rw [w32s (by omega)]
    refine ⟨fun c => ih () (fun k hk => ?_), fun c => ?_⟩
    · by_cases e : k = r
      · rw [e]; exact fun q => c (lc_0.mpr q)
      · exact u k (by omega)
    · have q := lc_0.mp c
      rw [(mean_k hr).mpr q.symm] at HQ; exact HQ
theorem c_advB {n j : Nat} {b : Nat → Nat} {Q : zS → Prop} (w : XL0 h n b j) (hn : n ≤ 1600) (hj : j ≤ n) (hb : ∀ k, b k < 256) (HQ : ∀ h1, XLex h1 n b (tokJ n b j) → zEq (fun c => c ≠ 3) h h1 → Q h1) : (∀ h1, h1 = stI h 3 4 (hI h 3 2) → zCi E d m_X5_runOf [vo 3, vi 97, vi 122] h1 (fun y3 h2 => zCi E d m_X5_runOf [vo 3, vi 48, vi 57] h2 (fun y5 h4 => (((hI h4 3 2) < (hI h4 3 1) → ((y3 ≤ 0 → ((y5 ≤ 0 → (∃ t6, hR h4 3 0 = some t6 ∧ zArr g0 t6 1 1600 ∧ (0 ≤ hI h4 3 2 ∧ hI h4 3 2 < 1600) ∧ (∀ h9, h9 = stI h4 3 3 (if (hI h4 t6 (hI h4 3 2).toNat) ≠ 59 then 17 else 15) → ∀ h10, h10 = stI h9 3 2 (w32 ((hI h9 3 2) + 1)) → Q h10))) ∧ (0 < y5 → (zCi E d m_X5_valueOf [vo 3, vi y5] h4 (fun y12 h11 => ∀ h13, h13 = stI h11 3 6 y12 → ∀ h14, h14 = stI h13 3 2 (w32 ((hI h13 3 2) + y5)) → ((4 < y5 → (∀ h15, h15 = stI h14 3 3 17 → Q h15)) ∧ (y5 ≤ 4 → (zCi E d m_X5_runOf [vo 3, vi 97, vi 122] h14 (fun y17 h16 => (∀ h19, h19 = stI h16 3 3 (if y17 ≤ 0 then 14 else 17) → Q h19)))))))))) ∧ (0 < y3 → (zCl E d m_X5_packed [vo 3, vi y3] h4 (fun y21 h20 => ∀ h22, h22 = stL h20 3 5 y21 → ∀ h23, h23 = stI h22 3 2 (w32 ((hI h22 3 2) + y3)) → ((y3 ≤ 8 → (zCi E d m_X5_meaningOf [vl (hL h23 3 5)] h23 (fun y25 h24 => ∀ h26, h26 = stI h24 3 3 y25 → Q h26))) ∧ (8 < y3 → (∀ h27, h27 = stI h23 3 3 17 → Q h27)))))))) ∧ ((hI h4 3 1) ≤ (hI h4 3 2) → (∀ h28, h28 = stI h4 3 3 16 → Q h28)))))) := by
  intro h1 e1
  rw [w.2.2.1] at e1
  have R1 : hR h1 3 0 = some 1 := by rw [e1]; exact w.1
  obtain ⟨v1, n1, q1⟩ := st_cp e1
  clear e1
  have w1 : XL0 h1 n b j := ⟨R1, by rw [n1 _ _ (by omega)]; exact w.2.1, by rw [n1 _ _ (by omega)]; exact w.2.2.1, fun k hk => by rw [q1.I (by omega)]; exact w.2.2.2 k hk⟩
  refine c_runOf w1 hn hj hb rnP_l ?_
  refine c_runOf w1 hn hj hb rnP_d ?_
  rw [w1.2.1, w1.2.2.1]
  have la := rn_is (p := isLt) (b := b) (n - j) j
  have da := rn_is (p := isDg) (b := b) (n - j) j
  unfold tokJ at HQ
  refine ⟨fun c => ?_, fun c => ?_⟩
  · rw [if_neg (by omega)] at HQ
    refine ⟨fun c2 => ?_, fun c2 => ?_⟩
    · rw [if_neg (by omega)] at HQ
      refine ⟨fun c3 => ⟨1, R1, ga_1, by omega, ?_⟩, fun c3 => ?_⟩
      · rw [if_neg (by omega)] at HQ
        simp only [Int.toNat_natCast]
        have sv := w1.2.2.2 j (by omega)
        have bj := hb j
        intro h9 e9
        have R9 : hR h9 3 0 = some 1 := by rw [e9]; exact R1
        obtain ⟨v9, n9, q9⟩ := st_cp e9
        clear e9
        have a9 : hI h9 3 2 = (j : Int) := by rw [n9 _ _ (by omega)]; exact w1.2.2.1
        rw [a9, w32s (by omega)]
        intro h10 e10
        have R10 : hR h10 3 0 = some 1 := by rw [e10]; exact R9
        obtain ⟨v10, n10, q10⟩ := st_cp e10
        clear e10
        refine HQ h10 ⟨⟨R10, ?_, v10, fun k hk => ?_⟩, ?_, ?_, fun t => ?_, fun t => ?_⟩ (q1.tr (q9.tr q10))
        · rw [n10 _ _ (by omega), n9 _ _ (by omega)]; exact w1.2.1
        · rw [q10.I (by omega), q9.I (by omega)]; exact w1.2.2.2 k hk
        · rw [n10 _ _ (by omega), v9]
          show _ = (((if b j = 59 then 15 else 17 : Nat)) : Int)
          by_cases e : b j = 59
          · rw [if_pos e, if_neg (by rw [sv]; unfold sg; rw [if_pos (by omega)]; omega)]; rfl
          · rw [if_neg e, if_pos (by rw [sv]; unfold sg; split <;> omega)]; rfl
        · rw [n10 _ _ (by omega), n9 _ _ (by omega)]; exact v1
        · have t : (if b j = 59 then 15 else 17 : Nat) ≤ 13 := t
          split at t <;> omega
        · have t : (if b j = 59 then 15 else 17 : Nat) = 14 := t
          split at t <;> omega
      · rw [if_pos (by omega)] at HQ
        refine c_valueOf w1 hn (by omega) da.2.1 (fun y hy => ?_)
        generalize rn isDg b (n - j) j = D at *
        intro h13 e13
        have R13 : hR h13 3 0 = some 1 := by rw [e13]; exact R1
        obtain ⟨v13, n13, q13⟩ := st_cp e13
        clear e13
        have a13 : hI h13 3 2 = (j : Int) := by rw [n13 _ _ (by omega)]; exact w1.2.2.1
        rw [a13, w32_id (by omega) (by omega)]
        intro h14 e14
        have R14 : hR h14 3 0 = some 1 := by rw [e14]; exact R13
        obtain ⟨v14, n14, q14⟩ := st_cp e14
        clear e14
        have w14 : XL0 h14 n b (j + D) := ⟨R14, by rw [n14 _ _ (by omega), n13 _ _ (by omega)]; exact w1.2.1, by rw [v14]; omega, fun k hk => by rw [q14.I (by omega), q13.I (by omega)]; exact w1.2.2.2 k hk⟩
        have fin : ∀ x cd h15, h15 = stI h14 3 3 x → x = ((cd : Nat) : Int) → cd = (if 4 < D ∨ 0 < rn isLt b (n - (j + D)) (j + D) then 17 else 14) → Q h15 := by
          intro x cd h15 e15 ex ec
          have R15 : hR h15 3 0 = some 1 := by rw [e15]; exact R14
          obtain ⟨v15, n15, q15⟩ := st_cp e15
          clear e15
          refine HQ h15 ⟨⟨R15, ?_, ?_, fun k hk => ?_⟩, ?_, ?_, fun t => ?_, fun t => ?_⟩ (q1.tr (q13.tr (q14.tr q15)))
          · rw [n15 _ _ (by omega)]; exact w14.2.1
          · rw [n15 _ _ (by omega)]; exact w14.2.2.1
          · rw [q15.I (by omega)]; exact w14.2.2.2 k hk
          · rw [v15, ex, ec]; rfl
          · rw [n15 _ _ (by omega), n14 _ _ (by omega), n13 _ _ (by omega)]; exact v1
          · have t : (if 4 < D ∨ 0 < rn isLt b (n - (j + D)) (j + D) then 17 else 14 : Nat) ≤ 13 := t
            split at t <;> omega
          · have t : (if 4 < D ∨ 0 < rn isLt b (n - (j + D)) (j + D) then 17 else 14 : Nat) = 14 := t
            have d4 : D ≤ 4 := by split at t <;> omega
            rw [n15 _ _ (by omega), n14 _ _ (by omega), v13, hy d4]
            rfl
        refine ⟨fun c4 h15 e15 => fin 17 17 h15 e15 rfl (by rw [if_pos (.inl (by omega))]), fun c4 => ?_⟩
        refine c_runOf w14 hn (by omega) hb rnP_l ?_
        intro h19 e19
        by_cases c5 : 0 < rn isLt b (n - (j + D)) (j + D)
        · refine fin _ 17 h19 e19 ?_ (by rw [if_pos (.inr c5)])
          rw [if_neg (by omega)]; rfl
        · refine fin _ 14 h19 e19 ?_ (by rw [if_neg (by omega)])
          rw [if_pos (by omega)]; rfl
    · rw [if_pos (by omega)] at HQ
      refine c_packed w1 hn (by omega) la.2.1 (fun y hy => ?_)
      generalize rn isLt b (n - j) j = L at *
      intro h22 e22
      have R22 : hR h22 3 0 = some 1 := by rw [e22]; exact R1
      have i22 : ∀ c k, hI h22 c k = hI h1 c k := by rw [e22]; exact fun _ _ => rfl
      obtain ⟨v22, n22, q22⟩ := st_cpL e22
      clear e22
      rw [i22, w1.2.2.1, w32_id (by omega) (by omega)]
      intro h23 e23
      have R23 : hR h23 3 0 = some 1 := by rw [e23]; exact R22
      have l23 : hL h23 3 5 = y := by rw [e23]; exact v22
      obtain ⟨v23, n23, q23⟩ := st_cp e23
      clear e23
      have fin : ∀ x cd h15, h15 = stI h23 3 3 x → x = ((cd : Nat) : Int) → cd = (if 8 < L then 17 else mean (wd b j L : Nat)) → Q h15 := by
        intro x cd h15 e15 ex ec
        have R15 : hR h15 3 0 = some 1 := by rw [e15]; exact R23
        have l15 : hL h15 3 5 = y := by rw [e15]; exact l23
        obtain ⟨v15, n15, q15⟩ := st_cp e15
        clear e15
        refine HQ h15 ⟨⟨R15, ?_, ?_, fun k hk => ?_⟩, ?_, ?_, fun t => ?_, fun t => ?_⟩ (q1.tr (q22.tr (q23.tr q15)))
        · rw [n15 _ _ (by omega), n23 _ _ (by omega), i22]; exact w1.2.1
        · rw [n15 _ _ (by omega), v23]; show (j : Int) + (L : Int) = ((j + L : Nat) : Int); omega
        · rw [q15.I (by omega), q23.I (by omega), i22]; exact w1.2.2.2 k hk
        · rw [v15, ex, ec]; rfl
        · rw [n15 _ _ (by omega), n23 _ _ (by omega), i22]; exact v1
        · have t : (if 8 < L then 17 else mean (wd b j L : Nat) : Nat) ≤ 13 := t
          have l8 : L ≤ 8 := by split at t <;> omega
          rw [l15, hy l8]; rfl
        · have t : (if 8 < L then 17 else mean (wd b j L : Nat) : Nat) = 14 := t
          have := (mean_is (wd b j L : Nat)).1
          split at t <;> omega
      refine ⟨fun c4 => ?_, fun c4 h15 e15 => fin 17 17 h15 e15 rfl (by rw [if_pos (by omega)])⟩
      rw [l23, hy (by omega)]
      refine c_meaningOf ?_
      intro h26 e26
      exact fin _ _ h26 e26 rfl (by rw [if_neg (by omega)])
  · rw [if_pos (by omega)] at HQ
    intro h15 e15
    have R15 : hR h15 3 0 = some 1 := by rw [e15]; exact R1
    obtain ⟨v15, n15, q15⟩ := st_cp e15
    clear e15
    refine HQ h15 ⟨⟨R15, ?_, ?_, fun k hk => ?_⟩, ?_, ?_, fun t => ?_, fun t => ?_⟩ (q1.tr q15)
    · rw [n15 _ _ (by omega)]; exact w1.2.1
    · rw [n15 _ _ (by omega)]; exact w1.2.2.1
    · rw [q15.I (by omega)]; exact w1.2.2.2 k hk
    · rw [v15]; rfl
    · rw [n15 _ _ (by omega)]; exact v1
    · have t : (16 : Nat) ≤ 13 := t
      omega
    · have t : (16 : Nat) = 14 := t
      omega
theorem c_advance {n i : Nat} {b : Nat → Nat} {Q : zS → Prop} (w : XL0 h n b i) (hn : n ≤ 1600) (hi : i ≤ n) (hb : ∀ k, b k < 256) (HQ : ∀ h1, XLex h1 n b (tokF n b i) → zEq (fun c => c ≠ 3) h h1 → Q h1) : zCv E (d + 1) m_X5_advance [vo 3] h Q := by
  refine v_X5_advance ?_
  refine z_upS (σ := zS) (n := n - i) (fun r h2 => zWv E (d + 1) m_X5_advance 0 [vo 3, vn, vn] h2 Q) (fun r h2 => XL0 h2 n b (i + r) ∧ zEq (fun c => c ≠ 3) h h2 ∧ ∀ k, k < r → isSp (b (i + k)) = true) ?_ ?_ 0 h (by omega) ⟨w, zEq.rf, fun k hk => by omega⟩
  · rintro h2 ⟨u1, u2, u3⟩
    refine r_X5_advance_0 ?_
    refine ⟨fun _ => c_advB (j := i + (n - i)) u1 hn (by omega) hb (fun h3 x3 e3 => HQ h3 ?_ (u2.tr e3)), fun c => ?_⟩
    · unfold tokF; rw [rn_u (Nat.le_refl _) u3 (fun e => by omega)]; exact x3
    · rw [u1.2.1, u1.2.2.1] at c; omega
  · rintro r h2 hr ⟨u1, u2, u3⟩ ih
    have bi := hb (i + r)
    have sv := u1.2.2.2 (i + r) (by omega)
    have step : isSp (b (i + r)) = true → ∀ h31, h31 = stI h2 3 2 (w32 ((hI h2 3 2) + 1)) → zWv E (d + 1) m_X5_advance 0 [vo 3, vn, vn] h31 Q := by
      intro sp h31 e31
      rw [u1.2.2.1, w32s (by omega)] at e31
      have R31 : hR h31 3 0 = some 1 := by rw [e31]; exact u1.1
      obtain ⟨v31, n31, q31⟩ := st_cp e31
      clear e31
      refine ih h31 ⟨⟨R31, by rw [n31 _ _ (by omega)]; exact u1.2.1, v31, fun k hk => by rw [q31.I (by omega)]; exact u1.2.2.2 k hk⟩, u2.tr q31, fun k hk => ?_⟩
      by_cases e : k = r
      · rw [e]; exact sp
      · exact u3 k (by omega)
    have at2 : hI h2 3 2 = ((i + r : Nat) : Int) := u1.2.2.1
    refine r_X5_advance_0 ⟨fun c => ?_, fun _ => ⟨1, u1.1, ga_1, ?_, fun c => ?_, fun c => ⟨1, u1.1, ga_1, fun c2 => ?_, fun c2 => ?_⟩⟩⟩
    · rw [u1.2.1, at2] at c; omega
    · rw [at2]; omega
    · rw [at2] at c
      simp only [Int.toNat_natCast] at c
      rw [sv] at c
      refine step ?_
      unfold isSp
      have : b (i + r) = 32 := by unfold sg at c; split at c <;> omega
      rw [this]; rfl
    · rw [at2] at c c2
      simp only [Int.toNat_natCast] at c c2
      rw [sv] at c c2
      refine c_advB (j := i + r) u1 hn (by omega) hb (fun h3 x3 e3 => HQ h3 ?_ (u2.tr e3))
      unfold tokF
      rw [rn_u (r := r) (by omega) u3 (fun _ => ?_)]
      · exact x3
      · unfold isSp
        have q1 : b (i + r) ≠ 32 := fun e => c (by rw [e]; rfl)
        have q2 : b (i + r) ≠ 10 := fun e => c2 (by rw [e]; rfl)
        simp [q1, q2]
    · rw [at2] at c2
      simp only [Int.toNat_natCast] at c2
      rw [sv] at c2
      refine step ?_
      unfold isSp
      have : b (i + r) = 10 := by unfold sg at c2; split at c2 <;> omega
      rw [this]; rfl
end LX
