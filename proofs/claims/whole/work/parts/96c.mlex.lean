/-! the model's lexer -/
def srt (c : Nat) : Int := if c = 16 then 0 else if c = 17 then 3 else if c = 15 then 59 else if c = 14 then 2 else 1
def ML0 (h : zS) (n : Nat) (b : Nat → Nat) (i : Nat) : Prop := hI h 89 5 = n ∧ hI h 89 4 = i ∧ ∀ k, k < n → hI h 90 k = b k
def MLex (h : zS) (n : Nat) (b : Nat → Nat) (T : zTk) : Prop := hI h 89 5 = n ∧ (∀ k, k < n → hI h 90 k = b k) ∧ (tcd T ≠ 17 → hI h 89 4 = tnx T) ∧ hI h 89 6 = srt (tcd T) ∧ hI h 89 7 = tpl T ∧ (tcd T ≤ 13 → hL h 89 9 = twd T) ∧ (tcd T = 14 → hI h 89 8 = tnu T)
def mW (c i : Nat) : Prop := ¬ (c = 89 ∧ (i = 4 ∨ i = 6 ∨ i = 7 ∨ i = 8))
def hre (n : Nat) (b : Nat → Nat) (k : Nat) : Int := if k < n then (b k : Int) else -1
section MX
variable {E : zE} {d : Nat} {h : zS}
theorem c_M_here {n i k : Nat} {b : Nat → Nat} {Q : Int → zS → Prop} (w : ML0 h n b i) (hn : n ≤ 1600) (hi : i ≤ 1600) (hk : k ≤ 1600) (HQ : Q (hre n b (i + k)) h) : zCi E d m_X10_here [vo 89, vi k] h Q := by
  obtain ⟨w1, w2, w3⟩ := w
  refine v_X10_here ?_
  rw [w1, w2]
  have e : w32 ((i : Int) + (k : Int)) = ((i + k : Nat) : Int) := by rw [w32_id (by omega) (by omega)]; omega
  rw [e]
  clear e
  unfold hre at HQ
  refine ⟨fun c => ?_, fun c => ⟨by omega, ?_⟩⟩
  · rw [if_neg (by omega)] at HQ; exact HQ
  · simp only [Int.toNat_natCast]
    rw [w3 _ (by omega)]
    rw [if_pos (by omega)] at HQ; exact HQ
theorem c_M_isLetter {x : Int} {Q : Int → zS → Prop} (HQ : Q (if 97 ≤ x ∧ x ≤ 122 then 1 else 0) h) : zCi E d m_X10_isLetter [vi x] h Q := by
  refine v_X10_isLetter ⟨fun c => ?_, fun c => ⟨fun c2 => ?_, fun c2 => ?_⟩⟩
  · rw [if_neg (by omega)] at HQ; exact HQ
  · rw [if_neg (by omega)] at HQ; exact HQ
  · rw [if_pos ⟨c, c2⟩] at HQ; exact HQ
theorem c_M_isDigit {x : Int} {Q : Int → zS → Prop} (HQ : Q (if 48 ≤ x ∧ x ≤ 57 then 1 else 0) h) : zCi E d m_X10_isDigit [vi x] h Q := by
  refine v_X10_isDigit ⟨fun c => ?_, fun c => ⟨fun c2 => ?_, fun c2 => ?_⟩⟩
  · rw [if_neg (by omega)] at HQ; exact HQ
  · rw [if_neg (by omega)] at HQ; exact HQ
  · rw [if_pos ⟨c, c2⟩] at HQ; exact HQ
theorem hr_lt {n : Nat} {b : Nat → Nat} {k : Nat} : (97 ≤ hre n b k ∧ hre n b k ≤ 122) ↔ (k < n ∧ isLt (b k) = true) := by
  unfold hre isLt
  simp only [Bool.and_eq_true, decide_eq_true_eq]
  split <;> omega
theorem hr_dg {n : Nat} {b : Nat → Nat} {k : Nat} : (48 ≤ hre n b k ∧ hre n b k ≤ 57) ↔ (k < n ∧ isDg (b k) = true) := by
  unfold hre isDg
  simp only [Bool.and_eq_true, decide_eq_true_eq]
  split <;> omega
/-- letters -/
theorem c_M_tokL {n j : Nat} {b : Nat → Nat} {Q : zS → Prop} (w : ML0 h n b j) (hn : n ≤ 1600) (hj : j < n) (hw : hL h 89 9 = 0) (hp : hI h 89 7 = j) (hl : 0 < rn isLt b (n - j) j)
    (HQ : ∀ h1, MLex h1 n b (tokJ n b j) → zEw mW h h1 → zEq (fun c => c ≠ 89) h h1 → Q h1) : zWv E (d + 1) m_X10_token 78 [vo 89, vn, vi 0] h Q := by
  have la := rn_is (p := isLt) (b := b) (n - j) j
  unfold tokJ at HQ
  rw [if_neg (by omega), if_pos hl] at HQ
  generalize hL' : rn isLt b (n - j) j = L at *
  refine z_upS (σ := zS) (n := L) (fun r h2 => zWv E (d + 1) m_X10_token 78 [vo 89, vn, vi r] h2 Q) (fun r h2 => ML0 h2 n b j ∧ hI h2 89 7 = j ∧ (r ≤ 8 → hL h2 89 9 = (wd b j r : Nat)) ∧ zEw mW h h2 ∧ zEq (fun c => c ≠ 89) h h2 ∧ (8 ≤ r → hL h2 89 9 = (wd b j 8 : Nat))) ?_ ?_ 0 h (by omega) ⟨w, hp, fun _ => by rw [hw]; rfl, zEw.rf, zEq.rf, fun e => by omega⟩
  · rintro h2 ⟨u1, u2, u3, u4, u5, u6⟩
    refine r_X10_token_78 ?_
    refine c_M_here u1 hn (by omega) (by omega) ?_
    refine c_M_isLetter ?_
    rw [if_neg (by
      rw [hr_lt]
      rintro ⟨q1, q2⟩
      have := la.2.2 (by omega)
      rw [q2] at this; cases this)]
    refine ⟨fun _ => ?_, fun e => absurd rfl e⟩
    intro h6 e6
    have W6 : zEw mW h2 h6 := by rw [e6]; exact zEw_I (by unfold mW; simp)
    have l6 : hL h6 89 9 = hL h2 89 9 := by rw [e6]; rfl
    obtain ⟨v6, n6, q6⟩ := st_cp e6
    clear e6
    rw [v6]
    have base : ∀ h7, hI h7 89 5 = hI h6 89 5 → (∀ k, hI h7 90 k = hI h6 90 k) → hI h7 89 6 = hI h6 89 6 → hI h7 89 7 = hI h6 89 7 → hL h7 89 9 = hL h6 89 9 → (L ≤ 8 → hI h7 89 4 = ((j + L : Nat) : Int)) → zEw mW h6 h7 → zEq (fun c => c ≠ 89) h6 h7 → Q h7 := by
      intro h7 a1 a2 a3 a4 a5 a6 a7 a8
      refine HQ h7 ⟨?_, fun k hk => ?_, fun t => ?_, ?_, ?_, fun t => ?_, fun t => ?_⟩ (u4.tr (W6.tr a7)) (u5.tr (q6.tr a8))
      · rw [a1, n6 _ _ (by omega)]; exact u1.1
      · rw [a2, q6.I (by omega)]; exact u1.2.2 k hk
      · have t : (if 8 < L then 17 else mean (wd b j L : Nat) : Nat) ≠ 17 := t
        exact a6 (by split at t <;> omega)
      · rw [a3, v6]
        show _ = srt (if 8 < L then 17 else mean (wd b j L : Nat))
        by_cases l8 : 8 < L
        · rw [if_neg (by omega), if_pos l8]; rfl
        · rw [if_pos (by omega), if_neg l8]
          have := (mean_is (wd b j L : Nat)).1
          unfold srt
          rw [if_neg (by omega), if_neg (by omega), if_neg (by omega), if_neg (by omega)]
      · rw [a4, n6 _ _ (by omega)]; exact u2
      · have t : (if 8 < L then 17 else mean (wd b j L : Nat) : Nat) ≤ 13 := t
        have l8 : L ≤ 8 := by split at t <;> omega
        rw [a5, l6, u3 l8]; rfl
      · have t : (if 8 < L then 17 else mean (wd b j L : Nat) : Nat) = 14 := t
        have := (mean_is (wd b j L : Nat)).1
        split at t <;> omega
    refine ⟨fun c => ?_, fun c => ?_⟩
    · refine base h6 rfl (fun _ => rfl) rfl rfl rfl (fun l8 => ?_) zEw.rf zEq.rf
      rw [if_pos (by omega)] at c; omega
    · intro h7 e7
      have a6 : hI h6 89 4 = (j : Int) := by rw [n6 _ _ (by omega)]; exact u1.2.1
      rw [a6, w32_id (by omega) (by omega)] at e7
      have W7 : zEw mW h6 h7 := by rw [e7]; exact zEw_I (by unfold mW; simp)
      have l7 : hL h7 89 9 = hL h6 89 9 := by rw [e7]; rfl
      obtain ⟨v7, n7, q7⟩ := st_cp e7
      clear e7
      exact base h7 (n7 _ _ (by omega)) (fun k => q7.I (by omega) k) (n7 _ _ (by omega)) (n7 _ _ (by omega)) l7 (fun _ => by rw [v7]; omega) W7 q7
  · rintro r h2 hr ⟨u1, u2, u3, u4, u5, u6⟩ ih
    have lt := la.2.1 r hr
    have bl := isLt_b lt
    refine r_X10_token_78 ?_
    refine c_M_here u1 hn (by omega) (by omega) ?_
    refine c_M_isLetter ?_
    rw [if_pos (hr_lt.mpr ⟨by omega, lt⟩)]
    refine ⟨fun e => by omega, fun _ => ⟨fun c => ?_, fun c => ?_⟩⟩
    · rw [w32s (by omega)]
      exact ih h2 ⟨u1, u2, fun e => by omega, u4, u5, fun _ => u6 (by omega)⟩
    · refine c_M_here u1 hn (by omega) (by omega) ?_
      have ev : hre n b (j + r) = ((b (j + r) : Nat) : Int) := if_pos (by omega)
      rw [ev, u3 (by omega), lor8 (wd_55 (by omega) (fun k hk => by have := isLt_b (la.2.1 k (by omega)); omega)) (by omega), w32s (by omega)]
      intro h10 e10
      have i10 : ∀ c k, hI h10 c k = hI h2 c k := by rw [e10]; exact fun _ _ => rfl
      have r10 : ∀ c k, hR h10 c k = hR h2 c k := by rw [e10]; exact fun _ _ => rfl
      obtain ⟨v10, n10, q10⟩ := st_cpL e10
      clear e10
      refine ih h10 ⟨⟨by rw [i10]; exact u1.1, by rw [i10]; exact u1.2.1, fun k hk => by rw [i10]; exact u1.2.2 k hk⟩, by rw [i10]; exact u2, fun _ => v10, u4.tr (fun c k _ => ⟨i10 c k, r10 c k⟩), u5.tr q10, fun e => ?_⟩
      have e8 : r = 7 := by omega
      subst e8
      exact v10
/-- digits -/
theorem c_M_tokD {n j : Nat} {b : Nat → Nat} {Q : zS → Prop} (w : ML0 h n b j) (hn : n ≤ 1600) (hj : j < n) (hw : hI h 89 8 = 0) (hp : hI h 89 7 = j) (nl : ¬ 0 < rn isLt b (n - j) j) (hl : 0 < rn isDg b (n - j) j)
    (HQ : ∀ h1, MLex h1 n b (tokJ n b j) → zEw mW h h1 → zEq (fun c => c ≠ 89) h h1 → Q h1) : zWv E (d + 1) m_X10_token 144 [vo 89, vn, vi 0] h Q := by
  have da := rn_is (p := isDg) (b := b) (n - j) j
  unfold tokJ at HQ
  rw [if_neg (by omega), if_neg nl, if_pos hl] at HQ
  generalize hD' : rn isDg b (n - j) j = D at *
  have bnd : ∀ r, r ≤ 4 → r ≤ D → nu b j r ≤ 9999 ∧ (r ≤ 3 → nu b j r ≤ 999) ∧ (r ≤ 2 → nu b j r ≤ 99) ∧ (r ≤ 1 → nu b j r ≤ 9) ∧ (r = 0 → nu b j r = 0) := by
    intro r
    induction r with
    | zero => intro _ _; exact ⟨Nat.zero_le _, fun _ => Nat.zero_le _, fun _ => Nat.zero_le _, fun _ => Nat.zero_le _, fun _ => rfl⟩
    | succ r ih =>
      intro h1 h2
      have ih := ih (by omega) (by omega)
      have bl := isDg_b (da.2.1 r (by omega))
      have e : nu b j (r + 1) = 10 * nu b j r + (b (j + r) - 48) := rfl
      rw [e]
      omega
  have lz : (0 < rn isLt b (n - (j + D)) (j + D)) ↔ (j + D < n ∧ isLt (b (j + D)) = true) := by
    have la := rn_is (p := isLt) (b := b) (n - (j + D)) (j + D)
    constructor
    · intro q
      have := la.2.1 0 q
      rw [Nat.add_zero] at this
      exact ⟨by omega, this⟩
    · rintro ⟨q1, q2⟩
      refine Classical.byContradiction (fun z => ?_)
      have z0 : rn isLt b (n - (j + D)) (j + D) = 0 := by omega
      have := la.2.2 (by omega)
      rw [z0, Nat.add_zero, q2] at this; cases this
  refine z_upS (σ := zS) (n := D) (fun r h2 => zWv E (d + 1) m_X10_token 144 [vo 89, vn, vi r] h2 Q) (fun r h2 => ML0 h2 n b j ∧ hI h2 89 7 = j ∧ (r ≤ 4 → hI h2 89 8 = (nu b j r : Nat)) ∧ zEw mW h h2 ∧ zEq (fun c => c ≠ 89) h h2) ?_ ?_ 0 h (by omega) ⟨w, hp, fun _ => by rw [hw]; rfl, zEw.rf, zEq.rf⟩
  · rintro h2 ⟨u1, u2, u3, u4, u5⟩
    refine r_X10_token_144 ?_
    refine c_M_here u1 hn (by omega) (by omega) ?_
    refine c_M_isDigit ?_
    rw [if_neg (by
      rw [hr_dg]
      rintro ⟨q1, q2⟩
      have := da.2.2 (by omega)
      rw [q2] at this; cases this)]
    have fin : ∀ x cd h6, h6 = stI h2 89 6 x → x = srt cd → cd = (if 4 < D ∨ 0 < rn isLt b (n - (j + D)) (j + D) then 17 else 14) → (((hI h6 89 6) = 3 → (Q h6)) ∧ ((hI h6 89 6) ≠ 3 → (∀ h7, h7 = stI h6 89 4 (w32 ((hI h6 89 4) + (D : Int))) → Q h7))) := by
      intro x cd h6 e6 ex ec
      have W6 : zEw mW h2 h6 := by rw [e6]; exact zEw_I (by unfold mW; simp)
      obtain ⟨v6, n6, q6⟩ := st_cp e6
      clear e6
      rw [v6, ex]
      have base : ∀ h7, hI h7 89 5 = hI h6 89 5 → (∀ k, hI h7 90 k = hI h6 90 k) → hI h7 89 6 = hI h6 89 6 → hI h7 89 7 = hI h6 89 7 → hI h7 89 8 = hI h6 89 8 → (cd ≠ 17 → hI h7 89 4 = ((j + D : Nat) : Int)) → zEw mW h6 h7 → zEq (fun c => c ≠ 89) h6 h7 → Q h7 := by
        intro h7 a1 a2 a3 a4 a5 a6 a7 a8
        refine HQ h7 ⟨?_, fun k hk => ?_, fun t => ?_, ?_, ?_, fun t => ?_, fun t => ?_⟩ (u4.tr (W6.tr a7)) (u5.tr (q6.tr a8))
        · rw [a1, n6 _ _ (by omega)]; exact u1.1
        · rw [a2, q6.I (by omega)]; exact u1.2.2 k hk
        · exact a6 (by rw [ec]; exact t)
        · rw [a3, v6, ex, ec]; rfl
        · rw [a4, n6 _ _ (by omega)]; exact u2
        · have t : (if 4 < D ∨ 0 < rn isLt b (n - (j + D)) (j + D) then 17 else 14 : Nat) ≤ 13 := t
          split at t <;> omega
        · have t : (if 4 < D ∨ 0 < rn isLt b (n - (j + D)) (j + D) then 17 else 14 : Nat) = 14 := t
          have d4 : D ≤ 4 := by split at t <;> omega
          rw [a5, n6 _ _ (by omega), u3 d4]; rfl
      have cc : cd = 17 ∨ cd = 14 := by rw [ec]; split <;> omega
      refine ⟨fun c => ?_, fun c => ?_⟩
      · refine base h6 rfl (fun _ => rfl) rfl rfl rfl (fun ne => ?_) zEw.rf zEq.rf
        rcases cc with e | e
        · exact absurd e ne
        · rw [e] at c; exact absurd c (by decide)
      · intro h7 e7
        have a6 : hI h6 89 4 = (j : Int) := by rw [n6 _ _ (by omega)]; exact u1.2.1
        rw [a6, w32_id (by omega) (by omega)] at e7
        have W7 : zEw mW h6 h7 := by rw [e7]; exact zEw_I (by unfold mW; simp)
        obtain ⟨v7, n7, q7⟩ := st_cp e7
        clear e7
        exact base h7 (n7 _ _ (by omega)) (fun k => q7.I (by omega) k) (n7 _ _ (by omega)) (n7 _ _ (by omega)) (n7 _ _ (by omega)) (fun _ => by rw [v7]; omega) W7 q7
    refine ⟨fun _ => ⟨fun c => ?_, fun c => ?_⟩, fun e => absurd rfl e⟩
    · intro h5 e5
      exact fin 3 17 h5 e5 rfl (by rw [if_pos (.inl (by omega))])
    · refine c_M_here u1 hn (by omega) (by omega) ?_
      refine c_M_isLetter ?_
      intro h12 e12
      by_cases c5 : 0 < rn isLt b (n - (j + D)) (j + D)
      · refine fin _ 17 h12 e12 ?_ (by rw [if_pos (.inr c5)])
        rw [if_neg (by rw [if_pos (hr_lt.mpr (lz.mp c5))]; omega)]; rfl
      · refine fin _ 14 h12 e12 ?_ (by rw [if_neg (by omega)])
        rw [if_pos (by rw [if_neg (fun q => c5 (lz.mpr (hr_lt.mp q)))])]; rfl
  · rintro r h2 hr ⟨u1, u2, u3, u4, u5⟩ ih
    have dg := da.2.1 r hr
    have bl := isDg_b dg
    refine r_X10_token_144 ?_
    refine c_M_here u1 hn (by omega) (by omega) ?_
    refine c_M_isDigit ?_
    rw [if_pos (hr_dg.mpr ⟨by omega, dg⟩)]
    refine ⟨fun e => by omega, fun _ => ⟨fun c => ?_, fun c => ?_⟩⟩
    · rw [w32s (by omega)]
      exact ih h2 ⟨u1, u2, fun e => by omega, u4, u5⟩
    · refine c_M_here u1 hn (by omega) (by omega) ?_
      have ev : hre n b (j + r) = ((b (j + r) : Nat) : Int) := if_pos (by omega)
      have bd := bnd r (by omega) (by omega)
      have e : nu b j (r + 1) = 10 * nu b j r + (b (j + r) - 48) := rfl
      rw [ev, u3 (by omega), w32s (by omega)]
      intro h16 e16
      have W16 : zEw mW h2 h16 := by rw [e16]; exact zEw_I (by unfold mW; simp)
      obtain ⟨v16, n16, q16⟩ := st_cp e16
      clear e16
      refine ih h16 ⟨⟨by rw [n16 _ _ (by omega)]; exact u1.1, by rw [n16 _ _ (by omega)]; exact u1.2.1, fun k hk => by rw [q16.I (by omega)]; exact u1.2.2 k hk⟩, by rw [n16 _ _ (by omega)]; exact u2, fun _ => ?_, u4.tr W16, u5.tr q16⟩
      rw [v16, e]
      generalize nu b j r = x at *
      rw [w32_id (z := 10 * (x : Int)) (by omega) (by omega), w32_id (z := 10 * (x : Int) + ((b (j + r) : Nat) : Int)) (by omega) (by omega), w32_id (by omega) (by omega)]
      omega
theorem c_M_token {n i : Nat} {b : Nat → Nat} {Q : zS → Prop} (w : ML0 h n b i) (hn : n ≤ 1600) (hi : i ≤ n) (HQ : ∀ h1, MLex h1 n b (tokF n b i) → zEw mW h h1 → zEq (fun c => c ≠ 89) h h1 → Q h1) : zCv E (d + 1) m_X10_token [vo 89] h Q := by
  refine v_X10_token ?_
  -- behind the blanks
  have body : ∀ h2 j, ML0 h2 n b j → j ≤ n → zEw mW h h2 → zEq (fun c => c ≠ 89) h h2 → tokF n b i = tokJ n b j → (j < n → isSp (b j) = false) → zWv E (d + 1) m_X10_token 0 [vo 89, vn, vn] h2 Q := by
    intro h2 j u1 jn u4 u5 ej nsp
    rw [ej] at HQ
    have n32 : hre n b j ≠ 32 ∧ hre n b j ≠ 10 := by
      unfold hre
      by_cases c : j < n
      · rw [if_pos c]
        have := nsp c
        unfold isSp at this
        simp only [Bool.or_eq_false_iff, decide_eq_false_iff_not] at this
        omega
      · rw [if_neg c]; omega
    refine r_X10_token_0 ?_
    refine c_M_here (k := 0) u1 hn (by omega) (by omega) ?_
    rw [Nat.add_zero]
    refine ⟨fun e => absurd e n32.1, fun _ => ?_⟩
    refine c_M_here (k := 0) u1 hn (by omega) (by omega) ?_
    rw [Nat.add_zero]
    refine ⟨fun _ => ?_, fun e => absurd e n32.2⟩
    rw [u1.2.1]
    intro h6 e6
    have W6 : zEw mW h2 h6 := by rw [e6]; exact zEw_I (by unfold mW; simp)
    obtain ⟨v6, n6, q6⟩ := st_cp e6
    clear e6
    have u6 : ML0 h6 n b j := ⟨by rw [n6 _ _ (by omega)]; exact u1.1, by rw [n6 _ _ (by omega)]; exact u1.2.1, fun k hk => by rw [q6.I (by omega)]; exact u1.2.2 k hk⟩
    refine c_M_here (k := 0) u6 hn (by omega) (by omega) ?_
    rw [Nat.add_zero]
    intro h9 e9
    have i9 : ∀ c k, hI h9 c k = hI h6 c k := by rw [e9]; exact fun _ _ => rfl
    have r9 : ∀ c k, hR h9 c k = hR h6 c k := by rw [e9]; exact fun _ _ => rfl
    obtain ⟨v9, _, q9⟩ := st_cpL e9
    clear e9
    intro h10 e10
    have l10 : hL h10 89 9 = 0 := by rw [e10]; exact v9
    have W10 : zEw mW h9 h10 := by rw [e10]; exact zEw_I (by unfold mW; simp)
    obtain ⟨v10, n10, q10⟩ := st_cp e10
    clear e10
    have u10 : ML0 h10 n b j := ⟨by rw [n10 _ _ (by omega), i9]; exact u6.1, by rw [n10 _ _ (by omega), i9]; exact u6.2.1, fun k hk => by rw [q10.I (by omega), i9]; exact u6.2.2 k hk⟩
    have p10 : hI h10 89 7 = (j : Int) := by rw [n10 _ _ (by omega), i9]; exact v6
    have WA : zEw mW h h10 := u4.tr (W6.tr ((show zEw mW h6 h9 from fun c k _ => ⟨i9 c k, r9 c k⟩).tr W10))
    have ZA : zEq (fun c => c ≠ 89) h h10 := u5.tr (q6.tr (q9.tr q10))
    have la := rn_is (p := isLt) (b := b) (n - j) j
    have da := rn_is (p := isDg) (b := b) (n - j) j
    refine ⟨fun c => ?_, fun c => ?_⟩
    · have jl : j < n := by
        refine Classical.byContradiction (fun q => ?_)
        unfold hre at c
        rw [if_neg q] at c; omega
      have hv : hre n b j = ((b j : Nat) : Int) := if_pos jl
      have lz : (0 < rn isLt b (n - j) j) ↔ isLt (b j) = true := by
        constructor
        · intro q
          have := la.2.1 0 q
          rwa [Nat.add_zero] at this
        · intro q
          refine Classical.byContradiction (fun z => ?_)
          have z0 : rn isLt b (n - j) j = 0 := by omega
          have := la.2.2 (by omega)
          rw [z0, Nat.add_zero, q] at this; cases this
      have dz : (0 < rn isDg b (n - j) j) ↔ isDg (b j) = true := by
        constructor
        · intro q
          have := da.2.1 0 q
          rwa [Nat.add_zero] at this
        · intro q
          refine Classical.byContradiction (fun z => ?_)
          have z0 : rn isDg b (n - j) j = 0 := by omega
          have := da.2.2 (by omega)
          rw [z0, Nat.add_zero, q] at this; cases this
      refine c_M_isLetter ?_
      by_cases il : isLt (b j) = true
      · rw [if_pos (hr_lt.mpr ⟨jl, il⟩)]
        refine ⟨fun e => by omega, fun _ => ?_⟩
        exact c_M_tokL u10 hn jl l10 p10 (lz.mpr il) (fun h1 x1 y1 z1 => HQ h1 x1 (WA.tr y1) (ZA.tr z1))
      · rw [if_neg (fun q => il (hr_lt.mp q).2)]
        refine ⟨fun _ => ?_, fun e => absurd rfl e⟩
        refine c_M_isDigit ?_
        by_cases id : isDg (b j) = true
        · rw [if_pos (hr_dg.mpr ⟨jl, id⟩)]
          refine ⟨fun e => by omega, fun _ => ?_⟩
          exact c_M_tokD u10 hn jl v10 p10 (fun q => il (lz.mp q)) (dz.mpr id) (fun h1 x1 y1 z1 => HQ h1 x1 (WA.tr y1) (ZA.tr z1))
        · rw [if_neg (fun q => id (hr_dg.mp q).2)]
          refine ⟨fun _ => ?_, fun e => absurd rfl e⟩
          unfold tokJ at HQ
          rw [if_neg (by omega), if_neg (fun q => il (lz.mp q)), if_neg (fun q => id (dz.mp q))] at HQ
          rw [hv]
          intro h16 e16
          have W16 : zEw mW h10 h16 := by rw [e16]; exact zEw_I (by unfold mW; simp)
          obtain ⟨v16, n16, q16⟩ := st_cp e16
          clear e16
          have ev : (if ((b j : Nat) : Int) ≠ 59 then (3 : Int) else ((b j : Nat) : Int)) = srt (if b j = 59 then 15 else 17) := by
            by_cases e : b j = 59
            · rw [if_pos e, if_neg (by omega), e]; rfl
            · rw [if_neg e, if_pos (by omega)]; rfl
          rw [ev] at v16
          rw [v16]
          have base : ∀ h7, hI h7 89 5 = hI h16 89 5 → (∀ k, hI h7 90 k = hI h16 90 k) → hI h7 89 6 = hI h16 89 6 → hI h7 89 7 = hI h16 89 7 → (b j = 59 → hI h7 89 4 = ((j + 1 : Nat) : Int)) → zEw mW h16 h7 → zEq (fun c => c ≠ 89) h16 h7 → Q h7 := by
            intro h7 a1 a2 a3 a4 a6 a7 a8
            refine HQ h7 ⟨?_, fun k hk => ?_, fun t => ?_, ?_, ?_, fun t => ?_, fun t => ?_⟩ (WA.tr (W16.tr a7)) (ZA.tr (q16.tr a8))
            · rw [a1, n16 _ _ (by omega)]; exact u10.1
            · rw [a2, q16.I (by omega)]; exact u10.2.2 k hk
            · have t : (if b j = 59 then 15 else 17 : Nat) ≠ 17 := t
              exact a6 (by split at t <;> omega)
            · rw [a3, v16]; rfl
            · rw [a4, n16 _ _ (by omega)]; exact p10
            · have t : (if b j = 59 then 15 else 17 : Nat) ≤ 13 := t
              split at t <;> omega
            · have t : (if b j = 59 then 15 else 17 : Nat) = 14 := t
              split at t <;> omega
          refine ⟨fun c2 => base h16 rfl (fun _ => rfl) rfl rfl (fun e => ?_) zEw.rf zEq.rf, fun c2 => ?_⟩
          · rw [if_pos e] at c2; exact absurd c2 (by decide)
          · intro h17 e17
            have a17 : hI h16 89 4 = (j : Int) := by rw [n16 _ _ (by omega)]; exact u10.2.1
            rw [a17, w32s (by omega)] at e17
            have W17 : zEw mW h16 h17 := by rw [e17]; exact zEw_I (by unfold mW; simp)
            obtain ⟨v17, n17, q17⟩ := st_cp e17
            clear e17
            exact base h17 (n17 _ _ (by omega)) (fun k => q17.I (by omega) k) (n17 _ _ (by omega)) (n17 _ _ (by omega)) (fun _ => v17) W17 q17
    · have jn' : n ≤ j := by
        refine Classical.byContradiction (fun q => ?_)
        unfold hre at c
        rw [if_pos (by omega)] at c; omega
      unfold tokJ at HQ
      rw [if_pos jn'] at HQ
      intro h18 e18
      have W18 : zEw mW h10 h18 := by rw [e18]; exact zEw_I (by unfold mW; simp)
      obtain ⟨v18, n18, q18⟩ := st_cp e18
      clear e18
      rw [v18]
      refine ⟨fun e => by omega, fun _ => ?_⟩
      intro h19 e19
      have a19 : hI h18 89 4 = (j : Int) := by rw [n18 _ _ (by omega)]; exact u10.2.1
      rw [a19, w32_id (by omega) (by omega)] at e19
      have W19 : zEw mW h18 h19 := by rw [e19]; exact zEw_I (by unfold mW; simp)
      obtain ⟨v19, n19, q19⟩ := st_cp e19
      clear e19
      refine HQ h19 ⟨?_, fun k hk => ?_, fun t => ?_, ?_, ?_, fun t => ?_, fun t => ?_⟩ (WA.tr (W18.tr W19)) (ZA.tr (q18.tr q19))
      · rw [n19 _ _ (by omega), n18 _ _ (by omega)]; exact u10.1
      · rw [q19.I (by omega), q18.I (by omega)]; exact u10.2.2 k hk
      · rw [v19]; show (j : Int) + 0 = (j : Int); omega
      · rw [n19 _ _ (by omega), v18]; rfl
      · rw [n19 _ _ (by omega), n18 _ _ (by omega)]; exact p10
      · have t : (16 : Nat) ≤ 13 := t
        omega
      · have t : (16 : Nat) = 14 := t
        omega
  refine z_upS (σ := zS) (n := n - i) (fun r h2 => zWv E (d + 1) m_X10_token 0 [vo 89, vn, vn] h2 Q) (fun r h2 => ML0 h2 n b (i + r) ∧ zEw mW h h2 ∧ zEq (fun c => c ≠ 89) h h2 ∧ ∀ k, k < r → isSp (b (i + k)) = true) ?_ ?_ 0 h (by omega) ⟨w, zEw.rf, zEq.rf, fun k hk => by omega⟩
  · rintro h2 ⟨u1, u4, u5, u3⟩
    refine body h2 (i + (n - i)) u1 (by omega) u4 u5 ?_ (fun e => by omega)
    unfold tokF; rw [rn_u (Nat.le_refl _) u3 (fun e => by omega)]
  · rintro r h2 hr ⟨u1, u4, u5, u3⟩ ih
    by_cases sp : isSp (b (i + r)) = true
    · have step : ∀ h3, h3 = stI h2 89 4 (w32 ((hI h2 89 4) + 1)) → zWv E (d + 1) m_X10_token 0 [vo 89, vn, vn] h3 Q := by
        intro h3 e3
        rw [u1.2.1, w32s (by omega)] at e3
        have W3 : zEw mW h2 h3 := by rw [e3]; exact zEw_I (by unfold mW; simp)
        obtain ⟨v3, n3, q3⟩ := st_cp e3
        clear e3
        refine ih h3 ⟨⟨by rw [n3 _ _ (by omega)]; exact u1.1, v3, fun k hk => by rw [q3.I (by omega)]; exact u1.2.2 k hk⟩, u4.tr W3, u5.tr q3, fun k hk => ?_⟩
        by_cases e : k = r
        · rw [e]; exact sp
        · exact u3 k (by omega)
      have hv : hre n b (i + r) = ((b (i + r) : Nat) : Int) := if_pos (by omega)
      unfold isSp at sp
      simp only [Bool.or_eq_true, decide_eq_true_eq] at sp
      refine r_X10_token_0 ?_
      refine c_M_here (k := 0) u1 hn (by omega) (by omega) ?_
      rw [Nat.add_zero, hv]
      refine ⟨fun _ => step, fun c => ?_⟩
      refine c_M_here (k := 0) u1 hn (by omega) (by omega) ?_
      rw [Nat.add_zero, hv]
      exact ⟨fun c2 => by omega, fun _ => step⟩
    · have sp : isSp (b (i + r)) = false := by simpa using sp
      refine body h2 (i + r) u1 (by omega) u4 u5 ?_ (fun _ => sp)
      unfold tokF; rw [rn_u (r := r) (by omega) u3 (fun _ => sp)]
end MX
