/-! products, greatest common divisors -/
def mx (f : Nat → Int) : Nat → Int
  | 0 => 0
  | k + 1 => if f k ≤ mx f k then mx f k else f k
def amx (f : Nat → Int) : Nat → Int
  | 0 => -1
  | k + 1 => if f k ≤ mx f k then amx f k else (k : Int)
theorem mx_le {f : Nat → Int} : ∀ k, 0 ≤ mx f k ∧ (∀ b, b < k → f b ≤ mx f k) ∧ (mx f k = 0 ∨ ∃ b, b < k ∧ mx f k = f b)
  | 0 => ⟨Int.le_refl _, fun b hb => by omega, .inl rfl⟩
  | k + 1 => by
    obtain ⟨h1, h2, h3⟩ := mx_le (f := f) k
    unfold mx
    split
    · rename_i c
      refine ⟨h1, fun b hb => ?_, ?_⟩
      · by_cases e : b = k
        · rw [e]; exact c
        · exact h2 b (by omega)
      · rcases h3 with q | ⟨b, hb, q⟩
        · exact .inl q
        · exact .inr ⟨b, by omega, q⟩
    · rename_i c
      refine ⟨by omega, fun b hb => ?_, .inr ⟨k, by omega, rfl⟩⟩
      by_cases e : b = k
      · rw [e]; omega
      · have := h2 b (by omega); omega
theorem mnmx {F G : Nat → Int} {K : Int} (hK : 0 < K) : ∀ n, (∀ b, b < n → F b = if G b = 0 then 4000000000000000000 else -(G b * K)) → (∀ b, b < n → 0 ≤ G b) → (mn F n = if mx G n = 0 then 4000000000000000000 else -(mx G n * K)) ∧ (mx G n = 0 → amx G n = -1) ∧ (mx G n ≠ 0 → amx G n = (am F n : Nat))
  | 0, _, _ => ⟨rfl, fun _ => rfl, fun h => absurd rfl h⟩
  | n + 1, hF, hG => by
    obtain ⟨h1, h2, h3⟩ := mnmx (F := F) (G := G) hK n (fun b hb => hF b (by omega)) (fun b hb => hG b (by omega))
    have f := hF n (by omega)
    have g := hG n (by omega)
    have m0 := (mx_le (f := G) n).1
    have em : mx G (n + 1) = if G n ≤ mx G n then mx G n else G n := rfl
    have ea : amx G (n + 1) = if G n ≤ mx G n then amx G n else (n : Int) := rfl
    have en : mn F (n + 1) = if F n < mn F n then F n else mn F n := rfl
    have en2 : am F (n + 1) = if F n < mn F n then n else am F n := rfl
    rw [em, ea, en, en2]
    have key : F n < mn F n ↔ ¬ G n ≤ mx G n := by
      rw [h1, f]
      by_cases g0 : G n = 0
      · rw [if_pos g0]
        constructor
        · intro q
          split at q
          · omega
          · rename_i c
            have := Int.mul_nonneg m0 (Int.le_of_lt hK)
            omega
        · intro q; omega
      · rw [if_neg g0]
        have gp : 0 < G n * K := Int.mul_pos (by omega) hK
        by_cases c : mx G n = 0
        · rw [if_pos c]
          exact ⟨fun _ => by omega, fun _ => by omega⟩
        · rw [if_neg c]
          constructor
          · intro q q2
            have := Int.mul_le_mul_of_nonneg_right q2 (Int.le_of_lt hK)
            omega
          · intro q
            have := Int.mul_lt_mul_of_pos_right (show mx G n < G n by omega) hK
            omega
    by_cases c : G n ≤ mx G n
    · have nc : ¬ F n < mn F n := fun q => (key.mp q) c
      rw [if_pos c, if_pos c, if_neg nc, if_neg nc]
      exact ⟨h1, h2, h3⟩
    · have nc : F n < mn F n := key.mpr c
      rw [if_neg c, if_neg c, if_pos nc, if_pos nc]
      refine ⟨f, fun e => by omega, fun _ => rfl⟩
theorem mn_shift {f : Nat → Int} (h0 : f 0 = 4000000000000000000) : ∀ k, mn f (k + 1) = mn (fun l => f (l + 1)) k ∧ (mn (fun l => f (l + 1)) k ≠ 4000000000000000000 → am f (k + 1) = am (fun l => f (l + 1)) k + 1)
  | 0 => by
    have e : mn f (0 + 1) = if f 0 < mn f 0 then f 0 else mn f 0 := rfl
    rw [e, h0]
    exact ⟨by split <;> rfl, fun q => absurd rfl q⟩
  | k + 1 => by
    obtain ⟨h1, h2⟩ := mn_shift h0 k
    have e1 : mn f (k + 1 + 1) = if f (k + 1) < mn f (k + 1) then f (k + 1) else mn f (k + 1) := rfl
    have e2 : am f (k + 1 + 1) = if f (k + 1) < mn f (k + 1) then k + 1 else am f (k + 1) := rfl
    have e3 : mn (fun l => f (l + 1)) (k + 1) = if f (k + 1) < mn (fun l => f (l + 1)) k then f (k + 1) else mn (fun l => f (l + 1)) k := rfl
    have e4 : am (fun l => f (l + 1)) (k + 1) = if f (k + 1) < mn (fun l => f (l + 1)) k then k else am (fun l => f (l + 1)) k := rfl
    rw [e1, e2, e3, e4, h1]
    by_cases c : f (k + 1) < mn (fun l => f (l + 1)) k
    · rw [if_pos c, if_pos c, if_pos c]; exact ⟨rfl, fun _ => rfl⟩
    · rw [if_neg c, if_neg c, if_neg c]; exact ⟨rfl, h2⟩
def hK (k : Nat) : Int := 100 ^ k
theorem hK_s (k : Nat) : hK (k + 1) = hK k * 100 := by unfold hK; exact Int.pow_succ _ _
theorem hK_pos (k : Nat) : 0 < hK k := by
  induction k with
  | zero => decide
  | succ k ih => rw [hK_s]; omega
theorem hK_9 : ∀ k : Fin 10, hK k.val * hK (9 - k.val) = 1000000000000000000 ∧ hK k.val ≤ 1000000000000000000 := by decide +kernel
theorem hK_mul {k : Nat} (h : k ≤ 9) : hK k * hK (9 - k) = 1000000000000000000 ∧ hK k ≤ 1000000000000000000 := hK_9 ⟨k, by omega⟩
def ow (sp : Nat → Nat → Int) (z : Nat) (P : Nat → Int) (a b : Nat) : Int := if b = z ∨ sp a b = -1 then 0 else sp a b * P b
def pP (sp : Nat → Nat → Int) (n z : Nat) : Nat → Nat → Int
  | 0, a => if sp a z = -1 then 0 else 1
  | k + 1, a => mx (ow sp z (pP sp n z k) a) n
theorem pP_rng {sp : Nat → Nat → Int} {n z : Nat} (hs : okO sp n) : ∀ k a, a < n → 0 ≤ pP sp n z k a ∧ pP sp n z k a ≤ hK k
  | 0, a, _ => by
    unfold pP
    have : hK 0 = 1 := rfl
    split <;> omega
  | k + 1, a, ha => by
    have e : pP sp n z (k + 1) a = mx (ow sp z (pP sp n z k) a) n := rfl
    rw [e]
    obtain ⟨h1, h2, h3⟩ := mx_le (f := ow sp z (pP sp n z k) a) n
    refine ⟨h1, ?_⟩
    have kp := hK_pos (k + 1)
    rcases h3 with q | ⟨b, hb, q⟩
    · omega
    · rw [q]
      unfold ow
      split
      · omega
      · rename_i c
        have ih := pP_rng (z := z) hs k b hb
        rcases hs a b ha hb with s | s
        · exact absurd (.inr s) c
        · rw [hK_s]
          have m1 := Int.mul_le_mul_of_nonneg_right s.2 ih.1
          have m2 : 100 * pP sp n z k b ≤ hK k * 100 := by omega
          exact Int.le_trans m1 m2
theorem bO_pP {sp : Nat → Nat → Int} {n z : Nat} (hs : okO sp n) (hz : z < n) (hsz : ∀ a, a < n → sp a z = -1 ∨ sp a z = 100) : ∀ k a, k ≤ 9 → a < n → a ≠ z → bO sp n z (k + 1) a = if pP sp n z k a = 0 then 4000000000000000000 else -(pP sp n z k a * hK (9 - k))
  | 0, a, _, ha, az => by
    rw [bO_s, if_neg az]
    have e : pP sp n z 0 a = if sp a z = -1 then 0 else 1 := rfl
    have k9 : hK (9 - 0) = 1000000000000000000 := by decide +kernel
    have l1 := mn_le (f := onw opO sp (bO sp n z 0) a) n
    rw [e, k9]
    rcases hsz a ha with s | s
    · rw [if_pos s, if_pos rfl]
      rcases mn_ex (f := onw opO sp (bO sp n z 0) a) n with q | ⟨b, hb, q⟩
      · exact q
      · rw [q]
        unfold onw
        rw [if_pos]
        by_cases bz : b = z
        · left; rw [bz]; exact s
        · right; rw [bO_0, if_neg bz]
    · rw [if_neg (by omega), if_neg (by omega)]
      have q := l1.2 z hz
      have f : onw opO sp (bO sp n z 0) a z = -1000000000000000000 := by
        unfold onw
        rw [bO_0, if_pos rfl, s, if_neg (by show ¬ ((100 : Int) = -1 ∨ (-1000000000000000000 : Int) = 4000000000000000000); omega)]
        decide +kernel
      rw [f] at q
      have r := bO_rng (z := z) hs 1 a ha
      rw [bO_s, if_neg az] at r
      omega
  | k + 1, a, hk, ha, az => by
    rw [bO_s, if_neg az]
    have e : pP sp n z (k + 1) a = mx (ow sp z (pP sp n z k) a) n := rfl
    rw [e]
    refine (mnmx (F := onw opO sp (bO sp n z (k + 1)) a) (G := ow sp z (pP sp n z k) a) (hK_pos _) n (fun b hb => ?_) (fun b hb => ?_)).1
    · unfold onw ow
      by_cases s : sp a b = -1
      · rw [if_pos (.inl s), if_pos (if_pos (.inr s))]
      · by_cases bz : b = z
        · have : bO sp n z (k + 1) b = 4000000000000000000 := by rw [bO_s, if_pos bz]
          rw [if_pos (.inr this), if_pos (if_pos (.inl bz))]
        · have ih := bO_pP hs hz hsz k b (by omega) hb bz
          have pr := pP_rng (z := z) hs k b hb
          rcases hs a b ha hb with s' | s'
          · exact absurd s' s
          rw [if_neg (show ¬ (b = z ∨ sp a b = -1) from fun q => q.elim bz s)]
          by_cases p0 : pP sp n z k b = 0
          · rw [if_pos p0] at ih
            rw [if_pos (.inr ih), p0, Int.mul_zero, if_pos rfl]
          · rw [if_neg p0] at ih
            have kk : hK (9 - k) = hK (9 - (k + 1)) * 100 := by
              have : 9 - k = (9 - (k + 1)) + 1 := by omega
              rw [this, hK_s]
            have pos : 0 < pP sp n z k b * hK (9 - (k + 1)) := Int.mul_pos (by omega) (hK_pos _)
            have ih2 : bO sp n z (k + 1) b = -((pP sp n z k b * hK (9 - (k + 1))) * 100) := by
              rw [ih, kk, Int.mul_assoc]
            have sp0 : sp a b * pP sp n z k b ≠ 0 := by
              have := Int.mul_pos (show 0 < sp a b by omega) (show 0 < pP sp n z k b by omega)
              omega
            rw [if_neg (fun q => q.elim s (fun q => by rw [ih2] at q; omega)), if_neg sp0, ih2, opO_x (by omega)]
            rw [Int.mul_right_comm, Int.mul_comm (sp a b)]
    · unfold ow
      split
      · omega
      · rename_i c
        rcases hs a b ha hb with s | s
        · exact absurd (.inr s) c
        · exact Int.mul_nonneg (by omega) (pP_rng hs k b hb).1
theorem lc_e {a b : Int} : z_lcmp a b ≤ 0 ↔ a ≤ b := by
  unfold z_lcmp; split
  · constructor <;> intro h <;> omega
  · split
    · constructor <;> intro h <;> omega
    · constructor <;> intro h <;> omega
theorem lc_p {a b : Int} : 0 < z_lcmp a b ↔ b < a := by
  unfold z_lcmp; split
  · constructor <;> intro h <;> omega
  · split
    · constructor <;> intro h <;> omega
    · constructor <;> intro h <;> omega
def fp : Nat → Nat × Nat
  | 0 => (1, 0)
  | k + 1 => ((fp k).1 + (fp k).2, (fp k).1)
theorem fp_100 : 1000000000000000000 < (fp 100).1 := by decide +kernel
section GC
variable {E : zE} {d : Nat} {h : zS}
theorem c_commonDivisor {a b : Nat} {Q : Int → zS → Prop} (hab : b ≤ a) (ha : a ≤ 1000000000000000000) (hp : 0 < a) (HQ : Q (Nat.gcd a b : Nat) h) : zCl E d m_X9_commonDivisor [vl a, vl b] h Q := by
  refine v_X9_commonDivisor ?_
  refine z_upS (σ := Nat × Nat) (n := 100) (fun i s => zWl E d m_X9_commonDivisor 3 [vl (s.1 : Int), vn, vl (s.2 : Int), vn, vi i, vn, vn] h Q) (fun i s => s.2 ≤ s.1 ∧ 0 < s.1 ∧ Nat.gcd s.1 s.2 = Nat.gcd a b ∧ (fp i).1 * s.1 + (fp i).2 * s.2 ≤ 1000000000000000000) ?_ ?_ 0 (a, b) (by omega) ⟨hab, hp, rfl, ?_⟩
  · rintro ⟨x, y⟩ ⟨u1, u2, u3, u4⟩
    dsimp only at u1 u2 u3 u4 ⊢
    exfalso
    have := fp_100
    have m : (fp 100).1 * 1 ≤ (fp 100).1 * x := Nat.mul_le_mul_left _ u2
    generalize (fp 100).1 * x = P at *
    generalize (fp 100).2 * y = R at *
    omega
  · rintro i ⟨x, y⟩ hi ⟨u1, u2, u3, u4⟩ ih
    dsimp only at u1 u2 u3 u4 ih ⊢
    have x18 : x ≤ 1000000000000000000 := by
      have f1 : ∀ k, 0 < (fp k).1 := by
        intro k
        induction k with
        | zero => decide
        | succ k ih => show 0 < (fp k).1 + (fp k).2; omega
      have m : 1 * x ≤ (fp i).1 * x := Nat.mul_le_mul_right _ (f1 i)
      generalize (fp i).1 * x = P at *
      generalize (fp i).2 * y = R at *
      omega
    refine r_X9_commonDivisor_3 ⟨fun c => by omega, fun _ => ⟨fun c => ?_, fun c => ?_⟩⟩
    · have y0 : y = 0 := by have := lc_0.mp c; omega
      rw [y0, Nat.gcd_zero_right] at u3
      rw [u3]; exact HQ
    · have y0 : (y : Int) ≠ 0 := fun e => c (lc_0.mpr e)
      refine ⟨y0, ?_⟩
      rw [zl_rem (by omega) (by omega), w32s (by omega)]
      have md : x % y < y := Nat.mod_lt _ (by omega)
      have mle : x % y + y ≤ x := by
        have := Nat.mod_add_div x y
        have q : 1 ≤ x / y := (Nat.le_div_iff_mul_le (by omega)).mpr (by omega)
        have m : y * 1 ≤ y * (x / y) := Nat.mul_le_mul_left _ q
        omega
      refine ih (y, x % y) ⟨by dsimp only; omega, by dsimp only; omega, ?_, ?_⟩
      · dsimp only
        rw [← u3, Nat.gcd_comm x y, Nat.gcd_rec y x, Nat.gcd_comm]
      · dsimp only
        have e1 : (fp (i + 1)).1 = (fp i).1 + (fp i).2 := rfl
        have e2 : (fp (i + 1)).2 = (fp i).1 := rfl
        rw [e1, e2, Nat.add_mul]
        have m : (fp i).1 * (x % y + y) ≤ (fp i).1 * x := Nat.mul_le_mul_left _ mle
        rw [Nat.mul_add] at m
        omega
  · dsimp only
    have e1 : (fp 0).1 = 1 := rfl
    have e2 : (fp 0).2 = 0 := rfl
    rw [e1, e2]; omega
theorem c_M_common {a b : Nat} {Q : Int → zS → Prop} (ha : a ≤ 1000000000000000000) (hb : b ≤ 1000000000000000000) (HQ : Q (Nat.gcd a b : Nat) h) : zCl E d m_X10_common [vl a, vl b] h Q := by
  refine v_X10_common ?_
  refine z_ms (σ := Nat × Nat) (fun s => zWl E d m_X10_common 6 [vn, vn, vn, vn, vl (s.1 : Int), vn, vl (s.2 : Int), vn, vn, vn] h Q) (fun s => s.1 ≤ 1000000000000000000 ∧ s.2 ≤ 1000000000000000000 ∧ Nat.gcd s.1 s.2 = Nat.gcd a b) (fun s => s.2) ?_ (a, b) ⟨ha, hb, rfl⟩
  rintro ⟨x, y⟩ ⟨u1, u2, u3⟩ ih
  dsimp only at u1 u2 u3 ih ⊢
  refine r_X10_common_6 ⟨fun c => ?_, fun c => ?_⟩
  · have y0 : y = 0 := by have := lc_e.mp c; omega
    rw [y0, Nat.gcd_zero_right] at u3
    rw [u3]; exact HQ
  · have y0 := lc_p.mp c
    refine ⟨by omega, ?_⟩
    rw [zl_rem (by omega) (by omega)]
    have md : x % y < y := Nat.mod_lt _ (by omega)
    refine ih (y, x % y) ⟨u2, by dsimp only; omega, ?_⟩ md
    dsimp only
    rw [← u3, Nat.gcd_comm x y, Nat.gcd_rec y x, Nat.gcd_comm]
theorem c_M_hundreds {k : Nat} {Q : Int → zS → Prop} (hk : k ≤ 9) (HQ : Q (hK k) h) : zCl E d m_X10_hundreds [vi k] h Q := by
  refine v_X10_hundreds ?_
  refine z_upS (σ := Unit) (n := k) (fun i _ => zWl E d m_X10_hundreds 4 [vi k, vl (hK i), vn, vi i] h Q) (fun _ _ => True) ?_ ?_ 0 () (by omega) trivial
  · intro _ _
    exact r_X10_hundreds_4 ⟨fun _ => HQ, fun c => by omega⟩
  · intro i _ hi _ ih
    refine r_X10_hundreds_4 ⟨fun c => by omega, fun _ => ?_⟩
    have b := (hK_mul (k := i + 1) (by omega)).2
    have p := hK_pos i
    rw [hK_s] at b
    rw [w32s (by omega), w64_id (by omega) (by omega), ← hK_s]
    exact ih () trivial
end GC
