/-! untell, late, taken: what was told -/
def eAdd (Y : zNt) (s v x : Int) : zNt := ((ec Y + 1, et Y), fun j i => if i = ec Y then (if j = 0 then s else if j = 1 then v else if j = 2 then x else if j = 3 then (et Y : Int) else -1) else ea Y j i)
def eUn (Y : zNt) (e : Nat) : zNt := ((ec Y, et Y), fun j i => if i = e ∧ j = 4 then (et Y : Int) else ea Y j i)
theorem okY_add {C : zCt} {Y : zNt} {s v x : Int} (hY : okY C Y) (hc : ec Y < 40) (hs : (s = 0 ∧ 0 ≤ v ∧ v < (2 ^ cn C : Nat)) ∨ (s = 1 ∧ 0 ≤ v ∧ v < cn C ∧ ckd C v.toNat ≠ 3)) (hx : 0 ≤ x ∧ x ≤ 99) : okY C (eAdd Y s v x) := by
  refine ⟨hc, hY.2.1, fun i hi => ?_⟩
  have hi' : i < ec Y + 1 := hi
  by_cases c : i = ec Y
  · have e : ∀ j, ea (eAdd Y s v x) j i = (if j = 0 then s else if j = 1 then v else if j = 2 then x else if j = 3 then (et Y : Int) else -1) := fun j => if_pos c
    rw [e, e, e, e, e]
    simp only [if_true, Nat.reduceEqDiff, if_false]
    exact ⟨hs, hx, ⟨by omega, by show (et Y : Int) ≤ et Y; omega⟩, by omega, by show (-1 : Int) ≤ et Y; omega⟩
  · have e : ∀ j, ea (eAdd Y s v x) j i = ea Y j i := fun j => if_neg c
    rw [e, e, e, e, e]
    exact hY.2.2 i (by omega)
theorem okY_un {C : zCt} {Y : zNt} {e : Nat} (hY : okY C Y) : okY C (eUn Y e) := by
  refine ⟨hY.1, hY.2.1, fun i hi => ?_⟩
  have q := hY.2.2 i hi
  have f : ∀ j, j ≠ 4 → ea (eUn Y e) j i = ea Y j i := fun j hj => if_neg (fun w => hj w.2)
  rw [f 0 (by omega), f 1 (by omega), f 2 (by omega), f 3 (by omega)]
  refine ⟨q.1, q.2.1, q.2.2.1, ?_⟩
  by_cases c : i = e
  · have : ea (eUn Y e) 4 i = (et Y : Int) := if_pos ⟨c, rfl⟩
    rw [this]
    exact ⟨by omega, by show (et Y : Int) ≤ et Y; omega⟩
  · have : ea (eUn Y e) 4 i = ea Y 4 i := if_neg (fun w => c w.1)
    rw [this]; exact q.2.2.2
section TL
variable {E : zE} {d : Nat} {h : zS}
theorem c_tell {x1 x2 x3 s v : Int} {Y : zNt} {Q : Int → zS → Prop} (hY : ec Y ≤ 40) (wY : XEnt h Y) (e1 : x1 = if s = 0 then -1 else v) (e2 : x2 = if s = 0 then v else 0)
    (H1 : (0 ≤ x3 ∧ x3 ≤ 99) ∧ ec Y < 40 → ∀ h1, XEnt h1 (eAdd Y s v x3) → zEq (fun c => ¬ (83 ≤ c ∧ c ≤ 88)) h h1 → Q (ec Y) h1)
    (H2 : ¬ ((0 ≤ x3 ∧ x3 ≤ 99) ∧ ec Y < 40) → Q (-1) h) : zCi E d m_X2_tell [vo 83, vi x1, vi x2, vi x3] h Q := by
  refine v_X2_tell ⟨fun c => H2 (by omega), fun c => ⟨fun c2 => H2 (by omega), fun c2 => ?_⟩⟩
  rw [wY.2.1]
  refine ⟨fun c3 => ?_, fun c3 => H2 (by omega)⟩
  rintro h1 rfl
  refine ⟨by omega, ?_⟩
  simp only [Int.toNat_natCast]
  rw [w32s (by omega)]
  rintro h3 rfl h4 rfl h5 rfl h6 rfl h7 rfl
  refine H1 ⟨⟨c, c2⟩, by omega⟩ _ ⟨?_, ?_, fun i hi => ?_⟩ ?_
  · simp only [hI_stI]
    simp only [Nat.reduceEqDiff, false_and, if_false, and_false, Nat.zero_ne_one]
    exact wY.1
  · simp only [hI_stI]
    simp only [Nat.reduceEqDiff, false_and, if_false, and_self, if_true]
    rfl
  · have hi' : i < ec Y + 1 := hi
    simp only [hI_stI]
    simp only [Nat.reduceEqDiff, false_and, if_false, true_and, Nat.zero_ne_one, and_false, Nat.one_ne_zero]
    by_cases c : i = ec Y
    · have e : ∀ j, ea (eAdd Y s v x3) j i = (if j = 0 then s else if j = 1 then v else if j = 2 then x3 else if j = 3 then (et Y : Int) else -1) := fun j => if_pos c
      rw [e, e, e, e, e]
      simp only [c, if_true, Nat.reduceEqDiff, if_false, Nat.one_ne_zero]
      exact ⟨e1, e2, trivial, wY.1, trivial⟩
    · have e : ∀ j, ea (eAdd Y s v x3) j i = ea Y j i := fun j => if_neg c
      rw [e, e, e, e, e]
      simp only [c, if_false]
      exact wY.2.2 i (by omega)
  · refine (zEq_I (fun q => q (by omega))).tr ((zEq_I (fun q => q (by omega))).tr ((zEq_I (fun q => q (by omega))).tr ((zEq_I (fun q => q (by omega))).tr ((zEq_I (fun q => q (by omega))).tr (zEq_I (fun q => q (by omega)))))))
theorem c_M_entry {s v x3 : Int} {Y : zNt} {Q : Int → zS → Prop} (hY : ec Y ≤ 40) (wY : MEnt h Y)
    (H1 : (0 ≤ x3 ∧ x3 ≤ 99) ∧ ec Y < 40 → ∀ h1, MEnt h1 (eAdd Y s v x3) → zEw (fun c i => ¬ (125 ≤ c ∧ c ≤ 129) ∧ ¬ (c = 89 ∧ i = 62)) h h1 → zEq (fun c => c < 89) h h1 → Q (ec Y) h1)
    (H2 : ¬ ((0 ≤ x3 ∧ x3 ≤ 99) ∧ ec Y < 40) → Q (-1) h) : zCi E d m_X10_entry [vo 89, vi s, vi v, vi x3] h Q := by
  refine v_X10_entry ⟨fun c => H2 (by omega), fun c => ⟨fun c2 => H2 (by omega), fun c2 => ?_⟩⟩
  refine ⟨fun c3 => ?_, fun c3 => H2 (by rw [wY.2.1] at c3; omega)⟩
  have c3 : ec Y < 40 := by rw [wY.2.1] at c3; omega
  have k : 0 ≤ hI h 89 62 ∧ hI h 89 62 < 40 := by rw [wY.2.1]; omega
  refine ⟨k, ?_⟩
  rintro h2 rfl
  simp only [hI_stI, Nat.reduceEqDiff, false_and, if_false]
  refine ⟨k, ?_⟩
  rintro h4 rfl
  simp only [hI_stI, Nat.reduceEqDiff, false_and, if_false]
  refine ⟨k, ?_⟩
  rintro h6 rfl
  simp only [hI_stI, Nat.reduceEqDiff, false_and, if_false]
  refine ⟨k, ?_⟩
  rintro h8 rfl
  simp only [hI_stI, Nat.reduceEqDiff, false_and, if_false]
  refine ⟨k, ?_⟩
  rintro h10 rfl
  simp only [hI_stI, Nat.reduceEqDiff, false_and, if_false]
  rintro h11 rfl
  simp only [hI_stI, and_self, if_true]
  rw [wY.2.1]
  simp only [Int.toNat_natCast]
  rw [w32s (by omega), w32_id (by omega) (by omega)]
  have e : (((ec Y + 1 : Nat) : Int) - 1) = ec Y := by omega
  rw [e]
  refine H1 ⟨⟨c, c2⟩, c3⟩ _ ⟨?_, ?_, fun i hi => ?_⟩ ?_ ?_
  · simp only [hI_stI]
    simp only [Nat.reduceEqDiff, false_and, if_false, and_false]
    exact wY.1
  · simp only [hI_stI]
    simp only [Nat.reduceEqDiff, false_and, if_false, and_self, if_true]
    rfl
  · have hi' : i < ec Y + 1 := hi
    simp only [hI_stI]
    simp only [Nat.reduceEqDiff, false_and, if_false, true_and]
    by_cases c : i = ec Y
    · have e : ∀ j, ea (eAdd Y s v x3) j i = (if j = 0 then s else if j = 1 then v else if j = 2 then x3 else if j = 3 then (et Y : Int) else -1) := fun j => if_pos c
      rw [e, e, e, e, e]
      simp only [c, if_true, Nat.reduceEqDiff, if_false, Nat.one_ne_zero]
      exact ⟨trivial, trivial, trivial, wY.1, trivial⟩
    · have e : ∀ j, ea (eAdd Y s v x3) j i = ea Y j i := fun j => if_neg c
      rw [e, e, e, e, e]
      simp only [c, if_false]
      exact wY.2.2 i (by omega)
  · refine (zEw_I (by omega)).tr ((zEw_I (by omega)).tr ((zEw_I (by omega)).tr ((zEw_I (by omega)).tr ((zEw_I (by omega)).tr (zEw_I (by omega))))))
  · refine (zEq_I (by omega)).tr ((zEq_I (by omega)).tr ((zEq_I (by omega)).tr ((zEq_I (by omega)).tr ((zEq_I (by omega)).tr (zEq_I (by omega))))))
theorem late_neg {x : Int} {y : Nat} (hx : r32 x) (h0 : x < 0) (hy : y < 2 ^ 31) : z_and x (z_xor y (-1)) ≠ 0 := by
  have e1 : i32 (z_xor y (-1)) = i32 (y : Int) ^^^ i32 (-1) := by unfold z_xor; rw [i32_of]
  have k : (z_and x (z_xor y (-1))) < 0 := by
    unfold z_and; rw [e1]
    have m : (i32 x &&& (i32 (y : Int) ^^^ i32 (-1))).toBitVec.msb = true := by
      rw [Int32.toBitVec_and, Int32.toBitVec_xor, BitVec.msb_and, BitVec.msb_xor]
      have a : (i32 x).toBitVec.msb = true := by
        rw [BitVec.msb_eq_toInt]
        show decide ((i32 x).toInt < 0) = true
        rw [i32_t hx]; exact decide_eq_true h0
      have b : (i32 (y : Int)).toBitVec.msb = false := by
        rw [BitVec.msb_eq_toInt]
        show decide ((i32 (y : Int)).toInt < 0) = false
        rw [i32_t (show r32 _ by unfold r32; omega)]; exact decide_eq_false (by omega)
      have c : (i32 (-1)).toBitVec.msb = true := by decide +kernel
      rw [a, b, c]; rfl
    rw [BitVec.msb_eq_toInt] at m
    exact of_decide_eq_true m
  omega
theorem late_pos {a n : Nat} (ha : a < 2 ^ 31) (hn : n ≤ 12) : z_and a (z_xor ((2 ^ n - 1 : Nat) : Int) (-1)) = 0 ↔ a < 2 ^ n := by
  have h1 : 2 ^ n ≤ 2 ^ 12 := Nat.pow_le_pow_right (by omega) hn
  rw [zb_nb ha (by omega)]
  constructor
  · intro e
    have e : nb a (2 ^ n - 1) = 0 := by omega
    refine Nat.lt_pow_two_of_testBit a (fun i hi => ?_)
    have q := nb_t a (2 ^ n - 1) i
    rw [e, Nat.zero_testBit, Nat.testBit_two_pow_sub_one] at q
    have : ¬ i < n := by omega
    simpa [this] using q.symm
  · intro e
    have : nb a (2 ^ n - 1) = 0 := by
      apply Nat.eq_of_testBit_eq
      intro i
      rw [nb_t, Nat.testBit_two_pow_sub_one, Nat.zero_testBit]
      by_cases c : i < n
      · simp [c]
      · have : a.testBit i = false := Nat.testBit_lt_two_pow (Nat.lt_of_lt_of_le e (Nat.pow_le_pow_right (by omega) (by omega)))
        simp [this]
    omega
theorem p_late {x y : Int} (w : zGo h) : zPair E m_X9_late m_X10_late [vi x, vi y] h := by
  refine z_rng (x := x) (zls_m (by simp [zmk])) (fun hx => ?_)
  obtain ⟨t, S, hS, wX, wM⟩ := w
  have hn12 := hS.2.1.1
  have hY := hS.2.2.2.2.1
  have wY := wX.2.2.2.2.2.2.2.1
  have p12 : 2 ^ cn (aC S) ≤ 2 ^ 12 := Nat.pow_le_pow_right (by omega) hn12
  have hx' := hx
  unfold r32 at hx'
  have key : z_and x (z_xor ((2 ^ cn (aC S) - 1 : Nat) : Int) (-1)) = 0 ↔ 0 ≤ x ∧ x < (2 ^ cn (aC S) : Nat) := by
    by_cases c : x < 0
    · exact ⟨fun e => absurd e (late_neg hx c (by omega)), fun e => by omega⟩
    · obtain ⟨a, rfl⟩ : ∃ a : Nat, x = a := ⟨x.toNat, by omega⟩
      rw [late_pos (by omega) hn12]; omega
  by_cases c : (0 ≤ x ∧ x < (2 ^ cn (aC S) : Nat)) ∧ ((0 ≤ y ∧ y ≤ 99) ∧ ec (aY S) < 40)
  · refine p_of (S := S) (S' := sY S (eAdd (aY S) 0 x y)) (r := ec (aY S)) (t := t) (hS.sY (okY_add hY c.2.2 (.inl ⟨rfl, c.1⟩) c.2.1)) wM (fun Q HQ => ?_) (fun h1 Q w1 HQ => ?_)
    · refine v_X9_late ⟨t, wX.1.1, wX.1.2.1, ?_⟩
      refine v_X0_everybody wX.1.2.1 ?_
      rw [wX.2.2.2.1.1, ev_eq hn12]
      refine ⟨fun _ => ?_, fun e => absurd (key.mpr c.1) e⟩
      refine c_tell (s := 0) (v := x) hY.1 wY rfl rfl (fun _ h1 q1 q2 => ?_) (fun n => absurd c.2 n)
      exact HQ h1 t (wX.sY (zEw.of q2 (fun c i q => q.2)) q1) (q2.wk (fun c q => by omega))
    · refine v_X10_late ⟨fun _ => by omega, fun _ => ?_⟩
      rw [w1.2.2.1.1, zb_1 (by omega)]
      refine ⟨fun _ => ?_, fun _ => by omega⟩
      refine c_M_entry hY.1 w1.2.2.2.2.2.1 (fun _ h2 q1 q2 q3 => ?_) (fun n => absurd c.2 n)
      exact HQ h2 (w1.sY (q2.wk (fun c i q => by omega)) q1) q3
  · refine p_of (S := S) (S' := S) (r := -1) (t := t) hS wM (fun Q HQ => ?_) (fun h1 Q w1 HQ => ?_)
    · have HQ := HQ h t wX zEq.rf
      refine v_X9_late ⟨t, wX.1.1, wX.1.2.1, ?_⟩
      refine v_X0_everybody wX.1.2.1 ?_
      rw [wX.2.2.2.1.1, ev_eq hn12]
      refine ⟨fun e => ?_, fun _ => HQ⟩
      exact c_tell (s := 0) (v := x) hY.1 wY rfl rfl (fun q => absurd ⟨key.mp e, q⟩ c) (fun _ => HQ)
    · have HQ := HQ h1 w1 zEq.rf
      refine v_X10_late ⟨fun _ => HQ, fun c1 => ?_⟩
      rw [w1.2.2.1.1, zb_1 (by omega)]
      refine ⟨fun c2 => ?_, fun _ => HQ⟩
      exact c_M_entry hY.1 w1.2.2.2.2.2.1 (fun q => absurd ⟨⟨c1, c2⟩, q⟩ c) (fun _ => HQ)
theorem p_taken {x y : Int} (w : zGo h) : zPair E m_X9_taken m_X10_taken [vi x, vi y] h := by
  obtain ⟨t, S, hS, wX, wM⟩ := w
  have hC := hS.2.1
  have hn12 := hS.2.1.1
  have hY := hS.2.2.2.2.1
  have wC := wX.2.2.2.1
  have wY := wX.2.2.2.2.2.2.2.1
  by_cases c : 0 ≤ x ∧ x < cn (aC S) ∧ ckd (aC S) x.toNat ≠ 3
  · obtain ⟨a, rfl⟩ : ∃ a : Nat, x = a := ⟨x.toNat, by omega⟩
    simp only [Int.toNat_natCast] at c
    by_cases c2 : (0 ≤ y ∧ y ≤ 99) ∧ ec (aY S) < 40
    · refine p_of (S := S) (S' := sY S (eAdd (aY S) 1 a y)) (r := ec (aY S)) (t := t) (hS.sY (okY_add hY c2.2 (.inr ⟨rfl, by omega, by omega, by simpa using c.2.2⟩) c2.1)) wM (fun Q HQ => ?_) (fun h1 Q w1 HQ => ?_)
      · refine v_X9_taken ⟨t, wX.1.1, wX.1.2.1, ?_⟩
        refine c_has wX.1.2.1 wC.1 ?_
        rw [if_pos (by omega)]
        refine ⟨fun e => by omega, fun _ => ⟨t, wX.1.1, wX.1.2.1, ?_⟩⟩
        refine c_isBox wX.1.2.1 hC wC (by omega) ?_
        rw [if_neg c.2.2]
        refine ⟨fun _ => ?_, fun e => absurd rfl e⟩
        refine c_tell (s := 1) (v := a) hY.1 wY rfl rfl (fun _ h1 q1 q2 => ?_) (fun n => absurd c2 n)
        exact HQ h1 t (wX.sY (zEw.of q2 (fun c i q => q.2)) q1) (q2.wk (fun c q => by omega))
      · refine v_X10_taken ?_
        refine c_M_canFall hC w1.2.2.1 ?_
        rw [if_pos (by simpa using c)]
        refine ⟨fun e => by omega, fun _ => ?_⟩
        refine c_M_entry hY.1 w1.2.2.2.2.2.1 (fun _ h2 q1 q2 q3 => ?_) (fun n => absurd c2 n)
        exact HQ h2 (w1.sY (q2.wk (fun c i q => by omega)) q1) q3
    · refine p_of (S := S) (S' := S) (r := -1) (t := t) hS wM (fun Q HQ => ?_) (fun h1 Q w1 HQ => ?_)
      · have HQ := HQ h t wX zEq.rf
        refine v_X9_taken ⟨t, wX.1.1, wX.1.2.1, ?_⟩
        refine c_has wX.1.2.1 wC.1 ?_
        rw [if_pos (by omega)]
        refine ⟨fun e => by omega, fun _ => ⟨t, wX.1.1, wX.1.2.1, ?_⟩⟩
        refine c_isBox wX.1.2.1 hC wC (by omega) ?_
        rw [if_neg c.2.2]
        refine ⟨fun _ => ?_, fun e => absurd rfl e⟩
        exact c_tell (s := 1) (v := a) hY.1 wY rfl rfl (fun q => absurd q c2) (fun _ => HQ)
      · have HQ := HQ h1 w1 zEq.rf
        refine v_X10_taken ?_
        refine c_M_canFall hC w1.2.2.1 ?_
        rw [if_pos (by simpa using c)]
        refine ⟨fun e => by omega, fun _ => ?_⟩
        exact c_M_entry hY.1 w1.2.2.2.2.2.1 (fun q => absurd q c2) (fun _ => HQ)
  · refine p_of (S := S) (S' := S) (r := -1) (t := t) hS wM (fun Q HQ => ?_) (fun h1 Q w1 HQ => ?_)
    · have HQ := HQ h t wX zEq.rf
      refine v_X9_taken ⟨t, wX.1.1, wX.1.2.1, ?_⟩
      refine c_has wX.1.2.1 wC.1 ?_
      by_cases c2 : 0 ≤ x ∧ x < cn (aC S)
      · rw [if_pos c2]
        obtain ⟨a, rfl⟩ : ∃ a : Nat, x = a := ⟨x.toNat, by omega⟩
        refine ⟨fun e => by omega, fun _ => ⟨t, wX.1.1, wX.1.2.1, ?_⟩⟩
        refine c_isBox wX.1.2.1 hC wC (by omega) ?_
        have c3 : ckd (aC S) a = 3 := Classical.byContradiction (fun n => c ⟨by omega, by omega, by simpa using n⟩)
        rw [if_pos c3]
        exact ⟨fun e => by omega, fun _ => HQ⟩
      · rw [if_neg c2]
        exact ⟨fun _ => HQ, fun e => absurd rfl e⟩
    · refine v_X10_taken ?_
      refine c_M_canFall hC w1.2.2.1 ?_
      rw [if_neg c]
      exact ⟨fun _ => HQ h1 w1 zEq.rf, fun e => absurd rfl e⟩
theorem p_untell {x : Int} (w : zGo h) : zPair E m_X9_untell m_X10_untell [vi x] h := by
  obtain ⟨t, S, hS, wX, wM⟩ := w
  have hY := hS.2.2.2.2.1
  have wY := wX.2.2.2.2.2.2.2.1
  have hc := hY.1
  by_cases c : (0 ≤ x ∧ x < ec (aY S)) ∧ ea (aY S) 4 x.toNat = -1
  · obtain ⟨a, rfl⟩ : ∃ a : Nat, x = a := ⟨x.toNat, by omega⟩
    simp only [Int.toNat_natCast] at c
    have k : ∀ j i, ea (eUn (aY S) a) j i = if i = a ∧ j = 4 then (et (aY S) : Int) else ea (aY S) j i := fun _ _ => rfl
    have k2 : ∀ j i, j ≠ 4 → ea (eUn (aY S) a) j i = ea (aY S) j i := fun j i hj => by rw [k, if_neg (fun q => hj q.2)]
    refine p_of (S := S) (S' := sY S (eUn (aY S) a)) (r := 1) (t := t) (hS.sY (okY_un hY)) wM (fun Q HQ => ?_) (fun h1 Q w1 HQ => ?_)
    · refine v_X9_untell ?_
      refine v_X2_withdraw ⟨fun _ => by omega, fun _ => ?_⟩
      rw [wY.2.1]
      refine ⟨fun _ => by omega, fun _ => ⟨by omega, ?_⟩⟩
      simp only [Int.toNat_natCast]
      rw [(wY.2.2 a (by omega)).2.2.2.2]
      refine ⟨fun _ => ?_, fun e => absurd c.2 e⟩
      rintro h2 rfl
      rw [wY.1]
      refine ⟨by simp, HQ _ t (wX.sY (zEw_I (fun q => q.2 (by omega))) ⟨?_, ?_, fun i hi => ?_⟩) (zEq_I (by omega))⟩
      · rw [hI_stI, if_neg (by omega)]; exact wY.1
      · rw [hI_stI, if_neg (by omega)]; exact wY.2.1
      · have q := wY.2.2 i hi
        rw [k2 0 i (by omega), k2 1 i (by omega), k2 2 i (by omega), k2 3 i (by omega), k]
        refine ⟨by rw [hI_stI, if_neg (by omega)]; exact q.1, by rw [hI_stI, if_neg (by omega)]; exact q.2.1, by rw [hI_stI, if_neg (by omega)]; exact q.2.2.1, by rw [hI_stI, if_neg (by omega)]; exact q.2.2.2.1, ?_⟩
        rw [hI_stI]
        simp only [true_and, and_true]
        by_cases e : i = a
        · rw [if_pos e, if_pos e]
        · rw [if_neg e, if_neg e]; exact q.2.2.2.2
    · have wY := w1.2.2.2.2.2.1
      refine v_X10_untell ⟨fun _ => by omega, fun _ => ?_⟩
      rw [wY.2.1]
      refine ⟨fun _ => by omega, fun _ => ⟨by omega, ?_⟩⟩
      simp only [Int.toNat_natCast]
      rw [(wY.2.2 a (by omega)).2.2.2.2]
      refine ⟨fun _ => ?_, fun e => by omega⟩
      rintro h2 rfl
      rw [wY.1]
      refine HQ _ (w1.sY (zEw_I (fun q => q.2.2 (by omega))) ⟨?_, ?_, fun i hi => ?_⟩) (zEq_I (by omega))
      · rw [hI_stI, if_neg (by omega)]; exact wY.1
      · rw [hI_stI, if_neg (by omega)]; exact wY.2.1
      · have q := wY.2.2 i hi
        rw [k2 0 i (by omega), k2 1 i (by omega), k2 2 i (by omega), k2 3 i (by omega), k]
        refine ⟨by rw [hI_stI, if_neg (by omega)]; exact q.1, by rw [hI_stI, if_neg (by omega)]; exact q.2.1, by rw [hI_stI, if_neg (by omega)]; exact q.2.2.1, by rw [hI_stI, if_neg (by omega)]; exact q.2.2.2.1, ?_⟩
        rw [hI_stI]
        simp only [true_and, and_true]
        by_cases e : i = a
        · rw [if_pos e, if_pos e]
        · rw [if_neg e, if_neg e]; exact q.2.2.2.2
  · refine p_of (S := S) (S' := S) (r := 0) (t := t) hS wM (fun Q HQ => ?_) (fun h1 Q w1 HQ => ?_)
    · have HQ := HQ h t wX zEq.rf
      refine v_X9_untell ?_
      refine v_X2_withdraw ⟨fun _ => ⟨.inl rfl, HQ⟩, fun c1 => ?_⟩
      rw [wY.2.1]
      refine ⟨fun _ => ⟨.inl rfl, HQ⟩, fun c2 => ⟨by omega, ?_⟩⟩
      rw [(wY.2.2 x.toNat (by omega)).2.2.2.2]
      exact ⟨fun e => absurd ⟨⟨c1, c2⟩, e⟩ c, fun _ => ⟨.inl rfl, HQ⟩⟩
    · have HQ := HQ h1 w1 zEq.rf
      have wY := w1.2.2.2.2.2.1
      refine v_X10_untell ⟨fun _ => HQ, fun c1 => ?_⟩
      rw [wY.2.1]
      refine ⟨fun _ => HQ, fun c2 => ⟨by omega, ?_⟩⟩
      rw [(wY.2.2 x.toNat (by omega)).2.2.2.2]
      refine ⟨fun e => absurd ⟨⟨c1, c2⟩, ?_⟩ c, fun _ => HQ⟩
      have := (hY.2.2 x.toNat (by omega)).2.2.2.1
      omega
end TL
