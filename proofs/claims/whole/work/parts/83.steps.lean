/-! the class's steps: by days, by keeps, by acquaintances -/
section ST
variable {E : zE} {d : Nat} {h : zS}
theorem c_stepByDays {k1 : Nat} {C : zCt} {Q : zS → Prop} (hk1 : isCity k1) (hC : okC C) (wC : XCity h k1 C) (HQ : ∀ h1, spH h1 (cn C) (spD C) → zEq (fun c => c ≠ 31) h h1 → Q h1) : zCv E d m_X7_stepByDays [vo 30, vo k1] h Q := by
  have hn12 := hC.1
  have kd := (city_lt hk1).2
  refine v_X7_stepByDays hk1 ?_
  refine z_up (n := 144) (fun i h2 => zWv E d m_X7_stepByDays 2 [vo 30, vo k1, vi i] h2 Q) (fun i h2 => (∀ j, j < i → hI h2 31 j = if hI h (k1 + 7) j ≤ 0 then -1 else hI h (k1 + 7) j) ∧ zEq (fun c => c ≠ 31) h h2) ?_ ?_ 0 h (by omega) ⟨fun j hj => by omega, zEq.rf⟩
  · rintro h2 ⟨u1, u2⟩
    refine r_X7_stepByDays_2 hk1 ⟨fun _ => HQ h2 (fun a b ha hb => ?_) u2, fun c => by omega⟩
    rw [u1 _ (by omega), wC.2.2.2.2.2.2.1 a b (by omega) (by omega)]
    unfold spD
    by_cases c : 0 < ctk C a b
    · rw [if_pos c, if_neg (by omega)]
    · rw [if_neg c, if_pos (by omega)]
  · rintro i h2 hi ⟨u1, u2⟩ ih
    refine r_X7_stepByDays_2 hk1 ⟨fun c => by omega, fun _ => ⟨by omega, fun _ => by omega, ?_⟩⟩
    rw [w32s (by omega)]
    simp only [Int.toNat_natCast]
    intro h3 e3
    obtain ⟨v3, n3, q3⟩ := st_cp e3
    clear e3
    refine ih h3 ⟨fun j hj => ?_, u2.tr q3⟩
    by_cases e : j = i
    · rw [e, v3, u2.I (by omega)]
    · rw [n3 _ _ (fun q => e q.2)]; exact u1 j (by omega)
theorem c_gives {k1 a b : Nat} {C : zCt} {Q : Int → zS → Prop} (hk1 : isCity k1) (wC : ∀ a b, a < 12 → b < 12 → hI h (k1 + 7) (12 * a + b) = ctk C a b) (ha : a < 12) (hb : b < 12) (HQ : Q (if 0 < ctk C a b then 1 else 0) h) : zCi E (d + 1) m_X0_gives [vo k1, vi a, vi b] h Q := by
  refine v_X0_gives hk1 ?_
  refine c_pair ha hb ⟨by omega, ?_⟩
  simp only [Int.toNat_natCast]
  rw [wC a b ha hb]
  refine ⟨fun c => ?_, fun c => ?_⟩
  · rw [if_neg (by omega)] at HQ; exact HQ
  · rw [if_pos c] at HQ; exact HQ
/-- two loops over all pairs that lay down what each step counts -/
theorem c_stepByKeeps {k1 : Nat} {C : zCt} {Q : zS → Prop} (hk1 : isCity k1) (hC : okC C) (wC : XCity h k1 C) (HQ : ∀ h1, spH h1 (cn C) (spK C) → zEq (fun c => c ≠ 31) h h1 → Q h1) : zCv E (d + 2) m_X7_stepByKeeps [vo 30, vo k1] h Q := by
  have hn12 := hC.1
  have kd := (city_lt hk1).2
  have fC : ∀ h2, zEq (fun c => c ≠ 31) h h2 → XCity h2 k1 C := fun h2 e => wC.fr e (fun j hj => by omega)
  refine v_X7_stepByKeeps hk1 ?_
  refine z_up (n := cn C) (fun i h2 => zWv E (d + 1 + 1) m_X7_stepByKeeps 2 [vo 30, vo k1, vi i, vn, vn] h2 Q) (fun i h2 => (∀ a b, a < i → b < cn C → hI h2 31 (12 * a + b) = spK C a b) ∧ zEq (fun c => c ≠ 31) h h2) ?_ ?_ 0 h (by omega) ⟨fun a b hj => by omega, zEq.rf⟩
  · rintro h2 ⟨u1, u2⟩
    exact r_X7_stepByKeeps_2 hk1 ⟨fun _ => HQ h2 u1 u2, fun c => by rw [(fC h2 u2).1] at c; omega⟩
  · rintro i h2 hi ⟨u1, u2⟩ ih
    refine r_X7_stepByKeeps_2 hk1 ⟨fun c => by rw [(fC h2 u2).1] at c; omega, fun _ => ?_⟩
    refine z_up (n := cn C) (fun j h3 => zWv E (d + 1 + 1) m_X7_stepByKeeps 12 [vo 30, vo k1, vi i, vi j, vn] h3 Q) (fun j h3 => (∀ a b, (a < i ∧ b < cn C) ∨ (a = i ∧ b < j) → hI h3 31 (12 * a + b) = spK C a b) ∧ zEq (fun c => c ≠ 31) h h3) ?_ ?_ 0 h2 (by omega) ⟨fun a b hj => u1 a b (by omega) (by omega), u2⟩
    · rintro h3 ⟨t1, t2⟩
      refine r_X7_stepByKeeps_12 hk1 ⟨fun _ => ?_, fun c => by rw [(fC h3 t2).1] at c; omega⟩
      rw [w32s (by omega)]
      exact ih h3 ⟨fun a b ha hb => t1 a b (by omega), t2⟩
    · rintro j h3 hj ⟨t1, t2⟩ ih2
      refine r_X7_stepByKeeps_12 hk1 ⟨fun c => by rw [(fC h3 t2).1] at c; omega, fun _ => ⟨fun _ => by omega, ?_⟩⟩
      rw [w32s (by omega), (fC h3 t2).2.2.2.1]
      simp only [Int.toNat_natCast]
      rw [((fC h3 t2).2.2.2.2.2.1 j hj).2.2.2.2]
      intro y2 hy2
      refine c_pair (by omega) (by omega) ?_
      refine c_gives hk1 (fC h3 t2).2.2.2.2.2.2.1 (by omega) (by omega) ⟨by omega, ?_⟩
      simp only [Int.toNat_natCast]
      intro h9 e9
      obtain ⟨v9, n9, q9⟩ := st_cp e9
      clear e9
      refine ih2 h9 ⟨fun a b hab => ?_, t2.tr q9⟩
      by_cases e : a = i ∧ b = j
      · rw [e.1, e.2, v9, hy2]
        unfold spK
        by_cases c : 0 < ctk C i j
        · rw [if_pos c, if_neg (by omega), if_pos c]
          by_cases c2 : (j : Int) = cse C
          · rw [if_pos c2, if_neg (by omega)]
          · rw [if_neg c2, if_pos c2]
        · rw [if_neg c, if_pos rfl, if_neg c]
      · rw [n9 _ _ (by omega)]
        exact t1 a b (by omega)
theorem c_acqFor {k1 : Nat} {C : zCt} {N : zEn} {a b : Nat} {Q : Int → zS → Prop} (hk1 : isCity k1) (hC : okC C) (hn : hI h k1 0 = (cn C : Int)) (hN : okN C N) (wN : XEarn h 34 C N) (ha : a < cn C) (hb : b < cn C) (HQ : Q (spU C N a b) h) : zCi E (d + 3) m_X1_acquaintancesFor [vo 34, vo k1, vi a, vi b] h Q := by
  have hn12 := hC.1
  have g := (hN.2.2.2.2.2.2.1 a b).1
  refine v_X1_acquaintancesFor isEarnest_34 hk1 ?_
  unfold spU at HQ
  refine c_thereX hn12 wN ha ?_
  cases ta : thN C N a with
  | false =>
    rw [if_neg (fun q => by have := q.1; rw [ta] at this; cases this)] at HQ
    exact ⟨fun _ => HQ, fun e => absurd rfl e⟩
  | true =>
  refine ⟨fun e => by simp at e, fun _ => ?_⟩
  refine c_thereX hn12 wN hb ?_
  cases tb : thN C N b with
  | false =>
    rw [if_neg (fun q => by have := q.2; rw [tb] at this; cases this)] at HQ
    exact ⟨fun e => absurd rfl e, fun _ => HQ⟩
  | true =>
  rw [if_pos ⟨ta, tb⟩] at HQ
  refine ⟨fun _ => ?_, fun e => by simp at e⟩
  refine c_pair (by omega) (by omega) ⟨by omega, ?_⟩
  simp only [Int.toNat_natCast, Nat.reduceAdd]
  have g2 : hI h 43 (12 * a + b) = ngv N a b := wN.2.2.2.2.1 a b (by omega) (by omega)
  rw [g2]
  refine ⟨fun c => ?_, fun c => ?_⟩
  · rw [if_neg (by omega)] at HQ
    refine z_upS (σ := Unit) (n := cn C) (fun i _ => zWi E (d + 2 + 1) m_X1_acquaintancesFor 42 [vo 34, vo k1, vi a, vi b, vi i] h Q) (fun i _ => ∀ c, c < i → ¬ cMt C N a b c) ?_ ?_ 0 () (by omega) (fun c hc => by omega)
    · intro _ u
      refine r_X1_acquaintancesFor_42 isEarnest_34 hk1 ⟨fun _ => ?_, fun c => by rw [hn] at c; omega⟩
      rw [if_neg] at HQ
      · exact HQ
      · intro q
        obtain ⟨x, hx, m⟩ := mtB_t.mp q
        exact u x hx m
    · intro i _ hi u ih
      refine r_X1_acquaintancesFor_42 isEarnest_34 hk1 ⟨fun c => by rw [hn] at c; omega, fun _ => ?_⟩
      rw [w32s (by omega)]
      refine c_canMeet isEarnest_34 hC hN wN ha hb hi (fun m => ⟨fun e => by omega, fun _ => ?_⟩) (fun nm => ⟨fun _ => ih () (fun x hx => ?_), fun e => absurd rfl e⟩)
      · rw [if_pos (mtB_t.mpr ⟨i, hi, m⟩)] at HQ; exact HQ
      · by_cases e : x = i
        · rw [e]; exact nm
        · exact u x (by omega)
  · rw [if_pos c] at HQ; exact HQ
theorem c_stepByAcq {k1 : Nat} {C : zCt} {N : zEn} {Q : zS → Prop} (hk1 : isCity k1) (hC : okC C) (hn : hI h k1 0 = (cn C : Int)) (hN : okN C N) (wN : XEarn h 34 C N) (HQ : ∀ h1, spH h1 (cn C) (spU C N) → zEq (fun c => c ≠ 31) h h1 → Q h1) : zCv E (d + 4) m_X7_stepByAcquaintances [vo 30, vo k1, vo 34] h Q := by
  have hn12 := hC.1
  have kd := (city_lt hk1).2
  have fC : ∀ h2, zEq (fun c => c ≠ 31) h h2 → hI h2 k1 0 = (cn C : Int) := fun h2 e => by rw [e.I (by omega)]; exact hn
  have fN : ∀ h2, zEq (fun c => c ≠ 31) h h2 → XEarn h2 34 C N := fun h2 e => wN.fr e (fun j hj => by omega)
  refine v_X7_stepByAcquaintances hk1 isEarnest_34 ?_
  refine z_up (n := cn C) (fun i h2 => zWv E (d + 3 + 1) m_X7_stepByAcquaintances 2 [vo 30, vo k1, vo 34, vi i, vn] h2 Q) (fun i h2 => (∀ a b, a < i → b < cn C → hI h2 31 (12 * a + b) = spU C N a b) ∧ zEq (fun c => c ≠ 31) h h2) ?_ ?_ 0 h (by omega) ⟨fun a b hj => by omega, zEq.rf⟩
  · rintro h2 ⟨u1, u2⟩
    exact r_X7_stepByAcquaintances_2 hk1 isEarnest_34 ⟨fun _ => HQ h2 u1 u2, fun c => by rw [fC h2 u2] at c; omega⟩
  · rintro i h2 hi ⟨u1, u2⟩ ih
    refine r_X7_stepByAcquaintances_2 hk1 isEarnest_34 ⟨fun c => by rw [fC h2 u2] at c; omega, fun _ => ?_⟩
    refine z_up (n := cn C) (fun j h3 => zWv E (d + 3 + 1) m_X7_stepByAcquaintances 13 [vo 30, vo k1, vo 34, vi i, vi j] h3 Q) (fun j h3 => (∀ a b, (a < i ∧ b < cn C) ∨ (a = i ∧ b < j) → hI h3 31 (12 * a + b) = spU C N a b) ∧ zEq (fun c => c ≠ 31) h h3) ?_ ?_ 0 h2 (by omega) ⟨fun a b hj => u1 a b (by omega) (by omega), u2⟩
    · rintro h3 ⟨t1, t2⟩
      refine r_X7_stepByAcquaintances_13 hk1 isEarnest_34 ⟨fun _ => ?_, fun c => by rw [fC h3 t2] at c; omega⟩
      rw [w32s (by omega)]
      exact ih h3 ⟨fun a b ha hb => t1 a b (by omega), t2⟩
    · rintro j h3 hj ⟨t1, t2⟩ ih2
      refine r_X7_stepByAcquaintances_13 hk1 isEarnest_34 ⟨fun c => by rw [fC h3 t2] at c; omega, fun _ => ?_⟩
      rw [w32s (by omega)]
      refine c_pair (by omega) (by omega) ?_
      refine c_acqFor hk1 hC (fC h3 t2) hN (fN h3 t2) hi hj ⟨by omega, ?_⟩
      simp only [Int.toNat_natCast]
      intro h9 e9
      obtain ⟨v9, n9, q9⟩ := st_cp e9
      clear e9
      refine ih2 h9 ⟨fun a b hab => ?_, t2.tr q9⟩
      by_cases e : a = i ∧ b = j
      · rw [e.1, e.2, v9]
      · rw [n9 _ _ (by omega)]
        exact t1 a b (by omega)
end ST
