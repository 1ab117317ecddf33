/-! the router of the class -/
theorem lc_0 {a b : Int} : z_lcmp a b = 0 ↔ a = b := by
  unfold z_lcmp; split
  · constructor <;> intro h <;> omega
  · split
    · simp [*]
    · constructor <;> intro h <;> omega
theorem lc_l {a b : Int} : z_lcmp a b < 0 ↔ a < b := by
  unfold z_lcmp; split
  · constructor <;> intro h <;> omega
  · split
    · constructor <;> intro h <;> omega
    · constructor <;> intro h <;> omega
theorem lc_g {a b : Int} : 0 ≤ z_lcmp a b ↔ b ≤ a := by
  unfold z_lcmp; split
  · constructor <;> intro h <;> omega
  · split
    · constructor <;> intro h <;> omega
    · constructor <;> intro h <;> omega
theorem st_cpL {h h1 : zS} {k i : Nat} {x : Int} (e : h1 = stL h k i x) : hL h1 k i = x ∧ (∀ c j, ¬ (c = k ∧ j = i) → hL h1 c j = hL h c j) ∧ zEq (fun c => c ≠ k) h h1 := by
  rw [e]
  exact ⟨by rw [hL_stL, if_pos ⟨rfl, rfl⟩], fun c j hc => by rw [hL_stL, if_neg hc], zEq_L (fun q => q rfl)⟩
def opq (bo r c : Int) : Int := if bo = 0 then w64 (r + c) else w64 (z_ldiv r 100 * c)
def opk (bo : Int) (op : Int → Int → Int) (sp : Nat → Nat → Int) (n : Nat) (g : Nat → Int) : Prop := ∀ a b, a < n → b < n → g b ≠ 4000000000000000000 → sp a b ≠ -1 → opq bo (g b) (sp a b) = op (g b) (sp a b)
def spH (h : zS) (n : Nat) (sp : Nat → Nat → Int) : Prop := ∀ a b, a < n → b < n → hI h 31 (12 * a + b) = sp a b
section RO
variable {E : zE} {d : Nat} {h : zS}
theorem c_onward {bo : Int} {op : Int → Int → Int} {sp : Nat → Nat → Int} {n l a b : Nat} {g : Nat → Int} {Q : Int → zS → Prop} (hn12 : n ≤ 12) (hs : spH h n sp) (hbo : hI h 30 2 = bo) (hg : ∀ b, b < n → hL h 32 (12 * l + b) = g b) (ho : opk bo op sp n g) (hl : l < 12) (ha : a < n) (hb : b < n) (HQ : Q (onw op sp g a b) h) : zCl E (d + 1) m_X7_onward [vo 30, vi ((l + 1 : Nat) : Int), vi a, vi b] h Q := by
  have e1 : w32 (((l + 1 : Nat) : Int) - 1) = (l : Int) := by rw [w32_id (by omega) (by omega)]; omega
  refine v_X7_onward ?_
  rw [e1]
  clear e1
  refine c_pair (by omega) (by omega) ⟨by omega, ?_⟩
  refine c_pair (by omega) (by omega) ⟨by omega, ?_⟩
  simp only [Int.toNat_natCast]
  rw [hs a b ha hb, hg b hb, hbo]
  unfold onw at HQ
  refine ⟨fun c => ?_, fun c => ⟨fun c2 => ?_, fun c2 => ?_⟩⟩
  · rw [if_pos (.inl c)] at HQ; exact HQ
  · have c2 : g b ≠ 4000000000000000000 := fun e => c2 (lc_0.mpr e)
    rw [if_neg (fun q => q.elim c c2), ← ho a b ha hb c2 c] at HQ
    unfold opq at HQ
    refine ⟨fun c3 => ?_, fun c3 => ?_⟩
    · rw [if_pos c3] at HQ; exact HQ
    · rw [if_neg c3] at HQ; exact HQ
  · rw [if_pos (.inr (lc_0.mp c2))] at HQ; exact HQ
theorem c_leastOnward {k1 : Nat} {bo : Int} {op : Int → Int → Int} {sp : Nat → Nat → Int} {n l a : Nat} {g : Nat → Int} {Q : Int → zS → Prop} (hk1 : isCity k1) (hn : hI h k1 0 = (n : Int)) (hn12 : n ≤ 12) (hs : spH h n sp) (hbo : hI h 30 2 = bo) (hg : ∀ b, b < n → hL h 32 (12 * l + b) = g b) (ho : opk bo op sp n g) (hl : l < 12) (ha : a < n) (HQ : Q (mn (onw op sp g a) n) h) : zCl E (d + 2) m_X7_leastOnward [vo 30, vo k1, vi ((l + 1 : Nat) : Int), vi a] h Q := by
  refine v_X7_leastOnward hk1 ?_
  refine z_upS (σ := Unit) (n := n) (fun i _ => zWl E (d + 1 + 1) m_X7_leastOnward 8 [vo 30, vo k1, vi ((l + 1 : Nat) : Int), vi a, vl (mn (onw op sp g a) i), vn, vi i] h Q) (fun _ _ => True) ?_ ?_ 0 () (by omega) trivial
  · intro _ _
    exact r_X7_leastOnward_8 hk1 ⟨fun _ => HQ, fun c => by rw [hn] at c; omega⟩
  · intro i _ hi _ ih
    refine r_X7_leastOnward_8 hk1 ⟨fun c => by rw [hn] at c; omega, fun _ => ?_⟩
    rw [w32s (by omega)]
    refine c_onward hn12 hs hbo hg ho hl ha hi ?_
    rintro y3 rfl
    exact ih () trivial
theorem c_fillBest {k1 : Nat} {bo s0 : Int} {op : Int → Int → Int} {sp : Nat → Nat → Int} {n z L : Nat} {Q : zS → Prop} (hk1 : isCity k1) (hn : hI h k1 0 = (n : Int)) (hz : hI h k1 3 = (z : Int)) (hn12 : n ≤ 12) (hzn : z < n) (hL11 : L ≤ 11) (hs : spH h n sp) (hbo : hI h 30 2 = bo) (ho : ∀ l, l < L → opk bo op sp n (bL op s0 sp n z l))
    (HQ : ∀ h1, (∀ l b, l ≤ L → b < n → hL h1 32 (12 * l + b) = bL op s0 sp n z l b) → zEq (fun c => c ≠ 32) h h1 → Q h1) : zCv E (d + 3) m_X7_fillBest [vo 30, vo k1, vi L, vl s0] h Q := by
  have kd := (city_lt hk1).2
  refine v_X7_fillBest hk1 ?_
  refine c_fillL ga_32 (by omega) (fun h1 f1 q1 => ?_)
  have fn : ∀ h2, zEq (fun c => c ≠ 32) h h2 → hI h2 k1 0 = (n : Int) := fun h2 e => by rw [e.I (by omega)]; exact hn
  have fz : ∀ h2, zEq (fun c => c ≠ 32) h h2 → hI h2 k1 3 = (z : Int) := fun h2 e => by rw [e.I (by omega)]; exact hz
  have fs : ∀ h2, zEq (fun c => c ≠ 32) h h2 → spH h2 n sp := fun h2 e a b ha hb => by rw [e.I (by omega)]; exact hs a b ha hb
  have fb : ∀ h2, zEq (fun c => c ≠ 32) h h2 → hI h2 30 2 = bo := fun h2 e => by rw [e.I (by omega)]; exact hbo
  rw [fz h1 q1]
  refine ⟨by omega, ?_⟩
  simp only [Int.toNat_natCast]
  intro h3 e3
  obtain ⟨v3, n3, q3⟩ := st_cpL e3
  clear e3
  refine z_up (n := L) (fun k h2 => zWv E (d + 2 + 1) m_X7_fillBest 23 [vo 30, vo k1, vi L, vn, vn, vi ((k + 1 : Nat) : Int), vn] h2 Q) (fun k h2 => (∀ l b, l ≤ 11 → b < n → hL h2 32 (12 * l + b) = if l ≤ k then bL op s0 sp n z l b else 4000000000000000000) ∧ zEq (fun c => c ≠ 32) h h2) ?_ ?_ 0 h3 (by omega) ⟨fun l b hl hb => ?_, q1.tr q3⟩
  · rintro h2 ⟨u1, u2⟩
    refine r_X7_fillBest_23 hk1 ⟨fun _ => HQ h2 (fun l b hl hb => ?_) u2, fun c => by omega⟩
    rw [u1 l b (by omega) hb, if_pos hl]
  · rintro k h2 hk ⟨u1, u2⟩ ih
    refine r_X7_fillBest_23 hk1 ⟨fun c => by omega, fun _ => ?_⟩
    refine z_up (n := n) (fun i h2 => zWv E (d + 2 + 1) m_X7_fillBest 32 [vo 30, vo k1, vi L, vn, vn, vi ((k + 1 : Nat) : Int), vi i] h2 Q) (fun i h2 => (∀ l b, l ≤ 11 → b < n → hL h2 32 (12 * l + b) = if l ≤ k ∨ (l = k + 1 ∧ b < i) then bL op s0 sp n z l b else 4000000000000000000) ∧ zEq (fun c => c ≠ 32) h h2) ?_ ?_ 0 h2 (by omega) ⟨fun l b hl hb => ?_, u2⟩
    · rintro h4 ⟨t1, t2⟩
      refine r_X7_fillBest_32 hk1 ⟨fun _ => ?_, fun c => by rw [fn h4 t2] at c; omega⟩
      rw [w32s (by omega)]
      refine ih h4 ⟨fun l b hl hb => ?_, t2⟩
      rw [t1 l b hl hb]
      by_cases c : l ≤ k + 1
      · rw [if_pos c, if_pos (by omega)]
      · rw [if_neg c, if_neg (by omega)]
    · rintro i h4 hi ⟨t1, t2⟩ ih2
      refine r_X7_fillBest_32 hk1 ⟨fun c => by rw [fn h4 t2] at c; omega, fun _ => ?_⟩
      rw [w32s (by omega), fz h4 t2]
      refine ⟨fun c => ih2 h4 ⟨fun l b hl hb => ?_, t2⟩, fun c => ?_⟩
      · have iz : i = z := by omega
        rw [t1 l b hl hb]
        by_cases e : l = k + 1 ∧ b = i
        · rw [if_neg (by omega), if_pos (by omega)]
          unfold bL
          rw [e.1]
          show _ = if b = z then _ else _
          rw [if_pos (by omega)]
        · by_cases c2 : l ≤ k ∨ (l = k + 1 ∧ b < i)
          · rw [if_pos c2, if_pos (by omega)]
          · rw [if_neg c2, if_neg (by omega)]
      · refine c_pair (by omega) (by omega) ?_
        refine c_leastOnward (g := bL op s0 sp n z k) hk1 (fn h4 t2) hn12 (fs h4 t2) (fb h4 t2) (fun b hb => ?_) (ho k hk) (by omega) hi ?_
        · rw [t1 k b (by omega) hb, if_pos (by omega)]
        · refine ⟨by omega, ?_⟩
          simp only [Int.toNat_natCast]
          intro h6 e6
          obtain ⟨v6, n6, q6⟩ := st_cpL e6
          clear e6
          refine ih2 h6 ⟨fun l b hl hb => ?_, t2.tr q6⟩
          by_cases e : l = k + 1 ∧ b = i
          · rw [if_pos (by omega), e.1, e.2, v6]
            show _ = if i = z then _ else _
            rw [if_neg (by omega)]
          · rw [n6 _ _ (by omega), t1 l b hl hb]
            by_cases c2 : l ≤ k ∨ (l = k + 1 ∧ b < i)
            · rw [if_pos c2, if_pos (by omega)]
            · rw [if_neg c2, if_neg (by omega)]
    · rw [u1 l b hl hb]
      by_cases c : l ≤ k
      · rw [if_pos c, if_pos (by omega)]
      · rw [if_neg c, if_neg (by omega)]
  · by_cases e : l = 0 ∧ b = z
    · rw [if_pos (by omega), e.1, e.2, show 12 * 0 + z = z by omega, v3]
      show _ = if z = z then _ else _
      rw [if_pos rfl]
    · rw [n3 _ _ (by omega), f1 _ (by omega)]
      by_cases c : l ≤ 0
      · rw [if_pos c]
        have l0 : l = 0 := by omega
        rw [l0]
        show _ = if b = z then _ else _
        rw [if_neg (by omega)]
      · rw [if_neg c]
theorem c_firstBest {k1 : Nat} {bo s0 : Int} {op : Int → Int → Int} {sp : Nat → Nat → Int} {n z l a : Nat} {Q : Int → zS → Prop} (hk1 : isCity k1) (hn : hI h k1 0 = (n : Int)) (hn12 : n ≤ 12) (hs : spH h n sp) (hbo : hI h 30 2 = bo) (hB : ∀ b, b < n → hL h 32 (12 * l + b) = bL op s0 sp n z l b ∧ hL h 32 (12 * (l + 1) + b) = bL op s0 sp n z (l + 1) b) (ho : opk bo op sp n (bL op s0 sp n z l)) (hl : l < 11) (ha : a < n) (hv : bL op s0 sp n z (l + 1) a ≠ 4000000000000000000)
    (HQ : ∀ b : Nat, fbI op s0 sp n z l a b → Q (b : Int) h) : zCi E (d + 2) m_X7_firstBest [vo 30, vo k1, vi ((l + 1 : Nat) : Int), vi a] h Q := by
  refine v_X7_firstBest hk1 ?_
  refine z_upS (σ := Unit) (n := n) (fun i _ => zWi E (d + 1 + 1) m_X7_firstBest 3 [vo 30, vo k1, vi ((l + 1 : Nat) : Int), vi a, vi i] h Q) (fun i _ => ∀ c, c < i → onw op sp (bL op s0 sp n z l) a c ≠ bL op s0 sp n z (l + 1) a) ?_ ?_ 0 () (by omega) (fun c hc => by omega)
  · intro _ u
    exfalso
    have e : bL op s0 sp n z (l + 1) a = if a = z then 4000000000000000000 else mn (onw op sp (bL op s0 sp n z l) a) n := rfl
    by_cases az : a = z
    · rw [if_pos az] at e; exact hv e
    · rw [if_neg az] at e
      rcases mn_ex (f := onw op sp (bL op s0 sp n z l) a) n with q | ⟨b, hb, q⟩
      · exact hv (e.trans q)
      · exact u b hb (q.symm.trans e.symm)
  · intro i _ hi u ih
    refine r_X7_firstBest_3 hk1 ⟨fun c => by rw [hn] at c; omega, fun _ => ?_⟩
    rw [w32s (by omega)]
    refine c_onward hn12 hs hbo (fun b hb => (hB b hb).1) ho (by omega) ha hi ?_
    refine c_pair (by omega) (by omega) ⟨by omega, ?_⟩
    simp only [Int.toNat_natCast]
    rw [(hB a ha).2]
    refine ⟨fun c => ih () (fun c' hc' => ?_), fun c => HQ i ⟨hi, lc_0.mp c, u⟩⟩
    by_cases e : c' = i
    · rw [e]; exact fun q => c (lc_0.mpr q)
    · exact u c' (by omega)
theorem c_trace {k1 : Nat} {bo s0 : Int} {op : Int → Int → Int} {sp : Nat → Nat → Int} {n z g m L : Nat} {Q : zS → Prop} (hk1 : isCity k1) (hn : hI h k1 0 = (n : Int)) (hg : hI h k1 2 = (g : Int)) (hn12 : n ≤ 12) (hgn : g < n) (hs : spH h n sp) (hbo : hI h 30 2 = bo) (hB : ∀ l b, l ≤ L → b < n → hL h 32 (12 * l + b) = bL op s0 sp n z l b) (ho : ∀ l, l < L → opk bo op sp n (bL op s0 sp n z l)) (hL11 : L ≤ 11) (hm : m ≤ L) (hv : bL op s0 sp n z m g ≠ 4000000000000000000)
    (HQ : ∀ (w : Nat → Nat) (h1 : zS), w 0 = g → (∀ k, k < m → fbI op s0 sp n z (m - 1 - k) (w k) (w (k + 1))) → hI h1 30 4 = ((m + 1 : Nat) : Int) → (∀ i, i ≤ m → hI h1 33 i = (w i : Int)) → zEq (fun c => c ≠ 30 ∧ c ≠ 33) h h1 → Q h1) : zCv E (d + 3) m_X7_trace [vo 30, vo k1, vi m] h Q := by
  have kd := (city_lt hk1).2
  refine v_X7_trace hk1 ?_
  rw [hg]
  intro h1 e1 h2 e2
  obtain ⟨v1, n1, q1⟩ := st_cp e1
  obtain ⟨v2, n2, q2⟩ := st_cp e2
  clear e1 e2
  have w1 : hI h2 30 4 = 1 := v2
  have w2 : hI h2 33 0 = (g : Int) := by rw [q2.I (by omega)]; exact v1
  have wb : hI h2 30 2 = bo := by rw [n2 _ _ (by omega), q1.I (by omega)]; exact hbo
  have z2 : zEq (fun c => c ≠ 30 ∧ c ≠ 33) h h2 := (q1.wk (fun c q => q.2)).tr (q2.wk (fun c q => q.1))
  have fn : ∀ h2, zEq (fun c => c ≠ 30 ∧ c ≠ 33) h h2 → hI h2 k1 0 = (n : Int) := fun h2 e => by rw [e.I (by omega)]; exact hn
  have fs : ∀ h2, zEq (fun c => c ≠ 30 ∧ c ≠ 33) h h2 → spH h2 n sp := fun h2 e a b ha hb => by rw [e.I (by omega)]; exact hs a b ha hb
  have fB : ∀ h2, zEq (fun c => c ≠ 30 ∧ c ≠ 33) h h2 → ∀ l b, l ≤ L → b < n → hL h2 32 (12 * l + b) = bL op s0 sp n z l b := fun h2 e l b hl hb => by rw [e.L (by omega)]; exact hB l b hl hb
  refine z_upS (σ := (Nat → Nat) × zS) (n := m) (fun k s => zWv E (d + 2 + 1) m_X7_trace 20 [vo 30, vo k1, vn, vi (s.1 k), vi ((m - k : Nat) : Int), vn] s.2 Q)
    (fun k s => s.1 0 = g ∧ (∀ j, j < k → fbI op s0 sp n z (m - 1 - j) (s.1 j) (s.1 (j + 1))) ∧ s.1 k < n ∧ bL op s0 sp n z (m - k) (s.1 k) ≠ 4000000000000000000 ∧ hI s.2 30 4 = ((k + 1 : Nat) : Int) ∧ hI s.2 30 2 = bo ∧ (∀ i, i ≤ k → hI s.2 33 i = (s.1 i : Int)) ∧ zEq (fun c => c ≠ 30 ∧ c ≠ 33) h s.2) ?_ ?_ 0 ((fun _ => g), h2) (by omega) ?_
  · rintro ⟨w, h3⟩ ⟨u1, u2, u3, u4, u5, u6, u7, u8⟩
    dsimp only at u1 u2 u3 u4 u5 u6 u7 u8 ⊢
    exact r_X7_trace_20 hk1 ⟨fun _ => HQ w h3 u1 u2 u5 u7 u8, fun c => by omega⟩
  · rintro k ⟨w, h3⟩ hk ⟨u1, u2, u3, u4, u5, u6, u7, u8⟩ ih
    dsimp only at u1 u2 u3 u4 u5 u6 u7 u8 ih ⊢
    refine r_X7_trace_20 hk1 ⟨fun c => by omega, fun _ => ?_⟩
    have e0 : m - k = (m - 1 - k) + 1 := by omega
    have e1 : w32 (((m - k : Nat) : Int) + -1) = ((m - (k + 1) : Nat) : Int) := by rw [w32_id (by omega) (by omega)]; omega
    rw [e1]
    clear e1
    rw [e0] at u4 ⊢
    refine c_firstBest (s0 := s0) (z := z) hk1 (fn h3 u8) hn12 (fs h3 u8) u6 (fun b hb => ⟨fB h3 u8 _ b (by omega) hb, fB h3 u8 _ b (by omega) hb⟩) (ho _ (by omega)) (by omega) u3 u4 (fun b hb => ?_)
    rw [u5]
    refine ⟨by omega, ?_⟩
    simp only [Int.toNat_natCast]
    intro h4 e4
    obtain ⟨v4, n4, q4⟩ := st_cp e4
    clear e4
    have k4 : hI h4 30 4 = ((k + 1 : Nat) : Int) := by rw [q4.I (by omega)]; exact u5
    rw [k4, w32s (by omega)]
    intro h5 e5
    obtain ⟨v5, n5, q5⟩ := st_cp e5
    clear e5
    have := ih ((fun i => if i = k + 1 then b else w i), h5)
    dsimp only at this
    rw [if_pos rfl] at this
    refine this ⟨?_, fun j hj => ?_, hb.1, ?_, v5, ?_, fun i hi => ?_, u8.tr ((q4.wk (fun c q => q.2)).tr (q5.wk (fun c q => q.1)))⟩
    · rw [if_neg (by omega)]; exact u1
    · by_cases e : j = k
      · rw [if_neg (by omega), if_pos (by omega), e]; exact hb
      · rw [if_neg (by omega), if_neg (by omega)]; exact u2 j (by omega)
    · have q := hb.2.1
      intro e
      have e' : bL op s0 sp n z (m - 1 - k) b = 4000000000000000000 := by rw [← e]; congr 1; omega
      unfold onw at q
      rw [if_pos (.inr e')] at q
      exact u4 q.symm
    · rw [n5 _ _ (by omega), q4.I (by omega)]; exact u6
    · by_cases e : i = k + 1
      · rw [if_pos e, q5.I (by omega), e]; exact v4
      · rw [if_neg e, q5.I (by omega), n4 _ _ (by omega)]; exact u7 i (by omega)
  · dsimp only
    refine ⟨rfl, fun j hj => by omega, hgn, hv, w1, wb, fun i hi => ?_, z2⟩
    have : i = 0 := by omega
    rw [this]; exact w2
end RO
