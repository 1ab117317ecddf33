/-! about, worst -/
noncomputable def own (C : zCt) (a : Nat) : Nat := pc12 (bset (seB (cn C) (fEnd C a).1))
theorem own_def (C : zCt) (a : Nat) : own C a = pc12 (bset (seB (cn C) (fEnd C a).1)) := rfl
theorem fRun_tk {C : zCt} {kf : Nat → Nat} {F : (Nat → Int) × (Nat → Int)} {q : Nat} (h : 0 ≤ F.1 q) : ∀ n, 0 ≤ (fRun C kf F n).1 q
  | 0 => h
  | n + 1 => by
    have ih := fRun_tk (C := C) (kf := kf) h n
    show 0 ≤ tkF _ _ _ q
    unfold tkF
    split
    · exact Int.natCast_nonneg _
    · exact ih
theorem fF0_self {C : zCt} {one : Nat} (hn12 : cn C ≤ 12) (ho : one < cn C) : (fF0 C one).1 one = 0 := by
  have k : (fA0 C one).testBit one = true := by
    unfold fA0
    refine (clS_t (bset_lt _) one).mpr (clo_in ?_)
    rw [Nat.testBit_and, zb_t2, bset_t]
    have : one < 12 := by omega
    simp [thB, ho, this]
  unfold fF0 tkF
  simp only [k, if_true]
theorem seB_up {T : Nat → Int} {i : Nat} (hi : i < 12) : pc12 (bset (seB (i + 1) T)) = pc12 (bset (seB i T)) + (if 0 ≤ T i then 1 else 0) := by
  by_cases c : 0 ≤ T i
  · have hb : (bset (seB i T)).testBit i = false := by rw [bset_t]; simp [seB]
    rw [if_pos c, ← pc_or hb hi]
    congr 1
    apply nat_bits (bset_lt _) (zb_orlt (bset_lt _) (zb_2k hi))
    intro j hj
    rw [Nat.testBit_or, zb_t2, bset_t, bset_t]
    by_cases e : i = j
    · subst e; simp [seB, hj, c]
    · have : (j < i + 1) ↔ j < i := by omega
      simp [seB, hj, e, this]
  · rw [if_neg c, Nat.add_zero]
    congr 1
    refine bset_ext (fun j hj => ?_)
    unfold seB
    by_cases e : i = j
    · subst e
      have : (decide (0 ≤ T i)) = false := decide_eq_false c
      simp [this]
    · have : (j < i + 1) ↔ j < i := by omega
      simp [this]
theorem seB_0 (T : Nat → Int) : pc12 (bset (seB 0 T)) = 0 := by
  have : bset (seB 0 T) = 0 := by
    apply nat_bits (bset_lt _) (by omega)
    intro i _; rw [bset_t]; simp [seB]
  rw [this, pc12_eq]; rfl
theorem seB_c {T U : Nat → Int} {n : Nat} (h : ∀ q, q < n → T q = U q) : bset (seB n T) = bset (seB n U) := by
  refine bset_ext (fun q _ => ?_)
  unfold seB
  by_cases c : q < n
  · rw [h q c]
  · simp [c]
theorem own_pos {C : zCt} {a : Nat} (hn12 : cn C ≤ 12) (ha : a < cn C) : 1 ≤ own C a := by
  have h1 : 0 ≤ (fEnd C a).1 a := fRun_tk (by rw [fF0_self hn12 ha]; omega) 400
  have h2 : pc12 0 < pc12 (bset (seB (cn C) (fEnd C a).1)) := by
    refine pc_lt (fun i _ q => by rw [Nat.zero_testBit] at q; cases q) (i := a) (by omega) ?_ (Nat.zero_testBit _)
    rw [bset_t]
    have : a < 12 := by omega
    simp [seB, ha, h1, this]
  rw [own_def]; omega
/-- who is the worst of the first i, and how many fall with him -/
noncomputable def wst (C : zCt) : Nat → Int × Int
  | 0 => (-1, -1)
  | i + 1 => if ckd C i ≠ 3 ∧ (wst C i).2 < own C i then ((i : Int), (own C i : Int)) else wst C i
theorem wst_i (C : zCt) (hn12 : cn C ≤ 12) : ∀ i, i ≤ cn C → ((wst C i).1 = -1 ∧ (wst C i).2 = -1) ∨ (0 ≤ (wst C i).1 ∧ 1 ≤ (wst C i).2)
  | 0, _ => .inl ⟨rfl, rfl⟩
  | i + 1, h => by
    have ih := wst_i C hn12 i (by omega)
    have ho := own_pos hn12 (show i < cn C by omega)
    unfold wst
    split
    · exact .inr ⟨Int.natCast_nonneg _, by show (1 : Int) ≤ (own C i : Int); omega⟩
    · exact ih
section WS
variable {E : zE} {d : Nat} {h : zS}
theorem p_worst {x : Int} (w : zGo h) : zPair E m_X9_worst m_X10_worst [vi x] h := by
  obtain ⟨t, S, hS, wX, wM⟩ := w
  have hC := hS.2.1
  have hn12 := hC.1
  have wC := wX.2.2.2.1
  have wFl := wX.2.2.2.2.1
  refine p_of (S := S) (S' := S) (r := if x = 0 then (wst (aC S) (cn (aC S))).1 else if x = 1 then (wst (aC S) (cn (aC S))).2 else -1) (t := t) hS wM (fun Q HQ => ?_) (fun h1 Q w1 HQ => ?_)
  · have HQ := HQ h t wX zEq.rf
    have key : x = 0 ∨ x = 1 → zWi E (7 + 1) m_X9_worst 18 [vo 0, vi x, vi (-1), vi (-1), vi 0] h Q := by
      intro hx
      refine z_upS (n := cn (aC S)) (fun i (s : Int × Int) => zWi E (7 + 1) m_X9_worst 18 [vo 0, vi x, vi s.1, vi s.2, vi i] h Q) (fun i s => s = wst (aC S) i) ?_ ?_ 0 (-1, -1) (by omega) rfl
      · rintro s rfl
        refine r_X9_worst_18 ⟨t, wX.1.1, wX.1.2.1, fun _ => ⟨fun e => ?_, fun e => ?_⟩, fun c => by rw [wC.1] at c; omega⟩
        · rw [if_neg e, if_pos (by omega)] at HQ; exact HQ
        · rw [if_pos e] at HQ; exact HQ
      · rintro i s hi rfl ih
        refine r_X9_worst_18 ⟨t, wX.1.1, wX.1.2.1, fun c => by rw [wC.1] at c; omega, fun _ => ⟨t, wX.1.1, wX.1.2.1, ?_⟩⟩
        rw [w32s (by omega)]
        refine c_isBox wX.1.2.1 hC wC hi ?_
        by_cases c : ckd (aC S) i = 3
        · rw [if_pos c]
          refine ⟨fun _ => ih (wst (aC S) i) ?_, fun e => by omega⟩
          show _ = if _ then _ else _
          rw [if_neg (fun q => q.1 c)]
        · rw [if_neg c]
          refine ⟨fun e => absurd rfl e, fun _ => ⟨by omega, ?_⟩⟩
          simp only [Int.toNat_natCast]
          rw [(wFl i hi c).2, ← own_def]
          refine ⟨fun c2 => ih (wst (aC S) i) ?_, fun c2 => ih ((i : Int), (own (aC S) i : Int)) ?_⟩
          · show _ = if _ then _ else _
            rw [if_neg (fun q => by have := q.2; omega)]
          · show _ = if _ then _ else _
            rw [if_pos ⟨c, c2⟩]
    refine v_X9_worst ⟨fun e => key (.inl e), fun e => ⟨fun e1 => key (.inr e1), fun e1 => ?_⟩⟩
    rw [if_neg e, if_neg e1] at HQ; exact HQ
  · refine v_X10_worst ⟨fun c => ?_, fun c => ⟨fun c2 => ?_, fun c2 => ?_⟩⟩
    · have HQ := HQ h1 w1 zEq.rf
      rw [if_neg (by omega), if_neg (by omega)] at HQ; exact HQ
    · refine z_upS (n := cn (aC S)) (fun i (s : (Int × Int) × zS) => zWi E (7 + 1) m_X10_worst 18 [vo 89, vi x, vi s.1.1, vi s.1.2, vi i, vn, vn] s.2 Q) (fun i s => s.1.1 = (wst (aC S) i).1 ∧ s.1.2 = (if (wst (aC S) i).1 < 0 then 0 else (wst (aC S) i).2) ∧ zEq (fun c => c ≠ 112 ∧ c ≠ 113 ∧ c ≠ 114) h1 s.2) ?_ ?_ 0 ((-1, 0), h1) (by omega) ⟨rfl, rfl, zEq.rf⟩
      · rintro ⟨⟨s1, s2⟩, h2⟩ ⟨e1, e2, e3⟩
        dsimp only at e1 e2 e3 ⊢
        have w2 : MInv h2 S := w1.k (zEw.of e3 (fun c i q => by unfold MK at q; omega))
        have HQ := HQ h2 w2 (e3.wk (fun c q => by omega))
        have wi := wst_i (aC S) hn12 (cn (aC S)) (by omega)
        generalize wst (aC S) (cn (aC S)) = W at *
        refine r_X10_worst_18 ⟨fun _ => ⟨fun k => ⟨fun k1 => ?_, fun k1 => ?_⟩, fun k => ?_⟩, fun k => by rw [w2.2.2.1.1] at k; omega⟩
        · rw [if_neg k1, if_pos (by omega)] at HQ
          rw [e2, if_neg (by omega)]; exact HQ
        · rw [if_pos k1] at HQ
          rw [e1]; exact HQ
        · by_cases k1 : x = 0
          · rw [if_pos k1] at HQ
            have : W.1 = -1 := by omega
            rw [this] at HQ; exact HQ
          · rw [if_neg k1, if_pos (by omega)] at HQ
            have : W.2 = -1 := by omega
            rw [this] at HQ; exact HQ
      · rintro i ⟨⟨s1, s2⟩, h2⟩ hi ⟨e1, e2, e3⟩ ih
        dsimp only at e1 e2 e3 ⊢
        have w2 : MInv h2 S := w1.k (zEw.of e3 (fun c i q => by unfold MK at q; omega))
        have wi := wst_i (aC S) hn12 i (by omega)
        have ho := own_pos hn12 hi
        refine r_X10_worst_18 ⟨fun k => by rw [w2.2.2.1.1] at k; omega, fun _ => ?_⟩
        rw [w32s (by omega)]
        refine c_M_canFall hC w2.2.2.1 ?_
        simp only [Int.toNat_natCast]
        by_cases c : ckd (aC S) i = 3
        · rw [if_neg (fun q => q.2.2 c)]
          refine ⟨fun e => absurd rfl e, fun _ => ih ((s1, s2), h2) ?_⟩
          have : wst (aC S) (i + 1) = wst (aC S) i := if_neg (fun q => q.1 c)
          rw [this]
          exact ⟨e1, e2, e3⟩
        · rw [if_pos ⟨by omega, by omega, c⟩]
          refine ⟨fun _ => ?_, fun e => by omega⟩
          refine c_M_layFall hC w2.2.2.1 hi ?_
          intro h3 g1 g2
          have e4 := e3.tr g2
          have w3 : MInv h3 S := w1.k (zEw.of e4 (fun c i q => by unfold MK at q; omega))
          refine z_upS (n := cn (aC S)) (fun j (y : Int) => zWi E (7 + 1) m_X10_worst 51 [vo 89, vi x, vi s1, vi s2, vi i, vi y, vi j] h3 Q) (fun j y => y = (pc12 (bset (seB j (fEnd (aC S) i).1)) : Nat)) ?_ ?_ 0 0 (by omega) (by rw [seB_0]; rfl)
          · rintro y rfl
            rw [← own_def]
            have n1 : wst (aC S) (i + 1) = if ckd (aC S) i ≠ 3 ∧ (wst (aC S) i).2 < own (aC S) i then ((i : Int), (own (aC S) i : Int)) else wst (aC S) i := rfl
            refine r_X10_worst_51 ⟨fun _ => ?_, fun k => by rw [w3.2.2.1.1] at k; omega⟩
            rw [w32s (by omega)]
            generalize own (aC S) i = o at *
            generalize wst (aC S) i = W at *
            refine ⟨fun k => ih (((i : Int), (o : Int)), h3) ?_, fun k => ih ((s1, s2), h3) ?_⟩
            · rw [n1, if_pos ⟨c, by rw [e2] at k; split at k <;> omega⟩]
              exact ⟨rfl, by rw [if_neg (by omega)], e4⟩
            · rw [n1, if_neg (fun q => by have := q.2; rw [e2] at k; split at k <;> omega)]
              exact ⟨e1, e2, e4⟩
          · rintro j y hj rfl ih2
            refine r_X10_worst_51 ⟨fun k => by rw [w3.2.2.1.1] at k; omega, fun _ => ⟨by omega, ?_⟩⟩
            simp only [Int.toNat_natCast]
            rw [w32s (by omega)]
            simp only [(g1 j hj).1]
            rintro y3 hy
            refine ih2 y3 ?_
            have hb : pc12 (bset (seB j (fEnd (aC S) i).1)) ≤ 12 := pc_12 _
            rw [seB_up (by omega), hy]
            by_cases k : (fEnd (aC S) i).1 j < 0
            · rw [if_pos k, if_neg (by omega), w32_id (by omega) (by omega)]; omega
            · rw [if_neg k, if_pos (by omega), w32_id (by omega) (by omega)]; omega
    · have HQ := HQ h1 w1 zEq.rf
      rw [if_neg (by omega), if_neg (by omega)] at HQ; exact HQ
/-- how many things are at a place -/
def thC (N : zEn) (x : Int) : Nat → Nat
  | 0 => 0
  | i + 1 => thC N x i + (if nth N 0 i = x then 1 else 0)
theorem thC_le (N : zEn) (x : Int) : ∀ i, thC N x i ≤ i
  | 0 => by unfold thC; omega
  | i + 1 => by
    have := thC_le N x i
    unfold thC; split <;> omega
theorem c_howMany {C : zCt} {N : zEn} {x : Int} {Q : Int → zS → Prop} (hN : okN C N) (wN : XEarn h 34 C N) (HQ : Q (thC N x (nt N)) h) : zCi E d m_X8_howMany [vo 37, vi x] h Q := by
  have h12 := hN.2.1
  have hT : isThings 37 := by unfold isThings; omega
  refine v_X8_howMany hT ?_
  refine z_upS (n := nt N) (fun i (s : Int) => zWi E d m_X8_howMany 4 [vo 37, vi x, vi s, vi i] h Q) (fun i s => s = (thC N x i : Nat)) ?_ ?_ 0 0 (by omega) rfl
  · rintro s rfl
    exact r_X8_howMany_4 hT ⟨fun _ => HQ, fun c => by have := wN.2.2.1; simp only [Nat.reduceAdd] at this; omega⟩
  · rintro i s hi rfl ih
    refine r_X8_howMany_4 hT ⟨fun c => by have := wN.2.2.1; simp only [Nat.reduceAdd] at this; omega, fun _ => ⟨by omega, ?_⟩⟩
    simp only [Int.toNat_natCast, Nat.reduceAdd]
    have q := (wN.2.2.2.1 i hi).1
    simp only [Nat.reduceAdd] at q
    rw [w32s (by omega)]
    simp only [q]
    have := thC_le N x i
    rintro y rfl
    refine ih _ ?_
    show _ = ((thC N x i + (if nth N 0 i = x then 1 else 0) : Nat) : Int)
    by_cases c : nth N 0 i = x
    · rw [if_neg (fun n => n c), if_pos c, w32_id (by omega) (by omega)]; omega
    · rw [if_pos c, if_neg c, w32_id (by omega) (by omega)]; omega
theorem c_M_thingsAt {C : zCt} {N : zEn} {x : Int} {Q : Int → zS → Prop} (hN : okN C N) (wN : MEarn h C N) (HQ : Q (thC N x (nt N)) h) : zCi E d m_X10_thingsAt [vo 89, vi x] h Q := by
  have h12 := hN.2.1
  refine v_X10_thingsAt ?_
  refine z_upS (n := nt N) (fun i (s : Int) => zWi E d m_X10_thingsAt 4 [vo 89, vi x, vi s, vi i] h Q) (fun i s => s = (thC N x i : Nat)) ?_ ?_ 0 0 (by omega) rfl
  · rintro s rfl
    exact r_X10_thingsAt_4 ⟨fun _ => HQ, fun c => by have := wN.2.1; omega⟩
  · rintro i s hi rfl ih
    refine r_X10_thingsAt_4 ⟨fun c => by have := wN.2.1; omega, fun _ => ⟨by omega, ?_⟩⟩
    simp only [Int.toNat_natCast]
    have q := (wN.2.2.2.1 i hi).1
    rw [w32s (by omega)]
    simp only [q]
    have := thC_le N x i
    rintro y rfl
    refine ih _ ?_
    show _ = ((thC N x i + (if nth N 0 i = x then 1 else 0) : Nat) : Int)
    by_cases c : nth N 0 i = x
    · rw [if_neg (fun n => n c), if_pos c, w32_id (by omega) (by omega)]; omega
    · rw [if_pos c, if_neg c, w32_id (by omega) (by omega)]; omega
def abt (S : zAb) (x : Int) : Int := if x = 0 then cn (aC S) else if x = 1 then cgl (aC S) else if x = 2 then cga (aC S) else if x = 3 then cse (aC S) else if x = 4 then nd (aN S) else if x = 5 then nt (aN S) else if x = 6 then ec (aY S) else if x = 7 then et (aY S) else if x = 8 then aTn S else if x = 9 then aWn S else if x = 10 then thC (aN S) (-3) (nt (aN S)) else if x = 11 then thC (aN S) (-2) (nt (aN S)) else -1
theorem p_about {x : Int} (w : zGo h) : zPair E m_X9_about m_X10_about [vi x] h := by
  obtain ⟨t, S, hS, wX, wM⟩ := w
  have hN := hS.2.2.1
  refine p_of (S := S) (S' := S) (r := abt S x) (t := t) hS wM (fun Q HQ => ?_) (fun h1 Q w1 HQ => ?_)
  · have HQ := HQ h t wX zEq.rf
    have wC := wX.2.2.2.1
    have wN := wX.2.2.2.2.2.1
    have wY := wX.2.2.2.2.2.2.2.1
    have q1 := wN.2.2.1
    simp only [Nat.reduceAdd] at q1
    refine v_X9_about ⟨fun e => ⟨t, wX.1.1, wX.1.2.1, ?_⟩, fun e => ⟨t, wX.1.1, wX.1.2.1, ?_⟩, fun e => ⟨t, wX.1.1, wX.1.2.1, ?_⟩, fun e => ⟨t, wX.1.1, wX.1.2.1, ?_⟩, fun e => ?_, fun e => ?_, fun e => ?_, fun e => ?_, fun e => ?_, fun e => ?_, fun e => ?_, fun e => ?_, fun e => ?_⟩
    · rw [wC.1]; rw [e] at HQ; exact HQ
    · rw [wC.2.1]; rw [e] at HQ; exact HQ
    · rw [wC.2.2.1]; rw [e] at HQ; exact HQ
    · rw [wC.2.2.2.1]; rw [e] at HQ; exact HQ
    · rw [wN.1]; rw [e] at HQ; exact HQ
    · rw [q1]; rw [e] at HQ; exact HQ
    · rw [wY.2.1]; rw [e] at HQ; exact HQ
    · rw [wY.1]; rw [e] at HQ; exact HQ
    · rw [wX.2.1.1]; rw [e] at HQ; exact HQ
    · rw [wX.2.2.2.2.2.2.2.2.1]; rw [e] at HQ; exact HQ
    · refine c_howMany hN wN ?_
      rw [e] at HQ; exact HQ
    · refine c_howMany hN wN ?_
      rw [e] at HQ; exact HQ
    · unfold abt at HQ
      rw [if_neg (by omega), if_neg (by omega), if_neg (by omega), if_neg (by omega), if_neg (by omega), if_neg (by omega), if_neg (by omega), if_neg (by omega), if_neg (by omega), if_neg (by omega), if_neg (by omega), if_neg (by omega)] at HQ
      exact HQ
  · have HQ := HQ h1 w1 zEq.rf
    have wC := w1.2.2.1
    have wN := w1.2.2.2.1
    have wY := w1.2.2.2.2.2.1
    refine v_X10_about ⟨fun e => ?_, fun e => ?_, fun e => ?_, fun e => ?_, fun e => ?_, fun e => ?_, fun e => ?_, fun e => ?_, fun e => ?_, fun e => ?_, fun e => ?_, fun e => ?_, fun e => ?_⟩
    · rw [wC.1]; rw [e] at HQ; exact HQ
    · rw [wC.2.1]; rw [e] at HQ; exact HQ
    · rw [wC.2.2.1]; rw [e] at HQ; exact HQ
    · rw [wC.2.2.2.1]; rw [e] at HQ; exact HQ
    · rw [wN.1]; rw [e] at HQ; exact HQ
    · rw [wN.2.1]; rw [e] at HQ; exact HQ
    · rw [wY.2.1]; rw [e] at HQ; exact HQ
    · rw [wY.1]; rw [e] at HQ; exact HQ
    · rw [w1.1.1]; rw [e] at HQ; exact HQ
    · rw [w1.2.2.2.2.2.2.1]; rw [e] at HQ; exact HQ
    · refine c_M_thingsAt hN wN ?_
      rw [e] at HQ; exact HQ
    · refine c_M_thingsAt hN wN ?_
      rw [e] at HQ; exact HQ
    · unfold abt at HQ
      rw [if_neg (by omega), if_neg (by omega), if_neg (by omega), if_neg (by omega), if_neg (by omega), if_neg (by omega), if_neg (by omega), if_neg (by omega), if_neg (by omega), if_neg (by omega), if_neg (by omega), if_neg (by omega)] at HQ
      exact HQ
end WS
