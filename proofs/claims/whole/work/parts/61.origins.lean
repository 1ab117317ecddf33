/-! origins: who can have been the first -/
def orE (Y : zNt) (T : Nat → Int) (k d : Int) (e : Nat) : Prop := (ea Y 0 e = 1 ∧ eCt Y e k) → 0 ≤ T (ea Y 1 e).toNat ∧ T (ea Y 1 e).toNat + d = ea Y 2 e
/-- y: on which day he must have been taken (100: any; -1: none) -/
def orP (Y : zNt) (T : Nat → Int) (k y : Int) (i : Nat) : Prop :=
  (y = -1 ∧ ∀ d, 0 ≤ d → ¬ ∀ e, e < i → orE Y T k d e) ∨ (y = 100 ∧ ∀ d e, e < i → orE Y T k d e) ∨ ((0 ≤ y ∧ y ≤ 99) ∧ ∀ d, 0 ≤ d → ((∀ e, e < i → orE Y T k d e) ↔ d = y))
section OG
variable {E : zE} {d : Nat} {h : zS}
theorem c_startOf {Y : zNt} {C : zCt} {T : Nat → Int} {one : Nat} {k : Int} {Q : Int → zS → Prop} (hn12 : cn C ≤ 12) (hY : okY C Y) (wY : XEnt h Y) (ho : one < cn C) (hT : ∀ q, q < cn C → hI h 25 (12 * one + q) = T q ∧ -1 ≤ T q ∧ T q ≤ 400)
    (HQ : ∀ y, orP Y T k y (ec Y) → Q y h) : zCi E (d + 1) m_X2_startOf [vo 83, vo 24, vi one, vi k] h Q := by
  have h40 := hY.1
  refine v_X2_startOf ?_
  refine z_upS (n := ec Y) (fun i (s : Int) => zWi E (d + 1) m_X2_startOf 7 [vo 83, vo 24, vi one, vi k, vi s, vi i, vn, vn] h Q) (fun i s => s ≠ -1 ∧ orP Y T k s i) ?_ ?_ 0 100 (by omega) ⟨by omega, .inr (.inl ⟨rfl, fun d e he => by omega⟩)⟩
  · rintro s ⟨_, g⟩
    exact r_X2_startOf_7 ⟨fun _ => HQ s g, fun c => by rw [wY.2.1] at c; omega⟩
  · rintro i s hi ⟨s1, g⟩ ih
    have q := wY.2.2 i hi
    have r := hY.2.2 i hi
    have ext : ∀ dd, (∀ e, e < i + 1 → orE Y T k dd e) ↔ (∀ e, e < i → orE Y T k dd e) ∧ orE Y T k dd i := fun dd =>
      ⟨fun a => ⟨fun e he => a e (by omega), a i (by omega)⟩, fun a e he => by
        by_cases e' : e = i
        · rw [e']; exact a.2
        · exact a.1 e (by omega)⟩
    have skip : (∀ dd, orE Y T k dd i) → zWi E (d + 1) m_X2_startOf 7 [vo 83, vo 24, vi one, vi k, vi s, vi ((i + 1 : Nat) : Int), vn, vn] h Q := by
      intro al
      refine ih s ⟨s1, ?_⟩
      rcases g with ⟨g1, _⟩ | ⟨g1, g2⟩ | ⟨g1, g2⟩
      · exact absurd g1 s1
      · exact .inr (.inl ⟨g1, fun dd e he => (((ext dd).mpr ⟨fun e he => g2 dd e he, al dd⟩)) e he⟩)
      · exact .inr (.inr ⟨g1, fun dd hd => by rw [ext dd, g2 dd hd]; exact ⟨fun a => a.1, fun a => ⟨a, al dd⟩⟩⟩)
    refine r_X2_startOf_7 ⟨fun c => by rw [wY.2.1] at c; omega, fun _ => ⟨by omega, ?_⟩⟩
    rw [w32s (by omega)]
    simp only [Int.toNat_natCast]
    refine ⟨fun c => skip (fun dd w => ?_), fun c => ?_⟩
    · rw [q.1, if_neg (by omega)] at c
      rcases r.1 with z | z <;> omega
    · have k1 : ea Y 0 i = 1 := by
        rcases r.1 with z | z
        · rw [q.1, if_pos z.1] at c; exact absurd rfl c
        · exact z.1
      have rr : 0 ≤ ea Y 1 i ∧ ea Y 1 i < cn C := by
        rcases r.1 with z | z
        · omega
        · exact ⟨z.2.1, z.2.2.1⟩
      obtain ⟨v, hv⟩ : ∃ v : Nat, ea Y 1 i = v := ⟨(ea Y 1 i).toNat, by omega⟩
      refine c_counts hY wY hi (fun ct => ⟨fun e => by omega, fun _ => ?_⟩) (fun nc => ⟨fun _ => skip (fun dd w => absurd w.2 nc), fun e => absurd rfl e⟩)
      have q84 : hI h 84 i = (v : Int) := by rw [q.1, if_neg (by omega), hv]
      rw [q84]
      refine c_pair (by omega) (by omega) ⟨by omega, ?_⟩
      simp only [Int.toNat_natCast]
      have tv := hT v (by omega)
      rw [tv.1, q.2.2.1]
      rw [w32_id (by omega) (by omega)]
      have oe : ∀ dd, orE Y T k dd i ↔ 0 ≤ T v ∧ T v + dd = ea Y 2 i := by
        intro dd
        unfold orE
        rw [hv, Int.toNat_natCast]
        exact ⟨fun w => w ⟨k1, ct⟩, fun w _ => w⟩
      have none_ : (∀ dd, 0 ≤ dd → ¬ ∀ e, e < i + 1 → orE Y T k dd e) → Q (-1) h := fun nn => HQ (-1) (.inl ⟨rfl, fun dd hd al => nn dd hd (fun e he => al e (by omega))⟩)
      rintro y7 rfl
      refine ⟨fun c1 => none_ (fun dd hd al => ?_), fun c1 => ⟨fun c2 => none_ (fun dd hd al => ?_), fun c2 => ⟨fun c3 => ih _ ⟨by omega, .inr (.inr ⟨by omega, fun dd hd => ?_⟩)⟩, fun c3 => ⟨fun c4 => ih _ ⟨by omega, .inr (.inr ⟨by omega, fun dd hd => ?_⟩)⟩, fun c4 => none_ (fun dd hd al => ?_)⟩⟩⟩⟩
      · have := (oe dd).mp (al i (by omega)); omega
      · have := (oe dd).mp (al i (by omega)); omega
      · rw [ext dd, oe dd]
        rcases g with ⟨g1, _⟩ | ⟨g1, g2⟩ | ⟨g1, g2⟩
        · exact absurd g1 s1
        · exact ⟨fun a => by omega, fun a => ⟨fun e he => g2 dd e he, by omega⟩⟩
        · omega
      · rw [ext dd, oe dd]
        rcases g with ⟨g1, _⟩ | ⟨g1, g2⟩ | ⟨g1, g2⟩
        · exact absurd g1 s1
        · exact absurd g1 c3
        · rw [g2 dd hd]; exact ⟨fun a => by omega, fun a => ⟨by omega, by omega⟩⟩
      · rcases g with ⟨g1, _⟩ | ⟨g1, g2⟩ | ⟨g1, g2⟩
        · exact absurd g1 s1
        · exact absurd g1 c3
        · have a1 := (g2 dd hd).mp (fun e he => al e (by omega))
          have a2 := (oe dd).mp (al i (by omega))
          omega
theorem c_M_isOrigin {Y : zNt} {C : zCt} {T : Nat → Int} {dd k : Int} {Q : Int → zS → Prop} (hn12 : cn C ≤ 12) (hY : okY C Y) (wY : MEnt h Y) (hT : ∀ q, q < cn C → hI h 112 q = T q ∧ -1 ≤ T q ∧ T q ≤ 400) (hd : 0 ≤ dd ∧ dd ≤ 99)
    (H1 : (∀ e, e < ec Y → orE Y T k dd e) → Q 1 h) (H0 : (¬ ∀ e, e < ec Y → orE Y T k dd e) → Q 0 h) : zCi E (d + 1) m_X10_isOrigin [vo 89, vi dd, vi k] h Q := by
  have h40 := hY.1
  refine v_X10_isOrigin ?_
  refine z_upS (n := ec Y) (fun i (b : Int) => zWi E (d + 1) m_X10_isOrigin 5 [vo 89, vi dd, vi k, vi b, vi i] h Q) (fun i b => (b = 1 ∧ ∀ e, e < i → orE Y T k dd e) ∨ (b = 0 ∧ ¬ ∀ e, e < ec Y → orE Y T k dd e)) ?_ ?_ 0 1 (by omega) (.inl ⟨rfl, fun e he => by omega⟩)
  · rintro b g
    refine r_X10_isOrigin_5 ⟨fun _ => ⟨by omega, ?_⟩, fun c => by rw [wY.2.1] at c; omega⟩
    rcases g with ⟨rfl, g⟩ | ⟨rfl, g⟩
    · exact H1 g
    · exact H0 g
  · rintro i b hi g ih
    have q := wY.2.2 i hi
    have r := hY.2.2 i hi
    refine r_X10_isOrigin_5 ⟨fun c => by rw [wY.2.1] at c; omega, fun _ => ?_⟩
    rw [w32s (by omega)]
    rcases g with ⟨rfl, g⟩ | ⟨rfl, g⟩
    · refine ⟨fun e => by omega, fun _ => ?_⟩
      refine c_M_counts hY wY hi (fun ct => ?_) (fun nc => ?_)
      · have rr : 0 ≤ ea Y 1 i ∧ ea Y 1 i < cn C := by
          rcases r.1 with z | z
          · omega
          · exact ⟨z.2.1, z.2.2.1⟩
        obtain ⟨v, hv⟩ : ∃ v : Nat, ea Y 1 i = v := ⟨(ea Y 1 i).toNat, by omega⟩
        have tv := hT v (by omega)
        simp only [Int.toNat_natCast, q.2.1, hv, tv.1, q.2.2.1]
        have oe : orE Y T k dd i ↔ 0 ≤ T v ∧ T v + dd = ea Y 2 i := by
          unfold orE
          rw [hv, Int.toNat_natCast]
          exact ⟨fun w => w ct, fun w _ => w⟩
        have hw : w32 (T v + dd) = T v + dd := w32_id (by omega) (by omega)
        simp only [hw]
        refine ⟨fun _ => ⟨by omega, by omega, fun _ => ⟨by omega, by omega, by omega⟩⟩, ?_⟩
        rintro y6 hy
        rw [if_neg (by omega)] at hy
        refine ih y6 ?_
        by_cases c1 : T v < 0
        · rw [if_pos c1] at hy
          exact .inr ⟨hy, fun al => by have := oe.mp (al i hi); omega⟩
        · rw [if_neg c1] at hy
          by_cases c2 : T v + dd = ea Y 2 i
          · rw [if_neg (fun n => n c2)] at hy
            refine .inl ⟨hy, fun e he => ?_⟩
            by_cases e' : e = i
            · rw [e']; exact oe.mpr ⟨by omega, c2⟩
            · exact g e (by omega)
          · rw [if_pos c2] at hy
            exact .inr ⟨hy, fun al => by have := oe.mp (al i hi); omega⟩
      · refine ⟨fun e => absurd rfl e, ?_⟩
        rintro y6 hy
        rw [if_pos rfl] at hy
        refine ih y6 (.inl ⟨hy, fun e he => ?_⟩)
        by_cases e' : e = i
        · rw [e']; exact fun w => absurd w nc
        · exact g e (by omega)
    · refine ⟨fun _ => ih 0 (.inr ⟨rfl, g⟩), fun e => absurd rfl e⟩
end OG
