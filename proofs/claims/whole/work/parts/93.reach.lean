/-! who can be reached -/
def rch (e : Nat → Nat → Prop) (g x : Nat) : Prop := ∀ A : Nat → Prop, A g → (∀ p q, A p → e p q → A q) → A x
theorem rch_g {e : Nat → Nat → Prop} {g : Nat} : rch e g g := fun _ h _ => h
theorem rch_st {e : Nat → Nat → Prop} {g p q : Nat} (h : rch e g p) (he : e p q) : rch e g q := fun A a1 a2 => a2 p q (h A a1 a2) he
def eW (C : zCt) (g z : Nat) (wd : Int) (s p q : Nat) : Prop := 0 < ctk C p q ∧ s.testBit q = false ∧ ¬ (wd ≠ 0 ∧ p = g ∧ q = z)
theorem crc_t {C : zCt} (hC : okC C) {p q : Nat} : (crc C p).testBit q = true ↔ 0 < ctk C p q := by
  unfold crc
  rw [bset_t]
  simp only [Bool.and_eq_true, decide_eq_true_eq]
  refine ⟨fun h => h.2.2, fun h => ?_⟩
  have := (hC.2.2.2.2.2.2 p q).2 h
  have := hC.1
  exact ⟨by omega, by omega, h⟩
theorem cev_t {C : zCt} (hn : cn C ≤ 12) {q : Nat} : (cev C).testBit q = true ↔ q < cn C := by
  unfold cev
  rw [bset_t]
  simp only [Bool.and_eq_true, decide_eq_true_eq]
  exact ⟨fun h => h.2, fun h => ⟨by omega, h⟩⟩
theorem nb_tt {a b i : Nat} : (nb a b).testBit i = true ↔ a.testBit i = true ∧ b.testBit i = false := by
  rw [nb_t]
  cases a.testBit i <;> cases b.testBit i <;> simp
theorem pc_grow {a b : Nat} (h : ∀ i, i < 12 → a.testBit i = true → b.testBit i = true) {i : Nat} (hi : i < 12) (h1 : b.testBit i = true) (h2 : a.testBit i = false) {r : Nat} (hr : r + 1 ≤ pc12 a) : r + 1 + 1 ≤ pc12 b := by
  have := pc_lt h hi h1 h2
  exact Nat.le_trans (Nat.succ_le_succ hr) this
theorem pc_no {a : Nat} (h : 12 + 1 ≤ pc12 a) : False := by have := pc_12 a; exact absurd (Nat.le_trans h this) (by decide)
/-- one round of the class -/
def rInv (C : zCt) (g z : Nat) (wd : Int) (s R F r : Nat) : Prop := R < 4096 ∧ F < 4096 ∧ R.testBit g = true ∧ (∀ i, R.testBit i = true → rch (eW C g z wd s) g i ∧ i < cn C) ∧ (∀ i, F.testBit i = true → R.testBit i = true) ∧ (∀ p q, R.testBit p = true → F.testBit p = false → eW C g z wd s p q → R.testBit q = true) ∧ (r = 0 → F = 2 ^ g ∧ R = 2 ^ g) ∧ (r ≠ 0 → F.testBit g = false) ∧ (F = 0 ∨ r + 1 ≤ pc12 R)
theorem rInv_0 {C : zCt} {g z s : Nat} {wd : Int} (hn : cn C ≤ 12) (hg : g < cn C) : rInv C g z wd s (2 ^ g) (2 ^ g) 0 := by
  have g12 : g < 12 := by omega
  refine ⟨zb_2k g12, zb_2k g12, by rw [zb_t2]; simp, fun i hi => ?_, fun i hi => hi, fun p q hp hf => ?_, fun _ => ⟨rfl, rfl⟩, fun e => absurd rfl e, .inr ?_⟩
  · rw [zb_t2, decide_eq_true_eq] at hi
    rw [← hi]; exact ⟨rch_g, hg⟩
  · rw [hf] at hp; cases hp
  · have := pc_or (a := 0) (q := g) (Nat.zero_testBit _) g12
    rw [Nat.zero_or] at this
    rw [this]
    exact Nat.succ_le_succ (Nat.zero_le _)
theorem rInv_s {C : zCt} {g z s R F r X : Nat} {wd : Int} (hC : okC C) (w : rInv C g z wd s R F r) (hX : ∀ q, X.testBit q = true ↔ (∃ p, p < cn C ∧ F.testBit p = true ∧ (crc C p).testBit q = true) ∧ q < cn C ∧ s.testBit q = false ∧ R.testBit q = false ∧ ¬ (r = 0 ∧ wd ≠ 0 ∧ q = z)) : rInv C g z wd s (R ||| X) X (r + 1) := by
  obtain ⟨w1, w2, w3, w4, w5, w6, w7, w8, w9⟩ := w
  have hn := hC.1
  have Xl : X < 4096 := lt_of_bits (fun i hi => by
    cases q : X.testBit i
    · rfl
    · have := ((hX i).mp q).2.1; omega)
  have pg : ∀ p, F.testBit p = true → r = 0 → p = g := fun p hp r0 => by
    have := (w7 r0).1
    rw [this, zb_t2, decide_eq_true_eq] at hp; exact hp.symm
  have edge : ∀ p q, F.testBit p = true → 0 < ctk C p q → s.testBit q = false → ¬ (r = 0 ∧ wd ≠ 0 ∧ q = z) → eW C g z wd s p q := by
    intro p q hp hc hs hn'
    refine ⟨hc, hs, fun x => ?_⟩
    by_cases r0 : r = 0
    · exact hn' ⟨r0, x.1, x.2.2⟩
    · have := w8 r0
      rw [← x.2.1, hp] at this; cases this
  refine ⟨zb_orlt w1 Xl, Xl, by rw [Nat.testBit_or, w3]; rfl, fun i hi => ?_, fun i hi => by rw [Nat.testBit_or, hi]; simp, fun p q hp hf he => ?_, fun e => by omega, fun _ => ?_, ?_⟩
  · rw [Nat.testBit_or, Bool.or_eq_true] at hi
    rcases hi with hi | hi
    · exact w4 i hi
    · obtain ⟨⟨p, p1, p2, p3⟩, x2, x3, x4, x5⟩ := (hX i).mp hi
      exact ⟨rch_st (w4 p (w5 p p2)).1 (edge p i p2 ((crc_t hC).mp p3) x3 x5), x2⟩
  · rw [Nat.testBit_or, Bool.or_eq_true] at hp ⊢
    rcases hp with hp | hp
    · cases fp : F.testBit p with
      | false => exact .inl (w6 p q hp fp he)
      | true =>
        cases rq : R.testBit q with
        | true => exact .inl rfl
        | false =>
          right
          have kq := (hC.2.2.2.2.2.2 p q).2 he.1
          refine (hX q).mpr ⟨⟨p, kq.1, fp, (crc_t hC).mpr he.1⟩, kq.2.1, he.2.1, rq, fun x => he.2.2 ⟨x.2.1, pg p fp x.1, x.2.2⟩⟩
    · rw [hf] at hp; cases hp
  · cases q : X.testBit g
    · rfl
    · have := ((hX g).mp q).2.2.2.1
      rw [w3] at this; cases this
  · by_cases X0 : X = 0
    · exact .inl X0
    · right
      obtain ⟨i, hi, ti⟩ := ne0_bit X0 Xl
      have xi := (hX i).mp ti
      rcases w9 with e | e
      · obtain ⟨⟨p, _, p2, _⟩, _⟩ := xi
        rw [e, Nat.zero_testBit] at p2; cases p2
      · exact pc_grow (fun j _ hj => by rw [Nat.testBit_or, hj]; rfl) hi (by rw [Nat.testBit_or, ti]; simp) xi.2.2.2.1 e
theorem rInv_end {C : zCt} {g z s R F r x : Nat} {wd : Int} (w : rInv C g z wd s R F r) (hF : F = 0) : R.testBit x = true ↔ rch (eW C g z wd s) g x := by
  refine ⟨fun h => (w.2.2.2.1 x h).1, fun h => ?_⟩
  refine h (fun x => R.testBit x = true) w.2.2.1 (fun p q hp he => w.2.2.2.2.2.1 p q hp ?_ he)
  rw [hF]; exact Nat.zero_testBit _
section RE
variable {E : zE} {d : Nat} {h : zS}
theorem c_hasWay {k0 g z s : Nat} {wd : Int} {C : zCt} {Q : Int → zS → Prop} (hk0 : isCity k0) (hC : okC C) (wC : XCity h k0 C) (hg : cga C = g) (hz : cse C = z) (hgn : g < cn C) (hzn : z < cn C) (hs : s < 4096)
    (H1 : rch (eW C g z wd s) g z → Q 1 h) (H0 : ¬ rch (eW C g z wd s) g z → Q 0 h) : zCi E (d + 2) m_X0_hasWay [vo k0, vi s, vi wd] h Q := by
  have hn12 := hC.1
  have z12 : z < 12 := by omega
  have cl : cev C < 4096 := bset_lt _
  refine v_X0_hasWay hk0 ?_
  refine c_everybody hk0 hn12 wC.1 ?_
  rw [wC.2.2.1, hg, zb_1 (by omega), zb_nb (zb_lt cl) (zb_lt hs)]
  have fin : ∀ R : Nat, R < 4096 → (R.testBit z = true ↔ rch (eW C g z wd s) g z) → zCi E (d + 1) m_X9_isIn [vi R, vi (hI h k0 3)] h (fun y2 h1 => (y2 = 0 ∨ y2 = 1) ∧ Q y2 h1) := by
    intro R hR hr
    rw [wC.2.2.2.1, hz]
    refine c_isIn hR (by omega) ?_
    cases q : R.testBit z with
    | true => exact ⟨.inr rfl, H1 (hr.mp q)⟩
    | false => exact ⟨.inl rfl, H0 (fun x => by have := hr.mpr x; rw [q] at this; cases this)⟩
  refine z_upS (σ := Nat × Nat) (n := 12) (fun r q => zWi E (d + 1 + 1) m_X0_hasWay 24 [vo k0, vn, vi wd, vi (nb (cev C) s), vi q.1, vi q.2, vi r, vn, vn] h Q) (fun r q => rInv C g z wd s q.1 q.2 r) ?_ ?_ 0 (2 ^ g, 2 ^ g) (by omega) (rInv_0 hn12 hgn)
  · rintro ⟨R, F⟩ w
    dsimp only at w ⊢
    have F0 : F = 0 := by
      rcases w.2.2.2.2.2.2.2.2 with e | e
      · exact e
      · exact (pc_no e).elim
    refine r_X0_hasWay_24 hk0 ⟨fun _ => fin R w.1 (rInv_end w F0), fun c => by omega⟩
  · rintro r ⟨R, F⟩ hr w ih
    dsimp only at w ih ⊢
    have R1 := w.1
    have F1 := w.2.1
    refine r_X0_hasWay_24 hk0 ⟨fun c => by omega, fun _ => ⟨fun c => fin R R1 (rInv_end w (by omega)), fun c => ?_⟩⟩
    rw [wC.2.2.2.1, hz]
    refine c_isIn R1 (by omega) ?_
    cases rz : R.testBit z with
    | true =>
      refine ⟨fun _ => ?_, fun e => by simp at e⟩
      rw [wC.2.2.2.1, hz]
      refine c_isIn R1 (by omega) ?_
      rw [rz]
      exact ⟨.inr rfl, H1 (w.2.2.2.1 z rz).1⟩
    | false =>
    refine ⟨fun e => absurd rfl e, fun _ => ?_⟩
    -- the round
    have kl : ∀ i, i < cn C → crc C i < 4096 := fun i _ => bset_lt _
    refine z_upS (σ := Unit) (n := cn C) (fun i _ => zWi E (d + 1 + 1) m_X0_hasWay 54 [vo k0, vn, vi wd, vi (nb (cev C) s), vi R, vi F, vi r, vi (orK F (crc C) i), vi i] h Q) (fun _ _ => True) ?_ ?_ 0 () (by omega) trivial
    · intro _ _
      have ol : orK F (crc C) (cn C) < 4096 := orK_lt _ kl
      have nl : nb (cev C) s < 4096 := zb_nblt cl
      refine r_X0_hasWay_54 hk0 ⟨fun _ => ?_, fun c' => by rw [wC.1] at c'; omega⟩
      rw [w32t hr]
      rw [zb_and (zb_lt ol) (zb_lt nl), zb_nb (zb_lt (zb_andlt ol)) (zb_lt R1)]
      have xt : ∀ W', W' < 4096 → (∀ q, W'.testBit q = true ↔ (orK F (crc C) (cn C)).testBit q = true ∧ ¬ (r = 0 ∧ wd ≠ 0 ∧ q = z)) → zWi E (d + 1 + 1) m_X0_hasWay 24 [vo k0, vn, vi wd, vi (nb (cev C) s), vi ((R ||| nb (W' &&& nb (cev C) s) R : Nat) : Int), vi ((nb (W' &&& nb (cev C) s) R : Nat) : Int), vi ((r + 1 : Nat) : Int), vn, vn] h Q := by
        intro W' wl hw
        refine ih (_, nb (W' &&& nb (cev C) s) R) (rInv_s hC w (fun q => ?_))
        rw [nb_tt, Nat.testBit_and, Bool.and_eq_true, nb_tt, cev_t hn12, hw, orK_t]
        exact ⟨fun x => ⟨x.1.1.1, x.1.2.1, x.1.2.2, x.2, x.1.1.2⟩, fun x => ⟨⟨⟨x.1, x.2.2.2.2⟩, x.2.1, x.2.2.1⟩, x.2.2.2.1⟩⟩
      refine ⟨fun c2 => ?_, fun c2 => ⟨fun c3 => ?_, fun c3 => ?_⟩⟩
      · rintro y1 rfl
        rw [zb_or (zb_lt R1) (zb_lt (zb_nblt (zb_andlt ol)))]
        exact xt _ ol (fun q => ⟨fun x => ⟨x, fun y => by omega⟩, fun x => x.1⟩)
      · rintro y1 rfl
        rw [zb_or (zb_lt R1) (zb_lt (zb_nblt (zb_andlt ol)))]
        exact xt _ ol (fun q => ⟨fun x => ⟨x, fun y => y.2.1 c3⟩, fun x => x.1⟩)
      · rw [wC.2.2.2.1, hz, zb_1 (by omega), zb_nb (zb_lt ol) (zb_lt (zb_2k z12))]
        rintro y3 rfl
        rw [zb_and (zb_lt (zb_nblt ol)) (zb_lt nl), zb_nb (zb_lt (zb_andlt (zb_nblt ol))) (zb_lt R1)]
        rintro y4 rfl
        rw [zb_or (zb_lt R1) (zb_lt (zb_nblt (zb_andlt (zb_nblt ol))))]
        refine xt _ (zb_nblt ol) (fun q => ?_)
        rw [nb_tt, zb_t2]
        constructor
        · rintro ⟨x1, x2⟩
          exact ⟨x1, fun y => by simp [y.2.2] at x2⟩
        · rintro ⟨x1, x2⟩
          refine ⟨x1, ?_⟩
          simp only [decide_eq_false_iff_not]
          intro e
          exact x2 ⟨by omega, c3, e.symm⟩
    · intro i _ hi _ ih2
      have i12 : i < 12 := Nat.lt_of_lt_of_le hi hn12
      have ol : orK F (crc C) i < 4096 := orK_lt _ (fun j hj => bset_lt _)
      refine r_X0_hasWay_54 hk0 ⟨fun c' => by rw [wC.1] at c'; omega, fun _ => ?_⟩
      rw [w32t i12]
      refine c_isIn F1 (by omega) ?_
      have ih2 := ih2 () trivial
      have e : orK F (crc C) (i + 1) = if F.testBit i then orK F (crc C) i ||| crc C i else orK F (crc C) i := rfl
      cases fi : F.testBit i with
      | true =>
        refine ⟨fun e => by simp at e, fun _ => ⟨by omega, ?_⟩⟩
        simp only [Int.toNat_natCast]
        rw [(wC.2.2.2.2.2.2.2.1 i hi).1, zb_or (zb_lt ol) (zb_lt (kl i hi))]
        rintro y8 rfl
        rw [e, fi] at ih2
        exact ih2
      | false =>
        refine ⟨fun _ => ?_, fun e => absurd rfl e⟩
        rw [e, fi] at ih2
        exact ih2
end RE
