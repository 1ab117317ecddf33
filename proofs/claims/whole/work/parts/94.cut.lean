/-! cut -/
theorem pc_n {a n : Nat} (hn : n ≤ 12) (h : ∀ i, a.testBit i = true → i < n) : pc12 a ≤ n := by
  have cnt : ∀ m, m ≤ 12 → pc12 (bset (seB m (fun _ => 0))) = m := by
    intro m
    induction m with
    | zero => intro _; exact seB_0 _
    | succ m ihm => intro hm; rw [seB_up (by omega), ihm (by omega)]; simp
  refine Nat.le_trans (pc_le (b := bset (seB n (fun _ => 0))) (fun i hi q => ?_)) (Nat.le_of_eq (cnt n hn))
  have := h i q
  rw [bset_t]
  simp [seB, this, hi]
def mInv (C : zCt) (g z s S : Nat) : Prop := S < 4096 ∧ S.testBit g = true ∧ ∀ i, S.testBit i = true → rch (eW C g z 0 s) g i ∧ i < cn C
def mCl (C : zCt) (g z s S : Nat) : Prop := ∀ p q, S.testBit p = true → eW C g z 0 s p q → S.testBit q = true
theorem mCl_end {C : zCt} {g z s S x : Nat} (w : mInv C g z s S) (c : mCl C g z s S) : S.testBit x = true ↔ rch (eW C g z 0 s) g x :=
  ⟨fun h => (w.2.2 x h).1, fun h => h (fun x => S.testBit x = true) w.2.1 (fun p q hp he => c p q hp he)⟩
theorem mCl_up {C : zCt} {g z s S S' r : Nat} (w : mInv C g z s S) (w' : mInv C g z s S') (sub : ∀ i, S.testBit i = true → S'.testBit i = true) (stp : ∀ p q, S.testBit p = true → eW C g z 0 s p q → S'.testBit q = true) (h : mCl C g z s S ∨ r + 1 ≤ pc12 S) : mCl C g z s S' ∨ r + 1 + 1 ≤ pc12 S' := by
  by_cases e : ∀ i, S'.testBit i = true → S.testBit i = true
  · left
    intro p q hp he
    exact stp p q (e p hp) he
  · right
    simp only [Classical.not_forall] at e
    obtain ⟨i, h1, h2⟩ := e
    have h2 : S.testBit i = false := by cases q : S.testBit i <;> simp_all
    have i12 : i < 12 := by
      refine Classical.byContradiction (fun n => ?_)
      rw [zb_big w'.1 (by omega)] at h1; cases h1
    rcases h with c | c
    · have := (mCl_end w c).mpr (w'.2.2 i h1).1
      rw [h2] at this; cases this
    · exact pc_grow (fun j _ hj => sub j hj) i12 h1 h2 c
def lbI (C : zCt) (g z : Nat) (wd : Int) (cd r : Nat) : Prop := r ≤ cd ∧ nb r cd = 0 ∧ ¬ rch (eW C g z wd r) g z ∧ ∀ s, s ≤ cd → nb s cd = 0 → ¬ rch (eW C g z wd s) g z → pc12 r < pc12 s ∨ (pc12 r = pc12 s ∧ r ≤ s)
theorem lbI_u {C : zCt} {g z cd r r' : Nat} {wd : Int} (a : lbI C g z wd cd r) (b : lbI C g z wd cd r') : r = r' := by
  have h1 := a.2.2.2 r' b.1 b.2.1 b.2.2.1
  have h2 := b.2.2.2 r a.1 a.2.1 a.2.2.1
  generalize pc12 r = x at *
  generalize pc12 r' = y at *
  omega
section CU
variable {E : zE} {d : Nat} {h : zS}
theorem c_M_hasWay {g z s : Nat} {C : zCt} {Q : Int → zS → Prop} (hC : okC C) (wC : MCity h C) (hg : cga C = g) (hz : cse C = z) (hgn : g < cn C) (hzn : z < cn C) (hs : s < 4096)
    (H1 : rch (eW C g z 0 s) g z → Q 1 h) (H0 : ¬ rch (eW C g z 0 s) g z → Q 0 h) : zCi E d m_X10_hasWay [vo 89, vi s] h Q := by
  have hn12 := hC.1
  have z12 : z < 12 := by omega
  have g12 : g < 12 := by omega
  refine v_X10_hasWay ?_
  rw [wC.2.2.1, wC.2.2.2.1, hg, hz, zb_1 (by omega)]
  refine ⟨fun c => by omega, fun _ => ⟨fun _ => ?_, fun c => by omega⟩⟩
  refine z_upS (σ := Nat) (n := cn C) (fun r S => zWi E d m_X10_hasWay 25 [vo 89, vi s, vi S, vi r, vn, vn] h Q) (fun r S => mInv C g z s S ∧ (mCl C g z s S ∨ r + 1 ≤ pc12 S)) ?_ ?_ 0 (2 ^ g) (by omega) ⟨⟨zb_2k g12, by rw [zb_t2]; simp, fun i hi => ?_⟩, .inr ?_⟩
  · rintro S ⟨w, c⟩
    have cl : mCl C g z s S := by
      rcases c with c | c
      · exact c
      · have := pc_n hn12 (fun i hi => (w.2.2 i hi).2)
        exact absurd (Nat.le_trans c this) (Nat.not_succ_le_self _)
    clear c
    refine r_X10_hasWay_25 ⟨fun _ => ?_, fun c => by rw [wC.1] at c; omega⟩
    rw [wC.2.2.2.1, hz, zb_bit (zb_lt w.1) (by omega)]
    cases q : S.testBit z with
    | true => exact ⟨fun e => absurd rfl e, fun _ => H1 ((mCl_end w cl).mp q)⟩
    | false => exact ⟨fun _ => H0 (fun x => by have := (mCl_end w cl).mpr x; rw [q] at this; cases this), fun e => by simp at e⟩
  · rintro r S hr ⟨w, c⟩ ih
    have r12 : r < 12 := Nat.lt_of_lt_of_le hr hn12
    have done : ∀ S', mInv C g z s S' → (∀ i, S.testBit i = true → S'.testBit i = true) → (∀ p q, S.testBit p = true → eW C g z 0 s p q → S'.testBit q = true) → zWi E d m_X10_hasWay 25 [vo 89, vi s, vi S', vi ((r + 1 : Nat) : Int), vn, vn] h Q := fun S' w' a b => ih S' ⟨w', mCl_up w w' a b c⟩
    clear ih c
    refine r_X10_hasWay_25 ⟨fun c => by rw [wC.1] at c; omega, fun _ => ?_⟩
    refine z_upS (σ := Nat) (n := cn C) (fun p T => zWi E d m_X10_hasWay 36 [vo 89, vi s, vi T, vi r, vi p, vn] h Q) (fun p T => mInv C g z s T ∧ (∀ i, S.testBit i = true → T.testBit i = true) ∧ ∀ p' q, p' < p → S.testBit p' = true → eW C g z 0 s p' q → T.testBit q = true) ?_ ?_ 0 S (by omega) ⟨w, fun _ h => h, fun p' q hp => by omega⟩
    · rintro T ⟨t1, t2, t3⟩
      refine r_X10_hasWay_36 ⟨fun _ => ?_, fun c => by rw [wC.1] at c; omega⟩
      rw [w32t r12]
      exact done T t1 t2 (fun p q hp he => t3 p q (w.2.2 p hp).2 hp he)
    · rintro p T hp ⟨t1, t2, t3⟩ ih2
      have p12 : p < 12 := Nat.lt_of_lt_of_le hp hn12
      refine r_X10_hasWay_36 ⟨fun c => by rw [wC.1] at c; omega, fun _ => ?_⟩
      rw [w32t p12, zb_bit (zb_lt t1.1) (by omega)]
      cases tp : T.testBit p with
      | false =>
        refine ⟨fun _ => ih2 T ⟨t1, t2, fun p' q hp' sp he => ?_⟩, fun e => by simp at e⟩
        by_cases e : p' = p
        · rw [e] at sp
          have := t2 p sp
          rw [tp] at this; cases this
        · exact t3 p' q (by omega) sp he
      | true =>
        refine ⟨fun e => absurd rfl e, fun _ => ?_⟩
        have rp := (t1.2.2 p tp).1
        refine z_upS (σ := Nat) (n := cn C) (fun q U => zWi E d m_X10_hasWay 58 [vo 89, vi s, vi U, vi r, vi p, vi q] h Q) (fun q U => mInv C g z s U ∧ (∀ i, T.testBit i = true → U.testBit i = true) ∧ ∀ q', q' < q → eW C g z 0 s p q' → U.testBit q' = true) ?_ ?_ 0 T (by omega) ⟨t1, fun _ h => h, fun q hq => by omega⟩
        · rintro U ⟨u1, u2, u3⟩
          refine r_X10_hasWay_58 ⟨fun _ => ?_, fun c => by rw [wC.1] at c; omega⟩
          rw [w32t p12]
          refine ih2 U ⟨u1, fun i hi => u2 i (t2 i hi), fun p' q hp' sp he => ?_⟩
          by_cases e : p' = p
          · rw [e] at he
            exact u3 q ((hC.2.2.2.2.2.2 p q).2 he.1).2.1 he
          · exact u2 q (t3 p' q (by omega) sp he)
        · rintro q U hq ⟨u1, u2, u3⟩ ih3
          have q12 : q < 12 := Nat.lt_of_lt_of_le hq hn12
          refine r_X10_hasWay_58 ⟨fun c => by rw [wC.1] at c; omega, fun _ => ?_⟩
          rw [w32q p12 q12, w32t q12]
          refine ⟨by omega, ?_⟩
          simp only [Int.toNat_natCast]
          have k1 := wC.2.2.2.2.2.2.1 p q p12 q12
          have k2 := zb_bit (a := s) (k := q) (zb_lt hs) (by omega)
          have k3 := zb_1 (k := q) (by omega)
          intro y4 hy4
          by_cases he : eW C g z 0 s p q
          · have e : y4 = ((U ||| 2 ^ q : Nat) : Int) := by
              rw [hy4, if_neg (by rw [k1]; have := he.1; omega), if_neg (by rw [k2, he.2.1]; simp), k3, zb_or (zb_lt u1.1) (zb_lt (zb_2k q12))]
            rw [e]
            refine ih3 _ ⟨⟨zb_orlt u1.1 (zb_2k q12), by rw [Nat.testBit_or, u1.2.1]; rfl, fun i hi => ?_⟩, fun i hi => by rw [Nat.testBit_or, u2 i hi]; rfl, fun q' hq' he' => ?_⟩
            · rw [Nat.testBit_or, Bool.or_eq_true, zb_t2, decide_eq_true_eq] at hi
              rcases hi with hi | hi
              · exact u1.2.2 i hi
              · rw [← hi]; exact ⟨rch_st rp he, hq⟩
            · rw [Nat.testBit_or, Bool.or_eq_true, zb_t2, decide_eq_true_eq]
              by_cases e' : q' = q
              · exact .inr e'.symm
              · exact .inl (u3 q' (by omega) he')
          · have e : y4 = (U : Int) := by
              rw [hy4]
              have z0 : z_or (U : Int) 0 = (U : Int) := by
                have := zb_or (a := U) (b := 0) (zb_lt u1.1) (by omega)
                rw [Nat.or_zero] at this
                exact this
              by_cases c1 : ctk C p q ≤ 0
              · rw [if_pos (by rw [k1]; exact c1), z0]
              · rw [if_neg (by rw [k1]; exact c1)]
                cases sq : s.testBit q with
                | true => rw [if_pos (by rw [k2, sq]; simp), z0]
                | false => exact absurd ⟨by omega, sq, fun x => x.1 rfl⟩ he
            rw [e]
            refine ih3 U ⟨u1, u2, fun q' hq' he' => ?_⟩
            by_cases e' : q' = q
            · rw [e'] at he'; exact absurd he' he
            · exact u3 q' (by omega) he'
  · rw [zb_t2, decide_eq_true_eq] at hi
    rw [← hi]; exact ⟨rch_g, hgn⟩
  · have := pc_or (a := 0) (q := g) (Nat.zero_testBit _) g12
    rw [Nat.zero_or] at this
    rw [this]
    exact Nat.succ_le_succ (Nat.zero_le _)
theorem c_leastBar {t g z cd : Nat} {wd : Int} {C : zCt} {Q : Int → zS → Prop} (h0 : hR h 0 3 = some t) (hk0 : isCity t) (hC : okC C) (wC : XCity h t C) (hg : cga C = g) (hz : cse C = z) (hgn : g < cn C) (hzn : z < cn C) (hcd : cd < 4096) (hp : pc12 cd ≤ 11)
    (H1 : rch (eW C g z wd cd) g z → Q (-1) h) (H0 : ¬ rch (eW C g z wd cd) g z → ∀ r : Nat, lbI C g z wd cd r → Q r h) : zCi E (d + 3) m_X9_leastBar [vo 0, vi cd, vi wd] h Q := by
  refine v_X9_leastBar ⟨t, h0, hk0, ?_⟩
  refine c_hasWay hk0 hC wC hg hz hgn hzn hcd (fun w => ⟨fun e => by omega, fun _ => H1 w⟩) (fun nw => ⟨fun _ => ?_, fun e => absurd rfl e⟩)
  have H0 := H0 nw
  have nbl : ∀ s, s ≤ cd → z_and (s : Int) (z_xor (cd : Int) (-1)) = (nb s cd : Nat) := fun s hs => zb_nb (by omega) (zb_lt hcd)
  refine z_upS (σ := Unit) (n := 12) (fun i _ => zWi E (d + 2 + 1) m_X9_leastBar 16 [vo 0, vi cd, vi wd, vi i, vn] h Q) (fun i _ => ∀ s, s ≤ cd → nb s cd = 0 → ¬ rch (eW C g z wd s) g z → i ≤ pc12 s) ?_ ?_ 0 () (by omega) (fun s _ _ _ => Nat.zero_le _)
  · intro _ u
    have cc : nb cd cd = 0 := by unfold nb; rw [Nat.and_self, Nat.xor_self]
    have := u cd (Nat.le_refl _) cc nw
    exact absurd (Nat.le_trans this hp) (by decide)
  · intro i _ hi u ih
    refine r_X9_leastBar_16 ⟨fun c => by omega, fun _ => ?_⟩
    refine z_upS (σ := Unit) (n := cd + 1) (fun s _ => zWi E (d + 2 + 1) m_X9_leastBar 25 [vo 0, vi cd, vi wd, vi i, vi s] h Q) (fun x _ => ∀ s, s < x → nb s cd = 0 → ¬ rch (eW C g z wd s) g z → i + 1 ≤ pc12 s) ?_ ?_ 0 () (by omega) (fun s hs => by omega)
    · intro _ v
      refine r_X9_leastBar_25 ⟨fun _ => ?_, fun c => by omega⟩
      rw [w32t hi]
      exact ih () (fun s hs => v s (by omega))
    · intro s _ hs v ih2
      have next : (nb s cd = 0 → ¬ rch (eW C g z wd s) g z → i + 1 ≤ pc12 s) → zWi E (d + 2 + 1) m_X9_leastBar 25 [vo 0, vi cd, vi wd, vi i, vi ((s + 1 : Nat) : Int)] h Q := fun al => ih2 () (fun s' hs' a b => by
        by_cases e : s' = s
        · rw [e] at a b ⊢; exact al a b
        · exact v s' (by omega) a b)
      refine r_X9_leastBar_25 ⟨fun c => by omega, fun _ => ?_⟩
      rw [w32s (by omega), nbl s (by omega)]
      refine ⟨fun c => next (fun a => absurd a (by omega)), fun c => ?_⟩
      have n0 : nb s cd = 0 := by omega
      have ui := u s (by omega) n0
      refine c_bitCount (by omega) ⟨fun c2 => next (fun _ b => ?_), fun c2 => ⟨t, h0, hk0, ?_⟩⟩
      · exact Nat.lt_of_le_of_ne (ui b) (fun e => c2 (by rw [← e]))
      · have ei : pc12 s = i := Int.ofNat_inj.mp c2
        refine c_hasWay hk0 hC wC hg hz hgn hzn (by omega) (fun w => ⟨fun _ => next (fun _ b => absurd w b), fun e => by omega⟩) (fun w => ⟨fun e => absurd rfl e, fun _ => H0 s ⟨by omega, n0, w, fun s' h1 h2 h3 => ?_⟩⟩)
        rw [ei]
        by_cases lt : s' < s
        · exact .inl (v s' lt h2 h3)
        · rcases Nat.lt_or_eq_of_le (u s' h1 h2 h3) with q | q
          · exact .inl q
          · exact .inr ⟨q, by omega⟩
end CU
