/-! cut: both sides -/
noncomputable def btw (C : zCt) (g z : Nat) : Nat := nb (nb (cev C) (2 ^ g)) (2 ^ z)
noncomputable def ctc (C : zCt) (g z : Nat) : Nat := nb (btw C g z) (cbox C)
theorem btw_t {C : zCt} {g z i : Nat} (hn : cn C ≤ 12) : (btw C g z).testBit i = true ↔ i < cn C ∧ i ≠ g ∧ i ≠ z := by
  unfold btw
  rw [nb_tt, nb_tt, cev_t hn, zb_t2, zb_t2]
  simp only [decide_eq_false_iff_not]
  exact ⟨fun h => ⟨h.1.1, fun e => h.1.2 e.symm, fun e => h.2 e.symm⟩, fun h => ⟨⟨h.1, fun e => h.2.1 e.symm⟩, fun e => h.2.2 e.symm⟩⟩
theorem btw_lt {C : zCt} {g z : Nat} : btw C g z < 4096 := zb_nblt (zb_nblt (bset_lt _))
theorem ctc_lt {C : zCt} {g z : Nat} : ctc C g z < 4096 := zb_nblt btw_lt
theorem cbox_t {C : zCt} {i : Nat} (hn : cn C ≤ 12) : (cbox C).testBit i = true ↔ i < cn C ∧ ckd C i = 3 := by
  unfold cbox
  rw [bset_t]
  simp only [Bool.and_eq_true, decide_eq_true_eq]
  exact ⟨fun h => h.2, fun h => ⟨by omega, h⟩⟩
theorem ctc_t {C : zCt} {g z i : Nat} (hn : cn C ≤ 12) : (ctc C g z).testBit i = true ↔ i < cn C ∧ ckd C i ≠ 3 ∧ i ≠ g ∧ i ≠ z := by
  unfold ctc
  rw [nb_tt, btw_t hn]
  constructor
  · rintro ⟨h1, h2⟩
    refine ⟨h1.1, fun e => ?_, h1.2⟩
    rw [(cbox_t hn).mpr ⟨h1.1, e⟩] at h2; cases h2
  · rintro ⟨h1, h2, h3⟩
    refine ⟨⟨h1, h3⟩, ?_⟩
    cases q : (cbox C).testBit i
    · rfl
    · exact absurd ((cbox_t hn).mp q).2 h2
theorem pc_11 {C : zCt} {g a : Nat} (hn : cn C ≤ 12) (hg : g < cn C) (ha : ∀ i, a.testBit i = true → i < cn C ∧ i ≠ g) : pc12 a ≤ 11 := by
  have h : pc12 a < pc12 (cev C) := by
    refine pc_lt (fun i _ q => (cev_t hn).mpr (ha i q).1) (i := g) (by omega) ((cev_t hn).mpr hg) ?_
    cases q : a.testBit g
    · rfl
    · exact absurd rfl (ha g q).2
  exact Nat.le_of_lt_succ (Nat.lt_of_lt_of_le h (pc_12 _))
theorem rch_mono {C : zCt} {g z s s' x : Nat} {wd : Int} (h : ∀ i, s.testBit i = true → s'.testBit i = true) (w : rch (eW C g z wd s') g x) : rch (eW C g z wd s) g x := by
  refine w (fun x => rch (eW C g z wd s) g x) rch_g (fun p q hp he => rch_st hp ⟨he.1, ?_, he.2.2⟩)
  cases t : s.testBit q
  · rfl
  · have := h q t
    rw [he.2.1] at this; cases this
theorem sub_nb {s c : Nat} (h : nb s c = 0) : ∀ i, s.testBit i = true → c.testBit i = true := by
  intro i hi
  cases t : c.testBit i
  · have := (nb_tt (a := s) (b := c) (i := i)).mpr ⟨hi, t⟩
    rw [h, Nat.zero_testBit] at this; cases this
  · rfl
section C2
variable {E : zE} {d : Nat} {h : zS}
theorem c_between {k0 g z : Nat} {C : zCt} {Q : Int → zS → Prop} (hk0 : isCity k0) (hn12 : cn C ≤ 12) (wC : XCity h k0 C) (hg : cga C = g) (hz : cse C = z) (hgn : g < cn C) (hzn : z < cn C) (HQ : Q (btw C g z : Nat) h) : zCi E (d + 1) m_X0_between [vo k0] h Q := by
  refine v_X0_between hk0 ?_
  refine c_everybody hk0 hn12 wC.1 ?_
  rw [wC.2.2.1, wC.2.2.2.1, hg, hz, zb_1 (by omega), zb_1 (by omega)]
  have cl : cev C < 4096 := bset_lt _
  rw [zb_nb (zb_lt cl) (zb_lt (zb_2k (by omega))), zb_nb (zb_lt (zb_nblt cl)) (zb_lt (zb_2k (by omega)))]
  exact HQ
theorem c_M_cut {g z : Nat} {C : zCt} {Q : Int → zS → Prop} (hC : okC C) (wC : MCity h C) (hg : cga C = g) (hz : cse C = z) (hgn : g < cn C) (hzn : z < cn C)
    (H1 : rch (eW C g z 0 (ctc C g z)) g z → Q (-1) h) (H0 : ∀ r : Nat, lbI C g z 0 (ctc C g z) r → Q r h) : zCi E (d + 1) m_X10_cut [vo 89] h Q := by
  have hn12 := hC.1
  refine v_X10_cut ?_
  have hw := @c_M_hasWay E d h g z 0 C (fun y2 h1 => ((y2 ≠ 0 → (zWi E (d + 1) m_X10_cut 14 [vo 89, vi 0, vi 0, vn] h1 Q)) ∧ (y2 = 0 → (Q 0 h1)))) hC wC hg hz hgn hzn (by omega)
  refine hw (fun _ => ⟨fun _ => ?_, fun e => by omega⟩) (fun nw => ⟨fun e => absurd rfl e, fun _ => H0 0 ⟨Nat.zero_le _, ?_, nw, fun s _ _ _ => ?_⟩⟩)
  · clear hw
    refine z_upS (σ := Nat) (n := cn C) (fun i A => zWi E (d + 1) m_X10_cut 14 [vo 89, vi A, vi i, vn] h Q) (fun i A => A < 4096 ∧ ∀ x, A.testBit x = true ↔ x < i ∧ x < cn C ∧ ckd C x ≠ 3 ∧ x ≠ g ∧ x ≠ z) ?_ ?_ 0 0 (by omega) ⟨by omega, fun x => by rw [Nat.zero_testBit]; exact ⟨fun q => absurd q (by decide), fun q => by omega⟩⟩
    · rintro A ⟨a1, a2⟩
      have eA : A = ctc C g z := nat_bits a1 ctc_lt (fun i _ => by
        have k1 := a2 i
        have k2 := ctc_t (C := C) (g := g) (z := z) (i := i) hn12
        cases p : A.testBit i <;> cases q : (ctc C g z).testBit i
        · rfl
        · have := k1.mpr ⟨(k2.mp q).1, k2.mp q⟩; rw [p] at this; cases this
        · have := k2.mpr (k1.mp p).2; rw [q] at this; cases this
        · rfl)
      refine r_X10_cut_14 ⟨fun _ => ?_, fun c => by rw [wC.1] at c; omega⟩
      rw [eA]
      clear a1 a2 eA
      have cl : ctc C g z < 4096 := ctc_lt
      generalize hcd : ctc C g z = cd at *
      have nbl : ∀ s, s ≤ cd → z_and (s : Int) (z_xor (cd : Int) (-1)) = (nb s cd : Nat) := fun s hs => zb_nb (by omega) (zb_lt cl)
      refine z_upS (σ := Int) (n := cd + 1) (fun x b => zWi E (d + 1) m_X10_cut 68 [vo 89, vi cd, vi b, vi x] h Q) (fun x b => (b = -1 ∧ ∀ s, s < x → nb s cd = 0 → rch (eW C g z 0 s) g z) ∨ ∃ r : Nat, b = r ∧ r < x ∧ r ≤ cd ∧ nb r cd = 0 ∧ ¬ rch (eW C g z 0 r) g z ∧ ∀ s, s < x → nb s cd = 0 → ¬ rch (eW C g z 0 s) g z → pc12 r < pc12 s ∨ (pc12 r = pc12 s ∧ r ≤ s)) ?_ ?_ 0 (-1) (by omega) (.inl ⟨rfl, fun s hs => by omega⟩)
      · intro b hb
        refine r_X10_cut_68 ⟨fun _ => ?_, fun c => by omega⟩
        rcases hb with ⟨e, q⟩ | ⟨r, e, r1, r2, r3, r4, r5⟩
        · rw [e]
          exact H1 (q cd (by omega) (by unfold nb; rw [Nat.and_self, Nat.xor_self]))
        · rw [e]
          exact H0 r ⟨r2, r3, r4, fun s hs => r5 s (by omega)⟩
      · intro x b hx hb ih
        refine r_X10_cut_68 ⟨fun c => by omega, fun _ => ?_⟩
        rw [w32s (by omega), nbl x (by omega)]
        rcases hb with ⟨e, q⟩ | ⟨r, e, r1, r2, r3, r4, r5⟩
        · subst e
          have skip : (nb x cd = 0 → rch (eW C g z 0 x) g z) → zWi E (d + 1) m_X10_cut 68 [vo 89, vi cd, vi (-1), vi ((x + 1 : Nat) : Int)] h Q := fun al => ih (-1) (.inl ⟨rfl, fun s hs a => by
            by_cases e : s = x
            · rw [e] at a ⊢; exact al a
            · exact q s (by omega) a⟩)
          refine ⟨fun c => skip (fun a => absurd a (by omega)), fun c => ⟨fun _ => ?_, fun e => by omega⟩⟩
          have n0 : nb x cd = 0 := by omega
          refine c_M_hasWay hC wC hg hz hgn hzn (by omega) (fun w => ⟨fun e => by omega, fun _ => skip (fun _ => w)⟩) (fun nw => ⟨fun _ => ih x (.inr ⟨x, rfl, by omega, by omega, n0, nw, fun s hs a b => ?_⟩), fun e => absurd rfl e⟩)
          by_cases e : s = x
          · right; rw [e]; exact ⟨rfl, Nat.le_refl _⟩
          · exact absurd (q s (by omega) a) b
        · subst e
          have skip : (nb x cd = 0 → ¬ rch (eW C g z 0 x) g z → pc12 r ≤ pc12 x) → zWi E (d + 1) m_X10_cut 68 [vo 89, vi cd, vi r, vi ((x + 1 : Nat) : Int)] h Q := fun al => ih r (.inr ⟨r, rfl, by omega, r2, r3, r4, fun s hs a b => by
            by_cases e : s = x
            · rw [e] at a b ⊢
              rcases Nat.lt_or_eq_of_le (al a b) with l | l
              · exact .inl l
              · exact .inr ⟨l, by omega⟩
            · exact r5 s (by omega) a b⟩)
          refine ⟨fun c => skip (fun a => absurd a (by omega)), fun c => ⟨fun e => by omega, fun _ => ?_⟩⟩
          have n0 : nb x cd = 0 := by omega
          refine c_M_ones (by omega) ?_
          refine c_M_ones (by omega) ?_
          refine ⟨fun c2 => skip (fun _ _ => Int.ofNat_le.mp c2), fun c2 => ?_⟩
          have c2 : pc12 x < pc12 r := Int.ofNat_lt.mp c2
          refine c_M_hasWay hC wC hg hz hgn hzn (by omega) (fun w => ⟨fun e => by omega, fun _ => skip (fun _ b => absurd w b)⟩) (fun nw => ⟨fun _ => ih x (.inr ⟨x, rfl, by omega, by omega, n0, nw, fun s hs a b => ?_⟩), fun e => absurd rfl e⟩)
          by_cases e : s = x
          · right; rw [e]; exact ⟨rfl, Nat.le_refl _⟩
          · left
            rcases r5 s (by omega) a b with l | l
            · exact Nat.lt_trans c2 l
            · rw [← l.1]; exact c2
    · rintro i A hi ⟨a1, a2⟩ ih
      have i12 : i < 12 := Nat.lt_of_lt_of_le hi hn12
      refine r_X10_cut_14 ⟨fun c => by rw [wC.1] at c; omega, fun _ => ⟨by omega, ?_⟩⟩
      simp only [Int.toNat_natCast]
      rw [w32t i12]
      have k1 := (wC.2.2.2.2.2.1 i hi).1
      have k2 := wC.2.2.1
      have k3 := wC.2.2.2.1
      have k4 := zb_1 (k := i) (by omega)
      have z0 : z_or (A : Int) 0 = (A : Int) := by
        have := zb_or (a := A) (b := 0) (zb_lt a1) (by omega)
        rw [Nat.or_zero] at this
        exact this
      intro y5 hy5
      by_cases c : ckd C i ≠ 3 ∧ i ≠ g ∧ i ≠ z
      · have e : y5 = ((A ||| 2 ^ i : Nat) : Int) := by
          rw [hy5, if_neg (by rw [k1]; exact c.1), if_neg (by rw [k2, hg]; have := c.2.1; omega), if_pos (by rw [k3, hz]; have := c.2.2; omega), k4, zb_or (zb_lt a1) (zb_lt (zb_2k i12))]
        rw [e]
        refine ih _ ⟨zb_orlt a1 (zb_2k i12), fun x => ?_⟩
        rw [Nat.testBit_or, Bool.or_eq_true, zb_t2, decide_eq_true_eq, a2]
        constructor
        · rintro (q | q)
          · exact ⟨by omega, q.2⟩
          · rw [← q]; exact ⟨by omega, hi, c⟩
        · rintro ⟨q1, q2⟩
          by_cases e : x = i
          · exact .inr e.symm
          · exact .inl ⟨by omega, q2⟩
      · have e : y5 = (A : Int) := by
          rw [hy5]
          by_cases c1 : ckd C i = 3
          · rw [if_pos (by rw [k1]; exact c1), z0]
          · rw [if_neg (by rw [k1]; exact c1)]
            by_cases c2 : i = g
            · rw [if_pos (by rw [k2, hg, c2]), z0]
            · rw [if_neg (by rw [k2, hg]; omega)]
              by_cases c3 : i = z
              · rw [if_neg (by rw [k3, hz, c3]; exact fun q => q rfl), z0]
              · exact absurd ⟨c1, c2, c3⟩ c
        rw [e]
        refine ih A ⟨a1, fun x => ?_⟩
        rw [a2]
        constructor
        · rintro ⟨q1, q2⟩; exact ⟨by omega, q2⟩
        · rintro ⟨q1, q2⟩
          by_cases e : x = i
          · rw [e] at q2; exact absurd q2.2 c
          · exact ⟨by omega, q2⟩
  · unfold nb; rw [Nat.zero_and, Nat.xor_self]
  · have e : pc12 0 = 0 := by rw [pc12_eq]; rfl
    rw [e]
    rcases Nat.eq_zero_or_pos (pc12 s) with q | q
    · exact .inr ⟨q.symm, Nat.zero_le _⟩
    · exact .inl q
theorem p_cut (w : zGo h) : zPair E m_X9_cut m_X10_cut [] h := by
  obtain ⟨t, S, hS, wX, wM⟩ := w
  have hC := hS.2.1
  have hn12 := hC.1
  have wC := wX.2.2.2.1
  have hga := hC.2.2.1
  have hse := hC.2.2.2.1
  by_cases G : (0 ≤ cga (aC S) ∧ cga (aC S) < cn (aC S)) ∧ (0 ≤ cse (aC S) ∧ cse (aC S) < cn (aC S))
  · obtain ⟨g, hg⟩ : ∃ g : Nat, cga (aC S) = g := ⟨(cga (aC S)).toNat, by omega⟩
    obtain ⟨z, hz⟩ : ∃ z : Nat, cse (aC S) = z := ⟨(cse (aC S)).toNat, by omega⟩
    have hgn : g < cn (aC S) := by omega
    have hzn : z < cn (aC S) := by omega
    have p11 : pc12 (ctc (aC S) g z) ≤ 11 := pc_11 hn12 hgn (fun i hi => ⟨((ctc_t hn12).mp hi).1, ((ctc_t hn12).mp hi).2.2.1⟩)
    have X : ∀ Q : Int → zS → Prop, (rch (eW (aC S) g z 0 (ctc (aC S) g z)) g z → Q (-1) h) → (¬ rch (eW (aC S) g z 0 (ctc (aC S) g z)) g z → ∀ r : Nat, lbI (aC S) g z 0 (ctc (aC S) g z) r → Q r h) → zCi E 8 m_X9_cut [vo 0] h Q := by
      intro Q H1 H0
      refine v_X9_cut ⟨t, wX.1.1, wX.1.2.1, ?_⟩
      refine c_hasEnds wX.1.2.1 ⟨wC.1, wC.2.2.1, wC.2.2.2.1⟩ (fun _ => ⟨fun e => by omega, fun _ => ⟨t, wX.1.1, wX.1.2.1, ?_⟩⟩) (fun n => absurd G n)
      refine c_between wX.1.2.1 hn12 wC hg hz hgn hzn ⟨t, wX.1.1, wX.1.2.1, ?_⟩
      rw [wC.2.2.2.2.2.2.2.2.1, zb_nb (zb_lt btw_lt) (zb_lt (cbox_lt _))]
      exact c_leastBar wX.1.1 wX.1.2.1 hC wC hg hz hgn hzn ctc_lt p11 H1 H0
    by_cases W : rch (eW (aC S) g z 0 (ctc (aC S) g z)) g z
    · refine p_of (S := S) (S' := S) (r := -1) (t := t) hS wM (fun Q HQ => ?_) (fun h1 Q w1 HQ => ?_)
      · exact X Q (fun _ => HQ h t wX zEq.rf) (fun n => absurd W n)
      · refine c_M_cut hC w1.2.2.1 hg hz hgn hzn (fun _ => HQ h1 w1 zEq.rf) (fun r hr => absurd ?_ hr.2.2.1)
        exact rch_mono (sub_nb hr.2.1) W
    · have ex : ∃ r, lbI (aC S) g z 0 (ctc (aC S) g z) r := by
        refine Classical.byContradiction (fun n => ?_)
        -- the least by size, then by number
        have key : ∀ k : Nat, ∀ s, s ≤ ctc (aC S) g z → nb s (ctc (aC S) g z) = 0 → ¬ rch (eW (aC S) g z 0 s) g z → 4096 * pc12 s + s ≤ k → False := by
          intro k
          induction k using Nat.strongRecOn with
          | ind k ihk =>
            intro s h1 h2 h3 h4
            by_cases c : ∃ s', s' ≤ ctc (aC S) g z ∧ nb s' (ctc (aC S) g z) = 0 ∧ ¬ rch (eW (aC S) g z 0 s') g z ∧ 4096 * pc12 s' + s' < 4096 * pc12 s + s
            · obtain ⟨s', a1, a2, a3, a4⟩ := c
              exact ihk (4096 * pc12 s' + s') (Nat.lt_of_lt_of_le a4 h4) s' a1 a2 a3 (Nat.le_refl _)
            · refine n ⟨s, h1, h2, h3, fun s' b1 b2 b3 => ?_⟩
              have b4 : ¬ 4096 * pc12 s' + s' < 4096 * pc12 s + s := fun q => c ⟨s', b1, b2, b3, q⟩
              have l1 : s < 4096 := Nat.lt_of_le_of_lt h1 ctc_lt
              have l2 : s' < 4096 := Nat.lt_of_le_of_lt b1 ctc_lt
              generalize pc12 s = x at *
              generalize pc12 s' = y at *
              omega
        exact key _ (ctc (aC S) g z) (Nat.le_refl _) (by unfold nb; rw [Nat.and_self, Nat.xor_self]) W (Nat.le_refl _)
      obtain ⟨r, hr⟩ := ex
      refine p_of (S := S) (S' := S) (r := (r : Int)) (t := t) hS wM (fun Q HQ => ?_) (fun h1 Q w1 HQ => ?_)
      · refine X Q (fun w => absurd w W) (fun _ r' hr' => ?_)
        rw [lbI_u hr' hr]; exact HQ h t wX zEq.rf
      · refine c_M_cut hC w1.2.2.1 hg hz hgn hzn (fun w => absurd w W) (fun r' hr' => ?_)
        rw [lbI_u hr' hr]; exact HQ h1 w1 zEq.rf
  · refine p_of (S := S) (S' := S) (r := 0) (t := t) hS wM (fun Q HQ => ?_) (fun h1 Q w1 HQ => ?_)
    · have HQ := HQ h t wX zEq.rf
      refine v_X9_cut ⟨t, wX.1.1, wX.1.2.1, ?_⟩
      exact c_hasEnds wX.1.2.1 ⟨wC.1, wC.2.2.1, wC.2.2.2.1⟩ (fun n => absurd n G) (fun _ => ⟨fun _ => HQ, fun e => absurd rfl e⟩)
    · have HQ := HQ h1 w1 zEq.rf
      refine v_X10_cut ?_
      refine v_X10_hasWay ?_
      rw [w1.2.2.1.2.2.1, w1.2.2.1.2.2.2.1]
      refine ⟨fun _ => ⟨fun e => absurd rfl e, fun _ => HQ⟩, fun c => ⟨fun c2 => absurd ⟨⟨c, by omega⟩, c2, by omega⟩ G, fun _ => ⟨fun e => absurd rfl e, fun _ => HQ⟩⟩⟩
end C2
