/-! the class: read, reckon, begin, city -/
def nNew (C : zCt) (kn : Nat → Nat) : zEn := ((0, 0), (fun _ => -1), (fun _ => -1), kn, ctk C, (fun _ _ => 0))
theorem okN_new {C : zCt} (hC : okC C) : okN C (nNew C (ckn C)) := by
  refine ⟨by show 0 ≤ 1000; omega, by show 0 ≤ 12; omega, fun i hi => ?_, fun i hi => ckn_lt C i, fun i j hi hj => ?_, fun i hi h3 => ⟨by show (-1 : Int) < 0; omega, by show (-1 : Int) < 0; omega⟩, fun a b => hC.2.2.2.2.2.2 a b, fun t ht => ?_⟩
  · show (-1 ≤ (-1 : Int) ∧ (-1 : Int) ≤ ((0 : Nat) : Int)) ∧ (-1 ≤ (-1 : Int) ∧ (-1 : Int) ≤ ((0 : Nat) : Int)) ∧ ((-1 : Int) < 0 ∨ (-1 : Int) < 0)
    omega
  · have hj : (ckn C i).testBit j = true := hj
    unfold ckn cknB at hj
    rw [bset_t] at hj
    simp only [Bool.and_eq_true, decide_eq_true_eq] at hj
    exact ⟨hj.2.1.1.1.2, hj.2.1.1.2, hj.2.1.2⟩
  · have ht : t < 0 := ht
    omega
def sC (S : zAb) (f p : Int) (C : zCt) (N : zEn) : zAb := (((0, aTb S), (f, p)), (C, N, (fun _ => none)), ((0, et (aY S)), ea (aY S)), (0, aWf S))
def sFt (S : zAb) (f p : Int) : zAb := (((0, aTb S), (f, p)), S.2)
section CI
variable {E : zE} {d : Nat} {h : zS}
theorem c_read {t n : Nat} {b : Nat → Nat} {Q : Int → zS → Prop} (K : rK t n b) (hT : ∀ k, k < n → hI h 1 k = sg (b k))
    (HF : ∀ e, rdL n b 1601 D0 (tokF n b 0) = .inl e → ∀ h1, hI h1 2 3 = e.1 → hI h1 2 4 = e.2 → zE3 (fun c _ => ¬ (t ≤ c ∧ c ≤ t + 9) ∧ c ≠ 2 ∧ c ≠ 3) h h1 → Q 0 h1)
    (HO : ∀ D, rdL n b 1601 D0 (tokF n b 0) = .inr D → okD D → ∀ h1, XCity h1 t (dC D) → hI h1 2 3 = 0 → hI h1 2 4 = -1 → zE3 (fun c _ => ¬ (t ≤ c ∧ c ≤ t + 9) ∧ c ≠ 2 ∧ c ≠ 3) h h1 → Q 1 h1) : zCi E (d + 5) m_X6_read [vo 2, vo 1, vi (n : Int), vo t] h Q := by
  have k4 := city_lt K.1
  refine v_X6_read ga_1 K.1 ?_
  intro h1 x1
  have r1 : hR h1 2 1 = some t := by rw [x1, hR_stR, if_pos ⟨rfl, rfl⟩]
  have i1 : ∀ c k, hI h1 c k = hI h c k := by rw [x1]; exact fun _ _ => rfl
  have z1 : zE3 (fun c _ => c ≠ 2) h h1 := by
    rw [x1]
    exact fun c i hc => ⟨rfl, rfl, by rw [hR_stR, if_neg (fun q => hc q.1)]⟩
  clear x1
  refine ⟨t, r1, K.1, ?_⟩
  refine v_X0_clear K.1 ?_
  intro g1 y1 g2 y2 g3 y3 g4 y4 g5 y5
  have f1 : zE3 (fun c _ => c ≠ t) h1 g1 := by rw [y1]; exact zE3.I (fun q => q rfl)
  have f2 : zE3 (fun c _ => c ≠ t) g1 g2 := by rw [y2]; exact zE3.I (fun q => q rfl)
  have f3 : zE3 (fun c _ => c ≠ t) g2 g3 := by rw [y3]; exact zE3.I (fun q => q rfl)
  have f4 : zE3 (fun c _ => c ≠ t) g3 g4 := by rw [y4]; exact zE3.I (fun q => q rfl)
  have f5 : zE3 (fun c _ => c ≠ t) g4 g5 := by rw [y5]; exact zE3.I (fun q => q rfl)
  obtain ⟨v1, n1, _⟩ := st_cp y1
  obtain ⟨v2, n2, _⟩ := st_cp y2
  obtain ⟨v3, n3, _⟩ := st_cp y3
  obtain ⟨v4, n4, _⟩ := st_cp y4
  obtain ⟨v5, n5, _⟩ := st_cp y5
  clear y1 y2 y3 y4 y5
  have F5 := f1.tr (f2.tr (f3.tr (f4.tr f5)))
  have q0 : hI g5 t 0 = 0 := by rw [n5 _ _ (by omega), n4 _ _ (by omega), n3 _ _ (by omega), n2 _ _ (by omega)]; exact v1
  have q1 : hI g5 t 1 = 0 := by rw [n5 _ _ (by omega), n4 _ _ (by omega), n3 _ _ (by omega)]; exact v2
  have q2 : hI g5 t 2 = -1 := by rw [n5 _ _ (by omega), n4 _ _ (by omega)]; exact v3
  have q3 : hI g5 t 3 = -1 := by rw [n5 _ _ (by omega)]; exact v4
  clear v1 v2 v3 v4 n1 n2 n3 n4 n5
  refine c_fillI (gaCity_11 K.1) (by omega) (fun g6 a6 e6 => ?_)
  have F6 : zE3 (fun c _ => ¬ (t ≤ c ∧ c ≤ t + 9)) h1 g6 := (F5.wk (fun c i q => by omega)).tr (zE3.of e6 (fun c i q => by omega))
  intro h4 x4 h5 x5 h6 x6
  have w4 : zE3 (fun c _ => c ≠ 2) g6 h4 := by rw [x4]; exact zE3.I (fun q => q rfl)
  have w5 : zE3 (fun c _ => c ≠ 2) h4 h5 := by rw [x5]; exact zE3.I (fun q => q rfl)
  have w6 : zE3 (fun c _ => c ≠ 2) h5 h6 := by rw [x6]; exact zE3.I (fun q => q rfl)
  have R6 : hR h6 2 1 = some t := by
    rw [x6]; show hR h5 2 1 = _
    rw [x5]; show hR h4 2 1 = _
    rw [x4]; show hR g6 2 1 = _
    rw [(F6 2 1 (by omega)).2.2]; exact r1
  obtain ⟨u4, m4, _⟩ := st_cp x4
  obtain ⟨u5, m5, _⟩ := st_cp x5
  obtain ⟨u6, m6, _⟩ := st_cp x6
  clear x4 x5 x6
  have W6 := w4.tr (w5.tr w6)
  have l6 : hI h6 2 2 = 0 := by rw [m6 _ _ (by omega), m5 _ _ (by omega)]; exact u4
  have fa6 : hI h6 2 3 = 0 := by rw [m6 _ _ (by omega)]; exact u5
  refine v_X5_open ga_1 ?_
  intro h7 x7
  have R7 : hR h7 3 0 = some 1 := by rw [x7, hR_stR, if_pos ⟨rfl, rfl⟩]
  have w7 : zE3 (fun c _ => c ≠ 3) h6 h7 := by rw [x7]; exact fun c i hc => ⟨rfl, rfl, by rw [hR_stR, if_neg (fun q => hc q.1)]⟩
  clear x7
  intro h8 x8
  rw [if_neg (show ¬ (1600 : Int) < (n : Int) by have := K.2.1; omega)] at x8
  have w8 : zE3 (fun c _ => c ≠ 3) h7 h8 := by rw [x8]; exact zE3.I (fun q => q rfl)
  have R8 : hR h8 3 0 = some 1 := by rw [x8]; exact R7
  obtain ⟨u8, m8, _⟩ := st_cp x8
  clear x8
  intro h9 x9
  have w9 : zE3 (fun c _ => c ≠ 3) h8 h9 := by rw [x9]; exact zE3.I (fun q => q rfl)
  have R9 : hR h9 3 0 = some 1 := by rw [x9]; exact R8
  obtain ⟨u9, m9, _⟩ := st_cp x9
  clear x9
  have W9 := w7.tr (w8.tr w9)
  have A9 : zE3 (fun c _ => ¬ (t ≤ c ∧ c ≤ t + 9) ∧ c ≠ 2 ∧ c ≠ 3) h h9 := (z1.wk (fun c i q => q.2.1)).tr ((F6.wk (fun c i q => q.1)).tr ((W6.wk (fun c i q => q.2.1)).tr (W9.wk (fun c i q => q.2.2))))
  have L9 : XL0 h9 n b 0 := ⟨R9, by rw [m9 _ _ (by omega)]; exact u8, u9, fun k hk => by rw [(A9 1 k (by omega)).1]; exact hT k hk⟩
  refine c_advance L9 K.2.1 (Nat.zero_le _) K.2.2 (fun h10 x10 e10 => ?_)
  have c2 : ∀ k, hI h10 2 k = hI h6 2 k := fun k => by rw [e10.I (by omega), (W9 2 k (by omega)).1]
  have wR : XRd h10 t n b (.inr (tokF n b 0)) := ⟨by rw [e10.R (by omega), (W9 2 1 (by omega)).2.2]; exact R6, by rw [c2]; exact fa6, by rw [c2]; exact u6, x10, (tok_nx (Nat.zero_le _)).1⟩
  have G : ∀ c k, t ≤ c → c ≤ t + 9 → hI h10 c k = hI g6 c k := fun c k p1 p2 => by rw [e10.I (by omega), (W9 c k (by omega)).1, (W6 c k (by omega)).1]
  have wD : XDr h10 t D0 := by
    refine ⟨?_, ?_, ?_, ?_, ?_, fun i hi => ?_, fun x y hx hy => ?_, ?_⟩
    · rw [G t 0 (by omega) (by omega), e6.I (by omega)]; exact q0
    · rw [G t 1 (by omega) (by omega), e6.I (by omega)]; exact q1
    · rw [G t 2 (by omega) (by omega), e6.I (by omega)]; exact q2
    · rw [G t 3 (by omega) (by omega), e6.I (by omega)]; exact q3
    · rw [G t 4 (by omega) (by omega), e6.I (by omega)]; exact v5
    · have hi : i < 0 := hi
      omega
    · rw [G (t + 7) _ (by omega) (by omega)]; exact a6 _ (by omega)
    · rw [c2, l6]; rfl
  have A10 : zE3 (fun c _ => ¬ (t ≤ c ∧ c ≤ t + 9) ∧ c ≠ 2 ∧ c ≠ 3) h h10 := A9.tr (zE3.of e10 (fun c i q => q.2.2))
  refine c_lines K wD wR (fun e he h11 b1 b2 b3 => HF e he h11 b1 b2 (A10.tr (b3.wk (fun c i q => ⟨⟨⟨by omega, by omega⟩, q.1⟩, q.2.1⟩)))) (fun D hd okd h11 b1 b2 b3 b4 => ?_)
  refine c_settle K.1 okd b1 (fun h12 s1 s2 => ?_)
  have f12 : hI h12 2 3 = 0 := by rw [(s2 2 3 (by unfold sW1; omega)).1]; exact b2
  refine ⟨fun c => absurd f12 c, fun _ => HO D hd okd h12 s1 f12 (by rw [(s2 2 4 (by unfold sW1; omega)).1]; exact b3) (A10.tr ((b4.wk (fun c i q => ⟨⟨⟨by omega, by omega⟩, q.1⟩, q.2.1⟩)).tr (s2.wk (fun c i q => by unfold sW1; omega))))⟩
theorem c_reckon {t : Nat} {C : zCt} {Q : zS → Prop} (ht : isCity t) (hC : okC C) (wC : XCity h t C) (HQ : ∀ h1, XFalls h1 C → zEq (fun c => c < 25 ∨ 29 < c) h h1 → Q h1) : zCv E (d + 5) m_X3_reckon [vo 24, vo t] h Q := by
  have hn := hC.1
  have k4 := city_lt ht
  refine v_X3_reckon ht ?_
  refine c_fillI ga_25 (by omega) (fun h1 a1 e1 => ?_)
  refine c_fillI ga_26 (by omega) (fun h2 a2 e2 => ?_)
  refine c_fillI ga_27 (by omega) (fun h3 a3 e3 => ?_)
  have E3 : zEq (fun c => c < 25 ∨ 29 < c) h h3 := (e1.wk (fun c q => by omega)).tr ((e2.wk (fun c q => by omega)).tr (e3.wk (fun c q => by omega)))
  have fC : ∀ h2, zEq (fun c => c < 25 ∨ 29 < c) h h2 → XCity h2 t C := fun h2 e => wC.fr e (fun j hj => by omega)
  refine z_up (n := cn C) (fun i h4 => zWv E (d + 4 + 1) m_X3_reckon 26 [vo 24, vo t, vi i] h4 Q) (fun i h4 => (∀ a, a < i → ckd C a ≠ 3 → (∀ b, b < cn C → hI h4 25 (12 * a + b) = (fEnd C a).1 b ∧ hI h4 26 (12 * a + b) = (fEnd C a).2 b) ∧ hI h4 27 a = (pc12 (bset (seB (cn C) (fEnd C a).1)) : Nat)) ∧ zEq (fun c => c < 25 ∨ 29 < c) h h4) ?_ ?_ 0 h3 (by omega) ⟨fun a ha => by omega, E3⟩
  · rintro h4 ⟨u1, u2⟩
    exact r_X3_reckon_26 ht ⟨fun _ => HQ h4 u1 u2, fun c => by rw [(fC h4 u2).1] at c; omega⟩
  · rintro i h4 hi ⟨u1, u2⟩ ih
    have i12 : i < 12 := by omega
    refine r_X3_reckon_26 ht ⟨fun c => by rw [(fC h4 u2).1] at c; omega, fun _ => ?_⟩
    rw [w32t i12]
    refine c_isBox ht hC (fC h4 u2) hi ?_
    by_cases c : ckd C i = 3
    · rw [if_pos c]
      refine ⟨fun _ => ih h4 ⟨fun a ha ka => ?_, u2⟩, fun e => by omega⟩
      by_cases e : a = i
      · rw [e] at ka; exact absurd c ka
      · exact u1 a (by omega) ka
    · rw [if_neg c]
      refine ⟨fun e => absurd rfl e, fun _ => ?_⟩
      refine c_reckonOne ht hC (fC h4 u2) hi (fun h5 b1 b2 b3 b4 b5 => ih h5 ⟨fun a ha ka => ?_, u2.tr b5⟩)
      by_cases e : a = i
      · rw [e]; exact ⟨b1, b2⟩
      · have := u1 a (by omega) ka
        refine ⟨fun b hb => ?_, by rw [b4 a e]; exact this.2⟩
        have k := b3 (12 * a + b) (by omega)
        rw [k.1, k.2]; exact this.1 b hb
theorem c_begin {t : Nat} {C : zCt} {Q : zS → Prop} (ht : isCity t) (hC : okC C) (wC : XCity h t C) (HQ : ∀ h1, XEarn h1 34 C (nNew C (ckn C)) → zEq (fun c => c < 34 ∨ 44 < c) h h1 → Q h1) : zCv E (d + 2) m_X1_begin [vo 34, vo t] h Q := by
  have hn := hC.1
  have k4 := city_lt ht
  refine v_X1_begin isEarnest_34 ht ?_
  intro h1 x1
  obtain ⟨v1, n1, q1⟩ := st_cp x1
  clear x1
  refine c_clear (C := C) isFate_35 ht hn (by rw [q1.I (by omega)]; exact wC.1) (fun h2 f2 e2 => ?_)
  intro h3 x3
  obtain ⟨v3, n3, q3⟩ := st_cp x3
  clear x3
  intro h4 x4 h5 x5
  obtain ⟨q4, v4⟩ := row_cp x4
  obtain ⟨q5, v5⟩ := row_cp x5
  clear x4 x5
  have F : zEq (fun c => c < 34 ∨ 44 < c) h h5 := (q1.wk (fun c q => by omega)).tr ((e2.wk (fun c q => by omega)).tr ((q3.wk (fun c q => by omega)).tr ((q4.wk (fun c q => by omega)).tr (q5.wk (fun c q => by omega)))))
  refine HQ h5 ⟨?_, ?_, ?_, fun s hs => ?_, fun a b ha hb => ?_, fun i hi => ?_⟩ F
  · rw [q5.I (by omega), q4.I (by omega), q3.I (by omega), e2.I (by omega)]; exact v1
  · exact (f2.fr q3 (by omega) (by omega)).fr q4 (by omega) (by omega) |>.fr q5 (by omega) (by omega)
  · rw [q5.I (by omega), q4.I (by omega)]; exact v3
  · have hs : s < 0 := hs
    omega
  · rw [q5.I (by omega)]
    show hI h4 43 (12 * a + b) = ctk C a b
    rw [v4 (12 * a + b) (by show 12 * a + b < 144; omega), q3.I (by omega), e2.I (by omega), q1.I (by omega)]
    exact wC.2.2.2.2.2.2.1 a b ha hb
  · show hI h5 44 i = (ckn C i : Int)
    rw [v5 i (by show i < 12; omega), q4.I (by omega), q3.I (by omega), e2.I (by omega), q1.I (by omega)]
    exact (wC.2.2.2.2.2.2.2.1 i hi).2
end CI
