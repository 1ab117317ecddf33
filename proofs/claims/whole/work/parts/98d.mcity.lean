/-! the model: readAll, city -/
section MC
variable {E : zE} {d : Nat} {h : zS}
def aWW (c i : Nat) : Prop := rM c i ∧ ¬ (c = 89 ∧ (i = 1 ∨ i = 5 ∨ (24 ≤ i ∧ i ≤ 28))) ∧ ¬ (91 ≤ c ∧ c ≤ 97)
theorem c_M_readAll {n : Nat} {b : Nat → Nat} {Q : zS → Prop} (hn : n ≤ 1600) (h1' : hI h 89 1 = (n : Int)) (hT : ∀ k, k < n → hI h 90 k = (b k : Nat))
    (HF : ∀ e, rdL n b 1601 D0 (tokF n b 0) = .inl e → ∀ h1, hI h1 89 2 = e.1 → hI h1 89 3 = e.2 → 0 < e.1 → hI h1 89 1 = 0 → zEw aWW h h1 → zEq (fun c => c < 89) h h1 → Q h1)
    (HO : ∀ D, rdL n b 1601 D0 (tokF n b 0) = .inr D → okD D → ∀ h1, MDr h1 D → hI h1 89 2 = 0 → hI h1 89 3 = -1 → hI h1 89 1 = 0 → zEw aWW h h1 → zEq (fun c => c < 89) h h1 → Q h1) : zCv E (d + 6) m_X10_readAll [vo 89] h Q := by
  refine v_X10_readAll ?_
  rw [h1']
  intro g1 y1 g2 y2 g3 y3 g4 y4 g5 y5 g6 y6 g7 y7 g8 y8 g9 y9 g10 y10
  have w1 : zEw aWW h g1 := by rw [y1]; exact zEw_I (by unfold aWW rM; omega)
  have w2 : zEw aWW g1 g2 := by rw [y2]; exact zEw_I (by unfold aWW rM; omega)
  have w3 : zEw aWW g2 g3 := by rw [y3]; exact zEw_I (by unfold aWW rM; omega)
  have w4 : zEw aWW g3 g4 := by rw [y4]; exact zEw_I (by unfold aWW rM; omega)
  have w5 : zEw aWW g4 g5 := by rw [y5]; exact zEw_I (by unfold aWW rM; omega)
  have w6 : zEw aWW g5 g6 := by rw [y6]; exact zEw_I (by unfold aWW rM; omega)
  have w7 : zEw aWW g6 g7 := by rw [y7]; exact zEw_I (by unfold aWW rM; omega)
  have w8 : zEw aWW g7 g8 := by rw [y8]; exact zEw_I (by unfold aWW rM; omega)
  have w9 : zEw aWW g8 g9 := by rw [y9]; exact zEw_I (by unfold aWW rM; omega)
  have w10 : zEw aWW g9 g10 := by rw [y10]; exact zEw_I (by unfold aWW rM; omega)
  obtain ⟨v1, n1, q1⟩ := st_cp y1
  obtain ⟨v2, n2, q2⟩ := st_cp y2
  obtain ⟨v3, n3, q3⟩ := st_cp y3
  obtain ⟨v4, n4, q4⟩ := st_cp y4
  obtain ⟨v5, n5, q5⟩ := st_cp y5
  obtain ⟨v6, n6, q6⟩ := st_cp y6
  obtain ⟨v7, n7, q7⟩ := st_cp y7
  obtain ⟨v8, n8, q8⟩ := st_cp y8
  obtain ⟨v9, n9, q9⟩ := st_cp y9
  obtain ⟨v10, n10, q10⟩ := st_cp y10
  clear y1 y2 y3 y4 y5 y6 y7 y8 y9 y10
  have W := w1.tr (w2.tr (w3.tr (w4.tr (w5.tr (w6.tr (w7.tr (w8.tr (w9.tr w10))))))))
  have Z : zEq (fun c => c ≠ 89) h g10 := q1.tr (q2.tr (q3.tr (q4.tr (q5.tr (q6.tr (q7.tr (q8.tr (q9.tr q10))))))))
  have f5 : hI g10 89 5 = (n : Int) := by rw [n10 _ _ (by omega), n9 _ _ (by omega), n8 _ _ (by omega), n7 _ _ (by omega), n6 _ _ (by omega), n5 _ _ (by omega), n4 _ _ (by omega), n3 _ _ (by omega), n2 _ _ (by omega)]; exact v1
  have f1 : hI g10 89 1 = 0 := by rw [n10 _ _ (by omega), n9 _ _ (by omega), n8 _ _ (by omega), n7 _ _ (by omega), n6 _ _ (by omega), n5 _ _ (by omega), n4 _ _ (by omega), n3 _ _ (by omega)]; exact v2
  have f4 : hI g10 89 4 = 0 := by rw [n10 _ _ (by omega), n9 _ _ (by omega), n8 _ _ (by omega), n7 _ _ (by omega), n6 _ _ (by omega), n5 _ _ (by omega), n4 _ _ (by omega)]; exact v3
  have f2 : hI g10 89 2 = 0 := by rw [n10 _ _ (by omega), n9 _ _ (by omega), n8 _ _ (by omega), n7 _ _ (by omega), n6 _ _ (by omega), n5 _ _ (by omega)]; exact v4
  have f3 : hI g10 89 3 = -1 := by rw [n10 _ _ (by omega), n9 _ _ (by omega), n8 _ _ (by omega), n7 _ _ (by omega), n6 _ _ (by omega)]; exact v5
  have f24 : hI g10 89 24 = 0 := by rw [n10 _ _ (by omega), n9 _ _ (by omega), n8 _ _ (by omega), n7 _ _ (by omega)]; exact v6
  have f25 : hI g10 89 25 = 0 := by rw [n10 _ _ (by omega), n9 _ _ (by omega), n8 _ _ (by omega)]; exact v7
  have f26 : hI g10 89 26 = -1 := by rw [n10 _ _ (by omega), n9 _ _ (by omega)]; exact v8
  have f27 : hI g10 89 27 = -1 := by rw [n10 _ _ (by omega)]; exact v9
  refine z_up (n := 144) (fun i h2 => zWv E (d + 5 + 1) m_X10_readAll 55 [vo 89, vi i] h2 Q) (fun i h2 => (∀ j, j < i → hI h2 97 j = 0) ∧ zEq (fun c => c ≠ 97) g10 h2) ?_ ?_ 0 g10 (by omega) ⟨fun j hj => by omega, zEq.rf⟩
  · rintro h2 ⟨u1, u2⟩
    refine r_X10_readAll_55 ⟨fun _ => ?_, fun c => by omega⟩
    have L2 : ML0 h2 n b 0 := ⟨by rw [u2.I (by omega)]; exact f5, by rw [u2.I (by omega)]; exact f4, fun k hk => by rw [u2.I (by omega), Z.I (by omega)]; exact hT k hk⟩
    refine c_M_token L2 hn (Nat.zero_le _) (fun h3 x3 e3 z3 => ?_)
    have c9 : ∀ k, k ≠ 4 → k ≠ 6 → k ≠ 7 → k ≠ 8 → hI h3 89 k = hI g10 89 k := fun k a1 a2 a3 a4 => by rw [(e3 89 k (by unfold mW; omega)).1, u2.I (by omega)]
    have wR : MRd h3 n b (.inr (tokF n b 0)) := ⟨by rw [c9 2 (by omega) (by omega) (by omega) (by omega)]; exact f2, by rw [c9 3 (by omega) (by omega) (by omega) (by omega)]; exact f3, x3, (tok_nx (Nat.zero_le _)).1, tok_mn⟩
    have wD : MDr h3 D0 := by
      refine ⟨by rw [c9 24 (by omega) (by omega) (by omega) (by omega)]; exact f24, by rw [c9 25 (by omega) (by omega) (by omega) (by omega)]; exact f25, by rw [c9 26 (by omega) (by omega) (by omega) (by omega)]; exact f26, by rw [c9 27 (by omega) (by omega) (by omega) (by omega)]; exact f27, by rw [c9 28 (by omega) (by omega) (by omega) (by omega)]; exact v10, fun i hi => ?_, fun x y hx hy => ?_⟩
      · have hi : i < 0 := hi
        omega
      · rw [z3.I (by omega)]; exact u1 _ (by omega)
    have A3 : zEw aWW h h3 := W.tr ((zEw.of u2 (fun c i q => by have := q.2.2; omega)).tr (e3.wk (fun c i q => by unfold mW; have := q.1; unfold rM at this; omega)))
    have B3 : zEq (fun c => c < 89) h h3 := (Z.wk (fun c q => by omega)).tr ((u2.wk (fun c q => by omega)).tr (z3.wk (fun c q => by omega)))
    have t3 : hI h3 89 1 = 0 := by rw [c9 1 (by omega) (by omega) (by omega) (by omega)]; exact f1
    have G : ∀ h4, mG h3 h4 → zEw aWW h h4 ∧ zEq (fun c => c < 89) h h4 ∧ hI h4 89 1 = 0 := fun h4 m => ⟨A3.tr (m.1.wk (fun c i q => ⟨q.1, by have := q.2.1; omega, q.2.2⟩)), B3.tr m.2, by rw [(m.1 89 1 (by unfold rM; omega)).1]; exact t3⟩
    refine c_M_lines hn wD wR (fun e he h4 w4 m4 => ?_) (fun D hd okd h4 w4 a4 b4 m4 => ?_)
    · obtain ⟨p1, p2, p3⟩ := G h4 m4
      exact HF e he h4 w4.1 w4.2.1 w4.2.2 p3 p1 p2
    · obtain ⟨p1, p2, p3⟩ := G h4 m4
      exact HO D hd okd h4 w4 a4 b4 p3 p1 p2
  · rintro i h2 hi ⟨u1, u2⟩ ih
    refine r_X10_readAll_55 ⟨fun c => by omega, fun _ => ⟨by omega, ?_⟩⟩
    rw [w32s (by omega)]
    simp only [Int.toNat_natCast]
    intro h6 e6
    obtain ⟨v6, n6, q6⟩ := st_cp e6
    clear e6
    refine ih h6 ⟨fun j hj => ?_, u2.tr q6⟩
    by_cases e : j = i
    · rw [e, v6]
    · rw [n6 _ _ (fun q => e q.2)]; exact u1 j (by omega)
theorem c_M_learn {i j : Nat} {C : zCt} {K : Nat → Nat} {Q : zS → Prop} (hC : okC C) (wk : hI h 98 j = ckd C j) (hi : i < cn C) (hj : j < cn C) (h1 : 0 < ctk C i j) (ci : ckd C i ≠ 3) (cj : ckd C j ≠ 3) (wK : ∀ p, p < cn C → hI h 104 p = (K p : Nat)) (hK : kSp C i j K)
    (HQ : ∀ h1 K', (∀ p, p < cn C → hI h1 104 p = (K' p : Nat)) → kSp C i (j + 1) K' → zEq (fun c => c ≠ 104) h h1 → Q h1) : zCv E d m_X10_learn [vo 89, vi i, vi j] h Q := by
  have hn := hC.1
  have ij : i ≠ j := ((hC.2.2.2.2.2.2 i j).2 h1).2.2
  refine v_X10_learn ⟨by omega, ?_⟩
  simp only [Int.toNat_natCast]
  rw [wK i hi, zb_1 (by omega), zb_or (zb_lt (hK i hi).1) (zb_lt (zb_2k (by omega)))]
  intro h6 x6
  obtain ⟨v6, n6, q6⟩ := st_cp x6
  clear x6
  refine ⟨by omega, ?_⟩
  rw [q6.I (by omega), wk]
  refine ⟨fun k1 => ?_, fun k1 => ?_⟩
  · refine HQ h6 (fun p => if p = i then K i ||| 2 ^ j else K p) (fun p hp => ?_) (kSp_st hC hK hi hj h1 ci cj (by rw [if_pos rfl]) (by rw [if_neg (fun e => ij e.symm), if_pos k1]) (fun p hp pi pj => by rw [if_neg pi])) q6
    by_cases e : p = i
    · rw [if_pos e, e]; exact v6
    · rw [if_neg e, n6 _ _ (fun q => e q.2)]; exact wK p hp
  · have kj : hI h6 104 j = (K j : Nat) := by rw [n6 _ _ (fun q => ij q.2.symm)]; exact wK j hj
    rw [kj, zb_1 (by omega), zb_or (zb_lt (hK j hj).1) (zb_lt (zb_2k (by omega)))]
    intro h8 x8
    obtain ⟨v8, n8, q8⟩ := st_cp x8
    clear x8
    refine HQ h8 (fun p => if p = i then K i ||| 2 ^ j else if p = j then K j ||| 2 ^ i else K p) (fun p hp => ?_) (kSp_st hC hK hi hj h1 ci cj (by rw [if_pos rfl]) (by rw [if_neg (fun e => ij e.symm), if_pos rfl, if_neg k1]) (fun p hp pi pj => by rw [if_neg pi, if_neg pj])) (q6.tr q8)
    by_cases e : p = i
    · rw [if_pos e, e, n8 _ _ (fun q => ij q.2)]; exact v6
    · rw [if_neg e]
      by_cases e2 : p = j
      · rw [if_pos e2, e2]; exact v8
      · rw [if_neg e2, n8 _ _ (fun q => e2 q.2), n6 _ _ (fun q => e q.2)]; exact wK p hp
theorem c_M_fresh {C : zCt} {Q : zS → Prop} (hC : okC C) (wC : MCity h C) (HQ : ∀ h1, MEarn h1 C (nNew C (ckn C)) → zEw (fun c i => ¬ (c = 89 ∧ (i = 54 ∨ i = 55)) ∧ ¬ (115 ≤ c ∧ c ≤ 118)) h h1 → zEq (fun c => c < 89) h h1 → Q h1) : zCv E d m_X10_fresh [vo 89] h Q := by
  have hn := hC.1
  refine v_X10_fresh ?_
  intro g1 y1 g2 y2
  have w1 : zEw (fun c i => ¬ (c = 89 ∧ (i = 54 ∨ i = 55))) h g1 := by rw [y1]; exact zEw_I (by omega)
  have w2 : zEw (fun c i => ¬ (c = 89 ∧ (i = 54 ∨ i = 55))) g1 g2 := by rw [y2]; exact zEw_I (by omega)
  obtain ⟨v1, n1, q1⟩ := st_cp y1
  obtain ⟨v2, n2, q2⟩ := st_cp y2
  clear y1 y2
  have p29 : ∀ h2, zEq (fun c => c < 115 ∨ 118 < c) g2 h2 → hI h2 89 29 = (cn C : Int) := fun h2 e => by rw [e.I (by omega), n2 _ _ (by omega), n1 _ _ (by omega)]; exact wC.1
  have p103 : ∀ h2, zEq (fun c => c < 115 ∨ 118 < c) g2 h2 → ∀ c k, 90 ≤ c → c < 115 → hI h2 c k = hI h c k := fun h2 e c k a1 a2 => by rw [e.I (by omega), q2.I (by omega), q1.I (by omega)]
  refine z_up (n := 12) (fun i h2 => zWv E d m_X10_fresh 12 [vo 89, vi i] h2 Q) (fun i h2 => (∀ p, p < i → hI h2 115 p = -1 ∧ hI h2 116 p = -1 ∧ (p < cn C → hI h2 117 p = (ckn C p : Nat))) ∧ zEq (fun c => c < 115 ∨ 118 < c) g2 h2) ?_ ?_ 0 g2 (by omega) ⟨fun p hp => by omega, zEq.rf⟩
  · rintro h2 ⟨u1, u2⟩
    refine r_X10_fresh_12 ⟨fun _ => ?_, fun c => by omega⟩
    refine z_up (n := 144) (fun i h3 => zWv E d m_X10_fresh 64 [vo 89, vi i] h3 Q) (fun i h3 => (∀ j, j < i → hI h3 118 j = hI h 103 j) ∧ zEq (fun c => c ≠ 118) h2 h3) ?_ ?_ 0 h2 (by omega) ⟨fun p hp => by omega, zEq.rf⟩
    · rintro h3 ⟨t1, t2⟩
      have U3 : zEq (fun c => c < 115 ∨ 118 < c) g2 h3 := u2.tr (t2.wk (fun c q => by omega))
      refine r_X10_fresh_64 ⟨fun _ => HQ h3 ⟨?_, ?_, fun i hi => ?_, fun s hs => ?_, fun x y hx hy => ?_⟩ ((w1.wk (fun c i q => q.1)).tr ((w2.wk (fun c i q => q.1)).tr (zEw.of U3 (fun c i q => by have := q.2; omega)))) ((q1.wk (fun c q => by omega)).tr ((q2.wk (fun c q => by omega)).tr (U3.wk (fun c q => by omega)))), fun c => by omega⟩
      · rw [U3.I (by omega), n2 _ _ (by omega)]; exact v1
      · rw [U3.I (by omega)]; exact v2
      · have k := u1 i (by omega)
        rw [t2.I (by omega), t2.I (by omega), t2.I (by omega)]
        exact ⟨k.1, k.2.1, k.2.2 hi⟩
      · have hs : s < 0 := hs
        omega
      · rw [t1 _ (by omega)]; exact wC.2.2.2.2.2.2.1 x y hx hy
    · rintro i h3 hi ⟨t1, t2⟩ ih
      refine r_X10_fresh_64 ⟨fun c => by omega, fun _ => ⟨by omega, ?_⟩⟩
      rw [w32s (by omega)]
      simp only [Int.toNat_natCast]
      rw [p103 h3 (u2.tr (t2.wk (fun c q => by omega))) 103 i (by omega) (by omega)]
      intro h6 e6
      obtain ⟨v6, n6, q6⟩ := st_cp e6
      clear e6
      refine ih h6 ⟨fun j hj => ?_, t2.tr q6⟩
      by_cases e : j = i
      · rw [e, v6]
      · rw [n6 _ _ (fun q => e q.2)]; exact t1 j (by omega)
  · rintro i h2 hi ⟨u1, u2⟩ ih
    refine r_X10_fresh_12 ⟨fun c => by omega, fun _ => ⟨by omega, ?_⟩⟩
    rw [w32t hi]
    simp only [Int.toNat_natCast]
    intro h3 x3 h4 x4
    obtain ⟨v3, n3, q3⟩ := st_cp x3
    obtain ⟨v4, n4, q4⟩ := st_cp x4
    clear x3 x4
    refine ⟨fun _ => by omega, ?_⟩
    have U4 : zEq (fun c => c < 115 ∨ 118 < c) g2 h4 := u2.tr ((q3.wk (fun c q => by omega)).tr (q4.wk (fun c q => by omega)))
    have a29 := p29 h4 U4
    have a104 := p103 h4 U4 104 i (by omega) (by omega)
    intro h5 x5
    obtain ⟨v5, n5, q5⟩ := st_cp x5
    clear x5
    refine ih h5 ⟨fun p hp => ?_, U4.tr (q5.wk (fun c q => by omega))⟩
    by_cases e : p = i
    · rw [e]
      refine ⟨by rw [q5.I (by omega), q4.I (by omega)]; exact v3, by rw [q5.I (by omega)]; exact v4, fun pn => ?_⟩
      rw [v5, if_neg (by rw [a29]; omega), a104]
      exact wC.2.2.2.2.2.2.2 i pn
    · have k := u1 p (by omega)
      rw [q5.I (by omega), q4.I (by omega), n3 _ _ (fun q => e q.2), q5.I (by omega), n4 _ _ (fun q => e q.2), q3.I (by omega), n5 _ _ (fun q => e q.2), q4.I (by omega), q3.I (by omega)]
      exact k
end MC
