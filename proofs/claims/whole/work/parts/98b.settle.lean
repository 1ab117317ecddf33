/-! the class: settle -/
def sW1 (t c i : Nat) : Prop := ¬ (c = t ∧ 14 ≤ i) ∧ c ≠ t + 8 ∧ c ≠ t + 9
theorem set_up {A i : Nat} {f : Nat → Prop} (hi : i < 12) (a1 : A < 4096) (a2 : ∀ x, A.testBit x = true ↔ x < i ∧ f x) (p : Prop) [Decidable p] (hp : p ↔ f i) : ∃ A' : Nat, z_or (A : Int) (if p then ((2 ^ i : Nat) : Int) else 0) = (A' : Int) ∧ A' < 4096 ∧ ∀ x, A'.testBit x = true ↔ x < i + 1 ∧ f x := by
  by_cases c : p
  · refine ⟨A ||| 2 ^ i, by rw [if_pos c, zb_or (zb_lt a1) (zb_lt (zb_2k hi))], zb_orlt a1 (zb_2k hi), fun x => ?_⟩
    rw [Nat.testBit_or, Bool.or_eq_true, zb_t2, decide_eq_true_eq, a2]
    constructor
    · rintro (q | q)
      · exact ⟨by omega, q.2⟩
      · rw [← q]; exact ⟨by omega, hp.mp c⟩
    · rintro ⟨q1, q2⟩
      by_cases e : x = i
      · exact .inr e.symm
      · exact .inl ⟨by omega, q2⟩
  · refine ⟨A, ?_, a1, fun x => ?_⟩
    · rw [if_neg c]
      have := zb_or (a := A) (b := 0) (zb_lt a1) (by omega)
      rw [Nat.or_zero] at this
      exact this
    · rw [a2]
      constructor
      · rintro ⟨q1, q2⟩; exact ⟨by omega, q2⟩
      · rintro ⟨q1, q2⟩
        by_cases e : x = i
        · rw [e] at q2; exact absurd (hp.mpr q2) c
        · exact ⟨by omega, q2⟩
theorem set_eq {A : Nat} {g : Nat → Bool} (a1 : A < 4096) (a2 : ∀ x, x < 12 → (A.testBit x = true ↔ g x = true)) : A = bset g := by
  refine nat_bits a1 (bset_lt _) (fun i hi => ?_)
  rw [bset_t]
  have := a2 i hi
  cases p : A.testBit i <;> cases q : g i
  · simp
  · rw [this.mpr q] at p; cases p
  · rw [this.mp p] at q; cases q
  · simp [hi]
def rSp (C : zCt) (i j : Nat) (R : Nat → Nat) : Prop := ∀ p, p < cn C → R p < 4096 ∧ ∀ q, (R p).testBit q = true ↔ q < cn C ∧ bef i j p q ∧ 0 < ctk C p q
section SE2
variable {E : zE} {d : Nat} {h : zS}
theorem c_isBx {t i : Nat} {C : zCt} {Q : Int → zS → Prop} (ht : isCity t) (hC : okC C) (w : hI h t 14 = (cbox C : Nat)) (hi : i < cn C) (HQ : Q (if ckd C i = 3 then 1 else 0) h) : zCi E (d + 1) m_X0_isBox [vo t, vi i] h Q := by
  refine v_X0_isBox ht ?_
  rw [w]
  have := hC.1
  refine c_isIn (cbox_lt C) (by omega) ?_
  by_cases c : ckd C i = 3
  · rw [(cbox_t this).mpr ⟨hi, c⟩]
    rw [if_pos c] at HQ
    exact ⟨by simp, HQ⟩
  · have e : (cbox C).testBit i = false := by
      cases q : (cbox C).testBit i
      · rfl
      · exact absurd ((cbox_t this).mp q).2 c
    rw [e]
    rw [if_neg c] at HQ
    exact ⟨by simp, HQ⟩
theorem c_introduce {t i j : Nat} {C : zCt} {K : Nat → Nat} {Q : zS → Prop} (ht : isCity t) (hC : okC C) (w14 : hI h t 14 = (cbox C : Nat)) (wk : hI h (t + 2) j = ckd C j) (hi : i < cn C) (hj : j < cn C) (h1 : 0 < ctk C i j) (wK : ∀ p, p < cn C → hI h (t + 9) p = (K p : Nat)) (hK : kSp C i j K)
    (HQ : ∀ h1 K', (∀ p, p < cn C → hI h1 (t + 9) p = (K' p : Nat)) → kSp C i (j + 1) K' → zE3 (fun c _ => c ≠ t + 9) h h1 → Q h1) : zCv E (d + 2) m_X0_introduce [vo t, vi i, vi j] h Q := by
  have hn := hC.1
  have ij : i ≠ j := ((hC.2.2.2.2.2.2 i j).2 h1).2.2
  refine v_X0_introduce ht ?_
  refine c_isBx ht hC w14 hi ?_
  by_cases ci : ckd C i = 3
  · rw [if_pos ci]
    exact ⟨fun _ => HQ h K wK (kSp_skip hK (fun q => q.2.1 ci)) zE3.rf, fun e => by omega⟩
  · rw [if_neg ci]
    refine ⟨fun e => absurd rfl e, fun _ => ?_⟩
    refine c_isBx ht hC w14 hj ?_
    by_cases cj : ckd C j = 3
    · rw [if_pos cj]
      exact ⟨fun e => by omega, fun _ => HQ h K wK (kSp_skip hK (fun q => q.2.2 cj)) zE3.rf⟩
    · rw [if_neg cj]
      refine ⟨fun _ => ⟨by omega, ?_⟩, fun e => absurd rfl e⟩
      simp only [Int.toNat_natCast]
      rw [wK i hi, zb_1 (by omega), zb_or (zb_lt (hK i hi).1) (zb_lt (zb_2k (by omega)))]
      intro h6 x6
      have z6 : zE3 (fun c _ => c ≠ t + 9) h h6 := by rw [x6]; exact zE3.I (fun q => q rfl)
      obtain ⟨v6, n6, q6⟩ := st_cp x6
      clear x6
      refine ⟨by omega, ?_⟩
      rw [q6.I (by omega), wk]
      refine ⟨fun k1 => ?_, fun k1 => ?_⟩
      · refine HQ h6 (fun p => if p = i then K i ||| 2 ^ j else K p) (fun p hp => ?_) (kSp_st hC hK hi hj h1 ci cj (by rw [if_pos rfl]) (by rw [if_neg (fun e => ij e.symm), if_pos k1]) (fun p hp pi pj => by rw [if_neg pi])) z6
        by_cases e : p = i
        · rw [if_pos e, e]; exact v6
        · rw [if_neg e, n6 _ _ (fun q => e q.2)]; exact wK p hp
      · have kj : hI h6 (t + 9) j = (K j : Nat) := by rw [n6 _ _ (fun q => ij q.2.symm)]; exact wK j hj
        rw [kj, zb_1 (by omega), zb_or (zb_lt (hK j hj).1) (zb_lt (zb_2k (by omega)))]
        intro h8 x8
        have z8 : zE3 (fun c _ => c ≠ t + 9) h6 h8 := by rw [x8]; exact zE3.I (fun q => q rfl)
        obtain ⟨v8, n8, q8⟩ := st_cp x8
        clear x8
        refine HQ h8 (fun p => if p = i then K i ||| 2 ^ j else if p = j then K j ||| 2 ^ i else K p) (fun p hp => ?_) (kSp_st hC hK hi hj h1 ci cj (by rw [if_pos rfl]) (by rw [if_neg (fun e => ij e.symm), if_pos rfl, if_neg k1]) (fun p hp pi pj => by rw [if_neg pi, if_neg pj])) (z6.tr z8)
        by_cases e : p = i
        · rw [if_pos e, e, n8 _ _ (fun q => ij q.2)]; exact v6
        · rw [if_neg e]
          by_cases e2 : p = j
          · rw [if_pos e2, e2]; exact v8
          · rw [if_neg e2, n8 _ _ (fun q => e2 q.2), n6 _ _ (fun q => e q.2)]; exact wK p hp
theorem c_settle {t : Nat} {D : zDf} {Q : zS → Prop} (ht : isCity t) (hD : okD D) (wD : XDr h t D) (HQ : ∀ h1, XCity h1 t (dC D) → zE3 (sW1 t) h h1 → Q h1) : zCv E (d + 3) m_X0_settle [vo t] h Q := by
  have hC := hD.1
  have hn := hC.1
  have k4 := city_lt ht
  obtain ⟨d1, d2, d3, d4, d5, d6, d7, d8⟩ := wD
  generalize hC' : dC D = C at *
  refine v_X0_settle ht ?_
  intro h1 x1 h2 x2 h3 x3
  have z1 : zE3 (sW1 t) h h1 := by rw [x1]; exact zE3.I (by unfold sW1; omega)
  have z2 : zE3 (sW1 t) h1 h2 := by rw [x2]; exact zE3.I (by unfold sW1; omega)
  have z3 : zE3 (sW1 t) h2 h3 := by rw [x3]; exact zE3.I (by unfold sW1; omega)
  obtain ⟨v1, n1, _⟩ := st_cp x1
  obtain ⟨v2, n2, _⟩ := st_cp x2
  obtain ⟨v3, n3, _⟩ := st_cp x3
  clear x1 x2 x3
  have Z3 := z1.tr (z2.tr z3)
  have b0 : ∀ h2, zE3 (sW1 t) h h2 → hI h2 t 0 = (cn C : Int) := fun h2 e => by rw [(e t 0 (by unfold sW1; omega)).1]; exact d1
  have bk : ∀ h2, zE3 (sW1 t) h h2 → ∀ i, i < cn C → hI h2 (t + 2) i = ckd C i ∧ hI h2 (t + 4) i = cho C i := fun h2 e i hi => ⟨by rw [(e (t + 2) i (by unfold sW1; omega)).1]; exact (d6 i hi).2.1, by rw [(e (t + 4) i (by unfold sW1; omega)).1]; exact (d6 i hi).2.2.2.1⟩
  have bt : ∀ h2, zE3 (sW1 t) h h2 → ∀ x y, x < 12 → y < 12 → hI h2 (t + 7) (12 * x + y) = ctk C x y := fun h2 e x y hx hy => by rw [(e (t + 7) _ (by unfold sW1; omega)).1]; exact d7 x y hx hy
  refine z_upS (σ := Nat × Nat × Nat × zS) (n := cn C) (fun i s => zWv E (d + 2 + 1) m_X0_settle 17 [vo t, vi i, vn] s.2.2.2 Q)
    (fun i s => (hI s.2.2.2 t 14 = (s.1 : Nat) ∧ s.1 < 4096 ∧ ∀ x, s.1.testBit x = true ↔ x < i ∧ ckd C x = 3) ∧ (hI s.2.2.2 t 15 = (s.2.1 : Nat) ∧ s.2.1 < 4096 ∧ ∀ x, s.2.1.testBit x = true ↔ x < i ∧ (ckd C x = 2 ∨ cho C x = 0)) ∧ (hI s.2.2.2 t 16 = (s.2.2.1 : Nat) ∧ s.2.2.1 < 4096 ∧ ∀ x, s.2.2.1.testBit x = true ↔ x < i ∧ (ckd C x = 2 ∨ ckd C x = 3)) ∧ (∀ p, p < i → hI s.2.2.2 (t + 8) p = 0 ∧ hI s.2.2.2 (t + 9) p = 0) ∧ zE3 (sW1 t) h s.2.2.2) ?_ ?_ 0 (0, 0, 0, h3) (by omega) ?_
  · rintro ⟨A, P, S, h4⟩ ⟨⟨u1, u2, u3⟩, ⟨u4, u5, u6⟩, ⟨u7, u8, u9⟩, u10, u11⟩
    dsimp only at u1 u2 u3 u4 u5 u6 u7 u8 u9 u10 u11 ⊢
    have eA : A = cbox C := by
      unfold cbox
      refine set_eq u2 (fun x _ => ?_)
      rw [u3]; simp only [Bool.and_eq_true, decide_eq_true_eq]
    have eP : P = cpr C := by
      unfold cpr
      refine set_eq u5 (fun x _ => ?_)
      rw [u6]; unfold cprB; simp only [Bool.and_eq_true, Bool.or_eq_true, decide_eq_true_eq]
    have eS : S = cst C := by
      unfold cst
      refine set_eq u8 (fun x _ => ?_)
      rw [u9]; simp only [Bool.and_eq_true, Bool.or_eq_true, decide_eq_true_eq]
    rw [eA] at u1
    rw [eP] at u4
    rw [eS] at u7
    clear u2 u3 u5 u6 u8 u9 eA eP eS
    refine r_X0_settle_17 ht ⟨fun _ => ?_, fun c => by rw [b0 h4 u11] at c; omega⟩
    -- the pairs
    refine z_upS (σ := (Nat → Nat) × (Nat → Nat) × zS) (n := cn C) (fun i s => zWv E (d + 2 + 1) m_X0_settle 144 [vo t, vi i, vn] s.2.2 Q)
      (fun i s => (∀ p, p < cn C → hI s.2.2 (t + 8) p = (s.1 p : Nat) ∧ hI s.2.2 (t + 9) p = (s.2.1 p : Nat)) ∧ rSp C i 0 s.1 ∧ kSp C i 0 s.2.1 ∧ (hI s.2.2 t 14 = (cbox C : Nat) ∧ hI s.2.2 t 15 = (cpr C : Nat) ∧ hI s.2.2 t 16 = (cst C : Nat)) ∧ zE3 (sW1 t) h s.2.2) ?_ ?_ 0 ((fun _ => 0), (fun _ => 0), h4) (by omega) ?_
    · rintro ⟨R, K, h5⟩ ⟨r1, r2, r3, r4, r5⟩
      dsimp only at r1 r2 r3 r4 r5 ⊢
      refine r_X0_settle_144 ht ⟨fun _ => ?_, fun c => by rw [b0 h5 r5] at c; omega⟩
      refine HQ h5 ⟨b0 h5 r5, ?_, ?_, ?_, ?_, fun i hi => ?_, bt h5 r5, fun i hi => ⟨?_, ?_⟩, r4.1, r4.2.1, r4.2.2⟩ r5
      · rw [(r5 t 1 (by unfold sW1; omega)).1]; exact d2
      · rw [(r5 t 2 (by unfold sW1; omega)).1]; exact d3
      · rw [(r5 t 3 (by unfold sW1; omega)).1]; exact d4
      · rw [(r5 t 4 (by unfold sW1; omega)).1]; exact d5
      · rw [(r5 (t + 2) i (by unfold sW1; omega)).1, (r5 (t + 3) i (by unfold sW1; omega)).1, (r5 (t + 4) i (by unfold sW1; omega)).1, (r5 (t + 5) i (by unfold sW1; omega)).1, (r5 (t + 6) i (by unfold sW1; omega)).1]
        exact (d6 i hi).2
      · rw [(r1 i hi).1]
        have : R i = crc C i := by
          unfold crc
          refine set_eq (r2 i hi).1 (fun x _ => ?_)
          rw [(r2 i hi).2]
          simp only [Bool.and_eq_true, decide_eq_true_eq]
          exact ⟨fun q => ⟨q.1, q.2.2⟩, fun q => ⟨q.1, by unfold bef; omega, q.2⟩⟩
        rw [this]
      · rw [(r1 i hi).2, kSp_end hC r3 hi]
    · rintro i ⟨R, K, h5⟩ hi ⟨r1, r2, r3, r4, r5⟩ ih
      dsimp only at r1 r2 r3 r4 r5 ih ⊢
      have i12 : i < 12 := Nat.lt_of_lt_of_le hi hn
      refine r_X0_settle_144 ht ⟨fun c => by rw [b0 h5 r5] at c; omega, fun _ => ?_⟩
      refine z_upS (σ := (Nat → Nat) × (Nat → Nat) × zS) (n := cn C) (fun j s => zWv E (d + 2 + 1) m_X0_settle 154 [vo t, vi i, vi j] s.2.2 Q)
        (fun j s => (∀ p, p < cn C → hI s.2.2 (t + 8) p = (s.1 p : Nat) ∧ hI s.2.2 (t + 9) p = (s.2.1 p : Nat)) ∧ rSp C i j s.1 ∧ kSp C i j s.2.1 ∧ (hI s.2.2 t 14 = (cbox C : Nat) ∧ hI s.2.2 t 15 = (cpr C : Nat) ∧ hI s.2.2 t 16 = (cst C : Nat)) ∧ zE3 (sW1 t) h s.2.2) ?_ ?_ 0 (R, K, h5) (by omega) ⟨r1, r2, r3, r4, r5⟩
      · rintro ⟨R2, K2, h6⟩ ⟨t1, t2, t3, t4, t5⟩
        dsimp only at t1 t2 t3 t4 t5 ⊢
        refine r_X0_settle_154 ht ⟨fun _ => ?_, fun c => by rw [b0 h6 t5] at c; omega⟩
        rw [w32t i12]
        refine ih (R2, K2, h6) ⟨t1, fun p hp => ⟨(t2 p hp).1, fun q => ?_⟩, kSp_row t3, t4, t5⟩
        rw [(t2 p hp).2]
        exact ⟨fun x => ⟨x.1, by have := x.2.1; unfold bef at *; omega, x.2.2⟩, fun x => ⟨x.1, by have := x.2.1; unfold bef at *; omega, x.2.2⟩⟩
      · rintro j ⟨R2, K2, h6⟩ hj ⟨t1, t2, t3, t4, t5⟩ ih2
        dsimp only at t1 t2 t3 t4 t5 ih2 ⊢
        have j12 : j < 12 := Nat.lt_of_lt_of_le hj hn
        refine r_X0_settle_154 ht ⟨fun c => by rw [b0 h6 t5] at c; omega, fun _ => ?_⟩
        rw [w32t j12]
        refine c_gives ht (bt h6 t5) i12 j12 ?_
        by_cases cg : 0 < ctk C i j
        · rw [if_pos cg]
          refine ⟨fun e => by omega, fun _ => ⟨by omega, ?_⟩⟩
          simp only [Int.toNat_natCast]
          rw [(t1 i hi).1, zb_1 (by omega), zb_or (zb_lt (t2 i hi).1) (zb_lt (zb_2k j12))]
          intro h7 x7
          have z7 : zE3 (fun c k => ¬ (c = t + 8 ∧ k = i)) h6 h7 := by rw [x7]; exact zE3.I (fun q => q ⟨rfl, rfl⟩)
          have v7 := (st_cp x7).1
          clear x7
          have T7 : zE3 (sW1 t) h h7 := t5.tr (z7.wk (fun c k q => by have := q.2.1; omega))
          refine c_introduce (K := K2) ht hC (by rw [(z7 _ _ (by omega)).1]; exact t4.1) (bk h7 T7 j hj).1 hi hj cg (fun p hp => by rw [(z7 _ _ (by omega)).1]; exact (t1 p hp).2) t3 (fun h8 K3 k1 k2 k3 => ?_)
          refine ih2 ((fun p => if p = i then R2 i ||| 2 ^ j else R2 p), K3, h8) ⟨fun p hp => ⟨?_, k1 p hp⟩, fun p hp => ?_, k2, ⟨?_, ?_, ?_⟩, T7.tr (k3.wk (fun c k q => q.2.2))⟩
          · dsimp only
            rw [(k3 _ _ (by omega)).1]
            by_cases e : p = i
            · rw [if_pos e, e]; exact v7
            · rw [if_neg e, (z7 _ _ (fun q => e q.2)).1]; exact (t1 p hp).1
          · dsimp only
            by_cases e : p = i
            · rw [if_pos e, e]
              refine ⟨zb_orlt (t2 i hi).1 (zb_2k j12), fun q => ?_⟩
              rw [Nat.testBit_or, Bool.or_eq_true, zb_t2, decide_eq_true_eq, (t2 i hi).2]
              constructor
              · rintro (x | x)
                · exact ⟨x.1, by have := x.2.1; unfold bef at *; omega, x.2.2⟩
                · rw [← x]; exact ⟨hj, by unfold bef; omega, cg⟩
              · rintro ⟨x1, x2, x3⟩
                by_cases qj : q = j
                · exact .inr qj.symm
                · exact .inl ⟨x1, by unfold bef at *; omega, x3⟩
            · rw [if_neg e]
              refine ⟨(t2 p hp).1, fun q => ?_⟩
              rw [(t2 p hp).2]
              exact ⟨fun x => ⟨x.1, by have := x.2.1; unfold bef at *; omega, x.2.2⟩, fun x => ⟨x.1, by have := x.2.1; unfold bef at *; omega, x.2.2⟩⟩
          · rw [(k3 _ _ (by omega)).1, (z7 _ _ (by omega)).1]; exact t4.1
          · rw [(k3 _ _ (by omega)).1, (z7 _ _ (by omega)).1]; exact t4.2.1
          · rw [(k3 _ _ (by omega)).1, (z7 _ _ (by omega)).1]; exact t4.2.2
        · rw [if_neg cg]
          refine ⟨fun _ => ?_, fun e => absurd rfl e⟩
          refine ih2 (R2, K2, h6) ⟨t1, fun p hp => ⟨(t2 p hp).1, fun q => ?_⟩, kSp_skip t3 (fun q => cg q.1), t4, t5⟩
          rw [(t2 p hp).2]
          constructor
          · rintro ⟨a, b, c⟩; exact ⟨a, by unfold bef at *; omega, c⟩
          · rintro ⟨a, b, c⟩
            refine ⟨a, ?_, c⟩
            by_cases e : p = i ∧ q = j
            · rw [e.1, e.2] at c; exact absurd c cg
            · unfold bef at *; omega
    · dsimp only
      refine ⟨fun p hp => u10 p hp, fun p hp => ⟨by show 0 < 4096; omega, fun q => ?_⟩, kSp_0 (fun _ _ => rfl), ⟨u1, u4, u7⟩, u11⟩
      show (0 : Nat).testBit q = true ↔ _
      rw [Nat.zero_testBit]
      exact ⟨fun x => absurd x (by decide), fun x => by have := x.2.1; unfold bef at this; omega⟩
  · rintro i ⟨A, P, S, h4⟩ hi ⟨⟨u1, u2, u3⟩, ⟨u4, u5, u6⟩, ⟨u7, u8, u9⟩, u10, u11⟩ ih
    dsimp only at u1 u2 u3 u4 u5 u6 u7 u8 u9 u10 u11 ih ⊢
    have i12 : i < 12 := Nat.lt_of_lt_of_le hi hn
    refine r_X0_settle_17 ht ⟨fun c => by rw [b0 h4 u11] at c; omega, fun _ => ⟨by omega, ?_⟩⟩
    simp only [Int.toNat_natCast]
    rw [w32t i12]
    intro h5 x5
    have z5 : zE3 (fun c k => ¬ (c = t + 8 ∧ k = i)) h4 h5 := by rw [x5]; exact zE3.I (fun q => q ⟨rfl, rfl⟩)
    have v5 := (st_cp x5).1
    clear x5
    intro h6 x6
    have z6 : zE3 (fun c k => ¬ (c = t + 9 ∧ k = i)) h5 h6 := by rw [x6]; exact zE3.I (fun q => q ⟨rfl, rfl⟩)
    have v6 := (st_cp x6).1
    clear x6
    have T6 : zE3 (sW1 t) h h6 := u11.tr ((z5.wk (fun c k q => by have := q.2.1; omega)).tr (z6.wk (fun c k q => by have := q.2.2; omega)))
    have kk := bk h6 T6 i hi
    have sh := zb_1 (k := i) (by omega)
    have a6 : hI h6 t 14 = (A : Nat) := by rw [(z6 _ _ (by omega)).1, (z5 _ _ (by omega)).1]; exact u1
    obtain ⟨A', ea, la, ta⟩ := set_up (f := fun x => ckd C x = 3) i12 u2 u3 (ckd C i = 3) Iff.rfl
    intro h8 x8
    have e8 : z_or (hI h6 t 14) (if hI h6 (t + 2) i ≠ 3 then 0 else z_shl 1 (i : Int)) = (A' : Int) := by
      rw [a6, ← ea, sh]
      congr 1
      by_cases c : ckd C i = 3
      · rw [if_neg (by rw [kk.1]; exact fun q => q c), if_pos c]
      · rw [if_pos (by rw [kk.1]; exact c), if_neg c]
    rw [e8] at x8
    have z8 : zE3 (fun c k => ¬ (c = t ∧ k = 14)) h6 h8 := by rw [x8]; exact zE3.I (fun q => q ⟨rfl, rfl⟩)
    have v8 := (st_cp x8).1
    clear x8 e8
    refine ⟨fun _ => by omega, ?_⟩
    have T8 : zE3 (sW1 t) h h8 := T6.tr (z8.wk (fun c k q => by have := q.1; omega))
    have kk8 := bk h8 T8 i hi
    have p8 : hI h8 t 15 = (P : Nat) := by rw [(z8 _ _ (by omega)).1, (z6 _ _ (by omega)).1, (z5 _ _ (by omega)).1]; exact u4
    obtain ⟨P', ep, lp, tp⟩ := set_up (f := fun x => ckd C x = 2 ∨ cho C x = 0) i12 u5 u6 (ckd C i = 2 ∨ cho C i = 0) Iff.rfl
    intro h9 x9
    have e9 : z_or (hI h8 t 15) (if hI h8 (t + 2) i = 2 then z_shl 1 (i : Int) else if hI h8 (t + 4) i ≠ 0 then 0 else z_shl 1 (i : Int)) = (P' : Int) := by
      rw [p8, ← ep, sh]
      congr 1
      by_cases c : ckd C i = 2
      · rw [if_pos (by rw [kk8.1]; exact c), if_pos (.inl c)]
      · rw [if_neg (by rw [kk8.1]; exact c)]
        by_cases c2 : cho C i = 0
        · rw [if_neg (by rw [kk8.2]; exact fun q => q c2), if_pos (.inr c2)]
        · rw [if_pos (by rw [kk8.2]; exact c2), if_neg (by omega)]
    rw [e9] at x9
    have z9 : zE3 (fun c k => ¬ (c = t ∧ k = 15)) h8 h9 := by rw [x9]; exact zE3.I (fun q => q ⟨rfl, rfl⟩)
    have v9 := (st_cp x9).1
    clear x9 e9
    refine ⟨fun _ => by omega, ?_⟩
    have T9 : zE3 (sW1 t) h h9 := T8.tr (z9.wk (fun c k q => by have := q.1; omega))
    have kk9 := bk h9 T9 i hi
    have s9 : hI h9 t 16 = (S : Nat) := by rw [(z9 _ _ (by omega)).1, (z8 _ _ (by omega)).1, (z6 _ _ (by omega)).1, (z5 _ _ (by omega)).1]; exact u7
    obtain ⟨S', es, ls, ts⟩ := set_up (f := fun x => ckd C x = 2 ∨ ckd C x = 3) i12 u8 u9 (ckd C i = 2 ∨ ckd C i = 3) Iff.rfl
    intro h10 x10
    have e10 : z_or (hI h9 t 16) (if hI h9 (t + 2) i = 2 then z_shl 1 (i : Int) else if hI h9 (t + 2) i ≠ 3 then 0 else z_shl 1 (i : Int)) = (S' : Int) := by
      rw [s9, ← es, sh]
      congr 1
      by_cases c : ckd C i = 2
      · rw [if_pos (by rw [kk9.1]; exact c), if_pos (.inl c)]
      · rw [if_neg (by rw [kk9.1]; exact c)]
        by_cases c2 : ckd C i = 3
        · rw [if_neg (by rw [kk9.1]; exact fun q => q c2), if_pos (.inr c2)]
        · rw [if_pos (by rw [kk9.1]; exact c2), if_neg (by omega)]
    rw [e10] at x10
    have z10 : zE3 (fun c k => ¬ (c = t ∧ k = 16)) h9 h10 := by rw [x10]; exact zE3.I (fun q => q ⟨rfl, rfl⟩)
    have v10 := (st_cp x10).1
    clear x10 e10
    refine ih (A', P', S', h10) ⟨⟨?_, la, ta⟩, ⟨?_, lp, tp⟩, ⟨v10, ls, ts⟩, fun p hp => ?_, T9.tr (z10.wk (fun c k q => by have := q.1; omega))⟩
    · dsimp only; rw [(z10 _ _ (by omega)).1, (z9 _ _ (by omega)).1]; exact v8
    · dsimp only; rw [(z10 _ _ (by omega)).1]; exact v9
    · dsimp only
      rw [(z10 _ _ (by omega)).1, (z9 _ _ (by omega)).1, (z8 _ _ (by omega)).1, (z10 _ _ (by omega)).1, (z9 _ _ (by omega)).1, (z8 _ _ (by omega)).1]
      by_cases e : p = i
      · rw [e]; exact ⟨by rw [(z6 _ _ (by omega)).1]; exact v5, v6⟩
      · rw [(z6 _ _ (by omega)).1, (z6 _ _ (fun q => e q.2)).1, (z5 _ _ (fun q => e q.2)).1, (z5 _ _ (by omega)).1]; exact u10 p (by omega)
  · dsimp only
    have zz : ∀ x, (0 : Nat).testBit x = true ↔ x < 0 ∧ (ckd C x = 3) := fun x => by rw [Nat.zero_testBit]; exact ⟨fun q => absurd q (by decide), fun q => by omega⟩
    refine ⟨⟨by rw [n3 _ _ (by omega), n2 _ _ (by omega)]; exact v1, by omega, zz⟩, ⟨by rw [n3 _ _ (by omega)]; exact v2, by omega, fun x => by rw [Nat.zero_testBit]; exact ⟨fun q => absurd q (by decide), fun q => by omega⟩⟩, ⟨v3, by omega, fun x => by rw [Nat.zero_testBit]; exact ⟨fun q => absurd q (by decide), fun q => by omega⟩⟩, fun p hp => by omega, Z3⟩
end SE2
