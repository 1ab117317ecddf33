/-! all lines -/
def D0 : zDf := (((0, 0, -1, -1, 0), (fun _ _ => 0), (fun _ _ => 0)), (fun _ => 0), false)
theorem okD_0 : okD D0 := by
  refine ⟨⟨by show 0 ≤ 12; omega, by show 0 ≤ 30; omega, by show (-1 : Int) ≤ -1 ∧ (-1 : Int) < ((0 : Nat) : Int); omega, by show (-1 : Int) ≤ -1 ∧ (-1 : Int) < ((0 : Nat) : Int); omega, by show (0 : Int) ≤ 0 ∧ (0 : Int) ≤ 9; omega, fun i hi => ?_, fun x y => ?_⟩, fun i j hi => ?_, fun _ => rfl⟩
  · have hi : i < 0 := hi
    omega
  · exact ⟨by show (0 : Int) ≤ 0 ∧ (0 : Int) ≤ 9; omega, fun q => by have q : (0 : Int) < 0 := q; omega⟩
  · have hi : i < 0 := hi
    omega
def pN (n : Nat) (T : zTk) (s : zSt) : Prop := ∀ T', s = .inr T' → tnx T ≤ tnx T' ∧ (tcd T' = 16 ∨ tnx T < tnx T') ∧ tnx T' ≤ n
theorem pN_a {n : Nat} {b : Nat → Nat} {T T1 : zTk} (h : pN n T (.inr T1)) : pN n T (.inr (adv n b T1)) := by
  intro T' e
  cases e
  obtain ⟨a1, a2, a3⟩ := h T1 rfl
  obtain ⟨k1, k2, k3, _⟩ := tok_nx (b := b) a3
  refine ⟨Nat.le_trans a1 k2, ?_, k1⟩
  rcases k3 with q | q
  · exact .inl q
  · exact .inr (Nat.lt_of_le_of_lt a1 q)
theorem pN_0 {n : Nat} {b : Nat → Nat} {T : zTk} (h : tnx T ≤ n) : pN n T (.inr (adv n b T)) := by
  intro T' e
  cases e
  obtain ⟨k1, k2, k3, _⟩ := tok_nx (b := b) h
  exact ⟨k2, k3, k1⟩
theorem pN_ps {n k : Nat} {b : Nat → Nat} {T : zTk} {s : zSt} (h : pN n T s) : pN n T (psS n b k s) := by
  intro T' e
  obtain ⟨T1, a, _, c⟩ := psS_r e
  subst a
  rw [c]
  exact pN_a h _ rfl
theorem pN_nm {n : Nat} {b : Nat → Nat} {lo hi : Int} {T : zTk} {s : zSt} (h : pN n T s) : pN n T (nmS n b lo hi s) := by
  intro T' e
  obtain ⟨T1, a, _, _, _, c, _⟩ := nmS_r e
  subst a
  rw [c]
  exact pN_a h _ rfl
theorem pN_kn {n : Nat} {b : Nat → Nat} {D : zDf} {T : zTk} {s : zSt} (h : pN n T s) : pN n T (knS n b D s) := by
  intro T' e
  obtain ⟨T1, a, _, c, _⟩ := knS_r e
  subst a
  rw [c]
  exact pN_a h _ rfl
theorem ln_nx {n : Nat} {b : Nat → Nat} {D : zDf} {T T' : zTk} (hT : tnx T ≤ n) (h : lnS n b D T = .inr T') : tnx T < tnx T' ∧ tnx T' ≤ n := by
  unfold lnS at h
  by_cases mb : bD (mayB D T) = true
  · rw [if_pos mb] at h
    obtain ⟨Tk, a1, a2, a3⟩ := psS_r h
    have base : pN n T (.inr (adv n b T)) := pN_0 hT
    have key : pN n T (.inr Tk) := by
      rw [← a1]
      split
      · unfold roS
        split
        · intro x e; cases e
        · split
          · intro x e; cases e
          · unfold ro5 ro4 ro3 ro2 ro1
            refine pN_nm (pN_ps (pN_nm (pN_ps (pN_nm (pN_ps (pN_nm (pN_ps ?_)))))))
            unfold ro0
            split
            · exact pN_a (pN_a base)
            · exact pN_a base
      · split
        · unfold rgS
          have k := pN_kn (D := D) (b := b) base
          cases s1 : knS n b D (.inr (adv n b T)) with
          | inl e => intro x e; cases e
          | inr T1 =>
            rw [s1] at k
            rw [rg2_i]
            split
            · intro x e; cases e
            · exact pN_nm (pN_ps (pN_kn k))
        · split
          · exact pN_nm base
          · exact pN_kn base
    obtain ⟨b1, b2, b3⟩ := key Tk rfl
    obtain ⟨k1, k2, _, _⟩ := tok_nx (b := b) b3
    rw [a3]
    refine ⟨Nat.lt_of_lt_of_le ?_ k2, k1⟩
    rcases b2 with q | q
    · omega
    · exact q
  · rw [if_neg mb] at h; cases h
theorem rdL_s {n f : Nat} {b : Nat → Nat} {D : zDf} {T : zTk} : rdL n b (f + 1) D T = if tcd T = 16 then .inr D else match lnS n b D T with
    | .inl e => .inl e
    | .inr T' => rdL n b f (lnD n b D T) T' := rfl
section LP
variable {E : zE} {d : Nat} {h : zS}
/-- the class's lines; P holds at the end of a text, F at a fault -/
theorem c_lines {t n : Nat} {b : Nat → Nat} {T0 : zTk} {Q : Int → zS → Prop} (K : rK t n b) (wD : XDr h t D0) (w : XRd h t n b (.inr T0))
    (HF : ∀ e, rdL n b 1601 D0 T0 = .inl e → ∀ h1, hI h1 2 3 = e.1 → hI h1 2 4 = e.2 → zE3 (fun c i => dWW t c i ∧ c ≠ 2) h h1 → Q 0 h1)
    (HO : ∀ D, rdL n b 1601 D0 T0 = .inr D → okD D → ∀ h1, XDr h1 t D → hI h1 2 3 = 0 → hI h1 2 4 = -1 → zE3 (fun c i => dWW t c i ∧ c ≠ 2) h h1 → zCv E (d + 4) m_X0_settle [vo t] h1 (fun h2 => (((hI h2 2 3) ≠ 0 → (Q 0 h2)) ∧ ((hI h2 2 3) = 0 → (Q 1 h2))))) : zWi E (d + 5) m_X6_read 39 [vo 2, vn, vn, vn, vi 0] h Q := by
  have ok : ∀ h1 D, rdL n b 1601 D0 T0 = .inr D → okD D → hR h1 2 1 = some t → XDr h1 t D → hI h1 2 3 = 0 → hI h1 2 4 = -1 → zE3 (fun c i => dWW t c i ∧ c ≠ 2) h h1 → ∀ x : Int, (1600 < x ∨ hI h1 3 3 = 16) → zWi E (d + 4 + 1) m_X6_read 39 [vo 2, vn, vn, vn, vi x] h1 Q := by
    intro h1 D e hD r x1 x2 x3 x4 x hx
    have fin := HO D e hD h1 x1 x2 x3 x4
    refine r_X6_read_39 ga_1 K.1 ⟨fun _ => ⟨fun c => absurd x2 c, fun _ => ⟨t, r, K.1, fin⟩⟩, fun c => ⟨fun c2 => absurd x2 c2, fun _ => ⟨fun _ => ⟨fun c2 => absurd x2 c2, fun _ => ⟨t, r, K.1, fin⟩⟩, fun c3 => ?_⟩⟩⟩
    rcases hx with q | q
    · omega
    · exact absurd q c3
  refine z_upS (σ := zDf × zTk × zS) (n := 1601) (fun i s => zWi E (d + 4 + 1) m_X6_read 39 [vo 2, vn, vn, vn, vi i] s.2.2 Q) (fun i s => rdL n b 1601 D0 T0 = rdL n b (1601 - i) s.1 s.2.1 ∧ okD s.1 ∧ XDr s.2.2 t s.1 ∧ XRd s.2.2 t n b (.inr s.2.1) ∧ zE3 (fun c i => dWW t c i ∧ c ≠ 2) h s.2.2) ?_ ?_ 0 (D0, T0, h) (by omega) ⟨rfl, okD_0, wD, w, zE3.rf⟩
  · rintro ⟨D, T, h2⟩ ⟨u1, u2, u3, u4, u5⟩
    dsimp only at u1 u2 u3 u4 u5 ⊢
    exact ok h2 D (by rw [u1]; rfl) u2 u4.1 u3 u4.2.1 u4.2.2.1 u5 _ (.inl (by omega))
  · rintro i ⟨D, T, h2⟩ hi ⟨u1, u2, u3, u4, u5⟩ ih
    dsimp only at u1 u2 u3 u4 u5 ih ⊢
    have ef : 1601 - i = (1601 - (i + 1)) + 1 := by omega
    rw [ef, rdL_s (f := 1601 - (i + 1)) (D := D) (T := T)] at u1
    by_cases t16 : tcd T = 16
    · rw [if_pos t16] at u1
      exact ok h2 D u1 u2 u4.1 u3 u4.2.1 u4.2.2.1 u5 _ (.inr (by rw [u4.2.2.2.1.2.1, t16]; rfl))
    · rw [if_neg t16] at u1
      refine r_X6_read_39 ga_1 K.1 ⟨fun c => by omega, fun _ => ⟨fun c => absurd u4.2.1 c, fun _ => ⟨fun c => ?_, fun _ => ?_⟩⟩⟩
      · rw [u4.2.2.2.1.2.1] at c; omega
      · refine c_readLine K u2 u3 u4 (fun h3 w3 z3 e3 => ?_)
        rw [w32s (by omega)]
        cases s1 : lnS n b D T with
        | inl e =>
          rw [s1] at u1 w3
          have fin := HF e u1 h3 w3.2.1 w3.2.2.1 (u5.tr e3)
          have ne : hI h3 2 3 ≠ 0 := by rw [w3.2.1]; exact w3.2.2.2
          exact r_X6_read_39 ga_1 K.1 ⟨fun _ => ⟨fun _ => ⟨fun _ => fin, fun c => absurd c ne⟩, fun c => absurd c ne⟩, fun _ => ⟨fun _ => ⟨fun _ => ⟨fun _ => fin, fun c => absurd c ne⟩, fun c => absurd c ne⟩, fun c => absurd c ne⟩⟩
        | inr T' =>
          rw [s1] at u1 w3
          exact ih (lnD n b D T, T', h3) ⟨u1, okD_ln u2 s1, z3 T' s1, w3, u5.tr e3⟩
/-- the model's lines -/
theorem c_M_lines {n : Nat} {b : Nat → Nat} {T0 : zTk} {Q : zS → Prop} (hn : n ≤ 1600) (wD : MDr h D0) (w : MRd h n b (.inr T0))
    (HF : ∀ e, rdL n b 1601 D0 T0 = .inl e → ∀ h1, MRd h1 n b (.inl e) → mG h h1 → Q h1)
    (HO : ∀ D, rdL n b 1601 D0 T0 = .inr D → okD D → ∀ h1, MDr h1 D → hI h1 89 2 = 0 → hI h1 89 3 = -1 → mG h h1 → Q h1) : zWv E (d + 6) m_X10_readAll 79 [vo 89, vn] h Q := by
  refine z_ms (σ := Nat × zDf × zTk × zS) (fun s => zWv E (d + 5 + 1) m_X10_readAll 79 [vo 89, vn] s.2.2.2 Q) (fun s => rdL n b 1601 D0 T0 = rdL n b s.1 s.2.1 s.2.2.1 ∧ 1601 ≤ s.1 + tnx s.2.2.1 ∧ okD s.2.1 ∧ MDr s.2.2.2 s.2.1 ∧ MRd s.2.2.2 n b (.inr s.2.2.1) ∧ mG h s.2.2.2) (fun s => s.1) ?_ (1601, D0, T0, h) ⟨rfl, by dsimp only; omega, okD_0, wD, w, mG.rf⟩
  rintro ⟨f, D, T, h2⟩ ⟨u1, u0, u2, u3, u4, u5⟩ ih
  dsimp only at u1 u0 u2 u3 u4 u5 ih ⊢
  have tn := u4.2.2.2.1
  have tk := u4.2.2.2.2
  obtain ⟨f', rfl⟩ : ∃ f', f = f' + 1 := ⟨f - 1, by omega⟩
  rw [rdL_s (f := f') (D := D) (T := T)] at u1
  refine r_X10_readAll_79 ⟨fun c => absurd u4.1 c, fun _ => ?_⟩
  rw [u4.2.2.1.2.2.2.1]
  refine ⟨fun c => ?_, fun c => ?_⟩
  · have c := (srt_0 tk.2).mp c
    rw [if_pos c] at u1
    exact HO D u1 u2 h2 u3 u4.1 u4.2.1 u5
  · have c : tcd T ≠ 16 := fun q => c ((srt_0 tk.2).mpr q)
    rw [if_neg c] at u1
    refine c_M_readLine hn u2 u3 u4 (fun h3 w3 z3 e3 => ?_)
    cases s1 : lnS n b D T with
    | inl e =>
      rw [s1] at u1 w3
      refine r_X10_readAll_79 ⟨fun _ => HF e u1 h3 w3 (u5.tr e3), fun c => ?_⟩
      have := w3.2.2
      rw [w3.1] at c; omega
    | inr T' =>
      rw [s1] at u1 w3
      have nx' := ln_nx tn s1
      exact ih (f', lnD n b D T, T', h3) ⟨u1, by dsimp only; omega, okD_ln u2 s1, z3 T' s1, w3, u5.tr e3⟩ (by dsimp only; omega)
end LP
/-! who knows whom: pair by pair -/
def bef (i j p q : Nat) : Prop := p < i ∨ (p = i ∧ q < j)
def kSp (C : zCt) (i j : Nat) (K : Nat → Nat) : Prop := ∀ p, p < cn C → K p < 4096 ∧ ∀ q, (K p).testBit q = true ↔ (q < cn C ∧ ckd C p ≠ 3 ∧ ckd C q ≠ 3 ∧ ((bef i j p q ∧ 0 < ctk C p q) ∨ (bef i j q p ∧ 0 < ctk C q p ∧ ckd C p ≠ 1)))
theorem kSp_0 {C : zCt} {K : Nat → Nat} (h : ∀ p, p < cn C → K p = 0) : kSp C 0 0 K := by
  intro p hp
  rw [h p hp]
  refine ⟨by omega, fun q => ?_⟩
  rw [Nat.zero_testBit]
  exact ⟨fun x => absurd x (by decide), fun x => by rcases x.2.2.2 with ⟨y, _⟩ | ⟨y, _⟩ <;> (unfold bef at y; omega)⟩
theorem kSp_row {C : zCt} {i : Nat} {K : Nat → Nat} (h : kSp C i (cn C) K) : kSp C (i + 1) 0 K := by
  intro p hp
  refine ⟨(h p hp).1, fun q => ?_⟩
  rw [(h p hp).2 q]
  constructor
  · rintro ⟨a, b, c, e⟩
    refine ⟨a, b, c, ?_⟩
    rcases e with ⟨y, z⟩ | ⟨y, z⟩
    · exact .inl ⟨by unfold bef at *; omega, z⟩
    · exact .inr ⟨by unfold bef at *; omega, z⟩
  · rintro ⟨a, b, c, e⟩
    refine ⟨a, b, c, ?_⟩
    rcases e with ⟨y, z⟩ | ⟨y, z⟩
    · exact .inl ⟨by unfold bef at *; omega, z⟩
    · exact .inr ⟨by unfold bef at *; omega, z⟩
theorem kSp_skip {C : zCt} {i j : Nat} {K : Nat → Nat} (h : kSp C i j K) (hs : ¬ (0 < ctk C i j ∧ ckd C i ≠ 3 ∧ ckd C j ≠ 3)) : kSp C i (j + 1) K := by
  intro p hp
  refine ⟨(h p hp).1, fun q => ?_⟩
  rw [(h p hp).2 q]
  constructor
  · rintro ⟨a, b, c, e⟩
    refine ⟨a, b, c, ?_⟩
    rcases e with ⟨y, z⟩ | ⟨y, z⟩
    · exact .inl ⟨by unfold bef at *; omega, z⟩
    · exact .inr ⟨by unfold bef at *; omega, z⟩
  · rintro ⟨a, b, c, e⟩
    refine ⟨a, b, c, ?_⟩
    rcases e with ⟨y, z⟩ | ⟨y, z, z2⟩
    · left
      refine ⟨?_, z⟩
      by_cases e' : p = i ∧ q = j
      · rw [e'.1, e'.2] at z; rw [e'.1] at b; rw [e'.2] at c
        exact absurd ⟨z, b, c⟩ hs
      · unfold bef at *; omega
    · right
      refine ⟨?_, z, z2⟩
      by_cases e' : q = i ∧ p = j
      · rw [e'.1, e'.2] at z; rw [e'.2] at b; rw [e'.1] at c
        exact absurd ⟨z, c, b⟩ hs
      · unfold bef at *; omega
theorem kSp_st {C : zCt} {i j : Nat} {K K' : Nat → Nat} (hC : okC C) (h : kSp C i j K) (hi : i < cn C) (hj : j < cn C) (h1 : 0 < ctk C i j) (h2 : ckd C i ≠ 3) (h3 : ckd C j ≠ 3) (e1 : K' i = K i ||| 2 ^ j) (e2 : K' j = if ckd C j = 1 then K j else K j ||| 2 ^ i) (e3 : ∀ p, p < cn C → p ≠ i → p ≠ j → K' p = K p) : kSp C i (j + 1) K' := by
  have hn := hC.1
  have ij : i ≠ j := ((hC.2.2.2.2.2.2 i j).2 h1).2.2
  intro p hp
  obtain ⟨hl, ht⟩ := h p hp
  by_cases pi : p = i
  · rw [pi] at hl ht ⊢
    rw [e1]
    refine ⟨zb_orlt hl (zb_2k (by omega)), fun q => ?_⟩
    rw [Nat.testBit_or, Bool.or_eq_true, zb_t2, decide_eq_true_eq, ht q]
    constructor
    · rintro (⟨a, b, c, e⟩ | e)
      · refine ⟨a, b, c, ?_⟩
        rcases e with ⟨y, z⟩ | ⟨y, z⟩
        · exact .inl ⟨by unfold bef at *; omega, z⟩
        · exact .inr ⟨by unfold bef at *; omega, z⟩
      · rw [← e]; exact ⟨hj, h2, h3, .inl ⟨by unfold bef; omega, h1⟩⟩
    · rintro ⟨a, b, c, e⟩
      by_cases qj : q = j
      · exact .inr qj.symm
      · left
        refine ⟨a, b, c, ?_⟩
        rcases e with ⟨y, z⟩ | ⟨y, z, z2⟩
        · exact .inl ⟨by unfold bef at *; omega, z⟩
        · exact .inr ⟨by unfold bef at *; omega, z, z2⟩
  · by_cases pj : p = j
    · rw [pj] at hl ht ⊢
      rw [e2]
      by_cases k1 : ckd C j = 1
      · rw [if_pos k1]
        refine ⟨hl, fun q => ?_⟩
        rw [ht q]
        constructor
        · rintro ⟨a, b, c, e⟩
          refine ⟨a, b, c, ?_⟩
          rcases e with ⟨y, z⟩ | ⟨y, z⟩
          · exact .inl ⟨by unfold bef at *; omega, z⟩
          · exact .inr ⟨by unfold bef at *; omega, z⟩
        · rintro ⟨a, b, c, e⟩
          refine ⟨a, b, c, ?_⟩
          rcases e with ⟨y, z⟩ | ⟨y, z, z2⟩
          · exact .inl ⟨by unfold bef at *; omega, z⟩
          · exact absurd k1 z2
      · rw [if_neg k1]
        refine ⟨zb_orlt hl (zb_2k (by omega)), fun q => ?_⟩
        rw [Nat.testBit_or, Bool.or_eq_true, zb_t2, decide_eq_true_eq, ht q]
        constructor
        · rintro (⟨a, b, c, e⟩ | e)
          · refine ⟨a, b, c, ?_⟩
            rcases e with ⟨y, z⟩ | ⟨y, z⟩
            · exact .inl ⟨by unfold bef at *; omega, z⟩
            · exact .inr ⟨by unfold bef at *; omega, z⟩
          · rw [← e]; exact ⟨hi, h3, h2, .inr ⟨by unfold bef; omega, h1, k1⟩⟩
        · rintro ⟨a, b, c, e⟩
          by_cases qi : q = i
          · exact .inr qi.symm
          · left
            refine ⟨a, b, c, ?_⟩
            rcases e with ⟨y, z⟩ | ⟨y, z, z2⟩
            · exact .inl ⟨by unfold bef at *; omega, z⟩
            · exact .inr ⟨by unfold bef at *; omega, z, z2⟩
    · rw [e3 p hp pi pj]
      refine ⟨hl, fun q => ?_⟩
      rw [ht q]
      constructor
      · rintro ⟨a, b, c, e⟩
        refine ⟨a, b, c, ?_⟩
        rcases e with ⟨y, z⟩ | ⟨y, z⟩
        · exact .inl ⟨by unfold bef at *; omega, z⟩
        · exact .inr ⟨by unfold bef at *; omega, z⟩
      · rintro ⟨a, b, c, e⟩
        refine ⟨a, b, c, ?_⟩
        rcases e with ⟨y, z⟩ | ⟨y, z, z2⟩
        · exact .inl ⟨by unfold bef at *; omega, z⟩
        · exact .inr ⟨by unfold bef at *; omega, z, z2⟩
theorem kSp_end {C : zCt} {K : Nat → Nat} (hC : okC C) (h : kSp C (cn C) 0 K) {p : Nat} (hp : p < cn C) : K p = ckn C p := by
  have hn := hC.1
  obtain ⟨hl, ht⟩ := h p hp
  refine nat_bits hl (ckn_lt C p) (fun q hq => ?_)
  have e : (ckn C p).testBit q = true ↔ (K p).testBit q = true := by
    rw [ht q]
    unfold ckn cknB
    rw [bset_t]
    simp only [Bool.and_eq_true, Bool.or_eq_true, decide_eq_true_eq]
    constructor
    · rintro ⟨_, ⟨⟨⟨a, b⟩, c⟩, dd⟩, e⟩
      refine ⟨b, c, dd, ?_⟩
      rcases e with z | ⟨z, z2⟩
      · exact .inl ⟨by unfold bef; omega, z⟩
      · exact .inr ⟨by unfold bef; omega, z, z2⟩
    · rintro ⟨a, b, c, e⟩
      refine ⟨hq, ⟨⟨⟨hp, a⟩, b⟩, c⟩, ?_⟩
      rcases e with ⟨_, z⟩ | ⟨_, z, z2⟩
      · exact .inl z
      · exact .inr ⟨z, z2⟩
  cases x : (K p).testBit q <;> cases y : (ckn C p).testBit q
  · rfl
  · rw [e.mp y] at x; cases x
  · rw [e.mpr x] at y; cases y
  · rfl
