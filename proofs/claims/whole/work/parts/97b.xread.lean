/-! the class's reader -/
def zE3 (W : Nat → Nat → Prop) (h h1 : zS) : Prop := ∀ c i, W c i → hI h1 c i = hI h c i ∧ hL h1 c i = hL h c i ∧ hR h1 c i = hR h c i
theorem zE3.tr {W : Nat → Nat → Prop} {h h1 h2 : zS} (a : zE3 W h h1) (b : zE3 W h1 h2) : zE3 W h h2 := fun c i hc => ⟨(b c i hc).1.trans (a c i hc).1, (b c i hc).2.1.trans (a c i hc).2.1, (b c i hc).2.2.trans (a c i hc).2.2⟩
theorem zE3.rf {W : Nat → Nat → Prop} {h : zS} : zE3 W h h := fun _ _ _ => ⟨rfl, rfl, rfl⟩
theorem zE3.wk {W V : Nat → Nat → Prop} {h h1 : zS} (a : zE3 W h h1) (hb : ∀ c i, V c i → W c i) : zE3 V h h1 := fun c i hc => a c i (hb c i hc)
theorem zE3.of {W : Nat → Nat → Prop} {A : Nat → Prop} {h h1 : zS} (a : zEq A h h1) (hb : ∀ c i, W c i → A c) : zE3 W h h1 := fun c i hc => ⟨a.I (hb c i hc) i, a.L (hb c i hc) i, a.R (hb c i hc) i⟩
theorem zE3.I {W : Nat → Nat → Prop} {h : zS} {k j : Nat} {x : Int} (hk : ¬ W k j) : zE3 W h (stI h k j x) := fun c i hc => ⟨by rw [hI_stI, if_neg (fun e => hk (by rw [← e.1, ← e.2]; exact hc))], rfl, rfl⟩
theorem zE3.L {W : Nat → Nat → Prop} {h : zS} {k j : Nat} {x : Int} (hk : ¬ W k j) : zE3 W h (stL h k j x) := fun c i hc => ⟨rfl, by rw [hL_stL, if_neg (fun e => hk (by rw [← e.1, ← e.2]; exact hc))], rfl⟩
def XRd (h : zS) (t n : Nat) (b : Nat → Nat) : zSt → Prop
  | .inl e => hR h 2 1 = some t ∧ hI h 2 3 = e.1 ∧ hI h 2 4 = e.2 ∧ e.1 ≠ 0
  | .inr T => hR h 2 1 = some t ∧ hI h 2 3 = 0 ∧ hI h 2 4 = -1 ∧ XLex h n b T ∧ tnx T ≤ n
def rK (t n : Nat) (b : Nat → Nat) : Prop := isCity t ∧ n ≤ 1600 ∧ ∀ k, b k < 256
/-- what reading leaves as it is, but for the draft -/
def rW (c i : Nat) : Prop := c ≠ 3 ∧ ¬ (c = 2 ∧ (i = 3 ∨ i = 4))
theorem XRd.w {h h1 : zS} {t n : Nat} {b : Nat → Nat} {s : zSt} (w : XRd h t n b s) (e : zE3 (fun c _ => c ≤ 3) h h1) : XRd h1 t n b s := by
  have q : ∀ c i, c ≤ 3 → hI h1 c i = hI h c i ∧ hL h1 c i = hL h c i ∧ hR h1 c i = hR h c i := fun c i hc => e c i hc
  cases s with
  | inl e' =>
    obtain ⟨a, b', c, d⟩ := w
    exact ⟨by rw [(q 2 1 (by omega)).2.2]; exact a, by rw [(q 2 3 (by omega)).1]; exact b', by rw [(q 2 4 (by omega)).1]; exact c, d⟩
  | inr T =>
    obtain ⟨a, b', c, ⟨⟨x1, x2, x3, x4⟩, x5, x6, x7, x8⟩, d⟩ := w
    exact ⟨by rw [(q 2 1 (by omega)).2.2]; exact a, by rw [(q 2 3 (by omega)).1]; exact b', by rw [(q 2 4 (by omega)).1]; exact c, ⟨⟨by rw [(q 3 0 (by omega)).2.2]; exact x1, by rw [(q 3 1 (by omega)).1]; exact x2, by rw [(q 3 2 (by omega)).1]; exact x3, fun k hk => by rw [(q 1 k (by omega)).1]; exact x4 k hk⟩, by rw [(q 3 3 (by omega)).1]; exact x5, by rw [(q 3 4 (by omega)).1]; exact x6, fun z => by rw [(q 3 5 (by omega)).2.1]; exact x7 z, fun z => by rw [(q 3 6 (by omega)).1]; exact x8 z⟩, d⟩
theorem fz_ne {T : zTk} {why : Int} (hw : why ≠ 0) : (fz T why).1 ≠ 0 := by
  unfold fz
  show (if tcd T = 17 then (1 : Int) else why) ≠ 0
  split <;> omega
section XR
variable {E : zE} {d : Nat} {h : zS}
theorem c_refuse {t n : Nat} {b : Nat → Nat} {T : zTk} {why : Int} {Q : zS → Prop} (w : XRd h t n b (.inr T)) (hw : why ≠ 0) (HQ : ∀ h1, XRd h1 t n b (.inl (fz T why)) → zE3 rW h h1 → Q h1) : zCv E d m_X6_refuse [vo 2, vi why] h Q := by
  obtain ⟨w1, w2, w3, w4, w5⟩ := w
  refine v_X6_refuse ?_
  have k3 := w4.2.1
  have k4 := w4.2.2.1
  intro h2 e2
  have W2 : zE3 rW h h2 := by rw [e2]; exact zE3.I (by unfold rW; simp)
  have R2 : hR h2 2 1 = some t := by rw [e2]; exact w1
  obtain ⟨v2, n2, q2⟩ := st_cp e2
  clear e2
  have ev : (if hI h 3 3 ≠ 17 then why else 1) = (fz T why).1 := by
    unfold fz
    show _ = (if tcd T = 17 then (1 : Int) else why)
    by_cases c : tcd T = 17
    · rw [if_pos c, if_neg (by rw [k3, c]; exact fun q => q rfl)]
    · rw [if_neg c, if_pos (by rw [k3]; omega)]
  rw [ev] at v2
  have p2 : hI h2 3 4 = (tpl T : Int) := by rw [q2.I (by omega)]; exact k4
  rw [p2]
  intro h3 e3
  have W3 : zE3 rW h2 h3 := by rw [e3]; exact zE3.I (by unfold rW; simp)
  have R3 : hR h3 2 1 = some t := by rw [e3]; exact R2
  obtain ⟨v3, n3, q3⟩ := st_cp e3
  clear e3
  exact HQ h3 ⟨R3, by rw [n3 _ _ (by omega)]; exact v2, v3, fz_ne hw⟩ (W2.tr W3)
theorem c_adv {t n : Nat} {b : Nat → Nat} {T : zTk} {Q : zS → Prop} (K : rK t n b) (w : XRd h t n b (.inr T)) (HQ : ∀ h1, XRd h1 t n b (.inr (adv n b T)) → zE3 rW h h1 → Q h1) : zCv E (d + 1) m_X5_advance [vo 3] h Q := by
  obtain ⟨w1, w2, w3, w4, w5⟩ := w
  refine c_advance w4.1 K.2.1 w5 K.2.2 (fun h1 x1 e1 => HQ h1 ⟨by rw [e1.R (by omega)]; exact w1, by rw [e1.I (by omega)]; exact w2, by rw [e1.I (by omega)]; exact w3, x1, (tok_nx w5).1⟩ (zE3.of e1 (fun c i q => q.1)))
theorem c_rpass {t n k : Nat} {b : Nat → Nat} {s : zSt} {Q : zS → Prop} (K : rK t n b) (w : XRd h t n b s) (HQ : ∀ h1, XRd h1 t n b (psS n b k s) → zE3 rW h h1 → Q h1) : zCv E (d + 2) m_X6_pass [vo 2, vi k] h Q := by
  refine v_X6_pass ?_
  cases s with
  | inl e =>
    have := w.2.2.2
    rw [w.2.1]
    exact ⟨fun c => absurd c this, fun _ => HQ h w zE3.rf⟩
  | inr T =>
    rw [w.2.1]
    refine ⟨fun _ => ?_, fun e => absurd rfl e⟩
    rw [w.2.2.2.1.2.1]
    rw [psS_i] at HQ
    refine ⟨fun c => ?_, fun c => ?_⟩
    · rw [if_pos (by omega)] at HQ
      exact c_adv K w HQ
    · rw [if_neg (by omega)] at HQ
      exact c_refuse w (by omega) HQ
theorem c_readNumber {t n : Nat} {b : Nat → Nat} {lo hi : Int} {s : zSt} {Q : Int → zS → Prop} (K : rK t n b) (w : XRd h t n b s) (HQ : ∀ y h1, XRd h1 t n b (nmS n b lo hi s) → (∀ T', nmS n b lo hi s = .inr T' → y = nmV s) → zE3 rW h h1 → Q y h1) : zCi E (d + 2) m_X6_readNumber [vo 2, vi lo, vi hi] h Q := by
  refine v_X6_readNumber ?_
  cases s with
  | inl e =>
    have := w.2.2.2
    rw [w.2.1]
    exact ⟨fun c => absurd c this, fun _ => HQ 0 h w (fun T' q => by cases q) zE3.rf⟩
  | inr T =>
    rw [w.2.1]
    refine ⟨fun _ => ?_, fun e => absurd rfl e⟩
    have x := w.2.2.2.1
    rw [x.2.1]
    rw [nmS_i] at HQ
    refine ⟨fun c => ?_, fun c => ?_⟩
    · have c : tcd T = 14 := by omega
      rw [x.2.2.2.2 c]
      rw [if_neg (by omega)] at HQ
      refine ⟨fun c2 => ?_, fun c2 => ⟨fun c3 => ?_, fun c3 => ?_⟩⟩
      · rw [if_pos (.inl c2)] at HQ
        exact c_refuse w (by omega) (fun h1 x1 e1 => HQ 0 h1 x1 (fun T' q => by cases q) e1)
      · rw [if_neg (by omega)] at HQ
        exact c_adv K w (fun h1 x1 e1 => HQ _ h1 x1 (fun T' q => rfl) e1)
      · rw [if_pos (.inr c3)] at HQ
        exact c_refuse w (by omega) (fun h1 x1 e1 => HQ 0 h1 x1 (fun T' q => by cases q) e1)
    · rw [if_pos (by omega)] at HQ
      exact c_refuse w (by omega) (fun h1 x1 e1 => HQ 0 h1 x1 (fun T' q => by cases q) e1)
theorem c_called {t : Nat} {D : zDf} {w : Int} {Q : Int → zS → Prop} (ht : isCity t) (hD : okD D) (h0 : hI h t 0 = (cn (dC D) : Int)) (hN : ∀ i, i < cn (dC D) → hL h (t + 1) i = dN D i) (HQ : Q (fnd (dN D) w (cn (dC D))) h) : zCi E d m_X0_called [vo t, vl w] h Q := by
  have hn12 := hD.1.1
  refine v_X0_called ht ?_
  refine z_upS (σ := Unit) (n := cn (dC D)) (fun i _ => zWi E d m_X0_called 2 [vo t, vl w, vn, vi i] h Q) (fun i _ => ∀ k, k < i → dN D k ≠ w) ?_ ?_ 0 () (by omega) (fun k hk => by omega)
  · intro _ u
    refine r_X0_called_2 ht ⟨fun _ => ?_, fun c => by rw [h0] at c; omega⟩
    rcases fnd_is (nm := dN D) (w := w) (cn (dC D)) with ⟨q, _⟩ | ⟨k, _, q2, q3⟩
    · rw [q] at HQ; exact HQ
    · exact absurd q3 (u k q2)
  · intro i _ hi u ih
    refine r_X0_called_2 ht ⟨fun c => by rw [h0] at c; omega, fun _ => ⟨by omega, ?_⟩⟩
    simp only [Int.toNat_natCast]
    rw [hN i hi, w32s (by omega)]
    refine ⟨fun c => ih () (fun k hk => ?_), fun c => ?_⟩
    · by_cases e : k = i
      · rw [e]; exact fun q => c (lc_0.mpr q)
      · exact u k (by omega)
    · have c := lc_0.mp c
      rcases fnd_is (nm := dN D) (w := w) (cn (dC D)) with ⟨_, q⟩ | ⟨k, q1, q2, q3⟩
      · exact absurd c (q i hi)
      · have : i = k := hD.2.1 i k hi q2 (by rw [c, q3])
        rw [q1, ← this] at HQ; exact HQ
def XDr (h : zS) (t : Nat) (D : zDf) : Prop := hI h t 0 = cn (dC D) ∧ hI h t 1 = cgl (dC D) ∧ hI h t 2 = cga (dC D) ∧ hI h t 3 = cse (dC D) ∧ hI h t 4 = clu (dC D) ∧ (∀ i, i < cn (dC D) → hL h (t + 1) i = dN D i ∧ hI h (t + 2) i = ckd (dC D) i ∧ hI h (t + 3) i = csl (dC D) i ∧ hI h (t + 4) i = cho (dC D) i ∧ hI h (t + 5) i = cri (dC D) i ∧ hI h (t + 6) i = cke (dC D) i) ∧ (∀ x y, x < 12 → y < 12 → hI h (t + 7) (12 * x + y) = ctk (dC D) x y) ∧ hI h 2 2 = if dL D then 1 else 0
theorem XDr.w {h h1 : zS} {t : Nat} {D : zDf} (w : XDr h t D) (ht : isCity t) (e : zE3 rW h h1) : XDr h1 t D := by
  have k4 := (city_lt ht).1
  obtain ⟨a, b, c, d, f, g, i, j⟩ := w
  have q : ∀ x y, 4 ≤ x → hI h1 x y = hI h x y ∧ hL h1 x y = hL h x y := fun x y hx => ⟨(e x y (by unfold rW; omega)).1, (e x y (by unfold rW; omega)).2.1⟩
  refine ⟨by rw [(q t 0 k4).1]; exact a, by rw [(q t 1 k4).1]; exact b, by rw [(q t 2 k4).1]; exact c, by rw [(q t 3 k4).1]; exact d, by rw [(q t 4 k4).1]; exact f, fun x hx => ?_, fun x y hx hy => by rw [(q (t + 7) _ (by omega)).1]; exact i x y hx hy, by rw [(e 2 2 (by unfold rW; omega)).1]; exact j⟩
  rw [(q (t + 1) x (by omega)).2, (q (t + 2) x (by omega)).1, (q (t + 3) x (by omega)).1, (q (t + 4) x (by omega)).1, (q (t + 5) x (by omega)).1, (q (t + 6) x (by omega)).1]
  exact g x hx
theorem c_readKnown {t n : Nat} {b : Nat → Nat} {D : zDf} {s : zSt} {Q : Int → zS → Prop} (K : rK t n b) (hD : okD D) (wD : (∃ T, s = .inr T) → XDr h t D) (w : XRd h t n b s) (HQ : ∀ y h1, XRd h1 t n b (knS n b D s) → (∀ T', knS n b D s = .inr T' → y = knV D s) → zE3 rW h h1 → Q y h1) : zCi E (d + 2) m_X6_readKnown [vo 2] h Q := by
  refine v_X6_readKnown ?_
  cases s with
  | inl e =>
    have := w.2.2.2
    rw [w.2.1]
    exact ⟨fun c => absurd c this, fun _ => HQ (-1) h w (fun T' q => by cases q) zE3.rf⟩
  | inr T =>
    rw [w.2.1]
    refine ⟨fun _ => ?_, fun e => absurd rfl e⟩
    have x := w.2.2.2.1
    have wd' := wD ⟨T, rfl⟩
    rw [x.2.1]
    rw [knS_i] at HQ
    refine ⟨fun c => ?_, fun c => ?_⟩
    · have c : tcd T = 13 := by omega
      rw [x.2.2.2.1 (by omega)]
      rw [if_neg (by omega)] at HQ
      refine ⟨t, w.1, K.1, ?_⟩
      refine c_called (D := D) K.1 hD wd'.1 (fun i hi => (wd'.2.2.2.2.2.1 i hi).1) ?_
      have eF : fnd (dN D) (twd T) (cn (dC D)) = dF D T := rfl
      rw [eF]
      refine ⟨fun c2 => ?_, fun c2 => ?_⟩
      · rw [if_neg c2] at HQ
        exact c_adv K w (fun h1 x1 e1 => HQ _ h1 x1 (fun T' q => rfl) e1)
      · rw [if_pos c2] at HQ
        exact c_refuse w (by omega) (fun h1 x1 e1 => HQ _ h1 x1 (fun T' q => by cases q) e1)
    · rw [if_pos (by omega)] at HQ
      exact c_refuse w (by omega) (fun h1 x1 e1 => HQ _ h1 x1 (fun T' q => by cases q) e1)
end XR
