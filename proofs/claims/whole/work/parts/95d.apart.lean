/-! the model's oneMore; apart -/
def fH (h : zS) (f : Nat → Nat → Int) : Prop := ∀ x y, x < 24 → y < 24 → hI h 109 (24 * x + y) = f x y
section OM
variable {E : zE} {d : Nat} {h : zS}
/-- back along the search -/
theorem c_M_omT {c f : Nat → Nat → Int} {fr to : Nat} {cf : Nat → Int} {qf : Nat → Nat} {a b i0 : Nat} {k : Int} {Q : Int → zS → Prop} (w : BI f fr cf qf a b) (hi0 : i0 < b) (ht : qf i0 = to) (hfl : FL c f fr to k) (hc : ∀ x y, 0 ≤ c x y ∧ c x y ≤ 12) (H : fH h f) (Hc : ∀ v, v < 24 → hI h 110 v = cf v)
    (HQ : ∀ f' h1, FL c f' fr to (k + 1) → fH h1 f' → zEq (fun x => x ≠ 109) h h1 → Q 1 h1) : zWi E d m_X10_oneMore 169 [vo 89, vi fr, vn, vn, vn, vi to, vn] h Q := by
  obtain ⟨⟨w1, w2, w3⟩, w4, w5, w6, w7, w8, w9⟩ := w
  refine z_ms (σ := Nat × (Nat → Nat → Int) × zS) (fun s => zWi E d m_X10_oneMore 169 [vo 89, vi fr, vn, vn, vn, vi (qf s.1 : Int), vn] s.2.2 Q)
    (fun s => s.1 ≤ i0 ∧ FT c s.2.1 fr to k (qf s.1) ∧ (∀ x y, x ≤ s.1 → y ≤ s.1 → s.2.1 (qf x) (qf y) = f (qf x) (qf y)) ∧ fH s.2.2 s.2.1 ∧ zEq (fun x => x ≠ 109) h s.2.2) (fun s => s.1) ?_ (i0, f, h) ?_ |> (fun q => by rw [← ht]; exact q)
  · rintro ⟨i, f', h2⟩ ⟨u1, u2, u3, u4, u5⟩ ih
    dsimp only at u1 u2 u3 u4 u5 ih ⊢
    have ib : i < b := by omega
    have qi := (w4 i ib).1
    refine r_X10_oneMore_169 ⟨fun e => ?_, fun e => ?_⟩
    · have e : qf i = fr := by omega
      refine HQ f' h2 ⟨u2.1, u2.2.1, fun x hx xt => ?_⟩ u4 u5
      rw [u2.2.2 x hx xt, e]
      split <;> omega
    · have i0' : i ≠ 0 := fun e' => e (by rw [e', w3])
      obtain ⟨j, j1, j2, j3⟩ := w7 i ib i0'
      have qj := (w4 j (by omega)).1
      have pu : qf j ≠ qf i := fun e' => by have := w6 j i (by omega) ib e'; omega
      have pt : qf j ≠ to := fun e' => by have := w6 j i0 (by omega) hi0 (by rw [ht]; exact e'); omega
      have fj : f' (qf j) (qf i) = f (qf j) (qf i) := u3 j i (by omega) (Nat.le_refl _)
      have nn := hfl.1 (qf j) (qf i) qj qi
      have pos : 1 ≤ f' (qf j) (qf i) := by rw [fj]; omega
      have s1 := u2.2.1 (qf j) (qf i) qj qi
      have n2 := u2.1 (qf i) (qf j) qi qj
      have b1 := hc (qf j) (qf i)
      have b2 := hc (qf i) (qf j)
      have cfi : hI h2 110 (qf i) = (qf j : Int) := by rw [u5.I (by omega), Hc _ qi, j2]
      refine ⟨by omega, ?_⟩
      simp only [Int.toNat_natCast]
      rw [cfi, w24 qj qi]
      refine ⟨by omega, ?_⟩
      simp only [Int.toNat_natCast]
      rw [u4 _ _ qj qi, w32_id (by omega) (by omega)]
      intro h3 e3
      obtain ⟨v3, n3, q3⟩ := st_cp e3
      clear e3
      have cf3 : hI h3 110 (qf i) = (qf j : Int) := by rw [q3.I (by omega)]; exact cfi
      rw [cf3, w24 qi qj]
      refine ⟨by omega, ?_⟩
      simp only [Int.toNat_natCast]
      have f3 : hI h3 109 (24 * qf i + qf j) = f' (qf i) (qf j) := by rw [n3 _ _ (by omega)]; exact u4 _ _ qi qj
      rw [f3, w32_id (by omega) (by omega)]
      intro h5 e5
      obtain ⟨v5, n5, q5⟩ := st_cp e5
      clear e5
      have cf5 : hI h5 110 (qf i) = (qf j : Int) := by rw [q5.I (by omega)]; exact cf3
      rw [cf5]
      refine ih (j, upF f' (qf j) (qf i), h5) ⟨by dsimp only; omega, FT_s u2 qj qi pu pt pos, fun x y hx hy => ?_, fun x y hx hy => ?_, u5.tr (q3.tr q5)⟩ j1
      · dsimp only at hx hy ⊢
        have x1 : qf x ≠ qf i := fun e' => by have := w6 x i (by omega) ib e'; omega
        have y1 : qf y ≠ qf i := fun e' => by have := w6 y i (by omega) ib e'; omega
        unfold upF
        rw [if_neg (fun q => y1 q.2), if_neg (fun q => x1 q.1)]
        exact u3 x y (by omega) (by omega)
      · dsimp only
        unfold upF
        by_cases e1 : x = qf j ∧ y = qf i
        · rw [if_pos e1, e1.1, e1.2, n5 _ _ (by omega)]; exact v3
        · by_cases e2 : x = qf i ∧ y = qf j
          · rw [if_neg e1, if_pos e2, e2.1, e2.2]; exact v5
          · rw [if_neg e1, if_neg e2, n5 _ _ (by omega), n3 _ _ (by omega)]; exact u4 x y hx hy
  · dsimp only
    refine ⟨Nat.le_refl _, ⟨hfl.1, hfl.2.1, fun x hx xt => ?_⟩, fun _ _ _ _ => rfl, H, zEq.rf⟩
    rw [hfl.2.2 x hx xt, ht, if_neg (show ¬ x = to from xt)]; omega
theorem c_M_oneMore {C : zCt} {g z : Nat} {f : Nat → Nat → Int} {k : Int} {Q : Int → zS → Prop} (hC : okC C) (wC : MCity h C) (hg : cga C = g) (hz : cse C = z) (hgn : g < cn C) (hzn : z < cn C) (gz : g ≠ z) (hfl : FL (fc C g z) f (2 * g + 1) (2 * z) k) (H : fH h f)
    (H0 : ∀ (R : Nat → Bool) h1, R (2 * g + 1) = true → R (2 * z) = false → (∀ x y, x < 24 → y < 24 → R x = true → R y = false → f x y = 0) → zEq (fun x => x ≠ 109 ∧ x ≠ 110 ∧ x ≠ 111) h h1 → Q 0 h1)
    (H1 : ∀ f' h1, FL (fc C g z) f' (2 * g + 1) (2 * z) (k + 1) → fH h1 f' → zEq (fun x => x ≠ 109 ∧ x ≠ 110 ∧ x ≠ 111) h h1 → Q 1 h1) : zCi E d m_X10_oneMore [vo 89] h Q := by
  have hn12 := hC.1
  have g12 : g < 12 := by omega
  have z12 : z < 12 := by omega
  have fz : ∀ x y, x < 24 → y < 24 → 2 * cn C ≤ y → f x y = 0 := by
    intro x y hx hy hl
    have s := hfl.2.1 x y hx hy
    have n1 := hfl.1 x y hx hy
    have n2 := hfl.1 y x hy hx
    have c1 : fc C g z y x = 0 := fc_0 hC (by omega)
    have c2 : fc C g z x y = 0 := by
      unfold fc
      split
      · rw [if_neg (by omega)]
      · rw [if_neg]
        rintro ⟨_, q⟩
        have := ((hC.2.2.2.2.2.2 _ _).2 q).2.1
        omega
    omega
  have fC : ∀ h2, zEq (fun x => x ≠ 110 ∧ x ≠ 111) h h2 → MCity h2 C := fun h2 e => wC.fr e (by omega)
  have fHh : ∀ h2, zEq (fun x => x ≠ 110 ∧ x ≠ 111) h h2 → fH h2 f := fun h2 e x y hx hy => by rw [e.I (by omega)]; exact H x y hx hy
  refine v_X10_oneMore ?_
  refine z_up (n := 24) (fun i h2 => zWi E d m_X10_oneMore 2 [vo 89, vi i, vn, vn, vn, vn, vn] h2 Q) (fun i h2 => (∀ j, j < i → hI h2 110 j = -1) ∧ zEq (fun x => x ≠ 110 ∧ x ≠ 111) h h2) ?_ ?_ 0 h (by omega) ⟨fun j hj => by omega, zEq.rf⟩
  · rintro h1 ⟨f1, f2⟩
    refine r_X10_oneMore_2 ⟨fun _ => ?_, fun c => by omega⟩
    rw [(fC h1 f2).2.2.1, (fC h1 f2).2.2.2.1, hg, hz, w2p1 g12, w2p z12]
    rintro y1 rfl h2 e2
    obtain ⟨v2, n2, q2⟩ := st_cp e2
    clear e2
    refine ⟨by omega, ?_⟩
    simp only [Int.toNat_natCast]
    intro h4 e4
    obtain ⟨v4, n4, q4⟩ := st_cp e4
    clear e4
    -- the end of the search
    have found : ∀ cf qf a b h5, BI f (2 * g + 1) cf qf a b → (∀ v, v < 24 → hI h5 110 v = cf v) → zEq (fun x => x ≠ 110 ∧ x ≠ 111) h h5 → 0 ≤ cf (2 * z) → zWi E d m_X10_oneMore 169 [vo 89, vi ((2 * g + 1 : Nat) : Int), vn, vn, vn, vi ((2 * z : Nat) : Int), vn] h5 Q := by
      intro cf qf a b h5 w hc e5 pos
      rcases w.2.2.1 (2 * z) (by omega) with q | ⟨i, hi, q⟩
      · omega
      · exact c_M_omT w hi q hfl (fun x y => fc_nn) (fHh h5 e5) hc (fun f' h6 w6 H6 e6 => H1 f' h6 w6 H6 ((e5.wk (fun x q => q.2)).tr (e6.wk (fun x q => q.1))))
    refine z_ms (σ := (Nat → Int) × (Nat → Nat) × Nat × Nat × zS) (fun s => zWi E d m_X10_oneMore 56 [vo 89, vi ((2 * g + 1 : Nat) : Int), vi ((2 * z : Nat) : Int), vi (s.2.2.1 : Int), vi (s.2.2.2.1 : Int), vn, vn] s.2.2.2.2 Q)
      (fun s => BI f (2 * g + 1) s.1 s.2.1 s.2.2.1 s.2.2.2.1 ∧ (∀ v, v < 24 → hI s.2.2.2.2 110 v = s.1 v) ∧ (∀ i, i < s.2.2.2.1 → hI s.2.2.2.2 111 i = (s.2.1 i : Int)) ∧ zEq (fun x => x ≠ 110 ∧ x ≠ 111) h s.2.2.2.2) (fun s => 24 - s.2.2.1) ?_ ((fun v => if v = 2 * g + 1 then ((2 * g + 1 : Nat) : Int) else -1), (fun _ => 2 * g + 1), 0, 1, h4) ?_
    · rintro ⟨cf, qf, a, b, h5⟩ ⟨w, hc, hq, e5⟩ ih
      dsimp only at w hc hq e5 ih ⊢
      have b24 := BI_24 w
      refine r_X10_oneMore_56 ⟨fun c => ⟨by omega, ?_⟩, fun c => ⟨by omega, ?_⟩⟩
      · simp only [Int.toNat_natCast]
        rw [hc _ (by omega)]
        refine ⟨fun pos => found cf qf a b h5 w hc e5 pos, fun neg => ?_⟩
        refine H0 (fun v => decide (0 ≤ cf v)) h5 ?_ ?_ (fun x y hx hy rx ry => ?_) (e5.wk (fun x q => q.2))
        · have := (w.2.1 0 (by have := w.1.1; omega)).2
          rw [w.1.2.2] at this
          simpa using this
        · simp; omega
        · refine Classical.byContradiction (fun ne => ?_)
          have rx : 0 ≤ cf x := by simpa using rx
          have ry : ¬ 0 ≤ cf y := by simpa using ry
          rcases w.2.2.1 x hx with q | ⟨i, hi, q⟩
          · omega
          · have ab : a = b := by have := w.1.2.1; omega
            exact ry (w.2.2.2.2.2.1 i (by omega) y hy (by rw [q]; exact ne))
      · simp only [Int.toNat_natCast]
        rw [hc _ (by omega)]
        have ab : a < b := by omega
        refine ⟨fun pos => ⟨fun _ => found cf qf a b h5 w hc e5 pos, fun e => by omega⟩, fun neg => ⟨by omega, ?_⟩⟩
        rw [hq a ab, w32s (by omega)]
        have xa := (w.2.1 a ab).1
        -- the neighbours of one
        refine z_upS (σ := (Nat → Int) × (Nat → Nat) × Nat × zS) (n := 2 * cn C) (fun j s => zWi E d m_X10_oneMore 85 [vo 89, vi ((2 * g + 1 : Nat) : Int), vi ((2 * z : Nat) : Int), vi ((a + 1 : Nat) : Int), vi (s.2.2.1 : Int), vi (qf a : Int), vi j] s.2.2.2 Q)
          (fun j s => BI f (2 * g + 1) s.1 s.2.1 a s.2.2.1 ∧ (a < s.2.2.1 ∧ s.2.1 a = qf a) ∧ (∀ v, v < 24 → hI s.2.2.2 110 v = s.1 v) ∧ (∀ i, i < s.2.2.1 → hI s.2.2.2 111 i = (s.2.1 i : Int)) ∧ zEq (fun x => x ≠ 110 ∧ x ≠ 111) h s.2.2.2 ∧ ∀ y, y < j → f (qf a) y ≠ 0 → 0 ≤ s.1 y) ?_ ?_ 0 (cf, qf, b, h5) (by omega) ⟨w, ⟨ab, rfl⟩, hc, hq, e5, fun y hy => by omega⟩
        · rintro ⟨cf2, qf2, b2, h6⟩ ⟨w2, ⟨ab2, qa2⟩, hc2, hq2, e6, al⟩
          dsimp only at w2 ab2 qa2 hc2 hq2 e6 al ⊢
          refine r_X10_oneMore_85 ⟨fun _ => ?_, fun c => ?_⟩
          · refine ih (cf2, qf2, a + 1, b2, h6) ⟨?_, hc2, hq2, e6⟩ (by dsimp only; have := BI_24 w2; omega)
            obtain ⟨⟨t1, t2, t3⟩, t4, t5, t6, t7, t8, t9⟩ := w2
            refine ⟨⟨t1, by dsimp only; omega, t3⟩, t4, t5, t6, t7, fun i hi y hy hf => ?_, t9⟩
            dsimp only at hi hf ⊢
            by_cases e : i = a
            · rw [e, qa2] at hf
              by_cases y2 : y < 2 * cn C
              · exact al y y2 hf
              · exact absurd (fz _ _ xa hy (by omega)) hf
            · exact t8 i (by omega) y hy hf
          · rw [(fC h6 e6).1, w32_id (by omega) (by omega)] at c; omega
        · rintro j ⟨cf2, qf2, b2, h6⟩ hj ⟨w2, ⟨ab2, qa2⟩, hc2, hq2, e6, al⟩ ih2
          dsimp only at w2 ab2 qa2 hc2 hq2 e6 al ih2 ⊢
          have j24 : j < 24 := by omega
          have b24' := BI_24 w2
          refine r_X10_oneMore_85 ⟨fun c => ?_, fun _ => ?_⟩
          · rw [(fC h6 e6).1, w32_id (by omega) (by omega)] at c; omega
          rw [w24 xa j24, w32s (by omega)]
          refine ⟨by omega, ?_⟩
          simp only [Int.toNat_natCast]
          rw [fHh h6 e6 _ _ xa j24, hc2 j j24]
          have skip : (f (qf a) j ≠ 0 → 0 ≤ cf2 j) → zWi E d m_X10_oneMore 85 [vo 89, vi ((2 * g + 1 : Nat) : Int), vi ((2 * z : Nat) : Int), vi ((a + 1 : Nat) : Int), vi (b2 : Int), vi (qf a : Int), vi ((j + 1 : Nat) : Int)] h6 Q := fun sk => ih2 (cf2, qf2, b2, h6) ⟨w2, ⟨ab2, qa2⟩, hc2, hq2, e6, fun y hy hf => by
            by_cases e : y = j
            · rw [e] at hf ⊢; exact sk hf
            · exact al y (by omega) hf⟩
          refine ⟨fun c => skip (fun q => absurd c q), fun c => ⟨by omega, fun c2 => ?_, fun c2 => skip (fun _ => c2)⟩⟩
          intro h7 e7
          obtain ⟨v7, n7, q7⟩ := st_cp e7
          clear e7
          obtain ⟨cf3, hcf3⟩ : ∃ cf3 : Nat → Int, cf3 = fun v => if v = j then (qf2 a : Int) else cf2 v := ⟨_, rfl⟩
          obtain ⟨qf3, hqf3⟩ : ∃ qf3 : Nat → Nat, qf3 = fun i => if i = b2 then j else qf2 i := ⟨_, rfl⟩
          have c1 : cf3 j = qf2 a := by rw [hcf3]; exact if_pos rfl
          have c2' : ∀ v, v ≠ j → cf3 v = cf2 v := fun v hv => by rw [hcf3]; exact if_neg hv
          have r1 : qf3 b2 = j := by rw [hqf3]; exact if_pos rfl
          have r2 : ∀ i, i ≠ b2 → qf3 i = qf2 i := fun i hi => by rw [hqf3]; exact if_neg hi
          clear hcf3 hqf3
          obtain ⟨w3, b23⟩ := BI_add w2 (x := a) ab2 j24 (by rw [qa2]; exact c) c2 c1 c2' r1 r2
          refine ⟨by omega, ?_⟩
          intro h8 e8
          obtain ⟨v8, n8, q8⟩ := st_cp e8
          clear e8
          rw [w32s (by omega)]
          refine ih2 (cf3, qf3, b2 + 1, h8) ⟨w3, ⟨by dsimp only; omega, by dsimp only; rw [r2 a (by omega)]; exact qa2⟩, fun v hv => ?_, fun i hi => ?_, e6.tr ((q7.wk (fun x q => q.1)).tr (q8.wk (fun x q => q.2))), fun y hy hf => ?_⟩
          · dsimp only
            rw [q8.I (by omega)]
            by_cases e : v = j
            · rw [e, v7, c1, qa2]
            · rw [n7 _ _ (fun q => e q.2), c2' v e]; exact hc2 v hv
          · dsimp only at hi ⊢
            by_cases e : i = b2
            · rw [e, v8, r1]
            · rw [n8 _ _ (fun q => e q.2), q7.I (by omega), r2 i e]; exact hq2 i (by omega)
          · dsimp only
            by_cases e : y = j
            · rw [e, c1]; omega
            · rw [c2' y e]; exact al y (by omega) hf
    · dsimp only
      refine ⟨⟨⟨by omega, by omega, rfl⟩, fun i hi => ?_, fun v hv => ?_, fun i j hi hj _ => by omega, fun i hi i0 => by omega, fun i hi => by omega, ?_⟩, fun v hv => ?_, fun i hi => ?_, ?_⟩
      · dsimp only; rw [if_pos rfl]; exact ⟨by omega, by omega⟩
      · by_cases e : v = 2 * g + 1
        · right; exact ⟨0, by omega, e.symm⟩
        · left; dsimp only; rw [if_neg e]
      · have q := sm_one (F := fun _ => 0) (G := fun v => ind (decide (0 ≤ (if v = 2 * g + 1 then ((2 * g + 1 : Nat) : Int) else -1)))) (j := 2 * g + 1) (x := 1) 24 (by omega) (fun v _ hv => by rw [if_neg hv]; rfl) (by
          rw [if_pos rfl]
          have e1 : decide (0 ≤ ((2 * g + 1 : Nat) : Int)) = true := decide_eq_true (by omega)
          rw [e1]; rfl)
        rw [q, sm_0]; rfl
      · by_cases e : v = 2 * g + 1
        · rw [if_pos e, e]; exact v4
        · rw [if_neg e, n4 _ _ (fun q => e q.2), q2.I (by omega)]; exact f1 v hv
      · have : i = 0 := by omega
        rw [this, q4.I (by omega)]; exact v2
      · exact f2.tr ((q2.wk (fun x q => q.2)).tr (q4.wk (fun x q => q.1)))
  · rintro i h2 hi ⟨f1, f2⟩ ih
    refine r_X10_oneMore_2 ⟨fun c => by omega, fun _ => ⟨by omega, ?_⟩⟩
    rw [w32s (by omega)]
    simp only [Int.toNat_natCast]
    intro h6 e6
    obtain ⟨v6, n6, q6⟩ := st_cp e6
    clear e6
    refine ih h6 ⟨fun j hj => ?_, f2.tr (q6.wk (fun x q => q.1))⟩
    by_cases e : j = i
    · rw [e, v6]
    · rw [n6 _ _ (fun q => e q.2)]; exact f1 j (by omega)
theorem btw_bars {C : zCt} {g z : Nat} (hC : okC C) (gz : g ≠ z) : ¬ rch (eW C g z 1 (btw C g z)) g z := by
  intro r
  have := r (fun x => x = g) rfl (fun p q hp he => ?_)
  · exact gz this.symm
  · have kq := (hC.2.2.2.2.2.2 p q).2 he.1
    refine Classical.byContradiction (fun qg => ?_)
    by_cases qz : q = z
    · exact he.2.2 ⟨by omega, hp, qz⟩
    · have := (btw_t (C := C) (g := g) (z := z) (i := q) hC.1).mpr ⟨kq.2.1, qg, qz⟩
      rw [he.2.1] at this; cases this
theorem c_M_apart {C : zCt} {g z r : Nat} {Q : Int → zS → Prop} (hC : okC C) (wC : MCity h C) (hg : cga C = g) (hz : cse C = z) (hgn : g < cn C) (hzn : z < cn C) (gz : g ≠ z) (hr : lbI C g z 1 (btw C g z) r)
    (HQ : ∀ h1, zEq (fun x => x ≠ 109 ∧ x ≠ 110 ∧ x ≠ 111) h h1 → Q (dirC C g z + pc12 r) h1) : zCi E (d + 1) m_X10_apart [vo 89] h Q := by
  have hn12 := hC.1
  have rs : ∀ i, r.testBit i = true → i < cn C ∧ i ≠ g ∧ i ≠ z := fun i hi => (btw_t hn12).mp (sub_nb hr.2.1 i hi)
  have r11 : pc12 r ≤ 11 := pc_11 hn12 hgn (fun i hi => ⟨(rs i hi).1, (rs i hi).2.1⟩)
  have d1 : dirC C g z ≤ 1 := by unfold dirC; split <;> omega
  have up : ∀ f k, FL (fc C g z) f (2 * g + 1) (2 * z) k → k ≤ 12 := fun f k w => by
    have := men_le hC hgn hzn gz w rs hr.2.2.1
    generalize pc12 r = x at *
    omega
  refine v_X10_apart ?_
  rw [wC.2.2.1, wC.2.2.2.1, hg, hz]
  refine ⟨fun c => by omega, fun _ => ⟨fun _ => ⟨fun _ => ?_, fun c => by omega⟩, fun c => by omega⟩⟩
  refine c_M_layFlow hC wC hg hz (fun h1 f1 q1 => ?_)
  refine z_ms (σ := Nat × (Nat → Nat → Int) × zS) (fun s => zWi E (d + 1) m_X10_apart 35 [vo 89, vi (s.1 : Int)] s.2.2 Q) (fun s => FL (fc C g z) s.2.1 (2 * g + 1) (2 * z) (s.1 : Int) ∧ fH s.2.2 s.2.1 ∧ zEq (fun x => x ≠ 109 ∧ x ≠ 110 ∧ x ≠ 111) h s.2.2) (fun s => 13 - s.1) ?_ (0, fc C g z, h1) ?_
  · rintro ⟨k, f, h2⟩ ⟨u1, u2, u3⟩ ih
    dsimp only at u1 u2 u3 ih ⊢
    have k12 := up f k u1
    refine r_X10_apart_35 ?_
    refine c_M_oneMore hC (wC.fr u3 (by omega)) hg hz hgn hzn gz u1 u2 (fun R h3 a1 a2 a3 e3 => ⟨fun _ => ?_, fun e => absurd rfl e⟩) (fun f' h3 w3 H3 e3 => ⟨fun e => by omega, fun _ => ?_⟩)
    · have ek := FL_eq u1 (R := R) (by omega) a1 a2 a3
      obtain ⟨S, s1, s2, s3⟩ := men_ge hC hgn hzn gz a1 a2
      have le := men_le hC hgn hzn gz u1 rs hr.2.2.1
      have Sl : S < 4096 := lt_of_bits (fun i hi => by
        cases q : S.testBit i
        · rfl
        · have := (s1 i q).1; omega)
      have Ss : nb S (btw C g z) = 0 := nat_bits (zb_nblt Sl) (by omega) (fun i _ => by
        rw [Nat.zero_testBit]
        cases q : (nb S (btw C g z)).testBit i
        · rfl
        · have := nb_tt.mp q
          rw [(btw_t hn12).mpr (s1 i this.1)] at this
          cases this.2)
      have Sb : S ≤ btw C g z := by
        have e : S = S &&& btw C g z := Nat.eq_of_testBit_eq (fun i => by
          rw [Nat.testBit_and]
          cases q : S.testBit i
          · rfl
          · rw [(btw_t hn12).mpr (s1 i q)]; rfl)
        rw [e]; exact Nat.and_le_right
      have mn' := hr.2.2.2 S Sb Ss s2
      have pl : pc12 r ≤ pc12 S := by
        rcases mn' with q | q
        · exact Nat.le_of_lt q
        · exact Nat.le_of_eq q.1
      have ev : (k : Int) = dirC C g z + pc12 r := by
        have pl' : (pc12 r : Int) ≤ pc12 S := Int.ofNat_le.mpr pl
        rw [← ek] at s3
        omega
      rw [ev]
      exact HQ h3 (u3.tr e3)
    · have k1 := up f' _ w3
      rw [w32s (by omega)]
      refine ih (k + 1, f', h3) ⟨?_, H3, u3.tr e3⟩ (by dsimp only; omega)
      dsimp only
      have : ((k + 1 : Nat) : Int) = (k : Int) + 1 := by omega
      rw [this]; exact w3
  · dsimp only
    refine ⟨⟨fun x y _ _ => fc_nn.1, fun x y _ _ => rfl, fun x _ _ => ?_⟩, f1, q1.wk (fun x q => q.1)⟩
    rw [sm_z (fun i _ => by omega)]
    split <;> rfl
theorem p_apart (w : zGo h) : zPair E m_X9_apart m_X10_apart [] h := by
  obtain ⟨t, S, hS, wX, wM⟩ := w
  have hC := hS.2.1
  have hn12 := hC.1
  have wC := wX.2.2.2.1
  have hga := hC.2.2.1
  have hse := hC.2.2.2.1
  by_cases G : (0 ≤ cga (aC S) ∧ cga (aC S) < cn (aC S)) ∧ (0 ≤ cse (aC S) ∧ cse (aC S) < cn (aC S))
  · obtain ⟨g, hg⟩ : ∃ g : Nat, cga (aC S) = g := ⟨(cga (aC S)).toNat, by omega⟩
    obtain ⟨z, hz⟩ : ∃ z : Nat, cse (aC S) = z := ⟨(cse (aC S)).toNat, by omega⟩
    have hgn : g < cn (aC S) := by omega
    have hzn : z < cn (aC S) := by omega
    by_cases gz : g = z
    · refine p_of (S := S) (S' := S) (r := 1) (t := t) hS wM (fun Q HQ => ?_) (fun h1 Q w1 HQ => ?_)
      · have HQ := HQ h t wX zEq.rf
        refine v_X9_apart ⟨t, wX.1.1, wX.1.2.1, ?_⟩
        refine c_hasEnds wX.1.2.1 ⟨wC.1, wC.2.2.1, wC.2.2.2.1⟩ (fun _ => ⟨fun _ => ⟨t, wX.1.1, wX.1.2.1, t, wX.1.1, wX.1.2.1, fun e => ?_, fun _ => HQ⟩, fun e => by omega⟩) (fun n => absurd G n)
        rw [wC.2.2.1, wC.2.2.2.1, hg, hz, gz] at e; exact absurd rfl e
      · have HQ := HQ h1 w1 zEq.rf
        refine v_X10_apart ?_
        rw [w1.2.2.1.2.2.1, w1.2.2.1.2.2.2.1, hg, hz]
        exact ⟨fun c => by omega, fun _ => ⟨fun _ => ⟨fun c => by omega, fun _ => HQ⟩, fun c => by omega⟩⟩
    · have p11 : pc12 (btw (aC S) g z) ≤ 11 := pc_11 hn12 hgn (fun i hi => ⟨((btw_t hn12).mp hi).1, ((btw_t hn12).mp hi).2.1⟩)
      have nb' := btw_bars (g := g) (z := z) hC gz
      have ex : ∃ r, lbI (aC S) g z 1 (btw (aC S) g z) r := by
        refine Classical.byContradiction (fun n => ?_)
        have key : ∀ k : Nat, ∀ s, s ≤ btw (aC S) g z → nb s (btw (aC S) g z) = 0 → ¬ rch (eW (aC S) g z 1 s) g z → 4096 * pc12 s + s ≤ k → False := by
          intro k
          induction k using Nat.strongRecOn with
          | ind k ihk =>
            intro s h1 h2 h3 h4
            by_cases c : ∃ s', s' ≤ btw (aC S) g z ∧ nb s' (btw (aC S) g z) = 0 ∧ ¬ rch (eW (aC S) g z 1 s') g z ∧ 4096 * pc12 s' + s' < 4096 * pc12 s + s
            · obtain ⟨s', a1, a2, a3, a4⟩ := c
              exact ihk (4096 * pc12 s' + s') (Nat.lt_of_lt_of_le a4 h4) s' a1 a2 a3 (Nat.le_refl _)
            · refine n ⟨s, h1, h2, h3, fun s' b1 b2 b3 => ?_⟩
              have b4 : ¬ 4096 * pc12 s' + s' < 4096 * pc12 s + s := fun q => c ⟨s', b1, b2, b3, q⟩
              have l1 : s < 4096 := Nat.lt_of_le_of_lt h1 btw_lt
              have l2 : s' < 4096 := Nat.lt_of_le_of_lt b1 btw_lt
              generalize pc12 s = x at *
              generalize pc12 s' = y at *
              omega
        exact key _ (btw (aC S) g z) (Nat.le_refl _) (by unfold nb; rw [Nat.and_self, Nat.xor_self]) nb' (Nat.le_refl _)
      obtain ⟨r, hr⟩ := ex
      have rl : r < 4096 := Nat.lt_of_le_of_lt hr.1 btw_lt
      refine p_of (S := S) (S' := S) (r := dirC (aC S) g z + pc12 r) (t := t) hS wM (fun Q HQ => ?_) (fun h1 Q w1 HQ => ?_)
      · have HQ := HQ h t wX zEq.rf
        refine v_X9_apart ⟨t, wX.1.1, wX.1.2.1, ?_⟩
        refine c_hasEnds wX.1.2.1 ⟨wC.1, wC.2.2.1, wC.2.2.2.1⟩ (fun _ => ⟨fun _ => ⟨t, wX.1.1, wX.1.2.1, t, wX.1.1, wX.1.2.1, fun _ => ⟨t, wX.1.1, wX.1.2.1, ?_⟩, fun e => ?_⟩, fun e => by omega⟩) (fun n => absurd G n)
        · refine c_between wX.1.2.1 hn12 wC hg hz hgn hzn ?_
          refine c_leastBar (wd := 1) wX.1.1 wX.1.2.1 hC wC hg hz hgn hzn btw_lt p11 (fun w => absurd w nb') (fun _ r' hr' => ⟨t, wX.1.1, wX.1.2.1, t, wX.1.1, wX.1.2.1, t, wX.1.1, wX.1.2.1, ?_⟩)
          rw [lbI_u hr' hr, wC.2.2.1, wC.2.2.2.1, hg, hz]
          refine c_gives wX.1.2.1 wC.2.2.2.2.2.2.1 (by omega) (by omega) ?_
          intro y17 hy17
          have ey : y17 = dirC (aC S) g z := by
            rw [hy17]
            unfold dirC
            by_cases c : 0 < ctk (aC S) g z
            · rw [if_pos c, if_neg (by omega)]
            · rw [if_neg c, if_pos rfl]
          rw [ey]
          refine ⟨fun _ => ?_, fun e => by omega⟩
          refine c_bitCount rl ?_
          have d1 : 0 ≤ dirC (aC S) g z ∧ dirC (aC S) g z ≤ 1 := by unfold dirC; split <;> omega
          have pl : (pc12 r : Int) ≤ 12 := by have := pc_12 r; omega
          have p0 : (0 : Int) ≤ pc12 r := Int.natCast_nonneg _
          rw [w32_id (by omega) (by omega)]
          exact HQ
        · rw [wC.2.2.1, wC.2.2.2.1, hg, hz] at e; exact absurd (by omega) gz
      · exact c_M_apart hC w1.2.2.1 hg hz hgn hzn gz hr (fun h2 e2 => HQ h2 (w1.k (zEw.of e2 (fun c i q => by unfold MK at q; omega))) (e2.wk (fun c q => by omega)))
  · refine p_of (S := S) (S' := S) (r := 0) (t := t) hS wM (fun Q HQ => ?_) (fun h1 Q w1 HQ => ?_)
    · have HQ := HQ h t wX zEq.rf
      refine v_X9_apart ⟨t, wX.1.1, wX.1.2.1, ?_⟩
      exact c_hasEnds wX.1.2.1 ⟨wC.1, wC.2.2.1, wC.2.2.2.1⟩ (fun n => absurd n G) (fun _ => ⟨fun e => absurd rfl e, fun _ => HQ⟩)
    · have HQ := HQ h1 w1 zEq.rf
      refine v_X10_apart ?_
      rw [w1.2.2.1.2.2.1, w1.2.2.1.2.2.2.1]
      exact ⟨fun _ => HQ, fun c => ⟨fun c2 => absurd ⟨⟨c, by omega⟩, c2, by omega⟩ G, fun _ => HQ⟩⟩
end OM
