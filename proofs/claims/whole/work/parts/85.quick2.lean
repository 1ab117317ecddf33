/-! the model's layWay; quick, cheap, gap -/
section Q2
variable {E : zE} {d : Nat} {h : zS}
theorem MCity_w {h h1 : zS} {C : zCt} (w : MCity h C) (e : zEw (fun c i => ¬ (c = 89 ∧ i = 37) ∧ c ≠ 105 ∧ c ≠ 106 ∧ c ≠ 107) h h1) : MCity h1 C := w.w (fun i _ _ => (e _ _ ⟨by omega, by omega, by omega, by omega⟩).1) (fun j _ _ i => (e _ _ ⟨by omega, by omega, by omega, by omega⟩).1)
theorem MEarn_w {h h1 : zS} {C : zCt} {N : zEn} (w : MEarn h C N) (e : zEw (fun c i => ¬ (c = 89 ∧ i = 37) ∧ c ≠ 105 ∧ c ≠ 106 ∧ c ≠ 107) h h1) : MEarn h1 C N := w.w (e _ _ ⟨by omega, by omega, by omega, by omega⟩).1 (e _ _ ⟨by omega, by omega, by omega, by omega⟩).1 (fun j _ _ i => (e _ _ ⟨by omega, by omega, by omega, by omega⟩).1)
theorem c_M_layWay {C : zCt} {N : zEn} {y : Nat} {Q : Int → zS → Prop} (hy : y ≤ 2) (hC : okC C) (hN : okN C N) (wC : MCity h C) (wN : MEarn h C N)
    (H0 : (¬ ∃ g z c m, wyH C N y g z c m) → ∀ h1, hI h1 89 37 = 0 → zEw (fun c i => ¬ (c = 89 ∧ i = 37) ∧ c ≠ 105 ∧ c ≠ 106 ∧ c ≠ 107) h h1 → zEq (fun c => c < 89) h h1 → Q (-1) h1)
    (H1 : ∀ g z c m, wyH C N y g z c m → ∀ h1, MWay h1 (m + 1) (wyW C N y g z) → zEw (fun c i => ¬ (c = 89 ∧ i = 37) ∧ c ≠ 105 ∧ c ≠ 106 ∧ c ≠ 107) h h1 → zEq (fun c => c < 89) h h1 → Q c h1) : zCi E (d + 6) m_X10_layWay [vo 89, vi y] h Q := by
  have hn12 := hC.1
  have sok := spO_ok (N := N) (y := y) hC
  have hga := hC.2.2.1
  have hse := hC.2.2.2.1
  refine v_X10_layWay ?_
  intro h1 e1
  have W1 : zEw (fun c i => ¬ (c = 89 ∧ i = 37) ∧ c ≠ 105 ∧ c ≠ 106 ∧ c ≠ 107) h h1 := by rw [e1]; exact zEw_I (by simp)
  have Z1 : zEq (fun c => c < 89) h h1 := by rw [e1]; exact zEq_I (by omega)
  have v1 := (st_cp e1).1
  clear e1
  have wC1 := MCity_w wC W1
  have wN1 := MEarn_w wN W1
  rw [wC1.2.2.1, wC1.2.2.2.1]
  refine ⟨fun c => H0 ?_ h1 v1 W1 Z1, fun c => ⟨fun c2 => ?_, fun c2 => H0 ?_ h1 v1 W1 Z1⟩⟩
  · rintro ⟨g, z, _, _, w1, _⟩; omega
  · obtain ⟨g, hg⟩ : ∃ g : Nat, cga C = g := ⟨(cga C).toNat, by omega⟩
    obtain ⟨z, hz⟩ : ∃ z : Nat, cse C = z := ⟨(cse C).toNat, by omega⟩
    have hgn : g < cn C := by omega
    have hzn : z < cn C := by omega
    refine c_M_layWays hy hC hN wC1 wN1 hz hzn (fun D h2 hD cm q2 => ?_)
    have kd := kD_is C N y z
    have cm : ∀ x, x < cn C → cmO h2 (kD C N y z) x 144 := fun x hx => (cm x hx).w rfl rfl (isD_u kd hD hx)
    clear hD
    have W2 : zEw (fun c i => ¬ (c = 89 ∧ i = 37) ∧ c ≠ 105 ∧ c ≠ 106 ∧ c ≠ 107) h h2 := W1.tr (zEw.of q2 (fun c i q => ⟨q.2.1, q.2.2.1⟩))
    have Z2 : zEq (fun c => c < 89) h h2 := Z1.tr (q2.wk (fun c q => by omega))
    have wC2 := MCity_w wC W2
    rw [wC2.2.2.1, hg]
    refine ⟨by omega, ?_⟩
    simp only [Int.toNat_natCast]
    have l2 : hI h2 89 37 = 0 := by rw [q2.I (by omega)]; exact v1
    have kf : (kF : Int) = 1001000000 := rfl
    refine ⟨fun c3 => ?_, fun c3 => H0 ?_ h2 l2 W2 Z2⟩
    · rcases wyH_or C N y hC with ⟨g', z', c', m, w'⟩ | ne | ⟨g', z', e1, e2, _, _, e5⟩
      · have eg : g' = g := by have := w'.1; omega
        have ez : z' = z := by have := w'.2.1; omega
        subst eg
        subst ez
        have H1 := H1 g' z' c' m w'
        obtain ⟨p1, p2, p3, p4, p5, p6, p7, p8⟩ := w'
        have ok := wy_ok hn12 p4 sok kd p3 p5 p6 (by omega)
        intro h4 e4 h5 e5
        have W4 : zEw (fun c i => ¬ (c = 89 ∧ i = 37) ∧ c ≠ 105 ∧ c ≠ 106 ∧ c ≠ 107) h2 h4 := by rw [e4]; exact zEw_I (by simp)
        have W5 : zEw (fun c i => ¬ (c = 89 ∧ i = 37) ∧ c ≠ 105 ∧ c ≠ 106 ∧ c ≠ 107) h4 h5 := by rw [e5]; exact zEw_I (by simp)
        obtain ⟨v4, n4, q4⟩ := st_cp e4
        obtain ⟨v5, n5, q5⟩ := st_cp e5
        clear e4 e5
        refine z_up (n := m) (fun k h3 => zWi E (d + 5 + 1) m_X10_layWay 60 [vo 89, vi y, vi (wyW C N y g' z' k), vn] h3 Q)
          (fun k h3 => hI h3 89 37 = ((k + 1 : Nat) : Int) ∧ (∀ i, i ≤ k → hI h3 107 i = wyW C N y g' z' i) ∧ zEw (fun c i => ¬ (c = 89 ∧ i = 37) ∧ c ≠ 105 ∧ c ≠ 106 ∧ c ≠ 107) h h3 ∧ zEq (fun c => c < 89) h h3 ∧ zEq (fun c => c = 105 ∨ c = 106) h2 h3) ?_ ?_ 0 h5 (by omega) ⟨v5, fun i hi => ?_, W2.tr (W4.tr W5), Z2.tr ((q4.wk (fun c q => by omega)).tr (q5.wk (fun c q => by omega))), (q4.wk (fun c q => by omega)).tr (q5.wk (fun c q => by omega))⟩
        · rintro h3 ⟨u1, u2, u3, u4, u5⟩
          have em : wyW C N y g' z' m = z' := by
            have := (ok m (Nat.le_refl _)).2.2.2.2 rfl
            show ((wy (cn C) (kD C N y z') (spO C N y) g' m : Nat) : Int) = z'
            rw [this]
          have wC3 := MCity_w wC u3
          refine r_X10_layWay_60 ⟨fun _ => ?_, fun e => ?_⟩
          · rw [wC3.2.2.1, hg]
            refine ⟨by omega, ?_⟩
            simp only [Int.toNat_natCast]
            have c5 : hI h3 105 g' = (c' : Int) := by
              rw [u5.I (.inl rfl)]
              rcases cm g' hgn with ⟨_, _, x⟩ | ⟨cc, mm, x1, x2, x3, x4, x5⟩
              · omega
              · have := D_u p5 x3 (by omega) (by omega)
                rw [x1, this.1]
            rw [c5]
            exact H1 h3 ⟨u1, fun i hi => u2 i (by omega)⟩ u3 u4
          · rw [em, wC3.2.2.2.1, hz] at e; exact absurd rfl e
        · rintro k h3 hk ⟨u1, u2, u3, u4, u5⟩ ih
          have wC3 := MCity_w wC u3
          have wN3 := MEarn_w wN u3
          obtain ⟨o1, _, o4, o5, _⟩ := ok k (by omega)
          have nz := o5 hk
          have nxt := nx_is (nx_ex kd o1 nz o4)
          have ew : wyW C N y g' z' k = ((wy (cn C) (kD C N y z') (spO C N y) g' k : Nat) : Int) := rfl
          have ew1 : wyW C N y g' z' (k + 1) = ((nx (cn C) (kD C N y z') (spO C N y) (wy (cn C) (kD C N y z') (spO C N y) g' k) : Nat) : Int) := rfl
          rw [ew]
          rw [ew1] at ih
          generalize wy (cn C) (kD C N y z') (spO C N y) g' k = p at *
          generalize nx (cn C) (kD C N y z') (spO C N y) p = b at *
          have cm3 : ∀ x, x < cn C → cmO h3 (kD C N y z') x 144 := fun x hx => (cm x hx).w (u5.I (.inl rfl) x) (u5.I (.inr rfl) x) rfl
          refine r_X10_layWay_60 ⟨fun e => ?_, fun _ => ?_⟩
          · rw [wC3.2.2.2.1, hz] at e; omega
          refine z_upS (σ := Unit) (n := b) (fun q _ => zWi E (d + 5 + 1) m_X10_layWay 70 [vo 89, vi y, vi p, vi q] h3 Q) (fun _ _ => True) ?_ ?_ 0 () (by omega) trivial
          · intro _ _
            refine r_X10_layWay_70 ?_
            refine c_M_leads hy hC hN wC3 wN3 o1 nxt.1 (cm3 p o1) (cm3 b nxt.1) o4 (fun _ => ⟨fun _ => ?_, fun e => by omega⟩) (fun n => absurd nxt.2.1 n)
            rw [u1]
            refine ⟨by omega, ?_⟩
            simp only [Int.toNat_natCast]
            intro h6 e6
            have W6 : zEw (fun c i => ¬ (c = 89 ∧ i = 37) ∧ c ≠ 105 ∧ c ≠ 106 ∧ c ≠ 107) h3 h6 := by rw [e6]; exact zEw_I (by simp)
            obtain ⟨v6, n6, q6⟩ := st_cp e6
            clear e6
            have l6 : hI h6 89 37 = ((k + 1 : Nat) : Int) := by rw [q6.I (by omega)]; exact u1
            rw [l6, w32s (by omega)]
            intro h7 e7
            have W7 : zEw (fun c i => ¬ (c = 89 ∧ i = 37) ∧ c ≠ 105 ∧ c ≠ 106 ∧ c ≠ 107) h6 h7 := by rw [e7]; exact zEw_I (by simp)
            obtain ⟨v7, n7, q7⟩ := st_cp e7
            clear e7
            refine ih h7 ⟨v7, fun i hi => ?_, u3.tr (W6.tr W7), u4.tr ((q6.wk (fun c q => by omega)).tr (q7.wk (fun c q => by omega))), u5.tr ((q6.wk (fun c q => by omega)).tr (q7.wk (fun c q => by omega)))⟩
            by_cases e : i = k + 1
            · rw [e, q7.I (by omega), v6, ew1]
            · rw [q7.I (by omega), n6 _ _ (fun q => e q.2)]; exact u2 i (by omega)
          · intro q _ hq _ ih2
            have qn : q < cn C := Nat.lt_trans hq nxt.1
            refine r_X10_layWay_70 ?_
            refine c_M_leads hy hC hN wC3 wN3 o1 qn (cm3 p o1) (cm3 q qn) o4 (fun l => absurd l (nxt.2.2 q hq)) (fun _ => ⟨fun e => absurd rfl e, fun _ => ?_⟩)
            rw [w32s (by omega)]
            exact ih2 () trivial
        · have : i = 0 := by omega
          rw [this, q5.I (by omega), v4]
          rfl
      · exact absurd ⟨⟨by omega, by omega⟩, by omega, by omega⟩ ne
      · have eg : g' = g := by omega
        have ez : z' = z := by omega
        subst eg
        subst ez
        rcases cm g' hgn with ⟨x, _, _⟩ | ⟨cc, mm, x1, x2, x3, x4, x5⟩
        · exact absurd x c3
        · omega
    · rintro ⟨g', z', c', m, w1, w2, w3, w4, w5, w6, _⟩
      have eg : g' = g := by omega
      have ez : z' = z := by omega
      subst eg
      subst ez
      rcases cm g' hgn with ⟨_, _, x⟩ | ⟨cc, mm, x1, x2, x3, x4, x5⟩
      · omega
      · omega
  · rintro ⟨g, z, _, _, _, w2, _⟩; omega
end Q2
