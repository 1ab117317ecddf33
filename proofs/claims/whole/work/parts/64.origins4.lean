/-! origins: both sides -/
section O4
variable {E : zE} {d : Nat} {h : zS}
theorem fEnd_rng (C : zCt) (one : Nat) : ∀ q, q < cn C → -1 ≤ (fEnd C one).1 q ∧ (fEnd C one).1 q ≤ 400 := fun q hq => ((okF_run (C := C) (kf := ckn C) (okF_0 C one) 400) q hq).1
theorem orY_b {C : zCt} {Y : zNt} {k : Int} {i : Nat} (hY : okY C Y) : orY C Y k i = -1 ∨ orY C Y k i = 100 ∨ (0 ≤ orY C Y k i ∧ orY C Y k i ≤ 99) := by
  rcases orY_s (C := C) (k := k) (one := i) hY with a | a | a
  · exact .inl a.1
  · exact .inr (.inl a.1)
  · exact .inr (.inr a.1)
theorem p_origins {x k : Int} (w : zGo h) : zPair E m_X9_origins m_X10_origins [vi x, vi k] h := by
  obtain ⟨t, S, hS, wX, wM⟩ := w
  have hC := hS.2.1
  have hY := hS.2.2.2.2.1
  have hn12 := hC.1
  have wC := wX.2.2.2.1
  have wFl := wX.2.2.2.2.1
  have wY := wX.2.2.2.2.2.2.2.1
  by_cases G : 0 ≤ x ∧ x ≤ 2
  · refine p_of (S := S) (S' := S) (r := orR (aC S) (aY S) x k) (t := t) hS wM (fun Q HQ => ?_) (fun h1 Q w1 HQ => ?_)
    · have HQ := HQ h t wX zEq.rf
      refine v_X9_origins ⟨fun c => by omega, fun _ => ⟨fun _ => ?_, fun c => by omega⟩⟩
      refine z_upS (n := cn (aC S)) (fun i (s : Int × Nat × Int) => zWi E (7 + 1) m_X9_origins 22 [vo 0, vi x, vi k, vi s.1, vi (s.2.1 : Int), vi s.2.2, vi i, vn, vn] h Q) (fun i s => s = orF (aC S) (aY S) k i) ?_ ?_ 0 (0, 0, -1) (by omega) rfl
      · rintro s rfl
        unfold orR at HQ
        refine r_X9_origins_22 ⟨t, wX.1.1, wX.1.2.1, fun _ => ⟨fun e => ⟨fun e2 => ?_, fun e2 => ?_⟩, fun e => ?_⟩, fun c => by rw [wC.1] at c; omega⟩
        · rw [if_neg e, if_neg e2] at HQ; exact HQ
        · rw [if_neg e, if_pos e2] at HQ; exact HQ
        · rw [if_pos e] at HQ; exact HQ
      · rintro i s hi rfl ih
        have bd := orF_b (C := aC S) (k := k) hY i (by omega)
        have yb := orY_b (C := aC S) (k := k) (i := i) hY
        have eF : orF (aC S) (aY S) k (i + 1) = if ckd (aC S) i = 3 then orF (aC S) (aY S) k i else orU (orF (aC S) (aY S) k i) i (orY (aC S) (aY S) k i) := rfl
        refine r_X9_origins_22 ⟨t, wX.1.1, wX.1.2.1, fun c => by rw [wC.1] at c; omega, fun _ => ⟨t, wX.1.1, wX.1.2.1, ?_⟩⟩
        rw [w32s (by omega)]
        refine c_isBox wX.1.2.1 hC wC hi ?_
        by_cases k3 : ckd (aC S) i = 3
        · rw [if_pos k3]
          exact ⟨fun e => by omega, fun _ => ⟨fun _ => ih _ (by rw [eF, if_pos k3]), fun e => absurd rfl e⟩⟩
        · rw [if_neg k3]
          refine ⟨fun _ => ?_, fun e => absurd rfl e⟩
          refine c_startOf hn12 hY wY hi (T := (fEnd (aC S) i).1) (fun q hq => ⟨((wFl i hi k3).1 q hq).1, fEnd_rng _ _ q hq⟩) ?_
          intro y hy
          have ey : y = orY (aC S) (aY S) k i := orP_u hy (orY_s hY)
          rw [← ey] at eF yb
          have h2k := zb_2k (show i < 12 by omega)
          generalize orF (aC S) (aY S) k i = s at *
          refine ⟨fun c => ih s ?_, fun c => ?_⟩
          · rw [eF, if_neg k3]; unfold orU; rw [if_pos c]
          · rw [zb_1 (by omega), zb_or (by omega) (by omega)]
            rintro y8 h8 y10 h10 y12 h12
            have e8 : y8 = s.1 + (if y ≠ 100 then 1 else 100) := by
              rw [h8, w32_id]
              · split <;> omega
              · split <;> omega
            have e12 : y12 = if s.2.2 ≠ -1 then s.2.2 else 100 * (i : Int) + (if y ≠ 100 then y else 0) := by
              rw [h12, h10]
              have : w32 (w32 (100 * (i : Int)) + (if y ≠ 100 then y else 0)) = 100 * (i : Int) + (if y ≠ 100 then y else 0) := by
                rw [w32_id (z := 100 * (i : Int)) (by omega) (by omega), w32_id]
                · split <;> omega
                · split <;> omega
              rw [this]
            rw [e8, e12]
            refine ih (s.1 + (if y ≠ 100 then 1 else 100), s.2.1 ||| 2 ^ i, if s.2.2 ≠ -1 then s.2.2 else 100 * (i : Int) + (if y ≠ 100 then y else 0)) ?_
            rw [eF, if_neg k3]; unfold orU; rw [if_neg c]
    · refine v_X10_origins ⟨fun c => by omega, fun _ => ⟨fun _ => ?_, fun c => by omega⟩⟩
      refine z_upS (n := cn (aC S)) (fun i (s : (Int × Nat × Int) × zS) => zWi E (7 + 1) m_X10_origins 22 [vo 89, vi x, vi k, vi s.1.1, vi (s.1.2.1 : Int), vi s.1.2.2, vi i, vn] s.2 Q) (fun i s => s.1 = orF (aC S) (aY S) k i ∧ zEq (fun c => c ≠ 112 ∧ c ≠ 113 ∧ c ≠ 114) h1 s.2) ?_ ?_ 0 ((0, 0, -1), h1) (by omega) ⟨rfl, zEq.rf⟩
      · rintro ⟨s, h2⟩ ⟨e1, e2⟩
        dsimp only at e1 e2 ⊢
        subst e1
        have w2 : MInv h2 S := w1.k (zEw.of e2 (fun c i q => by unfold MK at q; omega))
        have HQ := HQ h2 w2 (e2.wk (fun c q => by omega))
        unfold orR at HQ
        refine r_X10_origins_22 ⟨fun _ => ⟨fun e => ⟨fun e2 => ?_, fun e2 => ?_⟩, fun e => ?_⟩, fun c => by rw [w2.2.2.1.1] at c; omega⟩
        · rw [if_neg e, if_neg e2] at HQ; exact HQ
        · rw [if_neg e, if_pos e2] at HQ; exact HQ
        · rw [if_pos e] at HQ; exact HQ
      · rintro i ⟨s, h2⟩ hi ⟨e1, e2⟩ ih
        dsimp only at e1 e2 ih ⊢
        subst e1
        have w2 : MInv h2 S := w1.k (zEw.of e2 (fun c i q => by unfold MK at q; omega))
        have bd := orF_b (C := aC S) (k := k) hY i (by omega)
        have yb := orY_b (C := aC S) (k := k) (i := i) hY
        have ys := orY_s (C := aC S) (k := k) (one := i) hY
        have eF : orF (aC S) (aY S) k (i + 1) = if ckd (aC S) i = 3 then orF (aC S) (aY S) k i else orU (orF (aC S) (aY S) k i) i (orY (aC S) (aY S) k i) := rfl
        refine r_X10_origins_22 ⟨fun c => by rw [w2.2.2.1.1] at c; omega, fun _ => ?_⟩
        rw [w32s (by omega)]
        refine c_M_canFall hC w2.2.2.1 ?_
        simp only [Int.toNat_natCast]
        by_cases k3 : ckd (aC S) i = 3
        · rw [if_neg (fun q => q.2.2 k3)]
          exact ⟨fun e => absurd rfl e, fun _ => ih (_, h2) ⟨by rw [eF, if_pos k3], e2⟩⟩
        · rw [if_pos ⟨by omega, by omega, k3⟩]
          refine ⟨fun _ => ?_, fun e => by omega⟩
          refine c_M_layFall hC w2.2.2.1 hi ?_
          intro h3 g1 g2
          have e4 := e2.tr g2
          have w3 : MInv h3 S := w1.k (zEw.of e4 (fun c i q => by unfold MK at q; omega))
          have h2k := zb_2k (show i < 12 by omega)
          rw [if_neg k3] at eF
          generalize orF (aC S) (aY S) k i = s at *
          generalize orY (aC S) (aY S) k i = y at *
          have vb : ∀ dd : Nat, dd ≤ 100 → (0 ≤ (orV s i y dd).1 ∧ (orV s i y dd).1 ≤ 100 * (i : Int) + 100) ∧ (orV s i y dd).2.1 < 4096 ∧ -1 ≤ (orV s i y dd).2.2 := by
            intro dd hdd
            by_cases c : (y = 100 ∧ 0 < dd) ∨ (y ≠ 100 ∧ 0 ≤ y ∧ y < (dd : Int))
            · rw [orV_t c]
              refine ⟨?_, zb_orlt bd.2.1 h2k, ?_⟩
              · dsimp only; split <;> omega
              · dsimp only
                split
                · omega
                · split <;> omega
            · rw [orV_e c]; exact ⟨by omega, bd.2.1, bd.2.2.1⟩
          refine z_upS (n := 100) (fun j (v : Int × Nat × Int) => zWi E (7 + 1) m_X10_origins 52 [vo 89, vi x, vi k, vi v.1, vi (v.2.1 : Int), vi v.2.2, vi i, vi j] h3 Q) (fun j v => v = orV s i y j) ?_ ?_ 0 s (by omega) orV_0.symm
          · rintro v rfl
            refine r_X10_origins_52 ⟨fun _ => ?_, fun c => by omega⟩
            rw [w32s (by omega)]
            exact ih (_, h3) ⟨by rw [eF]; exact orV_100 yb, e4⟩
          · rintro j v hj rfl ihj
            have b := vb j (by omega)
            refine r_X10_origins_52 ⟨fun c => by omega, fun _ => ?_⟩
            rw [w32s (by omega)]
            refine c_M_isOrigin hn12 hY w3.2.2.2.2.2.1 (T := (fEnd (aC S) i).1) (fun q hq => ⟨(g1 q hq).1, fEnd_rng _ _ q hq⟩) ⟨by omega, by omega⟩ (fun al => ⟨fun _ => ?_, fun e => by omega⟩) (fun na => ⟨fun e => absurd rfl e, fun _ => ihj _ ?_⟩)
            · have g : y = 100 ∨ (0 ≤ y ∧ y ≤ 99 ∧ (j : Int) = y) := by
                rcases ys with a | a | a
                · exact absurd al (a.2 j (by omega))
                · exact .inl a.1
                · exact .inr ⟨a.1.1, a.1.2, (a.2 j (by omega)).mp al⟩
              have ev := orV_y (s := s) (one := i) (dd := j) g
              generalize orV s i y j = v at *
              rw [zb_1 (by omega), zb_or (by omega) (by omega), w32_id (z := v.1 + 1) (by omega) (by omega)]
              rintro y4 h4
              refine ihj (v.1 + 1, v.2.1 ||| 2 ^ i, y4) ?_
              rw [ev, h4]
              have e5 : w32 (w32 (100 * (i : Int)) + (j : Int)) = 100 * (i : Int) + j := by
                rw [w32_id (z := 100 * (i : Int)) (by omega) (by omega), w32_id (by omega) (by omega)]
              rw [e5]
              by_cases f : v.2.2 = -1
              · rw [if_neg (by omega), if_neg (fun n => n f)]
              · rw [if_pos (by omega), if_pos f]
            · refine (orV_n ?_).symm
              rcases ys with a | a | a
              · exact .inl a.1
              · exact absurd (fun e he => a.2 j e he) na
              · exact .inr ⟨a.1.1, a.1.2, fun q => na ((a.2 j (by omega)).mpr q)⟩
  · refine p_of (S := S) (S' := S) (r := -1) (t := t) hS wM (fun Q HQ => ?_) (fun h1 Q w1 HQ => ?_)
    · have HQ := HQ h t wX zEq.rf
      exact v_X9_origins ⟨fun _ => HQ, fun c1 => ⟨fun c2 => absurd ⟨c1, c2⟩ G, fun _ => HQ⟩⟩
    · have HQ := HQ h1 w1 zEq.rf
      exact v_X10_origins ⟨fun _ => HQ, fun c1 => ⟨fun c2 => absurd ⟨c1, c2⟩ G, fun _ => HQ⟩⟩
end O4
