/-! safe: both sides -/
def sfH (C : zCt) (g z k : Nat) : Prop := cga C = g ∧ cse C = z ∧ g < cn C ∧ z < cn C ∧ g ≠ z ∧ mx (owN C g z) 10 ≠ 0 ∧ amx (owN C g z) 10 = k ∧ k ≤ 9 ∧ owN C g z k = mx (owN C g z) 10
def sfE (C : zCt) (g : Nat) : Prop := cga C = g ∧ cse C = g ∧ g < cn C
theorem own_rng {C : zCt} (hC : okC C) {g z k : Nat} (hg : g < cn C) (hk : k ≤ 9) : 0 ≤ owN C g z k ∧ owN C g z k ≤ 1000000000000000000 ∧ (owN C g z k = 0 ↔ pP (spr g (spS C)) (cn C) z k g = 0) := by
  unfold owN
  have pr := pP_rng (z := z) (okO_r (g := g) (spS_ok hC)) k g hg
  have kp := hK_pos (9 - k)
  have m := Int.mul_le_mul_of_nonneg_right pr.2 (Int.le_of_lt kp)
  rw [(hK_mul hk).1] at m
  refine ⟨Int.mul_nonneg pr.1 (Int.le_of_lt kp), m, fun e => ?_, fun e => by rw [e, Int.zero_mul]⟩
  refine Classical.byContradiction (fun ne => ?_)
  have := Int.mul_pos (show 0 < pP (spr g (spS C)) (cn C) z k g by omega) kp
  omega
theorem lik {C : zCt} (hC : okC C) {g z : Nat} (hz : cse C = z) (hgn : g < cn C) (hzn : z < cn C) (gz : g ≠ z) : (mn (fun l => bO (spS C) (cn C) z l g) 11 = if mx (owN C g z) 10 = 0 then 4000000000000000000 else -(mx (owN C g z) 10)) ∧ (mx (owN C g z) 10 ≠ 0 → am (fun l => bO (spS C) (cn C) z l g) 11 = (amx (owN C g z) 10).toNat + 1) := by
  obtain ⟨a1, a2⟩ := bO_am (sp := spS C) (z := z) (K := 11) (spS_ok hC) hgn
  have s0 : bO (spr g (spS C)) (cn C) z 0 g = 4000000000000000000 := by rw [bO_0, if_neg gz]
  obtain ⟨b1, b2⟩ := mn_shift (f := fun l => bO (spr g (spS C)) (cn C) z l g) s0 10
  have so := okO_r (g := g) (spS_ok hC)
  have sz := sp_z (C := C) (g := g) (z := z) hz gz
  obtain ⟨c1, _, c3⟩ := mnmx (F := fun l => bO (spr g (spS C)) (cn C) z (l + 1) g) (G := owN C g z) (K := 1) (by omega) 10 (fun b hb => by
    have e := bO_pP so hzn sz b g (by omega) hgn gz
    have r := own_rng hC (z := z) hgn (show b ≤ 9 by omega)
    show bO (spr g (spS C)) (cn C) z (b + 1) g = _
    rw [e, Int.mul_one]
    by_cases c : pP (spr g (spS C)) (cn C) z b g = 0
    · rw [if_pos c, if_pos (r.2.2.mpr c)]
    · rw [if_neg c, if_neg (fun q => c (r.2.2.mp q))]; rfl) (fun b hb => (own_rng hC (z := z) hgn (by omega)).1)
  rw [Int.mul_one] at c1
  refine ⟨by rw [a1, b1, c1], fun ne => ?_⟩
  have nw : mn (fun l => bO (spr g (spS C)) (cn C) z (l + 1) g) 10 ≠ 4000000000000000000 := by
    rw [c1, if_neg ne]
    have := (mx_le (f := owN C g z) 10).1
    omega
  rw [a2 (by rw [a1, b1]; exact nw), b2 nw, c3 ne]
  rfl
section S3
variable {E : zE} {d : Nat} {h : zS}
theorem c_layLik {k1 : Nat} {C : zCt} {Q : Int → zS → Prop} (hk1 : isCity k1) (hC : okC C) (wC : hI h k1 0 = (cn C : Int) ∧ hI h k1 2 = cga C ∧ hI h k1 3 = cse C) (hs : spH h (cn C) (spS C))
    (H0 : (¬ ∃ g z k, sfH C g z k) → (¬ ∃ g, sfE C g) → ∀ h1, hI h1 30 4 = 0 → zEq (fun c => c ≠ 30 ∧ c ≠ 32 ∧ c ≠ 33) h h1 → Q 4000000000000000000 h1)
    (H1 : ∀ g z k, sfH C g z k → ∀ h1, XWay h1 (k + 2) (fun i => (wz C g z (k + 1) i : Int)) → zEq (fun c => c ≠ 30 ∧ c ≠ 32 ∧ c ≠ 33) h h1 → Q (owN C g z k) h1)
    (H2 : ∀ g, sfE C g → ∀ h1, XWay h1 1 (fun _ => (g : Int)) → zEq (fun c => c ≠ 30 ∧ c ≠ 32 ∧ c ≠ 33) h h1 → Q 1000000000000000000 h1) : zCl E (d + 5) m_X7_layLikeliest [vo 30, vo k1] h Q := by
  have hn12 := hC.1
  have kd := (city_lt hk1).2
  have so := spS_ok hC
  refine v_X7_layLikeliest hk1 ?_
  intro h1 e1
  obtain ⟨v1, n1, q1⟩ := st_cp e1
  clear e1
  have s1 : spH h1 (cn C) (spS C) := fun a b ha hb => by rw [q1.I (by omega)]; exact hs a b ha hb
  have Z : ∀ h2, zEq (fun c => c ≠ 30 ∧ c ≠ 32 ∧ c ≠ 33) h1 h2 → zEq (fun c => c ≠ 30 ∧ c ≠ 32 ∧ c ≠ 33) h h2 := fun h2 e => (q1.wk (fun c q => q.1)).tr e
  refine c_lay (C := C) (bo := 1) (op := opO) (s0 := oS) (sp := spS C) (L := 10) hk1 hn12 ⟨by rw [q1.I (by omega)]; exact wC.1, by rw [q1.I (by omega)]; exact wC.2.1, by rw [q1.I (by omega)]; exact wC.2.2⟩ (by omega) s1 v1 (fun z hz l hl => opk_O so) ?_ ?_ ?_
  · intro ne h2 l2 z2
    refine ⟨fun c => absurd (lc_0.mpr rfl) c, fun _ => H0 ?_ ?_ h2 l2 (Z h2 z2)⟩
    · rintro ⟨g, z, k, w1, w2, w3, w4, _⟩
      exact ne ⟨⟨by omega, by omega⟩, by omega, by omega⟩
    · rintro ⟨g, w1, w2, w3⟩
      exact ne ⟨⟨by omega, by omega⟩, by omega, by omega⟩
  · intro g z hg hz hgn hzn nw h2 l2 z2
    have nw : mn (fun l => bO (spS C) (cn C) z l g) 11 = 4000000000000000000 := nw
    have gz : g ≠ z := by
      intro e
      have := (mn_le (f := fun l => bO (spS C) (cn C) z l g) 11).2 0 (by omega)
      have f0 : bO (spS C) (cn C) z 0 g = oS := by rw [bO_0, if_pos e]
      rw [nw, f0] at this
      have this : (4000000000000000000 : Int) ≤ -1000000000000000000 := this
      omega
    have k := (lik hC hz hgn hzn gz).1
    have m0 : mx (owN C g z) 10 = 0 := by
      refine Classical.byContradiction (fun ne => ?_)
      rw [if_neg ne, nw] at k
      have := (mx_le (f := owN C g z) 10).1
      omega
    refine ⟨fun c => absurd (lc_0.mpr rfl) c, fun _ => H0 ?_ ?_ h2 l2 (Z h2 z2)⟩
    · rintro ⟨g', z', k', w1, w2, w3, w4, w5, w6, _⟩
      have eg : g' = g := by omega
      have ez : z' = z := by omega
      subst eg; subst ez
      exact w6 m0
    · rintro ⟨g', w1, w2, w3⟩
      omega
  · intro g z m hg hz hgn hzn nw hm w h2 w0 wk l2 y2 z2
    have nw : mn (fun l => bO (spS C) (cn C) z l g) 11 ≠ 4000000000000000000 := nw
    have hm : m = am (fun l => bO (spS C) (cn C) z l g) 11 := hm
    show (z_lcmp (mn (fun l => bO (spS C) (cn C) z l g) 11) 4000000000000000000 ≠ 0 → Q (w64 (-(mn (fun l => bO (spS C) (cn C) z l g) 11))) h2) ∧ (z_lcmp (mn (fun l => bO (spS C) (cn C) z l g) 11) 4000000000000000000 = 0 → Q 4000000000000000000 h2)
    refine ⟨fun _ => ?_, fun c => absurd (lc_0.mp c) nw⟩
    obtain ⟨am1, am2, am3⟩ := am_is (f := fun l => bO (spS C) (cn C) z l g) 11 nw
    have am2 : bO (spS C) (cn C) z (am (fun l => bO (spS C) (cn C) z l g) 11) g = mn (fun l => bO (spS C) (cn C) z l g) 11 := am2
    have am3 : ∀ b, b < am (fun l => bO (spS C) (cn C) z l g) 11 → mn (fun l => bO (spS C) (cn C) z l g) 11 < bO (spS C) (cn C) z b g := am3
    by_cases gz : g = z
    · have b0 : bO (spS C) (cn C) z 0 g = -1000000000000000000 := by rw [bO_0, if_pos gz]
      have up := (mn_le (f := fun l => bO (spS C) (cn C) z l g) 11).2 0 (by omega)
      have up : mn (fun l => bO (spS C) (cn C) z l g) 11 ≤ bO (spS C) (cn C) z 0 g := up
      have lo : ∀ l, -1000000000000000000 ≤ bO (spS C) (cn C) z l g := fun l => by
        rcases bO_rng (z := z) so l g hgn with q | q <;> omega
      have lo2 : -1000000000000000000 ≤ mn (fun l => bO (spS C) (cn C) z l g) 11 := by rw [← am2]; exact lo _
      have ev : mn (fun l => bO (spS C) (cn C) z l g) 11 = -1000000000000000000 := by omega
      have m0 : m = 0 := by
        by_cases c : 0 < am (fun l => bO (spS C) (cn C) z l g) 11
        · have := am3 0 c; omega
        · omega
      rw [ev, w64_id (by omega) (by omega)]
      refine H2 g ⟨hg, by rw [gz]; exact hz, hgn⟩ h2 ⟨by rw [l2, m0], fun i hi => ?_⟩ (Z h2 z2)
      have : i = 0 := by omega
      rw [this, y2 0 (by omega), w0]
    · obtain ⟨k1, k2⟩ := lik hC hz hgn hzn gz
      have mne : mx (owN C g z) 10 ≠ 0 := fun e => nw (by rw [k1, if_pos e])
      rw [if_neg mne] at k1
      obtain ⟨k, hk, ka, ko⟩ := amx_is (f := owN C g z) 10 mne
      have km : m = k + 1 := by rw [hm, k2 mne, ka]; rfl
      have orng := own_rng hC (z := z) hgn (show k ≤ 9 by omega)
      rw [k1, Int.neg_neg, ← ko, w64_id (by omega) (by omega)]
      refine H1 g z k ⟨hg, hz, hgn, hzn, gz, mne, ka, by omega, ko⟩ h2 ⟨by rw [l2, km], fun i hi => ?_⟩ (Z h2 z2)
      rw [y2 i (by omega)]
      have key : ∀ i, i ≤ m → w i = wz C g z (k + 1) i ∧ w i < cn C ∧ bO (spr g (spS C)) (cn C) z (m - i) (w i) = bO (spS C) (cn C) z (m - i) (w i) ∧ bO (spS C) (cn C) z (m - i) (w i) ≤ mn (fun l => bO (spS C) (cn C) z l g) 11 := by
        intro i
        induction i with
        | zero =>
          intro _
          refine ⟨by rw [w0]; rfl, by rw [w0]; exact hgn, ?_, ?_⟩
          · rw [w0, Nat.sub_zero]
            refine Classical.byContradiction (fun ne => ?_)
            have mo := bO_mono (g := g) (z := z) so m g hgn
            obtain ⟨l', h1', h2'⟩ := bO_ring so m g hgn (show bO (spS C) (cn C) z m g < bO (spr g (spS C)) (cn C) z m g by omega)
            rw [← hm] at am2 am3
            have := am3 l' h1'
            omega
          · rw [w0, Nat.sub_zero, hm, am2]; exact Int.le_refl _
        | succ i ihi =>
          intro hi
          obtain ⟨i1, i2, i3, i4⟩ := ihi (by omega)
          have e1 : m - i = (m - 1 - i) + 1 := by omega
          have e2 : m - (i + 1) = m - 1 - i := by omega
          have nw' : mn (fun l => bO (spS C) (cn C) z l g) 11 < 4000000000000000000 := by
            have := (mn_le (f := fun l => bO (spS C) (cn C) z l g) 11).1
            omega
          rw [e1] at i3 i4
          have f := wk i (by omega)
          rw [← hm] at am3
          obtain ⟨f1, f2, f3⟩ := bO_fb (g := g) so i2 i3 (by omega) (fun l' hl' q => by have := am3 l' (by omega); omega) f
          rw [e2]
          refine ⟨?_, f.1, f2, Int.le_trans f3 i4⟩
          rw [i1] at f1
          refine (wz_is ?_).symm
          rw [show k + 1 - 1 - i = m - 1 - i by omega]
          exact f1
      show (w i : Int) = ((wz C g z (k + 1) i : Nat) : Int)
      rw [(key i (by omega)).1]
end S3
