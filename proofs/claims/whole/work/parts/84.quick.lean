/-! quick, cheap, gap -/
theorem kD_ex (C : zCt) (N : zEn) (y z : Nat) : ∃ D, isD (cn C) (kW (spO C N y)) z kF D := isD_ex (n := cn C) (W := kW (spO C N y)) (z := z) (F := kF) (sD (fun i => if i = z then 0 else kF) (cn C) + 1) _ (vD_0k (by show (0 : Int) ≤ 1001000000; omega)) (by omega)
noncomputable def kD (C : zCt) (N : zEn) (y z : Nat) : Nat → Int := Classical.choose (kD_ex C N y z)
theorem kD_is (C : zCt) (N : zEn) (y z : Nat) : isD (cn C) (kW (spO C N y)) z kF (kD C N y z) := Classical.choose_spec (kD_ex C N y z)
def wyH (C : zCt) (N : zEn) (y g z c m : Nat) : Prop := cga C = g ∧ cse C = z ∧ g < cn C ∧ z < cn C ∧ kD C N y z g = 1000 * c + m ∧ kD C N y z g < kF ∧ m ≤ 11 ∧ c ≤ 10989
theorem wyH_or (C : zCt) (N : zEn) (y : Nat) (hC : okC C) : (∃ g z c m, wyH C N y g z c m) ∨ ¬ ((0 ≤ cga C ∧ cga C < cn C) ∧ (0 ≤ cse C ∧ cse C < cn C)) ∨ ∃ g z : Nat, cga C = g ∧ cse C = z ∧ g < cn C ∧ z < cn C ∧ kD C N y z g = kF := by
  by_cases c : (0 ≤ cga C ∧ cga C < cn C) ∧ (0 ≤ cse C ∧ cse C < cn C)
  · obtain ⟨g, hg⟩ : ∃ g : Nat, cga C = g := ⟨(cga C).toNat, by omega⟩
    obtain ⟨z, hz⟩ : ∃ z : Nat, cse C = z := ⟨(cse C).toNat, by omega⟩
    have hgn : g < cn C := by omega
    have hzn : z < cn C := by omega
    have k := kD_is C N y z
    by_cases f : kD C N y z g < kF
    · left
      obtain ⟨c', m, d1, d2, d3, d4⟩ := D_is hC.1 hzn (spO_ok (N := N) (y := y) hC) k hgn f
      exact ⟨g, z, c', m, hg, hz, hgn, hzn, d1, f, d3, by omega⟩
    · right; right
      refine ⟨g, z, hg, hz, hgn, hzn, ?_⟩
      have := (k.2.1 g hgn).2
      omega
  · exact .inr (.inl c)
noncomputable def wyW (C : zCt) (N : zEn) (y g z : Nat) (i : Nat) : Int := (wy (cn C) (kD C N y z) (spO C N y) g i : Nat)
section QK
variable {E : zE} {d : Nat} {h : zS}
/-- the class's layLeast -/
theorem c_layLeast {k1 : Nat} {C : zCt} {N : zEn} {y : Nat} {Q : Int → zS → Prop} (hk1 : isCity k1) (hC : okC C) (wC : hI h k1 0 = (cn C : Int) ∧ hI h k1 2 = cga C ∧ hI h k1 3 = cse C) (hs : spH h (cn C) (spO C N y))
    (H0 : (¬ ∃ g z c m, wyH C N y g z c m) → ∀ h1, hI h1 30 4 = 0 → zEq (fun c => c ≠ 30 ∧ c ≠ 32 ∧ c ≠ 33) h h1 → Q 4000000000000000000 h1)
    (H1 : ∀ g z c m, wyH C N y g z c m → ∀ h1, XWay h1 (m + 1) (wyW C N y g z) → zEq (fun c => c ≠ 30 ∧ c ≠ 32 ∧ c ≠ 33) h h1 → Q c h1) : zCl E (d + 5) m_X7_layLeast [vo 30, vo k1] h Q := by
  have hn12 := hC.1
  have kd := (city_lt hk1).2
  have sok := spO_ok (N := N) (y := y) hC
  refine v_X7_layLeast hk1 ?_
  intro h1 e1
  obtain ⟨v1, n1, q1⟩ := st_cp e1
  clear e1
  have s1 : spH h1 (cn C) (spO C N y) := fun a b ha hb => by rw [q1.I (by omega)]; exact hs a b ha hb
  have Z : ∀ h2, zEq (fun c => c ≠ 30 ∧ c ≠ 32 ∧ c ≠ 33) h1 h2 → zEq (fun c => c ≠ 30 ∧ c ≠ 32 ∧ c ≠ 33) h h2 := fun h2 e => (q1.wk (fun c q => q.1)).tr e
  have hw : ∀ g z c m, wyH C N y g z c m → mn (fun l => bL opA 0 (spO C N y) (cn C) z l g) 12 = c ∧ am (fun l => bL opA 0 (spO C N y) (cn C) z l g) 12 = m ∧ bL opA 0 (spO C N y) (cn C) z m g = c := by
    rintro g z c m ⟨w1, w2, w3, w4, w5, w6, w7, w8⟩
    obtain ⟨a, b, c', _⟩ := (mn_D sok (kD_is C N y z) hn12 w4 w3).2 c m w5 w6 (by omega)
    exact ⟨a, b, c'⟩
  refine c_lay (C := C) (bo := 0) (op := opA) (sp := spO C N y) (L := 11) hk1 hn12 ⟨by rw [q1.I (by omega)]; exact wC.1, by rw [q1.I (by omega)]; exact wC.2.1, by rw [q1.I (by omega)]; exact wC.2.2⟩ (by omega) s1 v1 (fun z hz l hl a b ha hb hne _ => ?_) ?_ ?_ ?_
  · have r := bL_rng (z := z) sok l b hb
    have s := sok a b ha hb
    unfold opq
    rw [if_pos rfl, w64_id (by omega) (by omega)]
  · intro ne h2 l2 z2
    refine H0 ?_ h2 l2 (Z h2 z2)
    rintro ⟨g, z, c, m, w1, w2, w3, w4, _⟩
    exact ne ⟨⟨by omega, by omega⟩, by omega, by omega⟩
  · intro g z hg hz hgn hzn nw h2 l2 z2
    refine H0 ?_ h2 l2 (Z h2 z2)
    rintro ⟨g', z', c, m, w⟩
    have eg : g' = g := by have := w.1; omega
    have ez : z' = z := by have := w.2.1; omega
    subst eg
    subst ez
    have k := (hw _ _ _ _ w).1
    have nw : mn (fun l => bL opA 0 (spO C N y) (cn C) z' l g') 12 = 4000000000000000000 := nw
    have := w.2.2.2.2.2.2.2
    omega
  · intro g z m hg hz hgn hzn nw hm w h2 w0 wk l2 y2 z2
    rcases wyH_or C N y hC with ⟨g', z', c', m', w'⟩ | ne | ⟨g', z', e1, e2, _, _, e5⟩
    · have eg : g' = g := by have := w'.1; omega
      have ez : z' = z := by have := w'.2.1; omega
      subst eg
      subst ez
      obtain ⟨k1', k2', k3'⟩ := hw _ _ _ _ w'
      have em : m' = m := by rw [hm]; exact k2'.symm
      subst em
      have k1' : mn (fun l => bL opA 0 (spO C N y) (cn C) z' l g') (11 + 1) = (c' : Int) := k1'
      rw [k1']
      refine H1 g' z' c' m' w' h2 ⟨l2, fun i hi => ?_⟩ (Z h2 z2)
      rw [y2 i (by omega)]
      obtain ⟨p1, p2, p3, p4, p5, p6, p7, p8⟩ := w'
      have ok := wy_ok hn12 p4 sok (kD_is C N y z') p3 p5 p6 (by omega)
      have same : ∀ i, i ≤ m' → w i = wy (cn C) (kD C N y z') (spO C N y) g' i := by
        intro i
        induction i with
        | zero => intro _; rw [w0]; rfl
        | succ i ihi =>
          intro hi
          have e := ihi (by omega)
          obtain ⟨o1, ⟨ck, o2, o3⟩, o4, o5, _⟩ := ok i (by omega)
          have f := wk i (by omega)
          rw [e] at f
          have ei : m' - i = (m' - 1 - i) + 1 := by omega
          rw [ei] at o2 o3
          have nn := fb_nx sok (kD_is C N y z') hn12 p4 (by omega) o1 o4 o2 o3 f
          exact nx_u nn (nx_is (nx_ex (kD_is C N y z') o1 (o5 (by omega)) o4))
      show (w i : Int) = ((wy (cn C) (kD C N y z') (spO C N y) g' i : Nat) : Int)
      rw [same i (by omega)]
    · exact absurd ⟨⟨by omega, by omega⟩, by omega, by omega⟩ ne
    · have eg : g' = g := by omega
      have ez : z' = z := by omega
      subst eg
      subst ez
      exact absurd ((mn_D sok (kD_is C N y z') hn12 hzn hgn).1 e5) nw
/-- the model's leads -/
theorem c_M_leads {C : zCt} {N : zEn} {y p q : Nat} {D : Nat → Int} {Q : Int → zS → Prop} (hy : y ≤ 2) (hC : okC C) (hN : okN C N) (wC : MCity h C) (wN : MEarn h C N) (hp : p < cn C) (hq : q < cn C) (cp : cmO h D p 144) (cq : cmO h D q 144) (fp : D p < kF)
    (H1 : Ld D (spO C N y) p q → Q 1 h) (H0 : ¬ Ld D (spO C N y) p q → Q 0 h) : zCi E (d + 5) m_X10_leads [vo 89, vi p, vi q, vi y] h Q := by
  have hn12 := hC.1
  have s := spO_ok (N := N) (y := y) hC p q hp hq
  have fp : D p < 1001000000 := fp
  refine v_X10_leads ?_
  refine c_M_stepOf (N := N) hy hC hN wC wN hp hq ?_
  unfold frO
  generalize hsp : spO C N y = sp at *
  by_cases s0 : sp p q = -1
  · rw [if_pos s0]
    exact ⟨fun _ => H0 (fun l => by have := l.1; omega), fun e => absurd rfl e⟩
  rw [if_neg s0]
  have sk : 0 ≤ sp p q := by omega
  refine ⟨fun e => by omega, fun _ => ⟨by omega, ?_⟩⟩
  simp only [Int.toNat_natCast]
  rcases cq with ⟨b1, b2, b3⟩ | ⟨c, m, b1, b2, b3, b4, b5⟩
  · rw [b1]
    refine ⟨fun _ => H0 (fun l => ?_), fun e => absurd rfl e⟩
    have l2 : D q < 1001000000 := l.2.1
    omega
  · rcases cp with ⟨a1, a2, a3⟩ | ⟨c', m', a1, a2, a3, a4, a5⟩
    · omega
    · rw [b1, b2, a1, a2]
      have ew : w32 ((c : Int) + sp p q) = (c : Int) + sp p q := w32_id (by omega) (by omega)
      have em : w32 ((m : Int) + 1) = ((m + 1 : Nat) : Int) := w32s (by omega)
      rw [ew, em]
      clear ew em
      have key : Ld D sp p q ↔ (c : Int) + sp p q = c' ∧ m + 1 = m' := by
        unfold Ld
        rw [kW_of sk]
        constructor
        · rintro ⟨_, _, e⟩; omega
        · rintro ⟨e1, e2⟩; exact ⟨sk, by show D q < 1001000000; omega, by omega⟩
      refine ⟨fun e => by omega, fun _ => ⟨by omega, fun e => H0 (fun l => e (key.mp l).1), fun e1 => ⟨fun e => H0 (fun l => ?_), fun e => H1 (key.mpr ⟨e1, by omega⟩)⟩⟩⟩
      have := (key.mp l).2
      omega
end QK
