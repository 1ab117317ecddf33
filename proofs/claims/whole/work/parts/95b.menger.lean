/-! flows against sets of people -/
noncomputable def bD (p : Prop) : Bool := @decide p (Classical.propDecidable _)
theorem bD_t {p : Prop} : bD p = true ↔ p := by unfold bD; exact @decide_eq_true_iff _ (Classical.propDecidable _)
theorem bD_f {p : Prop} : bD p = false ↔ ¬ p := by
  constructor
  · intro h q; rw [bD_t.mpr q] at h; cases h
  · intro h
    cases q : bD p
    · rfl
    · exact absurd (bD_t.mp q) h
def fc (C : zCt) (g z x y : Nat) : Int := if x % 2 = 0 then (if y = x + 1 ∧ x / 2 < cn C then (if x / 2 = g ∨ x / 2 = z then 12 else 1) else 0) else (if y % 2 = 0 ∧ 0 < ctk C (x / 2) (y / 2) then 1 else 0)
theorem fc_nn {C : zCt} {g z x y : Nat} : 0 ≤ fc C g z x y ∧ fc C g z x y ≤ 12 := by
  unfold fc
  split
  · split
    · split <;> omega
    · omega
  · split <;> omega
theorem fc_io {C : zCt} {g z p : Nat} (h1 : p < cn C) (h2 : p ≠ g) (h3 : p ≠ z) : fc C g z (2 * p) (2 * p + 1) = 1 := by
  unfold fc
  rw [if_pos (show 2 * p % 2 = 0 by omega), show 2 * p / 2 = p by omega, if_pos ⟨rfl, h1⟩, if_neg (by omega)]
theorem fc_oi {C : zCt} {g z p q : Nat} (h : 0 < ctk C p q) : fc C g z (2 * p + 1) (2 * q) = 1 := by
  unfold fc
  rw [if_neg (show ¬ (2 * p + 1) % 2 = 0 by omega), show (2 * p + 1) / 2 = p by omega, show 2 * q / 2 = q by omega, if_pos ⟨by omega, h⟩]
theorem pc_sm (a : Nat) : (pc12 a : Int) = sm (fun p => ind (a.testBit p)) 12 := by
  rw [pc12_eq]
  unfold pcC
  have key : ∀ n, ((((List.range n).filter (fun i => a.testBit i)).length : Nat) : Int) = sm (fun p => ind (a.testBit p)) n := by
    intro n
    induction n with
    | zero => rfl
    | succ n ih =>
      rw [List.range_succ, List.filter_append, List.length_append]
      show _ = sm (fun p => ind (a.testBit p)) n + ind (a.testBit n)
      rw [← ih]
      cases q : a.testBit n <;> simp [q, ind]
  exact key 12
def dirC (C : zCt) (g z : Nat) : Int := if 0 < ctk C g z then 1 else 0
theorem sm_at {n j : Nat} {v : Int} (hj : j < n) : sm (fun i => if i = j then v else 0) n = v := by
  have q := sm_one (F := fun _ => 0) (G := fun i => if i = j then v else 0) (j := j) (x := v) n hj (fun i _ hi => if_neg hi) (by rw [if_pos rfl]; omega)
  rw [q, sm_0]; omega
/-- whoever bars: no more can flow -/
theorem men_le {C : zCt} {g z S : Nat} {f : Nat → Nat → Int} {k : Int} (hC : okC C) (hg : g < cn C) (hz : z < cn C) (gz : g ≠ z) (w : FL (fc C g z) f (2 * g + 1) (2 * z) k) (hS : ∀ i, S.testBit i = true → i < cn C ∧ i ≠ g ∧ i ≠ z) (hb : ¬ rch (eW C g z 1 S) g z) : k ≤ dirC C g z + pc12 S := by
  have hn := hC.1
  have key : ∃ R : Nat → Bool, R = fun x => if x % 2 = 1 then bD (rch (eW C g z 1 S) g (x / 2)) else (bD (rch (eW C g z 1 S) g (x / 2)) || S.testBit (x / 2)) := ⟨_, rfl⟩
  obtain ⟨R, hR⟩ := key
  have R1 : ∀ p, R (2 * p + 1) = bD (rch (eW C g z 1 S) g p) := fun p => by
    rw [hR]; dsimp only; rw [if_pos (by omega), show (2 * p + 1) / 2 = p by omega]
  have R0 : ∀ p, R (2 * p) = (bD (rch (eW C g z 1 S) g p) || S.testBit p) := fun p => by
    rw [hR]; dsimp only; rw [if_neg (by omega), show (2 * p) / 2 = p by omega]
  clear hR
  have sz : S.testBit z = false := by
    cases q : S.testBit z
    · rfl
    · exact absurd rfl (hS z q).2.2
  have le := FL_le w (R := R) (by omega) (by rw [R1]; exact bD_t.mpr rch_g) (by rw [R0, sz, bD_f.mpr hb]; rfl)
  refine Int.le_trans le ?_
  have up : cutS (fc C g z) R ≤ sm (fun x => sm (fun y => (if y = x + 1 then (if x % 2 = 0 then ind (S.testBit (x / 2)) else 0) else 0) + (if y = 2 * z then (if x = 2 * g + 1 then dirC C g z else 0) else 0)) 24) 24 := by
    refine sm_le 24 (fun x hx => sm_le 24 (fun y hy => ?_))
    have nn1 : 0 ≤ (if y = x + 1 then (if x % 2 = 0 then ind (S.testBit (x / 2)) else 0) else 0) := by
      split
      · split
        · exact (ind_nn _).1
        · omega
      · omega
    have nn2 : 0 ≤ (if y = 2 * z then (if x = 2 * g + 1 then dirC C g z else 0) else 0) := by
      split
      · split
        · unfold dirC; split <;> omega
        · omega
      · omega
    cases rr : (R x && !R y)
    · simp only [ind]
      rw [if_neg (by simp)]; omega
    · rw [Bool.and_eq_true] at rr
      have rx := rr.1
      have ry : R y = false := by cases q : R y <;> simp [q] at rr ⊢
      simp only [ind, if_true]
      rw [Int.one_mul]
      unfold fc
      by_cases xe : x % 2 = 0
      · rw [if_pos xe]
        by_cases c1 : y = x + 1 ∧ x / 2 < cn C
        · rw [if_pos c1]
          have ex : x = 2 * (x / 2) := by omega
          have ey : y = 2 * (x / 2) + 1 := by omega
          rw [ex, R0] at rx
          rw [ey, R1] at ry
          rw [ry] at rx
          have st : S.testBit (x / 2) = true := by simpa using rx
          have ns := hS _ st
          rw [if_neg (by omega)]
          rw [if_pos c1.1, if_pos xe, st]
          rw [if_pos rfl]
          omega
        · rw [if_neg c1]; unfold ind at nn1; omega
      · rw [if_neg xe]
        by_cases c1 : y % 2 = 0 ∧ 0 < ctk C (x / 2) (y / 2)
        · rw [if_pos c1]
          have ex : x = 2 * (x / 2) + 1 := by omega
          have ey : y = 2 * (y / 2) := by omega
          rw [ex, R1] at rx
          rw [ey, R0] at ry
          have px := bD_t.mp rx
          have r1 : bD (rch (eW C g z 1 S) g (y / 2)) = false := by
            cases q : bD (rch (eW C g z 1 S) g (y / 2)) <;> simp [q] at ry ⊢
          have r2 : S.testBit (y / 2) = false := by
            cases q : S.testBit (y / 2) <;> simp [q] at ry ⊢
          by_cases d : x / 2 = g ∧ y / 2 = z
          · have e1 : x = 2 * g + 1 := by omega
            have e2 : y = 2 * z := by omega
            rw [if_pos e2, if_pos e1]
            rw [d.1, d.2] at c1
            unfold dirC
            rw [if_pos c1.2]
            unfold ind at nn1
            omega
          · exact absurd (rch_st px ⟨c1.2, r2, fun q => d ⟨q.2.1, q.2.2⟩⟩) (bD_f.mp r1)
        · rw [if_neg c1]; unfold ind at nn1; omega
  refine Int.le_trans up ?_
  clear up le
  rw [sm_ext (G := fun x => (if x % 2 = 0 then ind (S.testBit (x / 2)) else 0) + (if x = 2 * g + 1 then dirC C g z else 0)) 24 (fun x hx => by
    rw [sm_add, sm_at (show 2 * z < 24 by omega)]
    by_cases xe : x % 2 = 0
    · rw [if_pos xe, sm_at (show x + 1 < 24 by omega)]
    · rw [if_neg xe, sm_z (fun i _ => by split <;> rfl)])]
  rw [sm_add, sm_at (show 2 * g + 1 < 24 by omega), pc_sm]
  have e : sm (fun x => if x % 2 = 0 then ind (S.testBit (x / 2)) else 0) 24 = sm (fun p => ind (S.testBit p)) 12 := by
    have q := sm_pair (F := fun x => if x % 2 = 0 then ind (S.testBit (x / 2)) else 0) 12
    rw [show 2 * 12 = 24 from rfl] at q
    rw [q]
    refine sm_ext 12 (fun i hi => ?_)
    rw [if_pos (by omega), if_neg (by omega), show 2 * i / 2 = i by omega]
    omega
  rw [e]; omega
/-- nothing more can flow: some bar -/
theorem men_ge {C : zCt} {g z : Nat} {R : Nat → Bool} (hC : okC C) (hg : g < cn C) (hz : z < cn C) (gz : g ≠ z) (h1 : R (2 * g + 1) = true) (h2 : R (2 * z) = false) : ∃ S, (∀ i, S.testBit i = true → i < cn C ∧ i ≠ g ∧ i ≠ z) ∧ ¬ rch (eW C g z 1 S) g z ∧ dirC C g z + pc12 S ≤ cutS (fc C g z) R := by
  have hn := hC.1
  have key : ∃ S : Nat, ∀ p, S.testBit p = true ↔ p < cn C ∧ p ≠ g ∧ p ≠ z ∧ ((R (2 * p) = true ∧ R (2 * p + 1) = false) ∨ (R (2 * p) = false ∧ ∃ p', R (2 * p' + 1) = true ∧ 0 < ctk C p' p) ∨ (R (2 * p + 1) = true ∧ 0 < ctk C p z)) := by
    refine ⟨bset (fun p => bD (p < cn C ∧ p ≠ g ∧ p ≠ z ∧ ((R (2 * p) = true ∧ R (2 * p + 1) = false) ∨ (R (2 * p) = false ∧ ∃ p', R (2 * p' + 1) = true ∧ 0 < ctk C p' p) ∨ (R (2 * p + 1) = true ∧ 0 < ctk C p z)))), fun p => ?_⟩
    rw [bset_t, Bool.and_eq_true, decide_eq_true_eq, bD_t]
    exact ⟨fun q => q.2, fun q => ⟨by omega, q⟩⟩
  obtain ⟨S, hS⟩ := key
  refine ⟨S, fun i hi => ⟨((hS i).mp hi).1, ((hS i).mp hi).2.1, ((hS i).mp hi).2.2.1⟩, fun rz => ?_, ?_⟩
  · have := rz (fun x => R (2 * x + 1) = true ∧ x ≠ z ∧ (x = g ∨ S.testBit x = false)) ⟨h1, gz, .inl rfl⟩ (fun p q hp he => ?_)
    · exact this.2.1 rfl
    · obtain ⟨a1, a2, a3⟩ := hp
      obtain ⟨e1, e2, e3⟩ := he
      have kq := (hC.2.2.2.2.2.2 p q).2 e1
      have nS : ∀ x, S.testBit x = false → ¬ (x < cn C ∧ x ≠ g ∧ x ≠ z ∧ ((R (2 * x) = true ∧ R (2 * x + 1) = false) ∨ (R (2 * x) = false ∧ ∃ p', R (2 * p' + 1) = true ∧ 0 < ctk C p' x) ∨ (R (2 * x + 1) = true ∧ 0 < ctk C x z))) := fun x hx y => by
        rw [(hS x).mpr y] at hx; cases hx
      have nq := nS q e2
      by_cases qg : q = g
      · rw [qg]; exact ⟨h1, gz, .inl rfl⟩
      · by_cases qz : q = z
        · exfalso
          rw [qz] at e1 e3
          have pg : p ≠ g := fun e => e3 ⟨by omega, e, rfl⟩
          rcases a3 with a3 | a3
          · exact pg a3
          · exact nS p a3 ⟨kq.1, pg, a2, .inr (.inr ⟨a1, e1⟩)⟩
        · cases rq : R (2 * q) with
          | false => exact absurd ⟨kq.2.1, qg, qz, .inr (.inl ⟨rq, p, a1, e1⟩)⟩ nq
          | true =>
            cases rq1 : R (2 * q + 1) with
            | false => exact absurd ⟨kq.2.1, qg, qz, .inl ⟨rq, rq1⟩⟩ nq
            | true => exact ⟨rfl, qz, .inr e2⟩
  · -- counting
    have sw : cutS (fc C g z) R = sm (fun p => sm (fun x => ind (R x && !R (2 * p)) * fc C g z x (2 * p)) 24 + sm (fun x => ind (R x && !R (2 * p + 1)) * fc C g z x (2 * p + 1)) 24) 12 := by
      unfold cutS
      rw [sm_swap]
      have q := sm_pair (F := fun y => sm (fun x => ind (R x && !R y) * fc C g z x y) 24) 12
      rw [show 2 * 12 = 24 from rfl] at q
      exact q
    have nn : ∀ x y, 0 ≤ ind (R x && !R y) * fc C g z x y := fun x y => Int.mul_nonneg (ind_nn _).1 fc_nn.1
    -- the column of the sea
    have cz : sm (fun p => ind (R (2 * p + 1) && bD (0 < ctk C p z))) 12 ≤ sm (fun x => ind (R x && !R (2 * z)) * fc C g z x (2 * z)) 24 := by
      have q := sm_pair (F := fun x => ind (R x && !R (2 * z)) * fc C g z x (2 * z)) 12
      rw [show 2 * 12 = 24 from rfl] at q
      rw [q]
      refine sm_le 12 (fun p hp => ?_)
      have n1 := nn (2 * p) (2 * z)
      have n2 := nn (2 * p + 1) (2 * z)
      by_cases c : R (2 * p + 1) = true ∧ 0 < ctk C p z
      · have e : ind (R (2 * p + 1) && !R (2 * z)) * fc C g z (2 * p + 1) (2 * z) = 1 := by
          rw [c.1, h2, fc_oi c.2]; rfl
        have l := (ind_nn (R (2 * p + 1) && bD (0 < ctk C p z))).2
        omega
      · have e : (R (2 * p + 1) && bD (0 < ctk C p z)) = false := by
          cases q : (R (2 * p + 1) && bD (0 < ctk C p z))
          · rfl
          · rw [Bool.and_eq_true, bD_t] at q; exact absurd q c
        rw [e]
        unfold ind at n1 n2 ⊢
        rw [if_neg (by simp)]
        omega
    have lo : sm (fun p => ind (S.testBit p) + (if p = g then dirC C g z else 0)) 12 ≤ sm (fun p => ind (R (2 * p + 1) && bD (0 < ctk C p z))) 12 + sm (fun p => (if p = z then 0 else sm (fun x => ind (R x && !R (2 * p)) * fc C g z x (2 * p)) 24) + sm (fun x => ind (R x && !R (2 * p + 1)) * fc C g z x (2 * p + 1)) 24) 12 := by
      rw [← sm_add]
      refine sm_le 12 (fun p hp => ?_)
      have t3 := ind_nn (R (2 * p + 1) && bD (0 < ctk C p z))
      have c0 : 0 ≤ (if p = z then 0 else sm (fun x => ind (R x && !R (2 * p)) * fc C g z x (2 * p)) 24) := by
        split
        · omega
        · exact sm_nn (fun x _ => nn x _)
      have c1 : 0 ≤ sm (fun x => ind (R x && !R (2 * p + 1)) * fc C g z x (2 * p + 1)) 24 := sm_nn (fun x _ => nn x _)
      by_cases pg : p = g
      · have s0 : S.testBit p = false := by
          cases q : S.testBit p
          · rfl
          · exact absurd pg ((hS p).mp q).2.1
        rw [s0, if_pos pg]
        have e : ind false = 0 := rfl
        rw [e]
        unfold dirC
        by_cases d : 0 < ctk C g z
        · rw [if_pos d]
          have b : (R (2 * p + 1) && bD (0 < ctk C p z)) = true := by rw [pg, h1, bD_t.mpr d]; rfl
          rw [b] at t3 ⊢
          have e1 : ind true = 1 := rfl
          rw [e1]; omega
        · rw [if_neg d]; omega
      · rw [if_neg pg]
        cases s : S.testBit p with
        | false => have e : ind false = 0 := rfl
                   rw [e]; omega
        | true =>
          have e : ind true = 1 := rfl
          rw [e]
          obtain ⟨s1, s2, s3, s4⟩ := (hS p).mp s
          rcases s4 with ⟨a, b⟩ | ⟨a, p', b, c⟩ | ⟨a, b⟩
          · have k := sm_ge (F := fun x => ind (R x && !R (2 * p + 1)) * fc C g z x (2 * p + 1)) (j := 2 * p) (n := 24) (by omega) (fun x _ => nn x _)
            have v : ind (R (2 * p) && !R (2 * p + 1)) * fc C g z (2 * p) (2 * p + 1) = 1 := by
              rw [a, b, fc_io s1 s2 s3]; rfl
            have k : ind (R (2 * p) && !R (2 * p + 1)) * fc C g z (2 * p) (2 * p + 1) ≤ sm (fun x => ind (R x && !R (2 * p + 1)) * fc C g z x (2 * p + 1)) 24 := k
            omega
          · have kp := (hC.2.2.2.2.2.2 p' p).2 c
            have k := sm_ge (F := fun x => ind (R x && !R (2 * p)) * fc C g z x (2 * p)) (j := 2 * p' + 1) (n := 24) (by omega) (fun x _ => nn x _)
            have v : ind (R (2 * p' + 1) && !R (2 * p)) * fc C g z (2 * p' + 1) (2 * p) = 1 := by
              rw [a, b, fc_oi c]; rfl
            have k : ind (R (2 * p' + 1) && !R (2 * p)) * fc C g z (2 * p' + 1) (2 * p) ≤ sm (fun x => ind (R x && !R (2 * p)) * fc C g z x (2 * p)) 24 := k
            rw [if_neg s3]
            omega
          · have b' : (R (2 * p + 1) && bD (0 < ctk C p z)) = true := by rw [a, bD_t.mpr b]; rfl
            rw [b'] at t3 ⊢
            rw [e]; omega
    rw [sm_add, sm_at (show g < 12 by omega), ← pc_sm] at lo
    have sp : sm (fun p => sm (fun x => ind (R x && !R (2 * p)) * fc C g z x (2 * p)) 24 + sm (fun x => ind (R x && !R (2 * p + 1)) * fc C g z x (2 * p + 1)) 24) 12 = sm (fun p => (if p = z then 0 else sm (fun x => ind (R x && !R (2 * p)) * fc C g z x (2 * p)) 24) + sm (fun x => ind (R x && !R (2 * p + 1)) * fc C g z x (2 * p + 1)) 24) 12 + sm (fun x => ind (R x && !R (2 * z)) * fc C g z x (2 * z)) 24 := by
      refine sm_one (j := z) 12 (by omega) (fun p _ pz => ?_) ?_
      · rw [if_neg pz]
      · rw [if_pos rfl]; omega
    rw [sw, sp]
    omega
