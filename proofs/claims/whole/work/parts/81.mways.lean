/-! what a step counts: by days, by keeps, by acquaintances; the model's stepOf -/
def spD (C : zCt) (a b : Nat) : Int := if 0 < ctk C a b then ctk C a b else -1
def spK (C : zCt) (a b : Nat) : Int := if 0 < ctk C a b then (if (b : Int) = cse C then 0 else cke C b) else -1
noncomputable def mtB (C : zCt) (N : zEn) (a b : Nat) : Bool := @decide (∃ c, c < cn C ∧ cMt C N a b c) (Classical.propDecidable _)
theorem mtB_t {C : zCt} {N : zEn} {a b : Nat} : mtB C N a b = true ↔ ∃ c, c < cn C ∧ cMt C N a b c := by unfold mtB; exact @decide_eq_true_iff _ (Classical.propDecidable _)
noncomputable def spU (C : zCt) (N : zEn) (a b : Nat) : Int := if thN C N a = true ∧ thN C N b = true then (if 0 < ngv N a b then 0 else if mtB C N a b = true then 1 else -1) else -1
noncomputable def spO (C : zCt) (N : zEn) (y : Nat) : Nat → Nat → Int := if y = 2 then spU C N else if y = 0 then spD C else spK C
theorem spO_ok {C : zCt} {N : zEn} {y : Nat} (hC : okC C) : okSp (spO C N y) (cn C) := by
  intro a b ha hb
  have t := (hC.2.2.2.2.2.2 a b).1
  have k := (hC.2.2.2.2.2.1 b hb).2.2.2.2
  unfold spO
  split
  · unfold spU; split
    · split
      · omega
      · split <;> omega
    · omega
  · split
    · unfold spD; split <;> omega
    · unfold spK; split
      · split <;> omega
      · omega
theorem spO_self {C : zCt} {N : zEn} {y : Nat} (hC : okC C) (hN : okN C N) (a : Nat) : spO C N y a a = -1 := by
  have t := hC.2.2.2.2.2.2 a a
  have g := hN.2.2.2.2.2.2.1 a a
  have t0 : ¬ 0 < ctk C a a := fun q => (t.2 q).2.2 rfl
  have g0 : ¬ 0 < ngv N a a := fun q => (g.2 q).2.2 rfl
  unfold spO
  split
  · unfold spU; split
    · rw [if_neg]
      intro q
      obtain ⟨c, _, m⟩ := mtB_t.mp q
      exact m.1 rfl
    · rfl
  · split
    · unfold spD; rw [if_neg t0]
    · unfold spK; rw [if_neg t0]
def frO (x : Int) : Int := if x = -1 then 1000000 else x
section MW
variable {E : zE} {d : Nat} {h : zS}
theorem c_M_canMeet {C : zCt} {N : zEn} {a b : Nat} {Q : Int → zS → Prop} (hC : okC C) (hN : okN C N) (wC : MCity h C) (wN : MEarn h C N) (ha : a < cn C) (hb : b < cn C) (hab : a ≠ b) (hg : ngv N a b = 0) (ta : thN C N a = true) (tb : thN C N b = true)
    (HQ : Q (if mtB C N a b = true then 1 else 0) h) : zCi E (d + 3) m_X10_canMeet [vo 89, vi a, vi b] h Q := by
  have hn12 := hC.1
  refine v_X10_canMeet ?_
  refine z_upS (σ := Int) (n := cn C) (fun i y => zWi E (d + 2 + 1) m_X10_canMeet 5 [vo 89, vi a, vi b, vi y, vi i] h Q) (fun i y => (y = 1 ∧ ∃ c, c < i ∧ c < cn C ∧ cMt C N a b c) ∨ (y = 0 ∧ ¬ ∃ c, c < i ∧ cMt C N a b c)) ?_ ?_ 0 0 (by omega) (.inr ⟨rfl, fun q => by obtain ⟨c, hc, _⟩ := q; omega⟩)
  · intro y hy
    refine r_X10_canMeet_5 ⟨fun _ => ⟨fun c => ?_, fun c => ?_⟩, fun c => by rw [wC.1] at c; omega⟩
    · rcases hy with ⟨e, _⟩ | ⟨e, q⟩
      · omega
      · rw [if_neg (fun t => q (mtB_t.mp t))] at HQ; exact HQ
    · rcases hy with ⟨e, x, _, hx, m⟩ | ⟨e, q⟩
      · rw [if_pos (mtB_t.mpr ⟨x, hx, m⟩)] at HQ
        have ka : ckd C a ≠ 3 := (hN.2.2.2.2.1 x a hx m.2.2.2.2.2.2.2.1).2.2
        have kb : ckd C b ≠ 3 := (hN.2.2.2.2.1 x b hx m.2.2.2.2.2.2.2.2).2.2
        refine c_M_isPerson hC wC wN (fun _ => ⟨fun e => by omega, fun _ => ?_⟩) (fun n => absurd ⟨a, rfl, ha, ka, ta⟩ n)
        exact c_M_isPerson hC wC wN (fun _ => ⟨fun e => by omega, fun _ => HQ⟩) (fun n => absurd ⟨b, rfl, hb, kb, tb⟩ n)
      · omega
  · intro i y hi hy ih
    refine r_X10_canMeet_5 ⟨fun c => by rw [wC.1] at c; omega, fun _ => ⟨fun c => ?_, fun c => ?_⟩⟩
    · rw [w32s (by omega)]
      rcases hy with ⟨e, x, hx, hx2, m⟩ | ⟨e, q⟩
      · exact ih 1 (.inl ⟨rfl, x, by omega, hx2, m⟩)
      · omega
    · rcases hy with ⟨e, _⟩ | ⟨e, q⟩
      · omega
      · rw [w32s (by omega)]
        refine c_M_canMeetBy hC hN wC wN ha hb (fun ex => ?_) (fun nex => ?_)
        · obtain ⟨c', e', h1, h2, h3, h4, h5, h6⟩ := ex
          have ec : c' = i := by omega
          subst ec
          rintro y8 rfl
          rw [if_neg (by omega)]
          exact ih 1 (.inl ⟨rfl, c', by omega, hi, hab, fun q => h2 q.symm, fun q => h3 q.symm, hg, ta, tb, h4, h5, h6⟩)
        · rintro y8 rfl
          rw [if_pos rfl]
          refine ih 0 (.inr ⟨rfl, ?_⟩)
          rintro ⟨c', hc', m⟩
          by_cases ec : c' = i
          · subst ec
            exact nex ⟨c', rfl, hi, fun q => m.2.1 q.symm, fun q => m.2.2.1 q.symm, m.2.2.2.2.2.2.1, m.2.2.2.2.2.2.2.1, m.2.2.2.2.2.2.2.2⟩
          · exact q ⟨c', by omega, m⟩
theorem c_M_stepOf {C : zCt} {N : zEn} {y a b : Nat} {Q : Int → zS → Prop} (hy : y ≤ 2) (hC : okC C) (hN : okN C N) (wC : MCity h C) (wN : MEarn h C N) (ha : a < cn C) (hb : b < cn C)
    (HQ : Q (frO (spO C N y a b)) h) : zCi E (d + 4) m_X10_stepOf [vo 89, vi a, vi b, vi y] h Q := by
  have hn12 := hC.1
  have a12 : a < 12 := by omega
  have b12 : b < 12 := by omega
  have g := (hN.2.2.2.2.2.2.1 a b).1
  have t := (hC.2.2.2.2.2.2 a b).1
  refine v_X10_stepOf ?_
  rw [w32q a12 b12]
  refine ⟨fun c => ?_, fun c => ?_⟩
  · have ab : a ≠ b := fun e => c (by rw [e])
    refine ⟨fun c2 => ⟨by omega, ?_⟩, fun c2 => ?_⟩
    · simp only [Int.toNat_natCast]
      rw [wC.2.2.2.2.2.2.1 a b a12 b12]
      rintro y2 rfl
      unfold spO at HQ
      rw [if_neg (by omega)] at HQ
      refine ⟨fun c3 => ⟨fun c4 => ?_, fun c4 => ?_⟩, fun c3 => ?_⟩
      · rw [if_neg (by omega)] at HQ
        unfold spK at HQ
        rw [if_pos (by omega)] at HQ
        rw [wC.2.2.2.1]
        refine ⟨fun c5 => ⟨by omega, ?_⟩, fun c5 => ?_⟩
        · have k := (hC.2.2.2.2.2.1 b hb).2.2.2.2
          rw [if_neg c5] at HQ
          unfold frO at HQ
          rw [if_neg (by omega)] at HQ
          rw [(wC.2.2.2.2.2.1 b hb).2.2.2.2]; exact HQ
        · rw [if_pos c5] at HQ; exact HQ
      · rw [if_pos (by omega)] at HQ
        have e : spD C a b = ctk C a b := by unfold spD; rw [if_pos (by omega)]
        rw [e] at HQ
        unfold frO at HQ
        rw [if_neg (by omega)] at HQ; exact HQ
      · have e : (if y = 0 then spD C else spK C) a b = -1 := by
          split
          · unfold spD; rw [if_neg (by omega)]
          · unfold spK; rw [if_neg (by omega)]
        rw [e] at HQ; exact HQ
    · unfold spO at HQ
      rw [if_pos (by omega)] at HQ
      unfold spU at HQ
      refine c_M_isThere hn12 wN ha ?_
      cases ta : thN C N a with
      | false =>
        rw [if_neg (fun q => by have := q.1; rw [ta] at this; cases this)] at HQ
        exact ⟨fun _ => HQ, fun e => absurd rfl e⟩
      | true =>
      refine ⟨fun e => by simp at e, fun _ => ?_⟩
      refine c_M_isThere hn12 wN hb ?_
      cases tb : thN C N b with
      | false =>
        rw [if_neg (fun q => by have := q.2; rw [tb] at this; cases this)] at HQ
        exact ⟨fun e => absurd rfl e, fun _ => HQ⟩
      | true =>
      rw [if_pos ⟨ta, tb⟩] at HQ
      refine ⟨fun _ => ⟨by omega, ?_⟩, fun e => by simp at e⟩
      simp only [Int.toNat_natCast]
      rw [wN.2.2.2.2 a b a12 b12]
      refine ⟨fun c3 => ?_, fun c3 => ?_⟩
      · rw [if_neg (by omega)] at HQ
        refine c_M_canMeet hC hN wC wN ha hb ab (by omega) ta tb ?_
        cases m : mtB C N a b with
        | false => rw [m] at HQ; exact ⟨fun _ => HQ, fun e => absurd rfl e⟩
        | true => rw [m] at HQ; exact ⟨fun e => by simp at e, fun _ => HQ⟩
      · rw [if_pos c3] at HQ; exact HQ
  · have ab : a = b := by omega
    rw [ab, spO_self hC hN] at HQ
    exact HQ
end MW
