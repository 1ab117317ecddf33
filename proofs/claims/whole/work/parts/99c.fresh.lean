/-! both objects as made hold one state -/
noncomputable def S0 : zAb := (((0, fun _ => 0), (0, -1)), (dC D0, nNew (dC D0) (ckn (dC D0)), fun _ => none), ((0, 0), fun _ _ => 0), (0, fun _ => 0))
theorem bset_0 {p : Nat → Bool} (hp : ∀ i, i < 12 → p i = false) : (0 : Int) = (bset p : Nat) := by
  have : bset p = 0 := nat_bits (bset_lt p) (by omega) (fun i hi => by rw [bset_t, hp i hi]; simp)
  rw [this]; rfl
theorem lt0 {P : Prop} {i : Nat} (h : i < 0) : P := absurd h (by omega)
theorem okS_0 : okS S0 := ⟨⟨Nat.zero_le _, fun _ => by show 0 < 256; omega⟩, okD_0.1, okN_new okD_0.1, (fun x N _ q => by cases q), ⟨Nat.zero_le _, Nat.zero_le _, (fun i hi => lt0 hi)⟩, Nat.zero_le _⟩
theorem XInv_0 : XInv qh14 4 S0 := by
  refine ⟨⟨rfl, isCity_4, 14, rfl, isCity_14, by omega⟩, ⟨rfl, fun i hi => lt0 hi⟩, ⟨rfl, rfl⟩, ?_, ?_, ?_, ?_, ⟨rfl, rfl, fun i hi => lt0 hi⟩, ⟨rfl, fun i hi => lt0 hi⟩⟩
  · exact ⟨rfl, rfl, rfl, rfl, rfl, (fun i hi => lt0 hi), (fun a b _ _ => rfl), (fun i hi => lt0 hi), bset_0 (fun i _ => rfl), bset_0 (fun i _ => rfl), bset_0 (fun i _ => rfl)⟩
  · intro a ha
    exact lt0 ha
  · exact ⟨rfl, ⟨bset_0 (fun i _ => rfl), bset_0 (fun i _ => rfl), (fun i hi => lt0 hi)⟩, rfl, (fun i hi => lt0 hi), (fun a b _ _ => rfl), (fun i hi => lt0 hi)⟩
  · refine ⟨bset_0 (fun i _ => ?_), fun b hb => ?_, fun x N _ q => by cases q⟩
    · show (decide (i < 3) && false) = false
      simp
    · match b, hb with
      | 0, _ => rfl
      | 1, _ => rfl
      | 2, _ => rfl
theorem MInv_0 : MInv qh14 S0 := by
  refine ⟨⟨rfl, fun i hi => lt0 hi⟩, ⟨rfl, rfl⟩, ?_, ?_, ?_, ⟨rfl, rfl, fun i hi => lt0 hi⟩, ⟨rfl, fun i hi => lt0 hi⟩⟩
  · exact ⟨rfl, rfl, rfl, rfl, rfl, (fun i hi => lt0 hi), (fun a b _ _ => rfl), (fun i hi => lt0 hi)⟩
  · exact ⟨rfl, rfl, (fun i hi => lt0 hi), (fun i hi => lt0 hi), (fun a b _ _ => rfl)⟩
  · exact ⟨(fun b hb => rfl), fun x N _ q => by cases q⟩
theorem zGo_0 : zGo qh14 := ⟨4, S0, okS_0, XInv_0, MInv_0⟩
