/-! take: bring and takeBack of the model -/
section TK
variable {E : zE} {d : Nat} {h : zS}
theorem c_M_bring {Q : zS → Prop} (HQ : ∀ h1, (∀ i, i < 12 → hI h1 112 i = hI h 115 i ∧ hI h1 113 i = hI h 116 i ∧ hI h1 114 i = hI h 117 i) → zEq (fun c => c ≠ 112 ∧ c ≠ 113 ∧ c ≠ 114) h h1 → Q h1) : zCv E d m_X10_bring [vo 89] h Q := by
  refine v_X10_bring ?_
  refine z_up (n := 12) (fun i h2 => zWv E d m_X10_bring 2 [vo 89, vi i] h2 Q) (fun i h2 => (∀ j, j < i → hI h2 112 j = hI h 115 j ∧ hI h2 113 j = hI h 116 j ∧ hI h2 114 j = hI h 117 j) ∧ zEq (fun c => c ≠ 112 ∧ c ≠ 113 ∧ c ≠ 114) h h2) ?_ ?_ 0 h (by omega) ⟨fun j hj => by omega, zEq.rf⟩
  · rintro h2 ⟨u1, u2⟩
    exact r_X10_bring_2 ⟨fun _ => HQ h2 u1 u2, fun c => by omega⟩
  · rintro i h2 hi ⟨u1, u2⟩ ih
    refine r_X10_bring_2 ⟨fun c => by omega, fun _ => ⟨by omega, ?_⟩⟩
    rw [w32s (by omega)]
    simp only [Int.toNat_natCast]
    intro g1 y1
    obtain ⟨v1, n1, q1⟩ := st_cp y1
    clear y1
    intro g2 y2
    obtain ⟨v2, n2, q2⟩ := st_cp y2
    clear y2
    intro g3 y3
    obtain ⟨v3, n3, q3⟩ := st_cp y3
    clear y3
    have w1 : hI g3 112 i = hI h 115 i := by rw [q3.I (by simp), q2.I (by simp), v1, u2.I (by simp)]
    have w2 : hI g3 113 i = hI h 116 i := by rw [q3.I (by simp), v2, q1.I (by simp), u2.I (by simp)]
    have w3 : hI g3 114 i = hI h 117 i := by rw [v3, q2.I (by simp), q1.I (by simp), u2.I (by simp)]
    have K : ∀ c l, l ≠ i → hI g3 c l = hI h2 c l := fun c l hl => by
      rw [n3 _ _ (fun q => hl q.2), n2 _ _ (fun q => hl q.2), n1 _ _ (fun q => hl q.2)]
    refine ih g3 ⟨fun j hj => ?_, u2.tr ((q1.wk (fun c q => q.1)).tr ((q2.wk (fun c q => q.2.1)).tr (q3.wk (fun c q => q.2.2))))⟩
    by_cases e : j = i
    · rw [e]; exact ⟨w1, w2, w3⟩
    · rw [K _ _ e, K _ _ e, K _ _ e]; exact u1 j (by omega)
theorem c_M_takeBack {Q : zS → Prop} (HQ : ∀ h1, (∀ i, i < 12 → hI h1 115 i = hI h 112 i ∧ hI h1 116 i = hI h 113 i) → zEq (fun c => c ≠ 115 ∧ c ≠ 116) h h1 → Q h1) : zCv E d m_X10_takeBack [vo 89] h Q := by
  refine v_X10_takeBack ?_
  refine z_up (n := 12) (fun i h2 => zWv E d m_X10_takeBack 2 [vo 89, vi i] h2 Q) (fun i h2 => (∀ j, j < i → hI h2 115 j = hI h 112 j ∧ hI h2 116 j = hI h 113 j) ∧ zEq (fun c => c ≠ 115 ∧ c ≠ 116) h h2) ?_ ?_ 0 h (by omega) ⟨fun j hj => by omega, zEq.rf⟩
  · rintro h2 ⟨u1, u2⟩
    exact r_X10_takeBack_2 ⟨fun _ => HQ h2 u1 u2, fun c => by omega⟩
  · rintro i h2 hi ⟨u1, u2⟩ ih
    refine r_X10_takeBack_2 ⟨fun c => by omega, fun _ => ⟨by omega, ?_⟩⟩
    rw [w32s (by omega)]
    simp only [Int.toNat_natCast]
    intro g1 y1
    obtain ⟨v1, n1, q1⟩ := st_cp y1
    clear y1
    intro g2 y2
    obtain ⟨v2, n2, q2⟩ := st_cp y2
    clear y2
    have w1 : hI g2 115 i = hI h 112 i := by rw [q2.I (by simp), v1, u2.I (by simp)]
    have w2 : hI g2 116 i = hI h 113 i := by rw [v2, q1.I (by simp), u2.I (by simp)]
    have K : ∀ c l, l ≠ i → hI g2 c l = hI h2 c l := fun c l hl => by
      rw [n2 _ _ (fun q => hl q.2), n1 _ _ (fun q => hl q.2)]
    refine ih g2 ⟨fun j hj => ?_, u2.tr ((q1.wk (fun c q => q.1)).tr (q2.wk (fun c q => q.2)))⟩
    by_cases e : j = i
    · rw [e]; exact ⟨w1, w2⟩
    · rw [K _ _ e, K _ _ e]; exact u1 j (by omega)
end TK
