/-! image, back -/
section IM
variable {E : zE} {d : Nat} {h : zS}
theorem row_cp {h1 : zS} {k k1 n : Nat} (e : h1 = stRow h k (fun i => if i < n then hI h k1 i else hI h k i)) : zEq (fun c => c ≠ k) h h1 ∧ ∀ i, i < n → hI h1 k i = hI h k1 i := by
  subst e
  exact ⟨zEq_Row (fun q => q rfl), fun i hi => by rw [hI_stRow, if_pos rfl, if_pos hi]⟩
theorem c_fateCopy {k0 k1 : Nat} {Q : zS → Prop} (hk0 : isFate k0) (hk1 : isFate k1) (hd : k0 + 2 ≤ k1 ∨ k1 + 2 ≤ k0)
    (HQ : ∀ h1, (hI h1 k0 0 = hI h k1 0 ∧ hI h1 k0 1 = hI h k1 1 ∧ ∀ i, i < 12 → hI h1 (k0 + 1) i = hI h (k1 + 1) i) → zEq (fun c => c ≠ k0 ∧ c ≠ k0 + 1) h h1 → Q h1) : zCv E (d + 1) m_X4_copy [vo k0, vo k1] h Q := by
  refine v_X4_copy hk0 hk1 ?_
  rintro h1 rfl h2 rfl h3 e3
  obtain ⟨r1, r2⟩ := row_cp e3
  refine HQ h3 ⟨?_, ?_, fun i hi => ?_⟩ ((zEq_I (by omega)).tr ((zEq_I (by omega)).tr (r1.wk (fun c q => q.2))))
  · rw [r1.I (by omega), hI_stI, if_neg (by omega), hI_stI, if_pos ⟨rfl, rfl⟩]
  · rw [r1.I (by omega), hI_stI, if_pos ⟨rfl, rfl⟩, hI_stI, if_neg (by omega)]
  · rw [r2 i hi, hI_stI, if_neg (by omega), hI_stI, if_neg (by omega)]
theorem c_thingsCopy {k0 k1 : Nat} {Q : zS → Prop} (hk0 : isThings k0) (hk1 : isThings k1) (hd : k0 + 6 ≤ k1 ∨ k1 + 6 ≤ k0)
    (HQ : ∀ h1, hI h1 k0 0 = hI h k1 0 → (∀ j, 1 ≤ j → j ≤ 5 → ∀ i, i < 12 → hI h1 (k0 + j) i = hI h (k1 + j) i) → zEq (fun c => ¬ (k0 ≤ c ∧ c ≤ k0 + 5)) h h1 → Q h1) : zCv E (d + 1) m_X8_copy [vo k0, vo k1] h Q := by
  refine v_X8_copy hk0 hk1 ?_
  intro h1 e1 h2 e2 h3 e3 h4 e4 h5 e5 h6 e6
  have q1 : zEq (fun c => c ≠ k0) h h1 := by rw [e1]; exact zEq_I (fun q => q rfl)
  have v1 : hI h1 k0 0 = hI h k1 0 := by rw [e1, hI_stI, if_pos ⟨rfl, rfl⟩]
  obtain ⟨q2, v2⟩ := row_cp e2
  obtain ⟨q3, v3⟩ := row_cp e3
  obtain ⟨q4, v4⟩ := row_cp e4
  obtain ⟨q5, v5⟩ := row_cp e5
  obtain ⟨q6, v6⟩ := row_cp e6
  clear e1 e2 e3 e4 e5 e6
  refine HQ h6 ?_ (fun j hj1 hj2 i hi => ?_) ((q1.wk (fun c q => by omega)).tr ((q2.wk (fun c q => by omega)).tr ((q3.wk (fun c q => by omega)).tr ((q4.wk (fun c q => by omega)).tr ((q5.wk (fun c q => by omega)).tr (q6.wk (fun c q => by omega)))))))
  · rw [q6.I (by omega), q5.I (by omega), q4.I (by omega), q3.I (by omega), q2.I (by omega), v1]
  · have hj : j = 1 ∨ j = 2 ∨ j = 3 ∨ j = 4 ∨ j = 5 := by omega
    rcases hj with rfl | rfl | rfl | rfl | rfl
    · rw [q6.I (by omega), q5.I (by omega), q4.I (by omega), q3.I (by omega), v2 i hi, q1.I (by omega)]
    · rw [q6.I (by omega), q5.I (by omega), q4.I (by omega), v3 i hi, q2.I (by omega), q1.I (by omega)]
    · rw [q6.I (by omega), q5.I (by omega), v4 i hi, q3.I (by omega), q2.I (by omega), q1.I (by omega)]
    · rw [q6.I (by omega), v5 i hi, q4.I (by omega), q3.I (by omega), q2.I (by omega), q1.I (by omega)]
    · rw [v6 i hi, q5.I (by omega), q4.I (by omega), q3.I (by omega), q2.I (by omega), q1.I (by omega)]
theorem earn_f {k : Nat} (hk : isEarnest k) : isFate (k + 1) ∧ isThings (k + 3) := by
  rcases hk with rfl | rfl | rfl | rfl <;> (unfold isFate isThings; omega)
theorem earn_a {k0 k1 : Nat} (h0 : isEarnest k0) (h1 : isEarnest k1) (hne : k0 ≠ k1) : k0 + 12 ≤ k1 ∨ k1 + 12 ≤ k0 := by
  unfold isEarnest at h0 h1; omega
theorem c_copy {k0 k1 : Nat} {C : zCt} {N : zEn} {Q : zS → Prop} (hk0 : isEarnest k0) (hk1 : isEarnest k1) (hne : k0 ≠ k1) (hn12 : cn C ≤ 12) (ht12 : nt N ≤ 12) (wN : XEarn h k1 C N)
    (HQ : ∀ h1, XEarn h1 k0 C N → zEq (fun c => ¬ (k0 ≤ c ∧ c ≤ k0 + 10)) h h1 → Q h1) : zCv E (d + 2) m_X1_copy [vo k0, vo k1] h Q := by
  have hd := earn_a hk0 hk1 hne
  refine v_X1_copy hk0 hk1 ?_
  intro h1 e1
  have q1 : zEq (fun c => c ≠ k0) h h1 := by rw [e1]; exact zEq_I (fun q => q rfl)
  have v1 : hI h1 k0 0 = hI h k1 0 := by rw [e1, hI_stI, if_pos ⟨rfl, rfl⟩]
  clear e1
  refine c_fateCopy (earn_f hk0).1 (earn_f hk1).1 (by omega) ?_
  intro h2 f1 f2
  refine c_thingsCopy (earn_f hk0).2 (earn_f hk1).2 (by omega) ?_
  intro h3 t1 t2 t3 h4 e4 h5 e5
  obtain ⟨q4, v4⟩ := row_cp e4
  obtain ⟨q5, v5⟩ := row_cp e5
  clear e4 e5
  obtain ⟨a, b, c, dd, e, f⟩ := wN
  have F : zEq (fun c => ¬ (k0 ≤ c ∧ c ≤ k0 + 2)) h h2 := (q1.wk (fun c q => by omega)).tr (f2.wk (fun c q => by omega))
  refine HQ h5 ⟨?_, ⟨?_, ?_, fun i hi => ?_⟩, ?_, fun i hi => ?_, fun p q hp hq => ?_, fun i hi => ?_⟩ ?_
  · rw [q5.I (by omega), q4.I (by omega), t3.I (by omega), f2.I (by omega), v1]; exact a
  · rw [q5.I (by omega), q4.I (by omega), t3.I (by omega), f1.1, q1.I (by omega)]; exact b.1
  · rw [q5.I (by omega), q4.I (by omega), t3.I (by omega), f1.2.1, q1.I (by omega)]; exact b.2.1
  · rw [q5.I (by omega), q4.I (by omega), t3.I (by omega), f1.2.2 i (by omega), q1.I (by omega)]; exact b.2.2 i hi
  · rw [q5.I (by omega), q4.I (by omega), t1, F.I (by omega)]; exact c
  · have k : ∀ j, 1 ≤ j → j ≤ 5 → hI h5 (k0 + (3 + j)) i = hI h (k1 + (3 + j)) i := by
      intro j hj1 hj2
      rw [q5.I (by omega), q4.I (by omega)]
      have := t2 j hj1 hj2 i (by omega)
      rw [Nat.add_assoc, Nat.add_assoc] at this
      rw [this, F.I (by omega)]
    have q := dd i hi
    exact ⟨(k 1 (by omega) (by omega)).trans q.1, (k 2 (by omega) (by omega)).trans q.2.1, (k 3 (by omega) (by omega)).trans q.2.2.1, (k 4 (by omega) (by omega)).trans q.2.2.2.1, (k 5 (by omega) (by omega)).trans q.2.2.2.2⟩
  · rw [q5.I (by omega), v4 _ (show 12 * p + q < 144 by omega), t3.I (by omega), F.I (by omega)]; exact e p q hp hq
  · rw [v5 _ (show i < 12 by omega), q4.I (by omega), t3.I (by omega), F.I (by omega)]; exact f i hi
  · exact (F.wk (fun c q => by omega)).tr ((t3.wk (fun c q => by omega)).tr ((q4.wk (fun c q => by omega)).tr (q5.wk (fun c q => by omega))))
theorem box_e {b : Nat} (hb : b < 3) : isEarnest (47 + 12 * b) := by unfold isEarnest; omega
theorem bset_or {p : Nat → Bool} {i : Nat} (hi : i < 12) : bset p ||| 2 ^ i = bset (fun j => decide (j = i) || p j) := by
  apply nat_bits (zb_orlt (bset_lt _) (zb_2k hi)) (bset_lt _)
  intro j hj
  rw [Nat.testBit_or, zb_t2, bset_t, bset_t]
  by_cases e : i = j
  · subst e; simp [hj]
  · have : ¬ j = i := fun q => e q.symm
    simp [hj, e, this]
end IM
