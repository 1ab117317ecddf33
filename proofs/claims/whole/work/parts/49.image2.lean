/-! image in the model -/
section I2
variable {E : zE} {d : Nat} {h : zS}
theorem st_cp {h1 : zS} {k i : Nat} {x : Int} (e : h1 = stI h k i x) : hI h1 k i = x ∧ (∀ c j, ¬ (c = k ∧ j = i) → hI h1 c j = hI h c j) ∧ zEq (fun c => c ≠ k) h h1 := by
  subst e
  exact ⟨by rw [hI_stI, if_pos ⟨rfl, rfl⟩], fun c j n => by rw [hI_stI, if_neg n], zEq_I (fun q => q rfl)⟩
theorem c_M_isBox {x : Int} {Q : Int → zS → Prop} (HQ : Q (if 0 ≤ x ∧ x < 3 then 1 else 0) h) : zCi E d m_X10_isBox [vi x] h Q := by
  refine v_X10_isBox ⟨fun c => ?_, fun c => ⟨fun c2 => ?_, fun c2 => ?_⟩⟩
  · rw [if_neg (by omega)] at HQ; exact HQ
  · first | (rw [if_pos (by omega)] at HQ; exact HQ) | (rw [if_neg (by omega)] at HQ; exact HQ)
  · first | (rw [if_pos (by omega)] at HQ; exact HQ) | (rw [if_neg (by omega)] at HQ; exact HQ)
theorem c_M_im3 {x : Nat} {Q : Int → zS → Prop} (hx : x < 3)
    (HQ : ∀ h2, (∀ j, j < 12 → hI h2 134 (5 * (12 * x + j)) = hI h 119 j ∧ hI h2 134 (5 * (12 * x + j) + 1) = hI h 120 j ∧ hI h2 134 (5 * (12 * x + j) + 2) = hI h 121 j ∧ hI h2 134 (5 * (12 * x + j) + 3) = hI h 122 j ∧ hI h2 134 (5 * (12 * x + j) + 4) = hI h 123 j) → (∀ j, j < 60 * x ∨ 60 * x + 60 ≤ j → hI h2 134 j = hI h 134 j) → zEq (fun c => c ≠ 134) h h2 → Q (hI h2 89 54) h2) : zWi E (d + 1) m_X10_image 140 [vo 89, vi x, vi 0, vn] h Q := by
  have a3 : w32 (12 * (x : Int)) = ((12 * x : Nat) : Int) := by rw [w32_id (by omega) (by omega)]; omega
  refine z_up (n := 12) (fun i h2 => zWi E (d + 1) m_X10_image 140 [vo 89, vi x, vi i, vn] h2 Q) (fun i h2 => (∀ j, j < i → hI h2 134 (5 * (12 * x + j)) = hI h 119 j ∧ hI h2 134 (5 * (12 * x + j) + 1) = hI h 120 j ∧ hI h2 134 (5 * (12 * x + j) + 2) = hI h 121 j ∧ hI h2 134 (5 * (12 * x + j) + 3) = hI h 122 j ∧ hI h2 134 (5 * (12 * x + j) + 4) = hI h 123 j) ∧ (∀ j, j < 60 * x ∨ 60 * x + 60 ≤ j → hI h2 134 j = hI h 134 j) ∧ zEq (fun c => c ≠ 134) h h2) ?_ ?_ 0 h (by omega) ⟨fun j hj => by omega, fun j hj => rfl, zEq.rf⟩
  · rintro h11 ⟨u1, u2, u3⟩
    exact r_X10_image_140 ⟨fun _ => HQ h11 u1 u2 u3, fun c => by omega⟩
  · rintro i h11 hi ⟨u1, u2, u3⟩ ih
    refine r_X10_image_140 ⟨fun c => by omega, fun _ => ?_⟩
    rintro y hy
    have b1 : w32 (((12 * x : Nat) : Int) + (i : Int)) = ((12 * x + i : Nat) : Int) := by rw [w32_id (by omega) (by omega)]; omega
    have b2 : w32 (5 * ((12 * x + i : Nat) : Int)) = ((5 * (12 * x + i) : Nat) : Int) := by rw [w32_id (by omega) (by omega)]; omega
    rw [a3, b1, b2] at hy
    obtain ⟨m, hm⟩ : ∃ m, m = 5 * (12 * x + i) := ⟨_, rfl⟩
    have hm1 : m + 4 < 180 := by omega
    rw [← hm] at hy
    subst hy
    have c1 : w32 ((m : Int) + 1) = ((m + 1 : Nat) : Int) := by rw [w32_id (by omega) (by omega)]; omega
    have c2 : w32 ((m : Int) + 2) = ((m + 2 : Nat) : Int) := by rw [w32_id (by omega) (by omega)]; omega
    have c3 : w32 ((m : Int) + 3) = ((m + 3 : Nat) : Int) := by rw [w32_id (by omega) (by omega)]; omega
    have c4 : w32 ((m : Int) + 4) = ((m + 4 : Nat) : Int) := by rw [w32_id (by omega) (by omega)]; omega
    rw [c1, c2, c3, c4, w32s (by omega)]
    simp only [Int.toNat_natCast]
    refine ⟨by omega, by omega, ?_⟩
    intro g1 y1
    obtain ⟨v1, n1, q1⟩ := st_cp y1
    clear y1
    refine ⟨by omega, ?_⟩
    intro g2 y2
    obtain ⟨v2, n2, q2⟩ := st_cp y2
    clear y2
    refine ⟨by omega, ?_⟩
    intro g3 y3
    obtain ⟨v3, n3, q3⟩ := st_cp y3
    clear y3
    refine ⟨by omega, ?_⟩
    intro g4 y4
    obtain ⟨v4, n4, q4⟩ := st_cp y4
    clear y4
    refine ⟨by omega, ?_⟩
    intro g5 y5
    obtain ⟨v5, n5, q5⟩ := st_cp y5
    clear y5
    have w5 : hI g5 134 (m + 4) = hI h 123 i := by rw [v5, n4 _ _ (by simp), n3 _ _ (by simp), n2 _ _ (by simp), n1 _ _ (by simp), u3.I (by simp)]
    have w4 : hI g5 134 (m + 3) = hI h 122 i := by rw [n5 _ _ (by simp), v4, n3 _ _ (by simp), n2 _ _ (by simp), n1 _ _ (by simp), u3.I (by simp)]
    have w3 : hI g5 134 (m + 2) = hI h 121 i := by rw [n5 _ _ (by simp), n4 _ _ (by simp), v3, n2 _ _ (by simp), n1 _ _ (by simp), u3.I (by simp)]
    have w2 : hI g5 134 (m + 1) = hI h 120 i := by rw [n5 _ _ (by simp), n4 _ _ (by simp), n3 _ _ (by simp), v2, n1 _ _ (by simp), u3.I (by simp)]
    have w1 : hI g5 134 m = hI h 119 i := by rw [n5 _ _ (by simp), n4 _ _ (by simp), n3 _ _ (by simp), n2 _ _ (by simp), v1, u3.I (by simp)]
    have K : ∀ l, l < m ∨ m + 4 < l → hI g5 134 l = hI h11 134 l := fun l hl => by
      rw [n5 _ _ (fun q => by have := q.2; omega), n4 _ _ (fun q => by have := q.2; omega), n3 _ _ (fun q => by have := q.2; omega), n2 _ _ (fun q => by have := q.2; omega), n1 _ _ (fun q => by have := q.2; omega)]
    clear v1 v2 v3 v4 v5 n1 n2 n3 n4 n5
    refine ih g5 ⟨fun j hj => ?_, fun j hj => ?_, u3.tr (q1.tr (q2.tr (q3.tr (q4.tr q5))))⟩
    · by_cases e : j = i
      · rw [e, ← hm]; exact ⟨w1, w2, w3, w4, w5⟩
      · have q := u1 j (by omega)
        rw [K _ (by omega), K _ (by omega), K _ (by omega), K _ (by omega), K _ (by omega)]
        exact q
    · rw [K _ (by omega)]; exact u2 j hj
theorem c_M_im2 {x : Nat} {Q : Int → zS → Prop} (hx : x < 3)
    (HQ : ∀ h2, (∀ j, j < 144 → hI h2 133 (144 * x + j) = hI h 118 j) → (∀ j, j < 144 * x ∨ 144 * x + 144 ≤ j → hI h2 133 j = hI h 133 j) → zEq (fun c => c ≠ 133) h h2 → zWi E (d + 1) m_X10_image 140 [vo 89, vi x, vi 0, vn] h2 Q) : zWi E (d + 1) m_X10_image 107 [vo 89, vi x, vi 0, vn] h Q := by
  have a4 : w32 (144 * (x : Int)) = ((144 * x : Nat) : Int) := by rw [w32_id (by omega) (by omega)]; omega
  refine z_up (n := 144) (fun i h2 => zWi E (d + 1) m_X10_image 107 [vo 89, vi x, vi i, vn] h2 Q) (fun i h2 => (∀ j, j < i → hI h2 133 (144 * x + j) = hI h 118 j) ∧ (∀ j, j < 144 * x ∨ 144 * x + 144 ≤ j → hI h2 133 j = hI h 133 j) ∧ zEq (fun c => c ≠ 133) h h2) ?_ ?_ 0 h (by omega) ⟨fun j hj => by omega, fun j hj => rfl, zEq.rf⟩
  · rintro h10 ⟨s1, s2, s3⟩
    exact r_X10_image_107 ⟨fun _ => HQ h10 s1 s2 s3, fun c => by omega⟩
  · rintro i h10 hi ⟨s1, s2, s3⟩ ih
    refine r_X10_image_107 ⟨fun c => by omega, fun _ => ?_⟩
    have b1 : w32 (((144 * x : Nat) : Int) + (i : Int)) = ((144 * x + i : Nat) : Int) := by rw [w32_id (by omega) (by omega)]; omega
    rw [a4, b1, w32s (by omega)]
    simp only [Int.toNat_natCast]
    refine ⟨by omega, by omega, ?_⟩
    intro g1 y1
    obtain ⟨v1, n1, q1⟩ := st_cp y1
    clear y1
    refine ih _ ⟨fun j hj => ?_, fun j hj => ?_, s3.tr q1⟩
    · by_cases e : j = i
      · rw [e, v1, s3.I (by simp)]
      · rw [n1 _ _ (by omega)]; exact s1 j (by omega)
    · rw [n1 _ _ (by omega)]; exact s2 j hj
theorem c_M_im1 {x : Nat} {Q : Int → zS → Prop} (hx : x < 3)
    (HQ : ∀ h2, (∀ j, j < 12 → hI h2 132 (3 * (12 * x + j)) = hI h 115 j ∧ hI h2 132 (3 * (12 * x + j) + 1) = hI h 116 j ∧ hI h2 132 (3 * (12 * x + j) + 2) = hI h 117 j) → (∀ j, j < 36 * x ∨ 36 * x + 36 ≤ j → hI h2 132 j = hI h 132 j) → zEq (fun c => c ≠ 132) h h2 → zWi E (d + 1) m_X10_image 107 [vo 89, vi x, vi 0, vn] h2 Q) : zWi E (d + 1) m_X10_image 44 [vo 89, vi x, vi 0, vn] h Q := by
  have a3 : w32 (12 * (x : Int)) = ((12 * x : Nat) : Int) := by rw [w32_id (by omega) (by omega)]; omega
  refine z_up (n := 12) (fun i h2 => zWi E (d + 1) m_X10_image 44 [vo 89, vi x, vi i, vn] h2 Q) (fun i h2 => (∀ j, j < i → hI h2 132 (3 * (12 * x + j)) = hI h 115 j ∧ hI h2 132 (3 * (12 * x + j) + 1) = hI h 116 j ∧ hI h2 132 (3 * (12 * x + j) + 2) = hI h 117 j) ∧ (∀ j, j < 36 * x ∨ 36 * x + 36 ≤ j → hI h2 132 j = hI h 132 j) ∧ zEq (fun c => c ≠ 132) h h2) ?_ ?_ 0 h (by omega) ⟨fun j hj => by omega, fun j hj => rfl, zEq.rf⟩
  · rintro h11 ⟨u1, u2, u3⟩
    exact r_X10_image_44 ⟨fun _ => HQ h11 u1 u2 u3, fun c => by omega⟩
  · rintro i h11 hi ⟨u1, u2, u3⟩ ih
    refine r_X10_image_44 ⟨fun c => by omega, fun _ => ?_⟩
    rintro y hy
    have b1 : w32 (((12 * x : Nat) : Int) + (i : Int)) = ((12 * x + i : Nat) : Int) := by rw [w32_id (by omega) (by omega)]; omega
    have b2 : w32 (3 * ((12 * x + i : Nat) : Int)) = ((3 * (12 * x + i) : Nat) : Int) := by rw [w32_id (by omega) (by omega)]; omega
    rw [a3, b1, b2] at hy
    obtain ⟨m, hm⟩ : ∃ m, m = 3 * (12 * x + i) := ⟨_, rfl⟩
    have hm1 : m + 2 < 108 := by omega
    rw [← hm] at hy
    subst hy
    have c1 : w32 ((m : Int) + 1) = ((m + 1 : Nat) : Int) := by rw [w32_id (by omega) (by omega)]; omega
    have c2 : w32 ((m : Int) + 2) = ((m + 2 : Nat) : Int) := by rw [w32_id (by omega) (by omega)]; omega
    rw [c1, c2, w32s (by omega)]
    simp only [Int.toNat_natCast]
    refine ⟨by omega, by omega, ?_⟩
    intro g1 y1
    obtain ⟨v1, n1, q1⟩ := st_cp y1
    clear y1
    refine ⟨by omega, ?_⟩
    intro g2 y2
    obtain ⟨v2, n2, q2⟩ := st_cp y2
    clear y2
    refine ⟨by omega, ?_⟩
    intro g3 y3
    obtain ⟨v3, n3, q3⟩ := st_cp y3
    clear y3
    have w3 : hI g3 132 (m + 2) = hI h 117 i := by rw [v3, n2 _ _ (by simp), n1 _ _ (by simp), u3.I (by simp)]
    have w2 : hI g3 132 (m + 1) = hI h 116 i := by rw [n3 _ _ (by simp), v2, n1 _ _ (by simp), u3.I (by simp)]
    have w1 : hI g3 132 m = hI h 115 i := by rw [n3 _ _ (by simp), n2 _ _ (by simp), v1, u3.I (by simp)]
    have K : ∀ l, l < m ∨ m + 2 < l → hI g3 132 l = hI h11 132 l := fun l hl => by
      rw [n3 _ _ (fun q => by have := q.2; omega), n2 _ _ (fun q => by have := q.2; omega), n1 _ _ (fun q => by have := q.2; omega)]
    clear v1 v2 v3 n1 n2 n3
    refine ih g3 ⟨fun j hj => ?_, fun j hj => ?_, u3.tr (q1.tr (q2.tr q3))⟩
    · by_cases e : j = i
      · rw [e, ← hm]; exact ⟨w1, w2, w3⟩
      · have q := u1 j (by omega)
        rw [K _ (by omega), K _ (by omega), K _ (by omega)]
        exact q
    · rw [K _ (by omega)]; exact u2 j hj
end I2
