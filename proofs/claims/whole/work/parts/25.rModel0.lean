/-! by program: the conditions of each method, Model0 -/
set_option maxRecDepth 20000 in
theorem v_X10_feed {E : zE} {d : Nat} {h : zS} {Q : Int → zS → Prop} {x1 : Int} {x2 : Int} {x3 : Int} {x4 : Int} {x5 : Int}  (H : (((w32 ((hI h 89 1) + 20)) ≤ 1600 → (zCv E d m_X10_four [vo 89, vi x1] h (fun h1 => zCv E d m_X10_four [vo 89, vi x2] h1 (fun h2 => zCv E d m_X10_four [vo 89, vi x3] h2 (fun h3 => zCv E d m_X10_four [vo 89, vi x4] h3 (fun h4 => zCv E d m_X10_four [vo 89, vi x5] h4 (fun h5 => Q (hI h5 89 1) h5))))))) ∧ (1600 < (w32 ((hI h 89 1) + 20)) → (Q (-1) h)))) : zCi E (d + 1) m_X10_feed [vo 89, vi x1, vi x2, vi x3, vi x4, vi x5] h Q := by
  show zAt E (d + 1) 0 0 m_X10_feed 0 [vo 89, vi x1, vi x2, vi x3, vi x4, vi x5] [] g0 h (zPi Q)
  refine a_aload_n (pc := 0) dX10_feed_0 rfl ?_
  refine a_getI (pc := 1) dX10_feed_1 fl_X10_157 (go_89) ?_
  refine a_bipush (pc := 4) dX10_feed_4 (by decide) ?_
  refine a_iadd (pc := 6) dX10_feed_6 ?_
  refine a_sipush (pc := 7) dX10_feed_7 (by decide) ?_
  refine a_icmp_le (pc := 10) (tgt := 15) dX10_feed_10 (by decide) (fun c => ?_) (fun c => ?_)
  · have H := H.1 c
    refine a_aload_n (pc := 15) dX10_feed_15 rfl ?_
    refine a_iload_n (pc := 16) dX10_feed_16 rfl ?_
    refine a_callV (pc := 17) (kc := 0) (ks := 0) (kc' := 0) (ks' := 0) (st := []) [vi x1] dX10_feed_17 ml_X10_160 (go_89) rfl (Nat.le_of_ble_eq_true rfl) (Nat.le_of_ble_eq_true rfl) (z_post H (fun r G1 h1 q => ?_))
    obtain ⟨rfl, rfl, H⟩ := q
    show zAt E (d + 1) 0 0 m_X10_feed 20 [vo 89, vi x1, vi x2, vi x3, vi x4, vi x5] [] g0 h1 (zPi Q)
    refine a_aload_n (pc := 20) dX10_feed_20 rfl ?_
    refine a_iload_n (pc := 21) dX10_feed_21 rfl ?_
    refine a_callV (pc := 22) (kc := 0) (ks := 0) (kc' := 0) (ks' := 0) (st := []) [vi x2] dX10_feed_22 ml_X10_160 (go_89) rfl (Nat.le_of_ble_eq_true rfl) (Nat.le_of_ble_eq_true rfl) (z_post H (fun r G1 h2 q => ?_))
    obtain ⟨rfl, rfl, H⟩ := q
    show zAt E (d + 1) 0 0 m_X10_feed 25 [vo 89, vi x1, vi x2, vi x3, vi x4, vi x5] [] g0 h2 (zPi Q)
    refine a_aload_n (pc := 25) dX10_feed_25 rfl ?_
    refine a_iload_n (pc := 26) dX10_feed_26 rfl ?_
    refine a_callV (pc := 27) (kc := 0) (ks := 0) (kc' := 0) (ks' := 0) (st := []) [vi x3] dX10_feed_27 ml_X10_160 (go_89) rfl (Nat.le_of_ble_eq_true rfl) (Nat.le_of_ble_eq_true rfl) (z_post H (fun r G1 h3 q => ?_))
    obtain ⟨rfl, rfl, H⟩ := q
    show zAt E (d + 1) 0 0 m_X10_feed 30 [vo 89, vi x1, vi x2, vi x3, vi x4, vi x5] [] g0 h3 (zPi Q)
    refine a_aload_n (pc := 30) dX10_feed_30 rfl ?_
    refine a_iload (pc := 31) dX10_feed_31 rfl ?_
    refine a_callV (pc := 33) (kc := 0) (ks := 0) (kc' := 0) (ks' := 0) (st := []) [vi x4] dX10_feed_33 ml_X10_160 (go_89) rfl (Nat.le_of_ble_eq_true rfl) (Nat.le_of_ble_eq_true rfl) (z_post H (fun r G1 h4 q => ?_))
    obtain ⟨rfl, rfl, H⟩ := q
    show zAt E (d + 1) 0 0 m_X10_feed 36 [vo 89, vi x1, vi x2, vi x3, vi x4, vi x5] [] g0 h4 (zPi Q)
    refine a_aload_n (pc := 36) dX10_feed_36 rfl ?_
    refine a_iload (pc := 37) dX10_feed_37 rfl ?_
    refine a_callV (pc := 39) (kc := 0) (ks := 0) (kc' := 0) (ks' := 0) (st := []) [vi x5] dX10_feed_39 ml_X10_160 (go_89) rfl (Nat.le_of_ble_eq_true rfl) (Nat.le_of_ble_eq_true rfl) (z_post H (fun r G1 h5 q => ?_))
    obtain ⟨rfl, rfl, H⟩ := q
    show zAt E (d + 1) 0 0 m_X10_feed 42 [vo 89, vi x1, vi x2, vi x3, vi x4, vi x5] [] g0 h5 (zPi Q)
    refine a_aload_n (pc := 42) dX10_feed_42 rfl ?_
    refine a_getI (pc := 43) dX10_feed_43 fl_X10_157 (go_89) ?_
    exact a_ireturn (pc := 46) dX10_feed_46 trivial ⟨_, rfl, rfl, H⟩
  · have H := H.2 c
    refine a_iconst (pc := 13) dX10_feed_13 (by decide) ?_
    exact a_ireturn (pc := 14) dX10_feed_14 trivial ⟨_, rfl, rfl, H⟩
set_option maxRecDepth 20000 in
theorem v_X10_four {E : zE} {d : Nat} {h : zS} {Q : zS → Prop} {x1 : Int}  (H : zWv E d m_X10_four 3 [vo 89, vi x1, vi 24] h Q) : zCv E d m_X10_four [vo 89, vi x1] h Q := by
  show zAt E d 0 0 m_X10_four 0 [vo 89, vi x1, vn] [] g0 h (zPv Q)
  refine a_bipush (pc := 0) dX10_four_0 (by decide) ?_
  refine a_istore_n (pc := 2) (ls' := [vo 89, vi x1, vi 24]) dX10_four_2 rfl rfl ?_
  exact H
set_option maxRecDepth 20000 in
theorem r_X10_four_3 {E : zE} {d : Nat} {h : zS} {Q : zS → Prop} {x1 : Int} {x2 : Int}  (H : ((x2 < 0 → (Q h)) ∧ (0 ≤ x2 → ((0 ≤ hI h 89 1 ∧ hI h 89 1 < 1600) ∧ ∀ h2, h2 = stI h 90 (hI h 89 1).toNat (z_and (z_shr x1 x2) 255) → ∀ h3, h3 = stI h2 89 1 (w32 ((hI h2 89 1) + 1)) → zWv E d m_X10_four 3 [vo 89, vi x1, vi (w32 (x2 + (-8)))] h3 Q)))) : zWv E d m_X10_four 3 [vo 89, vi x1, vi x2] h Q := by
  refine a_iload_n (pc := 3) dX10_four_3 rfl ?_
  refine a_if_lt (pc := 4) (tgt := 39) dX10_four_4 (by decide) (fun c => ?_) (fun c => ?_)
  · have H := H.1 c
    exact a_return (pc := 39) dX10_four_39 trivial ⟨rfl, rfl, H⟩
  · have H := H.2 c
    refine a_aload_n (pc := 7) dX10_four_7 rfl ?_
    refine a_getF (pc := 8) dX10_four_8 fl_X10_7 (go_89) (gf_89_0) ?_
    refine a_aload_n (pc := 11) dX10_four_11 rfl ?_
    refine a_getI (pc := 12) dX10_four_12 fl_X10_157 (go_89) ?_
    refine a_iload_n (pc := 15) dX10_four_15 rfl ?_
    refine a_iload_n (pc := 16) dX10_four_16 rfl ?_
    refine a_ishr (pc := 17) dX10_four_17 ?_
    refine a_sipush (pc := 18) dX10_four_18 (by decide) ?_
    refine a_iand (pc := 21) dX10_four_21 ?_
    obtain ⟨hb1, H⟩ := H
    refine a_iastore (pc := 22) dX10_four_22 (ga_90) hb1 ?_
    have H := H _ rfl
    generalize stI h 90 (hI h 89 1).toNat (z_and (z_shr x1 x2) 255) = h2 at H ⊢
    refine a_aload_n (pc := 23) dX10_four_23 rfl ?_
    refine a_dup (pc := 24) dX10_four_24 rfl ?_
    refine a_getI (pc := 25) dX10_four_25 fl_X10_157 (go_89) ?_
    refine a_iconst (pc := 28) dX10_four_28 (by decide) ?_
    refine a_iadd (pc := 29) dX10_four_29 ?_
    refine a_putI (pc := 30) dX10_four_30 fl_X10_157 (go_89) ?_
    have H := H _ rfl
    generalize stI h2 89 1 (w32 ((hI h2 89 1) + 1)) = h3 at H ⊢
    refine a_iinc (pc := 33) (ls' := [vo 89, vi x1, vi (w32 (x2 + (-8)))]) dX10_four_33 rfl rfl rfl ?_
    refine a_goto (pc := 36) (tgt := 3) dX10_four_36 (by decide) ?_
    exact H
set_option maxRecDepth 20000 in
theorem v_X10_end {E : zE} {d : Nat} {h : zS} {Q : Int → zS → Prop} {x1 : Int}  (H : ((x1 < 0 → (Q (-1) h)) ∧ (0 ≤ x1 → ((x1 ≤ (hI h 89 1) → (∀ h1, h1 = stI h 89 1 x1 → Q x1 h1)) ∧ ((hI h 89 1) < x1 → (Q (-1) h)))))) : zCi E d m_X10_end [vo 89, vi x1] h Q := by
  show zAt E d 0 0 m_X10_end 0 [vo 89, vi x1] [] g0 h (zPi Q)
  refine a_iload_n (pc := 0) dX10_end_0 rfl ?_
  refine a_if_lt (pc := 1) (tgt := 12) dX10_end_1 (by decide) (fun c => ?_) (fun c => ?_)
  · have H := H.1 c
    refine a_iconst (pc := 12) dX10_end_12 (by decide) ?_
    exact a_ireturn (pc := 13) dX10_end_13 trivial ⟨_, rfl, rfl, H⟩
  · have H := H.2 c
    refine a_iload_n (pc := 4) dX10_end_4 rfl ?_
    refine a_aload_n (pc := 5) dX10_end_5 rfl ?_
    refine a_getI (pc := 6) dX10_end_6 fl_X10_157 (go_89) ?_
    refine a_icmp_le (pc := 9) (tgt := 14) dX10_end_9 (by decide) (fun c => ?_) (fun c => ?_)
    · have H := H.1 c
      refine a_aload_n (pc := 14) dX10_end_14 rfl ?_
      refine a_iload_n (pc := 15) dX10_end_15 rfl ?_
      refine a_putI (pc := 16) dX10_end_16 fl_X10_157 (go_89) ?_
      have H := H _ rfl
      generalize stI h 89 1 x1 = h1 at H ⊢
      refine a_iload_n (pc := 19) dX10_end_19 rfl ?_
      exact a_ireturn (pc := 20) dX10_end_20 trivial ⟨_, rfl, rfl, H⟩
    · have H := H.2 c
      refine a_iconst (pc := 12) dX10_end_12 (by decide) ?_
      exact a_ireturn (pc := 13) dX10_end_13 trivial ⟨_, rfl, rfl, H⟩
set_option maxRecDepth 20000 in
theorem v_X10_here {E : zE} {d : Nat} {h : zS} {Q : Int → zS → Prop} {x1 : Int}  (H : (((hI h 89 5) ≤ (w32 ((hI h 89 4) + x1)) → (Q (-1) h)) ∧ ((w32 ((hI h 89 4) + x1)) < (hI h 89 5) → ((0 ≤ w32 ((hI h 89 4) + x1) ∧ w32 ((hI h 89 4) + x1) < 1600) ∧ Q (hI h 90 (w32 ((hI h 89 4) + x1)).toNat) h)))) : zCi E d m_X10_here [vo 89, vi x1] h Q := by
  show zAt E d 0 0 m_X10_here 0 [vo 89, vi x1] [] g0 h (zPi Q)
  refine a_aload_n (pc := 0) dX10_here_0 rfl ?_
  refine a_getI (pc := 1) dX10_here_1 fl_X10_164 (go_89) ?_
  refine a_iload_n (pc := 4) dX10_here_4 rfl ?_
  refine a_iadd (pc := 5) dX10_here_5 ?_
  refine a_aload_n (pc := 6) dX10_here_6 rfl ?_
  refine a_getI (pc := 7) dX10_here_7 fl_X10_167 (go_89) ?_
  refine a_icmp_ge (pc := 10) (tgt := 27) dX10_here_10 (by decide) (fun c => ?_) (fun c => ?_)
  · have H := H.1 c
    refine a_iconst (pc := 27) dX10_here_27 (by decide) ?_
    exact a_ireturn (pc := 28) dX10_here_28 trivial ⟨_, rfl, rfl, H⟩
  · have H := H.2 c
    refine a_aload_n (pc := 13) dX10_here_13 rfl ?_
    refine a_getF (pc := 14) dX10_here_14 fl_X10_7 (go_89) (gf_89_0) ?_
    refine a_aload_n (pc := 17) dX10_here_17 rfl ?_
    refine a_getI (pc := 18) dX10_here_18 fl_X10_164 (go_89) ?_
    refine a_iload_n (pc := 21) dX10_here_21 rfl ?_
    refine a_iadd (pc := 22) dX10_here_22 ?_
    obtain ⟨hb1, H⟩ := H
    refine a_iaload (pc := 23) dX10_here_23 (ga_90) hb1 ?_
    refine a_goto (pc := 24) (tgt := 28) dX10_here_24 (by decide) ?_
    exact a_ireturn (pc := 28) dX10_here_28 trivial ⟨_, rfl, rfl, H⟩
set_option maxRecDepth 20000 in
theorem v_X10_isLetter {E : zE} {d : Nat} {h : zS} {Q : Int → zS → Prop} {x0 : Int}  (H : ((x0 < 97 → (Q 0 h)) ∧ (97 ≤ x0 → ((122 < x0 → (Q 0 h)) ∧ (x0 ≤ 122 → (Q 1 h)))))) : zCi E d m_X10_isLetter [vi x0] h Q := by
  show zAt E d 0 0 m_X10_isLetter 0 [vi x0] [] g0 h (zPi Q)
  refine a_iload_n (pc := 0) dX10_isLetter_0 rfl ?_
  refine a_bipush (pc := 1) dX10_isLetter_1 (by decide) ?_
  refine a_icmp_lt (pc := 3) (tgt := 16) dX10_isLetter_3 (by decide) (fun c => ?_) (fun c => ?_)
  · have H := H.1 c
    refine a_iconst (pc := 16) dX10_isLetter_16 (by decide) ?_
    exact a_ireturn (pc := 17) dX10_isLetter_17 (.inl rfl) ⟨_, rfl, rfl, H⟩
  · have H := H.2 c
    refine a_iload_n (pc := 6) dX10_isLetter_6 rfl ?_
    refine a_bipush (pc := 7) dX10_isLetter_7 (by decide) ?_
    refine a_icmp_gt (pc := 9) (tgt := 16) dX10_isLetter_9 (by decide) (fun c => ?_) (fun c => ?_)
    · have H := H.1 c
      refine a_iconst (pc := 16) dX10_isLetter_16 (by decide) ?_
      exact a_ireturn (pc := 17) dX10_isLetter_17 (.inl rfl) ⟨_, rfl, rfl, H⟩
    · have H := H.2 c
      refine a_iconst (pc := 12) dX10_isLetter_12 (by decide) ?_
      refine a_goto (pc := 13) (tgt := 17) dX10_isLetter_13 (by decide) ?_
      exact a_ireturn (pc := 17) dX10_isLetter_17 (.inr rfl) ⟨_, rfl, rfl, H⟩
set_option maxRecDepth 20000 in
theorem v_X10_isDigit {E : zE} {d : Nat} {h : zS} {Q : Int → zS → Prop} {x0 : Int}  (H : ((x0 < 48 → (Q 0 h)) ∧ (48 ≤ x0 → ((57 < x0 → (Q 0 h)) ∧ (x0 ≤ 57 → (Q 1 h)))))) : zCi E d m_X10_isDigit [vi x0] h Q := by
  show zAt E d 0 0 m_X10_isDigit 0 [vi x0] [] g0 h (zPi Q)
  refine a_iload_n (pc := 0) dX10_isDigit_0 rfl ?_
  refine a_bipush (pc := 1) dX10_isDigit_1 (by decide) ?_
  refine a_icmp_lt (pc := 3) (tgt := 16) dX10_isDigit_3 (by decide) (fun c => ?_) (fun c => ?_)
  · have H := H.1 c
    refine a_iconst (pc := 16) dX10_isDigit_16 (by decide) ?_
    exact a_ireturn (pc := 17) dX10_isDigit_17 (.inl rfl) ⟨_, rfl, rfl, H⟩
  · have H := H.2 c
    refine a_iload_n (pc := 6) dX10_isDigit_6 rfl ?_
    refine a_bipush (pc := 7) dX10_isDigit_7 (by decide) ?_
    refine a_icmp_gt (pc := 9) (tgt := 16) dX10_isDigit_9 (by decide) (fun c => ?_) (fun c => ?_)
    · have H := H.1 c
      refine a_iconst (pc := 16) dX10_isDigit_16 (by decide) ?_
      exact a_ireturn (pc := 17) dX10_isDigit_17 (.inl rfl) ⟨_, rfl, rfl, H⟩
    · have H := H.2 c
      refine a_iconst (pc := 12) dX10_isDigit_12 (by decide) ?_
      refine a_goto (pc := 13) (tgt := 17) dX10_isDigit_13 (by decide) ?_
      exact a_ireturn (pc := 17) dX10_isDigit_17 (.inr rfl) ⟨_, rfl, rfl, H⟩
set_option maxRecDepth 20000 in
theorem v_X10_token {E : zE} {d : Nat} {h : zS} {Q : zS → Prop}   (H : zWv E (d + 1) m_X10_token 0 [vo 89, vn, vn] h Q) : zCv E (d + 1) m_X10_token [vo 89] h Q := by
  show zAt E (d + 1) 0 0 m_X10_token 0 [vo 89, vn, vn] [] g0 h (zPv Q)
  exact H
set_option maxRecDepth 20000 in
theorem r_X10_token_0 {E : zE} {d : Nat} {h : zS} {Q : zS → Prop}   (H : zCi E d m_X10_here [vo 89, vi 0] h (fun y2 h1 => ((y2 = 32 → (∀ h3, h3 = stI h1 89 4 (w32 ((hI h1 89 4) + 1)) → zWv E (d + 1) m_X10_token 0 [vo 89, vn, vn] h3 Q)) ∧ (y2 ≠ 32 → (zCi E d m_X10_here [vo 89, vi 0] h1 (fun y5 h4 => ((y5 ≠ 10 → (∀ h6, h6 = stI h4 89 7 (hI h4 89 4) → zCi E d m_X10_here [vo 89, vi 0] h6 (fun y8 h7 => ∀ h9, h9 = stL h7 89 9 0 → ∀ h10, h10 = stI h9 89 8 0 → ((0 ≤ y8 → (zCi E d m_X10_isLetter [vi y8] h10 (fun y12 h11 => ((y12 = 0 → (zCi E d m_X10_isDigit [vi y8] h11 (fun y14 h13 => ((y14 = 0 → (∀ h16, h16 = stI h13 89 6 (if y8 ≠ 59 then 3 else y8) → (((hI h16 89 6) = 3 → (Q h16)) ∧ ((hI h16 89 6) ≠ 3 → (∀ h17, h17 = stI h16 89 4 (w32 ((hI h16 89 4) + 1)) → Q h17))))) ∧ (y14 ≠ 0 → (zWv E (d + 1) m_X10_token 144 [vo 89, vn, vi 0] h13 Q)))))) ∧ (y12 ≠ 0 → (zWv E (d + 1) m_X10_token 78 [vo 89, vn, vi 0] h11 Q)))))) ∧ (y8 < 0 → (∀ h18, h18 = stI h10 89 6 0 → (((hI h18 89 6) = 3 → (Q h18)) ∧ ((hI h18 89 6) ≠ 3 → (∀ h19, h19 = stI h18 89 4 (w32 ((hI h18 89 4) + 0)) → Q h19))))))))) ∧ (y5 = 10 → (∀ h20, h20 = stI h4 89 4 (w32 ((hI h4 89 4) + 1)) → zWv E (d + 1) m_X10_token 0 [vo 89, vn, vn] h20 Q))))))))) : zWv E (d + 1) m_X10_token 0 [vo 89, vn, vn] h Q := by
  refine a_aload_n (pc := 0) dX10_token_0 rfl ?_
  refine a_iconst (pc := 1) dX10_token_1 (by decide) ?_
  refine a_callV (pc := 2) (kc := 0) (ks := 0) (kc' := 0) (ks' := 0) (st := []) [vi 0] dX10_token_2 ml_X10_170 (go_89) rfl (Nat.le_of_ble_eq_true rfl) (Nat.le_of_ble_eq_true rfl) (z_post H (fun r G1 h1 q => ?_))
  obtain ⟨y2, rfl, rfl, H⟩ := q
  show zAt E (d + 1) 0 0 m_X10_token 5 [vo 89, vn, vn] [vi y2] g0 h1 (zPv Q)
  refine a_bipush (pc := 5) dX10_token_5 (by decide) ?_
  refine a_icmp_eq (pc := 7) (tgt := 20) dX10_token_7 (by decide) (fun c => ?_) (fun c => ?_)
  · have H := H.1 c
    refine a_aload_n (pc := 20) dX10_token_20 rfl ?_
    refine a_dup (pc := 21) dX10_token_21 rfl ?_
    refine a_getI (pc := 22) dX10_token_22 fl_X10_164 (go_89) ?_
    refine a_iconst (pc := 25) dX10_token_25 (by decide) ?_
    refine a_iadd (pc := 26) dX10_token_26 ?_
    refine a_putI (pc := 27) dX10_token_27 fl_X10_164 (go_89) ?_
    have H := H _ rfl
    generalize stI h1 89 4 (w32 ((hI h1 89 4) + 1)) = h3 at H ⊢
    refine a_goto (pc := 30) (tgt := 0) dX10_token_30 (by decide) ?_
    exact H
  · have H := H.2 c
    refine a_aload_n (pc := 10) dX10_token_10 rfl ?_
    refine a_iconst (pc := 11) dX10_token_11 (by decide) ?_
    refine a_callV (pc := 12) (kc := 0) (ks := 0) (kc' := 0) (ks' := 0) (st := []) [vi 0] dX10_token_12 ml_X10_170 (go_89) rfl (Nat.le_of_ble_eq_true rfl) (Nat.le_of_ble_eq_true rfl) (z_post H (fun r G1 h4 q => ?_))
    obtain ⟨y5, rfl, rfl, H⟩ := q
    show zAt E (d + 1) 0 0 m_X10_token 15 [vo 89, vn, vn] [vi y5] g0 h4 (zPv Q)
    refine a_bipush (pc := 15) dX10_token_15 (by decide) ?_
    refine a_icmp_ne (pc := 17) (tgt := 33) dX10_token_17 (by decide) (fun c => ?_) (fun c => ?_)
    · have H := H.1 c
      refine a_aload_n (pc := 33) dX10_token_33 rfl ?_
      refine a_aload_n (pc := 34) dX10_token_34 rfl ?_
      refine a_getI (pc := 35) dX10_token_35 fl_X10_164 (go_89) ?_
      refine a_putI (pc := 38) dX10_token_38 fl_X10_174 (go_89) ?_
      have H := H _ rfl
      generalize stI h4 89 7 (hI h4 89 4) = h6 at H ⊢
      refine a_aload_n (pc := 41) dX10_token_41 rfl ?_
      refine a_iconst (pc := 42) dX10_token_42 (by decide) ?_
      refine a_callV (pc := 43) (kc := 0) (ks := 0) (kc' := 0) (ks' := 0) (st := []) [vi 0] dX10_token_43 ml_X10_170 (go_89) rfl (Nat.le_of_ble_eq_true rfl) (Nat.le_of_ble_eq_true rfl) (z_post H (fun r G1 h7 q => ?_))
      obtain ⟨y8, rfl, rfl, H⟩ := q
      show zAt E (d + 1) 0 0 m_X10_token 46 [vo 89, vn, vn] [vi y8] g0 h7 (zPv Q)
      refine a_istore_n (pc := 46) (ls' := [vo 89, vi y8, vn]) dX10_token_46 rfl rfl ?_
      refine a_iconst (pc := 47) dX10_token_47 (by decide) ?_
      refine a_istore_n (pc := 48) (ls' := [vo 89, vi y8, vi 0]) dX10_token_48 rfl rfl ?_
      refine a_aload_n (pc := 49) dX10_token_49 rfl ?_
      refine a_lconst0 (pc := 50) dX10_token_50 ?_
      refine a_putL (pc := 51) dX10_token_51 fl_X10_177 (go_89) ?_
      have H := H _ rfl
      generalize stL h7 89 9 0 = h9 at H ⊢
      refine a_aload_n (pc := 54) dX10_token_54 rfl ?_
      refine a_iconst (pc := 55) dX10_token_55 (by decide) ?_
      refine a_putI (pc := 56) dX10_token_56 fl_X10_181 (go_89) ?_
      have H := H _ rfl
      generalize stI h9 89 8 0 = h10 at H ⊢
      refine a_iload_n (pc := 59) dX10_token_59 rfl ?_
      refine a_if_ge (pc := 60) (tgt := 71) dX10_token_60 (by decide) (fun c => ?_) (fun c => ?_)
      · have H := H.1 c
        refine a_iload_n (pc := 71) dX10_token_71 rfl ?_
        refine a_callS (pc := 72) (kc := 0) (ks := 0) (kc' := 0) (ks' := 0) (st := []) [vi y8] dX10_token_72 ml_X10_187 rfl (Nat.le_of_ble_eq_true rfl) (Nat.le_of_ble_eq_true rfl) (z_post H (fun r G1 h11 q => ?_))
        obtain ⟨y12, rfl, rfl, H⟩ := q
        show zAt E (d + 1) 0 0 m_X10_token 75 [vo 89, vi y8, vi 0] [vi y12] g0 h11 (zPv Q)
        refine a_if_eq (pc := 75) (tgt := 137) dX10_token_75 (by decide) (fun c => ?_) (fun c => ?_)
        · have H := H.1 c
          refine a_iload_n (pc := 137) dX10_token_137 rfl ?_
          refine a_callS (pc := 138) (kc := 0) (ks := 0) (kc' := 0) (ks' := 0) (st := []) [vi y8] dX10_token_138 ml_X10_191 rfl (Nat.le_of_ble_eq_true rfl) (Nat.le_of_ble_eq_true rfl) (z_post H (fun r G1 h13 q => ?_))
          obtain ⟨y14, rfl, rfl, H⟩ := q
          show zAt E (d + 1) 0 0 m_X10_token 141 [vo 89, vi y8, vi 0] [vi y14] g0 h13 (zPv Q)
          refine a_if_eq (pc := 141) (tgt := 214) dX10_token_141 (by decide) (fun c => ?_) (fun c => ?_)
          · have H := H.1 c
            refine a_iconst (pc := 214) dX10_token_214 (by decide) ?_
            refine a_istore_n (pc := 215) (ls' := [vo 89, vi y8, vi 1]) dX10_token_215 rfl rfl ?_
            refine a_aload_n (pc := 216) dX10_token_216 rfl ?_
            refine a_iload_n (pc := 217) dX10_token_217 rfl ?_
            refine a_bipush (pc := 218) dX10_token_218 (by decide) ?_
            have J : zAt E (d + 1) 0 0 m_X10_token 228 [vo 89, vi y8, vi 1] [vi (if y8 ≠ 59 then 3 else y8), vo 89] g0 h13 (zPv Q) := by
              refine a_putI (pc := 228) dX10_token_228 fl_X10_184 (go_89) ?_
              have H := H _ rfl
              generalize stI h13 89 6 (if y8 ≠ 59 then 3 else y8) = h16 at H ⊢
              refine a_aload_n (pc := 231) dX10_token_231 rfl ?_
              refine a_getI (pc := 232) dX10_token_232 fl_X10_184 (go_89) ?_
              refine a_iconst (pc := 235) dX10_token_235 (by decide) ?_
              refine a_icmp_eq (pc := 236) (tgt := 249) dX10_token_236 (by decide) (fun c => ?_) (fun c => ?_)
              · have H := H.1 c
                exact a_return (pc := 249) dX10_token_249 trivial ⟨rfl, rfl, H⟩
              · have H := H.2 c
                refine a_aload_n (pc := 239) dX10_token_239 rfl ?_
                refine a_dup (pc := 240) dX10_token_240 rfl ?_
                refine a_getI (pc := 241) dX10_token_241 fl_X10_164 (go_89) ?_
                refine a_iload_n (pc := 244) dX10_token_244 rfl ?_
                refine a_iadd (pc := 245) dX10_token_245 ?_
                refine a_putI (pc := 246) dX10_token_246 fl_X10_164 (go_89) ?_
                have H := H _ rfl
                generalize stI h16 89 4 (w32 ((hI h16 89 4) + 1)) = h17 at H ⊢
                exact a_return (pc := 249) dX10_token_249 trivial ⟨rfl, rfl, H⟩
            refine a_icmp_ne (pc := 220) (tgt := 227) dX10_token_220 (by decide) (fun c15 => ?_) (fun c15 => ?_)
            · skip
              refine a_iconst (pc := 227) dX10_token_227 (by decide) ?_
              exact (z_mergeT c15 J)
            · skip
              refine a_iload_n (pc := 223) dX10_token_223 rfl ?_
              refine a_goto (pc := 224) (tgt := 228) dX10_token_224 (by decide) ?_
              exact (z_mergeF (fun n => n c15) J)
          · have H := H.2 c
            exact z_forget (ls' := [vo 89, vn, vi 0]) ⟨.inr rfl, .inl rfl, .inr rfl, trivial⟩ H
        · have H := H.2 c
          exact z_forget (ls' := [vo 89, vn, vi 0]) ⟨.inr rfl, .inl rfl, .inr rfl, trivial⟩ H
      · have H := H.2 c
        refine a_aload_n (pc := 63) dX10_token_63 rfl ?_
        refine a_iconst (pc := 64) dX10_token_64 (by decide) ?_
        refine a_putI (pc := 65) dX10_token_65 fl_X10_184 (go_89) ?_
        have H := H _ rfl
        generalize stI h10 89 6 0 = h18 at H ⊢
        refine a_goto (pc := 68) (tgt := 231) dX10_token_68 (by decide) ?_
        refine a_aload_n (pc := 231) dX10_token_231 rfl ?_
        refine a_getI (pc := 232) dX10_token_232 fl_X10_184 (go_89) ?_
        refine a_iconst (pc := 235) dX10_token_235 (by decide) ?_
        refine a_icmp_eq (pc := 236) (tgt := 249) dX10_token_236 (by decide) (fun c => ?_) (fun c => ?_)
        · have H := H.1 c
          exact a_return (pc := 249) dX10_token_249 trivial ⟨rfl, rfl, H⟩
        · have H := H.2 c
          refine a_aload_n (pc := 239) dX10_token_239 rfl ?_
          refine a_dup (pc := 240) dX10_token_240 rfl ?_
          refine a_getI (pc := 241) dX10_token_241 fl_X10_164 (go_89) ?_
          refine a_iload_n (pc := 244) dX10_token_244 rfl ?_
          refine a_iadd (pc := 245) dX10_token_245 ?_
          refine a_putI (pc := 246) dX10_token_246 fl_X10_164 (go_89) ?_
          have H := H _ rfl
          generalize stI h18 89 4 (w32 ((hI h18 89 4) + 0)) = h19 at H ⊢
          exact a_return (pc := 249) dX10_token_249 trivial ⟨rfl, rfl, H⟩
    · have H := H.2 c
      refine a_aload_n (pc := 20) dX10_token_20 rfl ?_
      refine a_dup (pc := 21) dX10_token_21 rfl ?_
      refine a_getI (pc := 22) dX10_token_22 fl_X10_164 (go_89) ?_
      refine a_iconst (pc := 25) dX10_token_25 (by decide) ?_
      refine a_iadd (pc := 26) dX10_token_26 ?_
      refine a_putI (pc := 27) dX10_token_27 fl_X10_164 (go_89) ?_
      have H := H _ rfl
      generalize stI h4 89 4 (w32 ((hI h4 89 4) + 1)) = h20 at H ⊢
      refine a_goto (pc := 30) (tgt := 0) dX10_token_30 (by decide) ?_
      exact H
set_option maxRecDepth 20000 in
theorem r_X10_token_144 {E : zE} {d : Nat} {h : zS} {Q : zS → Prop} {x2 : Int}  (H : zCi E d m_X10_here [vo 89, vi x2] h (fun y2 h1 => zCi E d m_X10_isDigit [vi y2] h1 (fun y4 h3 => ((y4 = 0 → ((4 < x2 → (∀ h5, h5 = stI h3 89 6 3 → (((hI h5 89 6) = 3 → (Q h5)) ∧ ((hI h5 89 6) ≠ 3 → (∀ h6, h6 = stI h5 89 4 (w32 ((hI h5 89 4) + x2)) → Q h6))))) ∧ (x2 ≤ 4 → (zCi E d m_X10_here [vo 89, vi x2] h3 (fun y8 h7 => zCi E d m_X10_isLetter [vi y8] h7 (fun y10 h9 => (∀ h12, h12 = stI h9 89 6 (if y10 = 0 then 2 else 3) → (((hI h12 89 6) = 3 → (Q h12)) ∧ ((hI h12 89 6) ≠ 3 → (∀ h13, h13 = stI h12 89 4 (w32 ((hI h12 89 4) + x2)) → Q h13)))))))))) ∧ (y4 ≠ 0 → ((4 ≤ x2 → (zWv E (d + 1) m_X10_token 144 [vo 89, vn, vi (w32 (x2 + 1))] h3 Q)) ∧ (x2 < 4 → (zCi E d m_X10_here [vo 89, vi x2] h3 (fun y15 h14 => ∀ h16, h16 = stI h14 89 8 (w32 ((w32 ((w32 (10 * (hI h3 89 8))) + y15)) - 48)) → zWv E (d + 1) m_X10_token 144 [vo 89, vn, vi (w32 (x2 + 1))] h16 Q))))))))) : zWv E (d + 1) m_X10_token 144 [vo 89, vn, vi x2] h Q := by
  refine a_aload_n (pc := 144) dX10_token_144 rfl ?_
  refine a_iload_n (pc := 145) dX10_token_145 rfl ?_
  refine a_callV (pc := 146) (kc := 0) (ks := 0) (kc' := 0) (ks' := 0) (st := []) [vi x2] dX10_token_146 ml_X10_170 (go_89) rfl (Nat.le_of_ble_eq_true rfl) (Nat.le_of_ble_eq_true rfl) (z_post H (fun r G1 h1 q => ?_))
  obtain ⟨y2, rfl, rfl, H⟩ := q
  show zAt E (d + 1) 0 0 m_X10_token 149 [vo 89, vn, vi x2] [vi y2] g0 h1 (zPv Q)
  refine a_callS (pc := 149) (kc := 0) (ks := 0) (kc' := 0) (ks' := 0) (st := []) [vi y2] dX10_token_149 ml_X10_191 rfl (Nat.le_of_ble_eq_true rfl) (Nat.le_of_ble_eq_true rfl) (z_post H (fun r G1 h3 q => ?_))
  obtain ⟨y4, rfl, rfl, H⟩ := q
  show zAt E (d + 1) 0 0 m_X10_token 152 [vo 89, vn, vi x2] [vi y4] g0 h3 (zPv Q)
  refine a_if_eq (pc := 152) (tgt := 186) dX10_token_152 (by decide) (fun c => ?_) (fun c => ?_)
  · have H := H.1 c
    refine a_aload_n (pc := 186) dX10_token_186 rfl ?_
    refine a_iload_n (pc := 187) dX10_token_187 rfl ?_
    refine a_iconst (pc := 188) dX10_token_188 (by decide) ?_
    refine a_icmp_gt (pc := 189) (tgt := 203) dX10_token_189 (by decide) (fun c => ?_) (fun c => ?_)
    · have H := H.1 c
      refine a_iconst (pc := 203) dX10_token_203 (by decide) ?_
      refine a_goto (pc := 204) (tgt := 208) dX10_token_204 (by decide) ?_
      refine a_putI (pc := 208) dX10_token_208 fl_X10_184 (go_89) ?_
      have H := H _ rfl
      generalize stI h3 89 6 3 = h5 at H ⊢
      refine a_goto (pc := 211) (tgt := 231) dX10_token_211 (by decide) ?_
      refine a_aload_n (pc := 231) dX10_token_231 rfl ?_
      refine a_getI (pc := 232) dX10_token_232 fl_X10_184 (go_89) ?_
      refine a_iconst (pc := 235) dX10_token_235 (by decide) ?_
      refine a_icmp_eq (pc := 236) (tgt := 249) dX10_token_236 (by decide) (fun c => ?_) (fun c => ?_)
      · have H := H.1 c
        exact a_return (pc := 249) dX10_token_249 trivial ⟨rfl, rfl, H⟩
      · have H := H.2 c
        refine a_aload_n (pc := 239) dX10_token_239 rfl ?_
        refine a_dup (pc := 240) dX10_token_240 rfl ?_
        refine a_getI (pc := 241) dX10_token_241 fl_X10_164 (go_89) ?_
        refine a_iload_n (pc := 244) dX10_token_244 rfl ?_
        refine a_iadd (pc := 245) dX10_token_245 ?_
        refine a_putI (pc := 246) dX10_token_246 fl_X10_164 (go_89) ?_
        have H := H _ rfl
        generalize stI h5 89 4 (w32 ((hI h5 89 4) + x2)) = h6 at H ⊢
        exact a_return (pc := 249) dX10_token_249 trivial ⟨rfl, rfl, H⟩
    · have H := H.2 c
      refine a_aload_n (pc := 192) dX10_token_192 rfl ?_
      refine a_iload_n (pc := 193) dX10_token_193 rfl ?_
      refine a_callV (pc := 194) (kc := 0) (ks := 0) (kc' := 0) (ks' := 0) (st := [vo 89]) [vi x2] dX10_token_194 ml_X10_170 (go_89) rfl (Nat.le_of_ble_eq_true rfl) (Nat.le_of_ble_eq_true rfl) (z_post H (fun r G1 h7 q => ?_))
      obtain ⟨y8, rfl, rfl, H⟩ := q
      show zAt E (d + 1) 0 0 m_X10_token 197 [vo 89, vn, vi x2] [vi y8, vo 89] g0 h7 (zPv Q)
      refine a_callS (pc := 197) (kc := 0) (ks := 0) (kc' := 0) (ks' := 0) (st := [vo 89]) [vi y8] dX10_token_197 ml_X10_187 rfl (Nat.le_of_ble_eq_true rfl) (Nat.le_of_ble_eq_true rfl) (z_post H (fun r G1 h9 q => ?_))
      obtain ⟨y10, rfl, rfl, H⟩ := q
      show zAt E (d + 1) 0 0 m_X10_token 200 [vo 89, vn, vi x2] [vi y10, vo 89] g0 h9 (zPv Q)
      have J : zAt E (d + 1) 0 0 m_X10_token 208 [vo 89, vn, vi x2] [vi (if y10 = 0 then 2 else 3), vo 89] g0 h9 (zPv Q) := by
        refine a_putI (pc := 208) dX10_token_208 fl_X10_184 (go_89) ?_
        have H := H _ rfl
        generalize stI h9 89 6 (if y10 = 0 then 2 else 3) = h12 at H ⊢
        refine a_goto (pc := 211) (tgt := 231) dX10_token_211 (by decide) ?_
        refine a_aload_n (pc := 231) dX10_token_231 rfl ?_
        refine a_getI (pc := 232) dX10_token_232 fl_X10_184 (go_89) ?_
        refine a_iconst (pc := 235) dX10_token_235 (by decide) ?_
        refine a_icmp_eq (pc := 236) (tgt := 249) dX10_token_236 (by decide) (fun c => ?_) (fun c => ?_)
        · have H := H.1 c
          exact a_return (pc := 249) dX10_token_249 trivial ⟨rfl, rfl, H⟩
        · have H := H.2 c
          refine a_aload_n (pc := 239) dX10_token_239 rfl ?_
          refine a_dup (pc := 240) dX10_token_240 rfl ?_
          refine a_getI (pc := 241) dX10_token_241 fl_X10_164 (go_89) ?_
          refine a_iload_n (pc := 244) dX10_token_244 rfl ?_
          refine a_iadd (pc := 245) dX10_token_245 ?_
          refine a_putI (pc := 246) dX10_token_246 fl_X10_164 (go_89) ?_
          have H := H _ rfl
          generalize stI h12 89 4 (w32 ((hI h12 89 4) + x2)) = h13 at H ⊢
          exact a_return (pc := 249) dX10_token_249 trivial ⟨rfl, rfl, H⟩
      refine a_if_eq (pc := 200) (tgt := 207) dX10_token_200 (by decide) (fun c11 => ?_) (fun c11 => ?_)
      · skip
        refine a_iconst (pc := 207) dX10_token_207 (by decide) ?_
        exact (z_mergeT c11 J)
      · skip
        refine a_iconst (pc := 203) dX10_token_203 (by decide) ?_
        refine a_goto (pc := 204) (tgt := 208) dX10_token_204 (by decide) ?_
        exact (z_mergeF c11 J)
  · have H := H.2 c
    refine a_iload_n (pc := 155) dX10_token_155 rfl ?_
    refine a_iconst (pc := 156) dX10_token_156 (by decide) ?_
    refine a_icmp_ge (pc := 157) (tgt := 180) dX10_token_157 (by decide) (fun c => ?_) (fun c => ?_)
    · have H := H.1 c
      refine a_iinc (pc := 180) (ls' := [vo 89, vn, vi (w32 (x2 + 1))]) dX10_token_180 rfl rfl rfl ?_
      refine a_goto (pc := 183) (tgt := 144) dX10_token_183 (by decide) ?_
      exact H
    · have H := H.2 c
      refine a_aload_n (pc := 160) dX10_token_160 rfl ?_
      refine a_bipush (pc := 161) dX10_token_161 (by decide) ?_
      refine a_aload_n (pc := 163) dX10_token_163 rfl ?_
      refine a_getI (pc := 164) dX10_token_164 fl_X10_181 (go_89) ?_
      refine a_imul (pc := 167) dX10_token_167 ?_
      refine a_aload_n (pc := 168) dX10_token_168 rfl ?_
      refine a_iload_n (pc := 169) dX10_token_169 rfl ?_
      refine a_callV (pc := 170) (kc := 0) (ks := 0) (kc' := 0) (ks' := 0) (st := [vi (w32 (10 * (hI h3 89 8))), vo 89]) [vi x2] dX10_token_170 ml_X10_170 (go_89) rfl (Nat.le_of_ble_eq_true rfl) (Nat.le_of_ble_eq_true rfl) (z_post H (fun r G1 h14 q => ?_))
      obtain ⟨y15, rfl, rfl, H⟩ := q
      show zAt E (d + 1) 0 0 m_X10_token 173 [vo 89, vn, vi x2] [vi y15, vi (w32 (10 * (hI h3 89 8))), vo 89] g0 h14 (zPv Q)
      refine a_iadd (pc := 173) dX10_token_173 ?_
      refine a_bipush (pc := 174) dX10_token_174 (by decide) ?_
      refine a_isub (pc := 176) dX10_token_176 ?_
      refine a_putI (pc := 177) dX10_token_177 fl_X10_181 (go_89) ?_
      have H := H _ rfl
      generalize stI h14 89 8 (w32 ((w32 ((w32 (10 * (hI h3 89 8))) + y15)) - 48)) = h16 at H ⊢
      refine a_iinc (pc := 180) (ls' := [vo 89, vn, vi (w32 (x2 + 1))]) dX10_token_180 rfl rfl rfl ?_
      refine a_goto (pc := 183) (tgt := 144) dX10_token_183 (by decide) ?_
      exact H
set_option maxRecDepth 20000 in
theorem r_X10_token_78 {E : zE} {d : Nat} {h : zS} {Q : zS → Prop} {x2 : Int}  (H : zCi E d m_X10_here [vo 89, vi x2] h (fun y2 h1 => zCi E d m_X10_isLetter [vi y2] h1 (fun y4 h3 => ((y4 = 0 → (∀ h6, h6 = stI h3 89 6 (if x2 ≤ 8 then 1 else 3) → (((hI h6 89 6) = 3 → (Q h6)) ∧ ((hI h6 89 6) ≠ 3 → (∀ h7, h7 = stI h6 89 4 (w32 ((hI h6 89 4) + x2)) → Q h7))))) ∧ (y4 ≠ 0 → ((8 ≤ x2 → (zWv E (d + 1) m_X10_token 78 [vo 89, vn, vi (w32 (x2 + 1))] h3 Q)) ∧ (x2 < 8 → (zCi E d m_X10_here [vo 89, vi x2] h3 (fun y9 h8 => ∀ h10, h10 = stL h8 89 9 (z_lor (z_lshl (hL h3 89 9) 8) y9) → zWv E (d + 1) m_X10_token 78 [vo 89, vn, vi (w32 (x2 + 1))] h10 Q))))))))) : zWv E (d + 1) m_X10_token 78 [vo 89, vn, vi x2] h Q := by
  refine a_aload_n (pc := 78) dX10_token_78 rfl ?_
  refine a_iload_n (pc := 79) dX10_token_79 rfl ?_
  refine a_callV (pc := 80) (kc := 0) (ks := 0) (kc' := 0) (ks' := 0) (st := []) [vi x2] dX10_token_80 ml_X10_170 (go_89) rfl (Nat.le_of_ble_eq_true rfl) (Nat.le_of_ble_eq_true rfl) (z_post H (fun r G1 h1 q => ?_))
  obtain ⟨y2, rfl, rfl, H⟩ := q
  show zAt E (d + 1) 0 0 m_X10_token 83 [vo 89, vn, vi x2] [vi y2] g0 h1 (zPv Q)
  refine a_callS (pc := 83) (kc := 0) (ks := 0) (kc' := 0) (ks' := 0) (st := []) [vi y2] dX10_token_83 ml_X10_187 rfl (Nat.le_of_ble_eq_true rfl) (Nat.le_of_ble_eq_true rfl) (z_post H (fun r G1 h3 q => ?_))
  obtain ⟨y4, rfl, rfl, H⟩ := q
  show zAt E (d + 1) 0 0 m_X10_token 86 [vo 89, vn, vi x2] [vi y4] g0 h3 (zPv Q)
  refine a_if_eq (pc := 86) (tgt := 119) dX10_token_86 (by decide) (fun c => ?_) (fun c => ?_)
  · have H := H.1 c
    refine a_aload_n (pc := 119) dX10_token_119 rfl ?_
    refine a_iload_n (pc := 120) dX10_token_120 rfl ?_
    refine a_bipush (pc := 121) dX10_token_121 (by decide) ?_
    have J : zAt E (d + 1) 0 0 m_X10_token 131 [vo 89, vn, vi x2] [vi (if x2 ≤ 8 then 1 else 3), vo 89] g0 h3 (zPv Q) := by
      refine a_putI (pc := 131) dX10_token_131 fl_X10_184 (go_89) ?_
      have H := H _ rfl
      generalize stI h3 89 6 (if x2 ≤ 8 then 1 else 3) = h6 at H ⊢
      refine a_goto (pc := 134) (tgt := 231) dX10_token_134 (by decide) ?_
      refine a_aload_n (pc := 231) dX10_token_231 rfl ?_
      refine a_getI (pc := 232) dX10_token_232 fl_X10_184 (go_89) ?_
      refine a_iconst (pc := 235) dX10_token_235 (by decide) ?_
      refine a_icmp_eq (pc := 236) (tgt := 249) dX10_token_236 (by decide) (fun c => ?_) (fun c => ?_)
      · have H := H.1 c
        exact a_return (pc := 249) dX10_token_249 trivial ⟨rfl, rfl, H⟩
      · have H := H.2 c
        refine a_aload_n (pc := 239) dX10_token_239 rfl ?_
        refine a_dup (pc := 240) dX10_token_240 rfl ?_
        refine a_getI (pc := 241) dX10_token_241 fl_X10_164 (go_89) ?_
        refine a_iload_n (pc := 244) dX10_token_244 rfl ?_
        refine a_iadd (pc := 245) dX10_token_245 ?_
        refine a_putI (pc := 246) dX10_token_246 fl_X10_164 (go_89) ?_
        have H := H _ rfl
        generalize stI h6 89 4 (w32 ((hI h6 89 4) + x2)) = h7 at H ⊢
        exact a_return (pc := 249) dX10_token_249 trivial ⟨rfl, rfl, H⟩
    refine a_icmp_le (pc := 123) (tgt := 130) dX10_token_123 (by decide) (fun c5 => ?_) (fun c5 => ?_)
    · skip
      refine a_iconst (pc := 130) dX10_token_130 (by decide) ?_
      exact (z_mergeT c5 J)
    · skip
      refine a_iconst (pc := 126) dX10_token_126 (by decide) ?_
      refine a_goto (pc := 127) (tgt := 131) dX10_token_127 (by decide) ?_
      exact (z_mergeF (Int.not_le.mpr c5) J)
  · have H := H.2 c
    refine a_iload_n (pc := 89) dX10_token_89 rfl ?_
    refine a_bipush (pc := 90) dX10_token_90 (by decide) ?_
    refine a_icmp_ge (pc := 92) (tgt := 113) dX10_token_92 (by decide) (fun c => ?_) (fun c => ?_)
    · have H := H.1 c
      refine a_iinc (pc := 113) (ls' := [vo 89, vn, vi (w32 (x2 + 1))]) dX10_token_113 rfl rfl rfl ?_
      refine a_goto (pc := 116) (tgt := 78) dX10_token_116 (by decide) ?_
      exact H
    · have H := H.2 c
      refine a_aload_n (pc := 95) dX10_token_95 rfl ?_
      refine a_aload_n (pc := 96) dX10_token_96 rfl ?_
      refine a_getL (pc := 97) dX10_token_97 fl_X10_177 (go_89) ?_
      refine a_bipush (pc := 100) dX10_token_100 (by decide) ?_
      refine a_lshl (pc := 102) dX10_token_102 ?_
      refine a_aload_n (pc := 103) dX10_token_103 rfl ?_
      refine a_iload_n (pc := 104) dX10_token_104 rfl ?_
      refine a_callV (pc := 105) (kc := 0) (ks := 0) (kc' := 0) (ks' := 0) (st := [vl (z_lshl (hL h3 89 9) 8), vo 89]) [vi x2] dX10_token_105 ml_X10_170 (go_89) rfl (Nat.le_of_ble_eq_true rfl) (Nat.le_of_ble_eq_true rfl) (z_post H (fun r G1 h8 q => ?_))
      obtain ⟨y9, rfl, rfl, H⟩ := q
      show zAt E (d + 1) 0 0 m_X10_token 108 [vo 89, vn, vi x2] [vi y9, vl (z_lshl (hL h3 89 9) 8), vo 89] g0 h8 (zPv Q)
      refine a_i2l (pc := 108) dX10_token_108 ?_
      refine a_lor (pc := 109) dX10_token_109 ?_
      refine a_putL (pc := 110) dX10_token_110 fl_X10_177 (go_89) ?_
      have H := H _ rfl
      generalize stL h8 89 9 (z_lor (z_lshl (hL h3 89 9) 8) y9) = h10 at H ⊢
      refine a_iinc (pc := 113) (ls' := [vo 89, vn, vi (w32 (x2 + 1))]) dX10_token_113 rfl rfl rfl ?_
      refine a_goto (pc := 116) (tgt := 78) dX10_token_116 (by decide) ?_
      exact H
set_option maxRecDepth 20000 in
theorem v_X10_wrong {E : zE} {d : Nat} {h : zS} {Q : zS → Prop} {x1 : Int}  (H : (((hI h 89 2) ≤ 0 → (∀ h2, h2 = stI h 89 2 (if (hI h 89 6) ≠ 3 then x1 else 1) → ∀ h3, h3 = stI h2 89 3 (hI h2 89 7) → Q h3)) ∧ (0 < (hI h 89 2) → (Q h)))) : zCv E d m_X10_wrong [vo 89, vi x1] h Q := by
  show zAt E d 0 0 m_X10_wrong 0 [vo 89, vi x1] [] g0 h (zPv Q)
  refine a_aload_n (pc := 0) dX10_wrong_0 rfl ?_
  refine a_getI (pc := 1) dX10_wrong_1 fl_X10_194 (go_89) ?_
  refine a_if_le (pc := 4) (tgt := 8) dX10_wrong_4 (by decide) (fun c => ?_) (fun c => ?_)
  · have H := H.1 c
    refine a_aload_n (pc := 8) dX10_wrong_8 rfl ?_
    refine a_aload_n (pc := 9) dX10_wrong_9 rfl ?_
    refine a_getI (pc := 10) dX10_wrong_10 fl_X10_184 (go_89) ?_
    refine a_iconst (pc := 13) dX10_wrong_13 (by decide) ?_
    have J : zAt E d 0 0 m_X10_wrong 22 [vo 89, vi x1] [vi (if (hI h 89 6) ≠ 3 then x1 else 1), vo 89] g0 h (zPv Q) := by
      refine a_putI (pc := 22) dX10_wrong_22 fl_X10_194 (go_89) ?_
      have H := H _ rfl
      generalize stI h 89 2 (if (hI h 89 6) ≠ 3 then x1 else 1) = h2 at H ⊢
      refine a_aload_n (pc := 25) dX10_wrong_25 rfl ?_
      refine a_aload_n (pc := 26) dX10_wrong_26 rfl ?_
      refine a_getI (pc := 27) dX10_wrong_27 fl_X10_174 (go_89) ?_
      refine a_putI (pc := 30) dX10_wrong_30 fl_X10_13 (go_89) ?_
      have H := H _ rfl
      generalize stI h2 89 3 (hI h2 89 7) = h3 at H ⊢
      exact a_return (pc := 33) dX10_wrong_33 trivial ⟨rfl, rfl, H⟩
    refine a_icmp_ne (pc := 14) (tgt := 21) dX10_wrong_14 (by decide) (fun c1 => ?_) (fun c1 => ?_)
    · skip
      refine a_iload_n (pc := 21) dX10_wrong_21 rfl ?_
      exact (z_mergeT c1 J)
    · skip
      refine a_iconst (pc := 17) dX10_wrong_17 (by decide) ?_
      refine a_goto (pc := 18) (tgt := 22) dX10_wrong_18 (by decide) ?_
      exact (z_mergeF (fun n => n c1) J)
  · have H := H.2 c
    exact a_return (pc := 7) dX10_wrong_7 trivial ⟨rfl, rfl, H⟩
set_option maxRecDepth 20000 in
theorem v_X10_isWord {E : zE} {d : Nat} {h : zS} {Q : Int → zS → Prop} {x1 : Int}  (H : (((hI h 89 6) ≠ 1 → (Q 0 h)) ∧ ((hI h 89 6) = 1 → (((z_lcmp (hL h 89 9) x1) ≠ 0 → (Q 0 h)) ∧ ((z_lcmp (hL h 89 9) x1) = 0 → (Q 1 h)))))) : zCi E d m_X10_isWord [vo 89, vl x1] h Q := by
  show zAt E d 0 0 m_X10_isWord 0 [vo 89, vl x1, vn] [] g0 h (zPi Q)
  refine a_aload_n (pc := 0) dX10_isWord_0 rfl ?_
  refine a_getI (pc := 1) dX10_isWord_1 fl_X10_184 (go_89) ?_
  refine a_iconst (pc := 4) dX10_isWord_4 (by decide) ?_
  refine a_icmp_ne (pc := 5) (tgt := 21) dX10_isWord_5 (by decide) (fun c => ?_) (fun c => ?_)
  · have H := H.1 c
    refine a_iconst (pc := 21) dX10_isWord_21 (by decide) ?_
    exact a_ireturn (pc := 22) dX10_isWord_22 (.inl rfl) ⟨_, rfl, rfl, H⟩
  · have H := H.2 c
    refine a_aload_n (pc := 8) dX10_isWord_8 rfl ?_
    refine a_getL (pc := 9) dX10_isWord_9 fl_X10_177 (go_89) ?_
    refine a_lload_n (pc := 12) dX10_isWord_12 rfl ?_
    refine a_lcmp (pc := 13) dX10_isWord_13 ?_
    refine a_if_ne (pc := 14) (tgt := 21) dX10_isWord_14 (by decide) (fun c => ?_) (fun c => ?_)
    · have H := H.1 c
      refine a_iconst (pc := 21) dX10_isWord_21 (by decide) ?_
      exact a_ireturn (pc := 22) dX10_isWord_22 (.inl rfl) ⟨_, rfl, rfl, H⟩
    · have H := H.2 c
      refine a_iconst (pc := 17) dX10_isWord_17 (by decide) ?_
      refine a_goto (pc := 18) (tgt := 22) dX10_isWord_18 (by decide) ?_
      exact a_ireturn (pc := 22) dX10_isWord_22 (.inr rfl) ⟨_, rfl, rfl, H⟩
set_option maxRecDepth 20000 in
theorem v_X10_isName {E : zE} {d : Nat} {h : zS} {Q : Int → zS → Prop}   (H : (((hI h 89 6) = 1 → (∀ y8 : Int, y8 = (if (z_lcmp (hL h 89 9) 7302757) = 0 then 1 else (if (z_lcmp (hL h 89 9) 422725643876) = 0 then 1 else (if (z_lcmp (hL h 89 9) 108230850603124) = 0 then 1 else (if (z_lcmp (hL h 89 9) 6451064) = 0 then 1 else (if (z_lcmp (hL h 89 9) 1936486263) = 0 then 1 else (if (z_lcmp (hL h 89 9) 448545973363) = 0 then 1 else (if (z_lcmp (hL h 89 9) 1919513451) ≠ 0 then 0 else 1))))))) → (∀ y15 : Int, y15 = (if (z_lcmp (hL h 89 9) 461262647411) = 0 then 1 else (if (z_lcmp (hL h 89 9) 444150998387) = 0 then 1 else (if (z_lcmp (hL h 89 9) 499850634611) = 0 then 1 else (if (z_lcmp (hL h 89 9) 1718775661) = 0 then 1 else (if (z_lcmp (hL h 89 9) 29807) = 0 then 1 else (if (z_lcmp (hL h 89 9) 1819632491) ≠ 0 then 0 else 1)))))) → ((y8 ≠ 0 → (Q 0 h)) ∧ (y8 = 0 → ((y15 ≠ 0 → (Q 0 h)) ∧ (y15 = 0 → (Q 1 h)))))))) ∧ ((hI h 89 6) ≠ 1 → (Q 0 h)))) : zCi E d m_X10_isName [vo 89] h Q := by
  show zAt E d 0 0 m_X10_isName 0 [vo 89, vn, vn] [] g0 h (zPi Q)
  refine a_aload_n (pc := 0) dX10_isName_0 rfl ?_
  refine a_getI (pc := 1) dX10_isName_1 fl_X10_184 (go_89) ?_
  refine a_iconst (pc := 4) dX10_isName_4 (by decide) ?_
  refine a_icmp_eq (pc := 5) (tgt := 10) dX10_isName_5 (by decide) (fun c => ?_) (fun c => ?_)
  · have H := H.1 c
    refine a_aload_n (pc := 10) dX10_isName_10 rfl ?_
    refine a_getL (pc := 11) dX10_isName_11 fl_X10_177 (go_89) ?_
    refine a_ldc2 (pc := 14) dX10_isName_14 cl_X10_197 (by decide) ?_
    refine a_lcmp (pc := 17) dX10_isName_17 ?_
    have J : zAt E d 0 0 m_X10_isName 92 [vo 89, vn, vn] [vi (if (z_lcmp (hL h 89 9) 7302757) = 0 then 1 else (if (z_lcmp (hL h 89 9) 422725643876) = 0 then 1 else (if (z_lcmp (hL h 89 9) 108230850603124) = 0 then 1 else (if (z_lcmp (hL h 89 9) 6451064) = 0 then 1 else (if (z_lcmp (hL h 89 9) 1936486263) = 0 then 1 else (if (z_lcmp (hL h 89 9) 448545973363) = 0 then 1 else (if (z_lcmp (hL h 89 9) 1919513451) ≠ 0 then 0 else 1)))))))] g0 h (zPi Q) := by
      have H := H _ rfl
      generalize ((if (z_lcmp (hL h 89 9) 7302757) = 0 then 1 else (if (z_lcmp (hL h 89 9) 422725643876) = 0 then 1 else (if (z_lcmp (hL h 89 9) 108230850603124) = 0 then 1 else (if (z_lcmp (hL h 89 9) 6451064) = 0 then 1 else (if (z_lcmp (hL h 89 9) 1936486263) = 0 then 1 else (if (z_lcmp (hL h 89 9) 448545973363) = 0 then 1 else (if (z_lcmp (hL h 89 9) 1919513451) ≠ 0 then 0 else 1))))))) : Int) = y8 at H ⊢
      refine a_istore_n (pc := 92) (ls' := [vo 89, vi y8, vn]) dX10_isName_92 rfl rfl ?_
      refine a_aload_n (pc := 93) dX10_isName_93 rfl ?_
      refine a_getL (pc := 94) dX10_isName_94 fl_X10_177 (go_89) ?_
      refine a_ldc2 (pc := 97) dX10_isName_97 cl_X10_211 (by decide) ?_
      refine a_lcmp (pc := 100) dX10_isName_100 ?_
      have J : zAt E d 0 0 m_X10_isName 164 [vo 89, vi y8, vn] [vi (if (z_lcmp (hL h 89 9) 461262647411) = 0 then 1 else (if (z_lcmp (hL h 89 9) 444150998387) = 0 then 1 else (if (z_lcmp (hL h 89 9) 499850634611) = 0 then 1 else (if (z_lcmp (hL h 89 9) 1718775661) = 0 then 1 else (if (z_lcmp (hL h 89 9) 29807) = 0 then 1 else (if (z_lcmp (hL h 89 9) 1819632491) ≠ 0 then 0 else 1))))))] g0 h (zPi Q) := by
        have H := H _ rfl
        generalize ((if (z_lcmp (hL h 89 9) 461262647411) = 0 then 1 else (if (z_lcmp (hL h 89 9) 444150998387) = 0 then 1 else (if (z_lcmp (hL h 89 9) 499850634611) = 0 then 1 else (if (z_lcmp (hL h 89 9) 1718775661) = 0 then 1 else (if (z_lcmp (hL h 89 9) 29807) = 0 then 1 else (if (z_lcmp (hL h 89 9) 1819632491) ≠ 0 then 0 else 1)))))) : Int) = y15 at H ⊢
        refine a_istore_n (pc := 164) (ls' := [vo 89, vi y8, vi y15]) dX10_isName_164 rfl rfl ?_
        refine a_iload_n (pc := 165) dX10_isName_165 rfl ?_
        refine a_if_ne (pc := 166) (tgt := 177) dX10_isName_166 (by decide) (fun c => ?_) (fun c => ?_)
        · have H := H.1 c
          refine a_iconst (pc := 177) dX10_isName_177 (by decide) ?_
          exact a_ireturn (pc := 178) dX10_isName_178 (.inl rfl) ⟨_, rfl, rfl, H⟩
        · have H := H.2 c
          refine a_iload_n (pc := 169) dX10_isName_169 rfl ?_
          refine a_if_ne (pc := 170) (tgt := 177) dX10_isName_170 (by decide) (fun c => ?_) (fun c => ?_)
          · have H := H.1 c
            refine a_iconst (pc := 177) dX10_isName_177 (by decide) ?_
            exact a_ireturn (pc := 178) dX10_isName_178 (.inl rfl) ⟨_, rfl, rfl, H⟩
          · have H := H.2 c
            refine a_iconst (pc := 173) dX10_isName_173 (by decide) ?_
            refine a_goto (pc := 174) (tgt := 178) dX10_isName_174 (by decide) ?_
            exact a_ireturn (pc := 178) dX10_isName_178 (.inr rfl) ⟨_, rfl, rfl, H⟩
      refine a_if_eq (pc := 101) (tgt := 159) dX10_isName_101 (by decide) (fun c9 => ?_) (fun c9 => ?_)
      · skip
        refine a_iconst (pc := 159) dX10_isName_159 (by decide) ?_
        refine a_goto (pc := 160) (tgt := 164) dX10_isName_160 (by decide) ?_
        exact (z_mergeT c9 J)
      · skip
        refine a_aload_n (pc := 104) dX10_isName_104 rfl ?_
        refine a_getL (pc := 105) dX10_isName_105 fl_X10_177 (go_89) ?_
        refine a_ldc2 (pc := 108) dX10_isName_108 cl_X10_213 (by decide) ?_
        refine a_lcmp (pc := 111) dX10_isName_111 ?_
        refine a_if_eq (pc := 112) (tgt := 159) dX10_isName_112 (by decide) (fun c10 => ?_) (fun c10 => ?_)
        · skip
          refine a_iconst (pc := 159) dX10_isName_159 (by decide) ?_
          refine a_goto (pc := 160) (tgt := 164) dX10_isName_160 (by decide) ?_
          exact (z_mergeT c10 (z_mergeF c9 J))
        · skip
          refine a_aload_n (pc := 115) dX10_isName_115 rfl ?_
          refine a_getL (pc := 116) dX10_isName_116 fl_X10_177 (go_89) ?_
          refine a_ldc2 (pc := 119) dX10_isName_119 cl_X10_215 (by decide) ?_
          refine a_lcmp (pc := 122) dX10_isName_122 ?_
          refine a_if_eq (pc := 123) (tgt := 159) dX10_isName_123 (by decide) (fun c11 => ?_) (fun c11 => ?_)
          · skip
            refine a_iconst (pc := 159) dX10_isName_159 (by decide) ?_
            refine a_goto (pc := 160) (tgt := 164) dX10_isName_160 (by decide) ?_
            exact (z_mergeT c11 (z_mergeF c10 (z_mergeF c9 J)))
          · skip
            refine a_aload_n (pc := 126) dX10_isName_126 rfl ?_
            refine a_getL (pc := 127) dX10_isName_127 fl_X10_177 (go_89) ?_
            refine a_ldc2 (pc := 130) dX10_isName_130 cl_X10_217 (by decide) ?_
            refine a_lcmp (pc := 133) dX10_isName_133 ?_
            refine a_if_eq (pc := 134) (tgt := 159) dX10_isName_134 (by decide) (fun c12 => ?_) (fun c12 => ?_)
            · skip
              refine a_iconst (pc := 159) dX10_isName_159 (by decide) ?_
              refine a_goto (pc := 160) (tgt := 164) dX10_isName_160 (by decide) ?_
              exact (z_mergeT c12 (z_mergeF c11 (z_mergeF c10 (z_mergeF c9 J))))
            · skip
              refine a_aload_n (pc := 137) dX10_isName_137 rfl ?_
              refine a_getL (pc := 138) dX10_isName_138 fl_X10_177 (go_89) ?_
              refine a_ldc2 (pc := 141) dX10_isName_141 cl_X10_219 (by decide) ?_
              refine a_lcmp (pc := 144) dX10_isName_144 ?_
              refine a_if_eq (pc := 145) (tgt := 159) dX10_isName_145 (by decide) (fun c13 => ?_) (fun c13 => ?_)
              · skip
                refine a_iconst (pc := 159) dX10_isName_159 (by decide) ?_
                refine a_goto (pc := 160) (tgt := 164) dX10_isName_160 (by decide) ?_
                exact (z_mergeT c13 (z_mergeF c12 (z_mergeF c11 (z_mergeF c10 (z_mergeF c9 J)))))
              · skip
                refine a_aload_n (pc := 148) dX10_isName_148 rfl ?_
                refine a_getL (pc := 149) dX10_isName_149 fl_X10_177 (go_89) ?_
                refine a_ldc2 (pc := 152) dX10_isName_152 cl_X10_221 (by decide) ?_
                refine a_lcmp (pc := 155) dX10_isName_155 ?_
                refine a_if_ne (pc := 156) (tgt := 163) dX10_isName_156 (by decide) (fun c14 => ?_) (fun c14 => ?_)
                · skip
                  refine a_iconst (pc := 163) dX10_isName_163 (by decide) ?_
                  exact (z_mergeT c14 (z_mergeF c13 (z_mergeF c12 (z_mergeF c11 (z_mergeF c10 (z_mergeF c9 J))))))
                · skip
                  refine a_iconst (pc := 159) dX10_isName_159 (by decide) ?_
                  refine a_goto (pc := 160) (tgt := 164) dX10_isName_160 (by decide) ?_
                  exact (z_mergeF (fun n => n c14) (z_mergeF c13 (z_mergeF c12 (z_mergeF c11 (z_mergeF c10 (z_mergeF c9 J))))))
    refine a_if_eq (pc := 18) (tgt := 87) dX10_isName_18 (by decide) (fun c1 => ?_) (fun c1 => ?_)
    · skip
      refine a_iconst (pc := 87) dX10_isName_87 (by decide) ?_
      refine a_goto (pc := 88) (tgt := 92) dX10_isName_88 (by decide) ?_
      exact (z_mergeT c1 J)
    · skip
      refine a_aload_n (pc := 21) dX10_isName_21 rfl ?_
      refine a_getL (pc := 22) dX10_isName_22 fl_X10_177 (go_89) ?_
      refine a_ldc2 (pc := 25) dX10_isName_25 cl_X10_199 (by decide) ?_
      refine a_lcmp (pc := 28) dX10_isName_28 ?_
      refine a_if_eq (pc := 29) (tgt := 87) dX10_isName_29 (by decide) (fun c2 => ?_) (fun c2 => ?_)
      · skip
        refine a_iconst (pc := 87) dX10_isName_87 (by decide) ?_
        refine a_goto (pc := 88) (tgt := 92) dX10_isName_88 (by decide) ?_
        exact (z_mergeT c2 (z_mergeF c1 J))
      · skip
        refine a_aload_n (pc := 32) dX10_isName_32 rfl ?_
        refine a_getL (pc := 33) dX10_isName_33 fl_X10_177 (go_89) ?_
        refine a_ldc2 (pc := 36) dX10_isName_36 cl_X10_201 (by decide) ?_
        refine a_lcmp (pc := 39) dX10_isName_39 ?_
        refine a_if_eq (pc := 40) (tgt := 87) dX10_isName_40 (by decide) (fun c3 => ?_) (fun c3 => ?_)
        · skip
          refine a_iconst (pc := 87) dX10_isName_87 (by decide) ?_
          refine a_goto (pc := 88) (tgt := 92) dX10_isName_88 (by decide) ?_
          exact (z_mergeT c3 (z_mergeF c2 (z_mergeF c1 J)))
        · skip
          refine a_aload_n (pc := 43) dX10_isName_43 rfl ?_
          refine a_getL (pc := 44) dX10_isName_44 fl_X10_177 (go_89) ?_
          refine a_ldc2 (pc := 47) dX10_isName_47 cl_X10_203 (by decide) ?_
          refine a_lcmp (pc := 50) dX10_isName_50 ?_
          refine a_if_eq (pc := 51) (tgt := 87) dX10_isName_51 (by decide) (fun c4 => ?_) (fun c4 => ?_)
          · skip
            refine a_iconst (pc := 87) dX10_isName_87 (by decide) ?_
            refine a_goto (pc := 88) (tgt := 92) dX10_isName_88 (by decide) ?_
            exact (z_mergeT c4 (z_mergeF c3 (z_mergeF c2 (z_mergeF c1 J))))
          · skip
            refine a_aload_n (pc := 54) dX10_isName_54 rfl ?_
            refine a_getL (pc := 55) dX10_isName_55 fl_X10_177 (go_89) ?_
            refine a_ldc2 (pc := 58) dX10_isName_58 cl_X10_205 (by decide) ?_
            refine a_lcmp (pc := 61) dX10_isName_61 ?_
            refine a_if_eq (pc := 62) (tgt := 87) dX10_isName_62 (by decide) (fun c5 => ?_) (fun c5 => ?_)
            · skip
              refine a_iconst (pc := 87) dX10_isName_87 (by decide) ?_
              refine a_goto (pc := 88) (tgt := 92) dX10_isName_88 (by decide) ?_
              exact (z_mergeT c5 (z_mergeF c4 (z_mergeF c3 (z_mergeF c2 (z_mergeF c1 J)))))
            · skip
              refine a_aload_n (pc := 65) dX10_isName_65 rfl ?_
              refine a_getL (pc := 66) dX10_isName_66 fl_X10_177 (go_89) ?_
              refine a_ldc2 (pc := 69) dX10_isName_69 cl_X10_207 (by decide) ?_
              refine a_lcmp (pc := 72) dX10_isName_72 ?_
              refine a_if_eq (pc := 73) (tgt := 87) dX10_isName_73 (by decide) (fun c6 => ?_) (fun c6 => ?_)
              · skip
                refine a_iconst (pc := 87) dX10_isName_87 (by decide) ?_
                refine a_goto (pc := 88) (tgt := 92) dX10_isName_88 (by decide) ?_
                exact (z_mergeT c6 (z_mergeF c5 (z_mergeF c4 (z_mergeF c3 (z_mergeF c2 (z_mergeF c1 J))))))
              · skip
                refine a_aload_n (pc := 76) dX10_isName_76 rfl ?_
                refine a_getL (pc := 77) dX10_isName_77 fl_X10_177 (go_89) ?_
                refine a_ldc2 (pc := 80) dX10_isName_80 cl_X10_209 (by decide) ?_
                refine a_lcmp (pc := 83) dX10_isName_83 ?_
                refine a_if_ne (pc := 84) (tgt := 91) dX10_isName_84 (by decide) (fun c7 => ?_) (fun c7 => ?_)
                · skip
                  refine a_iconst (pc := 91) dX10_isName_91 (by decide) ?_
                  exact (z_mergeT c7 (z_mergeF c6 (z_mergeF c5 (z_mergeF c4 (z_mergeF c3 (z_mergeF c2 (z_mergeF c1 J)))))))
                · skip
                  refine a_iconst (pc := 87) dX10_isName_87 (by decide) ?_
                  refine a_goto (pc := 88) (tgt := 92) dX10_isName_88 (by decide) ?_
                  exact (z_mergeF (fun n => n c7) (z_mergeF c6 (z_mergeF c5 (z_mergeF c4 (z_mergeF c3 (z_mergeF c2 (z_mergeF c1 J)))))))
  · have H := H.2 c
    refine a_iconst (pc := 8) dX10_isName_8 (by decide) ?_
    exact a_ireturn (pc := 9) dX10_isName_9 (.inl rfl) ⟨_, rfl, rfl, H⟩
set_option maxRecDepth 20000 in
theorem v_X10_want {E : zE} {d : Nat} {h : zS} {Q : zS → Prop} {x1 : Int}  (H : (((hI h 89 2) ≤ 0 → (zCi E d m_X10_isWord [vo 89, vl x1] h (fun y2 h1 => ((y2 ≠ 0 → (zCv E d m_X10_token [vo 89] h1 (fun h3 => Q h3))) ∧ (y2 = 0 → (zCv E d m_X10_wrong [vo 89, vi 2] h1 (fun h4 => Q h4))))))) ∧ (0 < (hI h 89 2) → (Q h)))) : zCv E (d + 1) m_X10_want [vo 89, vl x1] h Q := by
  show zAt E (d + 1) 0 0 m_X10_want 0 [vo 89, vl x1, vn] [] g0 h (zPv Q)
  refine a_aload_n (pc := 0) dX10_want_0 rfl ?_
  refine a_getI (pc := 1) dX10_want_1 fl_X10_194 (go_89) ?_
  refine a_if_le (pc := 4) (tgt := 8) dX10_want_4 (by decide) (fun c => ?_) (fun c => ?_)
  · have H := H.1 c
    refine a_aload_n (pc := 8) dX10_want_8 rfl ?_
    refine a_lload_n (pc := 9) dX10_want_9 rfl ?_
    refine a_callV (pc := 10) (kc := 0) (ks := 0) (kc' := 0) (ks' := 0) (st := []) [vl x1] dX10_want_10 ml_X10_223 (go_89) rfl (Nat.le_of_ble_eq_true rfl) (Nat.le_of_ble_eq_true rfl) (z_post H (fun r G1 h1 q => ?_))
    obtain ⟨y2, rfl, rfl, H⟩ := q
    show zAt E (d + 1) 0 0 m_X10_want 13 [vo 89, vl x1, vn] [vi y2] g0 h1 (zPv Q)
    refine a_if_ne (pc := 13) (tgt := 24) dX10_want_13 (by decide) (fun c => ?_) (fun c => ?_)
    · have H := H.1 c
      refine a_aload_n (pc := 24) dX10_want_24 rfl ?_
      refine a_callV (pc := 25) (kc := 0) (ks := 0) (kc' := 0) (ks' := 0) (st := []) [] dX10_want_25 ml_X10_230 (go_89) rfl (Nat.le_of_ble_eq_true rfl) (Nat.le_of_ble_eq_true rfl) (z_post H (fun r G1 h3 q => ?_))
      obtain ⟨rfl, rfl, H⟩ := q
      show zAt E (d + 1) 0 0 m_X10_want 28 [vo 89, vl x1, vn] [] g0 h3 (zPv Q)
      exact a_return (pc := 28) dX10_want_28 trivial ⟨rfl, rfl, H⟩
    · have H := H.2 c
      refine a_aload_n (pc := 16) dX10_want_16 rfl ?_
      refine a_iconst (pc := 17) dX10_want_17 (by decide) ?_
      refine a_callV (pc := 18) (kc := 0) (ks := 0) (kc' := 0) (ks' := 0) (st := []) [vi 2] dX10_want_18 ml_X10_227 (go_89) rfl (Nat.le_of_ble_eq_true rfl) (Nat.le_of_ble_eq_true rfl) (z_post H (fun r G1 h4 q => ?_))
      obtain ⟨rfl, rfl, H⟩ := q
      show zAt E (d + 1) 0 0 m_X10_want 21 [vo 89, vl x1, vn] [] g0 h4 (zPv Q)
      refine a_goto (pc := 21) (tgt := 28) dX10_want_21 (by decide) ?_
      exact a_return (pc := 28) dX10_want_28 trivial ⟨rfl, rfl, H⟩
  · have H := H.2 c
    exact a_return (pc := 7) dX10_want_7 trivial ⟨rfl, rfl, H⟩
set_option maxRecDepth 20000 in
theorem v_X10_toldNumber {E : zE} {d : Nat} {h : zS} {Q : Int → zS → Prop} {x1 : Int} {x2 : Int}  (H : (((hI h 89 2) ≤ 0 → (((hI h 89 6) = 2 → (((hI h 89 8) < x1 → (zCv E d m_X10_wrong [vo 89, vi 4] h (fun h1 => (((hI h1 89 2) ≠ 0 → (Q (hI h1 89 8) h1)) ∧ ((hI h1 89 2) = 0 → (zCv E d m_X10_token [vo 89] h1 (fun h2 => Q (hI h1 89 8) h2))))))) ∧ (x1 ≤ (hI h 89 8) → (((hI h 89 8) ≤ x2 → (((hI h 89 2) ≠ 0 → (Q (hI h 89 8) h)) ∧ ((hI h 89 2) = 0 → (zCv E d m_X10_token [vo 89] h (fun h3 => Q (hI h 89 8) h3))))) ∧ (x2 < (hI h 89 8) → (zCv E d m_X10_wrong [vo 89, vi 4] h (fun h4 => (((hI h4 89 2) ≠ 0 → (Q (hI h4 89 8) h4)) ∧ ((hI h4 89 2) = 0 → (zCv E d m_X10_token [vo 89] h4 (fun h5 => Q (hI h4 89 8) h5))))))))))) ∧ ((hI h 89 6) ≠ 2 → (zCv E d m_X10_wrong [vo 89, vi 2] h (fun h6 => (((hI h6 89 2) ≠ 0 → (Q (hI h6 89 8) h6)) ∧ ((hI h6 89 2) = 0 → (zCv E d m_X10_token [vo 89] h6 (fun h7 => Q (hI h6 89 8) h7))))))))) ∧ (0 < (hI h 89 2) → (Q 0 h)))) : zCi E (d + 1) m_X10_toldNumber [vo 89, vi x1, vi x2] h Q := by
  show zAt E (d + 1) 0 0 m_X10_toldNumber 0 [vo 89, vi x1, vi x2, vn] [] g0 h (zPi Q)
  refine a_aload_n (pc := 0) dX10_toldNumber_0 rfl ?_
  refine a_getI (pc := 1) dX10_toldNumber_1 fl_X10_194 (go_89) ?_
  refine a_if_le (pc := 4) (tgt := 9) dX10_toldNumber_4 (by decide) (fun c => ?_) (fun c => ?_)
  · have H := H.1 c
    refine a_aload_n (pc := 9) dX10_toldNumber_9 rfl ?_
    refine a_getI (pc := 10) dX10_toldNumber_10 fl_X10_184 (go_89) ?_
    refine a_iconst (pc := 13) dX10_toldNumber_13 (by decide) ?_
    refine a_icmp_eq (pc := 14) (tgt := 25) dX10_toldNumber_14 (by decide) (fun c => ?_) (fun c => ?_)
    · have H := H.1 c
      refine a_aload_n (pc := 25) dX10_toldNumber_25 rfl ?_
      refine a_getI (pc := 26) dX10_toldNumber_26 fl_X10_181 (go_89) ?_
      refine a_iload_n (pc := 29) dX10_toldNumber_29 rfl ?_
      refine a_icmp_lt (pc := 30) (tgt := 41) dX10_toldNumber_30 (by decide) (fun c => ?_) (fun c => ?_)
      · have H := H.1 c
        refine a_aload_n (pc := 41) dX10_toldNumber_41 rfl ?_
        refine a_iconst (pc := 42) dX10_toldNumber_42 (by decide) ?_
        refine a_callV (pc := 43) (kc := 0) (ks := 0) (kc' := 0) (ks' := 0) (st := []) [vi 4] dX10_toldNumber_43 ml_X10_227 (go_89) rfl (Nat.le_of_ble_eq_true rfl) (Nat.le_of_ble_eq_true rfl) (z_post H (fun r G1 h1 q => ?_))
        obtain ⟨rfl, rfl, H⟩ := q
        show zAt E (d + 1) 0 0 m_X10_toldNumber 46 [vo 89, vi x1, vi x2, vn] [] g0 h1 (zPi Q)
        refine a_aload_n (pc := 46) dX10_toldNumber_46 rfl ?_
        refine a_getI (pc := 47) dX10_toldNumber_47 fl_X10_181 (go_89) ?_
        refine a_istore_n (pc := 50) (ls' := [vo 89, vi x1, vi x2, vi (hI h1 89 8)]) dX10_toldNumber_50 rfl rfl ?_
        refine a_aload_n (pc := 51) dX10_toldNumber_51 rfl ?_
        refine a_getI (pc := 52) dX10_toldNumber_52 fl_X10_194 (go_89) ?_
        refine a_if_ne (pc := 55) (tgt := 62) dX10_toldNumber_55 (by decide) (fun c => ?_) (fun c => ?_)
        · have H := H.1 c
          refine a_iload_n (pc := 62) dX10_toldNumber_62 rfl ?_
          exact a_ireturn (pc := 63) dX10_toldNumber_63 trivial ⟨_, rfl, rfl, H⟩
        · have H := H.2 c
          refine a_aload_n (pc := 58) dX10_toldNumber_58 rfl ?_
          refine a_callV (pc := 59) (kc := 0) (ks := 0) (kc' := 0) (ks' := 0) (st := []) [] dX10_toldNumber_59 ml_X10_230 (go_89) rfl (Nat.le_of_ble_eq_true rfl) (Nat.le_of_ble_eq_true rfl) (z_post H (fun r G1 h2 q => ?_))
          obtain ⟨rfl, rfl, H⟩ := q
          show zAt E (d + 1) 0 0 m_X10_toldNumber 62 [vo 89, vi x1, vi x2, vi (hI h1 89 8)] [] g0 h2 (zPi Q)
          refine a_iload_n (pc := 62) dX10_toldNumber_62 rfl ?_
          exact a_ireturn (pc := 63) dX10_toldNumber_63 trivial ⟨_, rfl, rfl, H⟩
      · have H := H.2 c
        refine a_aload_n (pc := 33) dX10_toldNumber_33 rfl ?_
        refine a_getI (pc := 34) dX10_toldNumber_34 fl_X10_181 (go_89) ?_
        refine a_iload_n (pc := 37) dX10_toldNumber_37 rfl ?_
        refine a_icmp_le (pc := 38) (tgt := 46) dX10_toldNumber_38 (by decide) (fun c => ?_) (fun c => ?_)
        · have H := H.1 c
          refine a_aload_n (pc := 46) dX10_toldNumber_46 rfl ?_
          refine a_getI (pc := 47) dX10_toldNumber_47 fl_X10_181 (go_89) ?_
          refine a_istore_n (pc := 50) (ls' := [vo 89, vi x1, vi x2, vi (hI h 89 8)]) dX10_toldNumber_50 rfl rfl ?_
          refine a_aload_n (pc := 51) dX10_toldNumber_51 rfl ?_
          refine a_getI (pc := 52) dX10_toldNumber_52 fl_X10_194 (go_89) ?_
          refine a_if_ne (pc := 55) (tgt := 62) dX10_toldNumber_55 (by decide) (fun c => ?_) (fun c => ?_)
          · have H := H.1 c
            refine a_iload_n (pc := 62) dX10_toldNumber_62 rfl ?_
            exact a_ireturn (pc := 63) dX10_toldNumber_63 trivial ⟨_, rfl, rfl, H⟩
          · have H := H.2 c
            refine a_aload_n (pc := 58) dX10_toldNumber_58 rfl ?_
            refine a_callV (pc := 59) (kc := 0) (ks := 0) (kc' := 0) (ks' := 0) (st := []) [] dX10_toldNumber_59 ml_X10_230 (go_89) rfl (Nat.le_of_ble_eq_true rfl) (Nat.le_of_ble_eq_true rfl) (z_post H (fun r G1 h3 q => ?_))
            obtain ⟨rfl, rfl, H⟩ := q
            show zAt E (d + 1) 0 0 m_X10_toldNumber 62 [vo 89, vi x1, vi x2, vi (hI h 89 8)] [] g0 h3 (zPi Q)
            refine a_iload_n (pc := 62) dX10_toldNumber_62 rfl ?_
            exact a_ireturn (pc := 63) dX10_toldNumber_63 trivial ⟨_, rfl, rfl, H⟩
        · have H := H.2 c
          refine a_aload_n (pc := 41) dX10_toldNumber_41 rfl ?_
          refine a_iconst (pc := 42) dX10_toldNumber_42 (by decide) ?_
          refine a_callV (pc := 43) (kc := 0) (ks := 0) (kc' := 0) (ks' := 0) (st := []) [vi 4] dX10_toldNumber_43 ml_X10_227 (go_89) rfl (Nat.le_of_ble_eq_true rfl) (Nat.le_of_ble_eq_true rfl) (z_post H (fun r G1 h4 q => ?_))
          obtain ⟨rfl, rfl, H⟩ := q
          show zAt E (d + 1) 0 0 m_X10_toldNumber 46 [vo 89, vi x1, vi x2, vn] [] g0 h4 (zPi Q)
          refine a_aload_n (pc := 46) dX10_toldNumber_46 rfl ?_
          refine a_getI (pc := 47) dX10_toldNumber_47 fl_X10_181 (go_89) ?_
          refine a_istore_n (pc := 50) (ls' := [vo 89, vi x1, vi x2, vi (hI h4 89 8)]) dX10_toldNumber_50 rfl rfl ?_
          refine a_aload_n (pc := 51) dX10_toldNumber_51 rfl ?_
          refine a_getI (pc := 52) dX10_toldNumber_52 fl_X10_194 (go_89) ?_
          refine a_if_ne (pc := 55) (tgt := 62) dX10_toldNumber_55 (by decide) (fun c => ?_) (fun c => ?_)
          · have H := H.1 c
            refine a_iload_n (pc := 62) dX10_toldNumber_62 rfl ?_
            exact a_ireturn (pc := 63) dX10_toldNumber_63 trivial ⟨_, rfl, rfl, H⟩
          · have H := H.2 c
            refine a_aload_n (pc := 58) dX10_toldNumber_58 rfl ?_
            refine a_callV (pc := 59) (kc := 0) (ks := 0) (kc' := 0) (ks' := 0) (st := []) [] dX10_toldNumber_59 ml_X10_230 (go_89) rfl (Nat.le_of_ble_eq_true rfl) (Nat.le_of_ble_eq_true rfl) (z_post H (fun r G1 h5 q => ?_))
            obtain ⟨rfl, rfl, H⟩ := q
            show zAt E (d + 1) 0 0 m_X10_toldNumber 62 [vo 89, vi x1, vi x2, vi (hI h4 89 8)] [] g0 h5 (zPi Q)
            refine a_iload_n (pc := 62) dX10_toldNumber_62 rfl ?_
            exact a_ireturn (pc := 63) dX10_toldNumber_63 trivial ⟨_, rfl, rfl, H⟩
    · have H := H.2 c
      refine a_aload_n (pc := 17) dX10_toldNumber_17 rfl ?_
      refine a_iconst (pc := 18) dX10_toldNumber_18 (by decide) ?_
      refine a_callV (pc := 19) (kc := 0) (ks := 0) (kc' := 0) (ks' := 0) (st := []) [vi 2] dX10_toldNumber_19 ml_X10_227 (go_89) rfl (Nat.le_of_ble_eq_true rfl) (Nat.le_of_ble_eq_true rfl) (z_post H (fun r G1 h6 q => ?_))
      obtain ⟨rfl, rfl, H⟩ := q
      show zAt E (d + 1) 0 0 m_X10_toldNumber 22 [vo 89, vi x1, vi x2, vn] [] g0 h6 (zPi Q)
      refine a_goto (pc := 22) (tgt := 46) dX10_toldNumber_22 (by decide) ?_
      refine a_aload_n (pc := 46) dX10_toldNumber_46 rfl ?_
      refine a_getI (pc := 47) dX10_toldNumber_47 fl_X10_181 (go_89) ?_
      refine a_istore_n (pc := 50) (ls' := [vo 89, vi x1, vi x2, vi (hI h6 89 8)]) dX10_toldNumber_50 rfl rfl ?_
      refine a_aload_n (pc := 51) dX10_toldNumber_51 rfl ?_
      refine a_getI (pc := 52) dX10_toldNumber_52 fl_X10_194 (go_89) ?_
      refine a_if_ne (pc := 55) (tgt := 62) dX10_toldNumber_55 (by decide) (fun c => ?_) (fun c => ?_)
      · have H := H.1 c
        refine a_iload_n (pc := 62) dX10_toldNumber_62 rfl ?_
        exact a_ireturn (pc := 63) dX10_toldNumber_63 trivial ⟨_, rfl, rfl, H⟩
      · have H := H.2 c
        refine a_aload_n (pc := 58) dX10_toldNumber_58 rfl ?_
        refine a_callV (pc := 59) (kc := 0) (ks := 0) (kc' := 0) (ks' := 0) (st := []) [] dX10_toldNumber_59 ml_X10_230 (go_89) rfl (Nat.le_of_ble_eq_true rfl) (Nat.le_of_ble_eq_true rfl) (z_post H (fun r G1 h7 q => ?_))
        obtain ⟨rfl, rfl, H⟩ := q
        show zAt E (d + 1) 0 0 m_X10_toldNumber 62 [vo 89, vi x1, vi x2, vi (hI h6 89 8)] [] g0 h7 (zPi Q)
        refine a_iload_n (pc := 62) dX10_toldNumber_62 rfl ?_
        exact a_ireturn (pc := 63) dX10_toldNumber_63 trivial ⟨_, rfl, rfl, H⟩
  · have H := H.2 c
    refine a_iconst (pc := 7) dX10_toldNumber_7 (by decide) ?_
    exact a_ireturn (pc := 8) dX10_toldNumber_8 trivial ⟨_, rfl, rfl, H⟩
set_option maxRecDepth 20000 in
theorem v_X10_told {E : zE} {d : Nat} {h : zS} {Q : Int → zS → Prop} {x1 : Int} {x3 : Int} {x4 : Int}  (H : zCv E d m_X10_want [vo 89, vl x1] h (fun h1 => zCi E d m_X10_toldNumber [vo 89, vi x3, vi x4] h1 (fun y3 h2 => Q y3 h2))) : zCi E (d + 1) m_X10_told [vo 89, vl x1, vi x3, vi x4] h Q := by
  show zAt E (d + 1) 0 0 m_X10_told 0 [vo 89, vl x1, vn, vi x3, vi x4] [] g0 h (zPi Q)
  refine a_aload_n (pc := 0) dX10_told_0 rfl ?_
  refine a_lload_n (pc := 1) dX10_told_1 rfl ?_
  refine a_callV (pc := 2) (kc := 0) (ks := 0) (kc' := 0) (ks' := 0) (st := []) [vl x1] dX10_told_2 ml_X10_233 (go_89) rfl (Nat.le_of_ble_eq_true rfl) (Nat.le_of_ble_eq_true rfl) (z_post H (fun r G1 h1 q => ?_))
  obtain ⟨rfl, rfl, H⟩ := q
  show zAt E (d + 1) 0 0 m_X10_told 5 [vo 89, vl x1, vn, vi x3, vi x4] [] g0 h1 (zPi Q)
  refine a_aload_n (pc := 5) dX10_told_5 rfl ?_
  refine a_iload_n (pc := 6) dX10_told_6 rfl ?_
  refine a_iload (pc := 7) dX10_told_7 rfl ?_
  refine a_callV (pc := 9) (kc := 0) (ks := 0) (kc' := 0) (ks' := 0) (st := []) [vi x3, vi x4] dX10_told_9 ml_X10_237 (go_89) rfl (Nat.le_of_ble_eq_true rfl) (Nat.le_of_ble_eq_true rfl) (z_post H (fun r G1 h2 q => ?_))
  obtain ⟨y3, rfl, rfl, H⟩ := q
  show zAt E (d + 1) 0 0 m_X10_told 12 [vo 89, vl x1, vn, vi x3, vi x4] [vi y3] g0 h2 (zPi Q)
  exact a_ireturn (pc := 12) dX10_told_12 trivial ⟨_, rfl, rfl, H⟩
set_option maxRecDepth 20000 in
theorem v_X10_find {E : zE} {d : Nat} {h : zS} {Q : Int → zS → Prop}   (H : zWi E d m_X10_find 4 [vo 89, vi (-1), vi 0] h Q) : zCi E d m_X10_find [vo 89] h Q := by
  show zAt E d 0 0 m_X10_find 0 [vo 89, vn, vn] [] g0 h (zPi Q)
  refine a_iconst (pc := 0) dX10_find_0 (by decide) ?_
  refine a_istore_n (pc := 1) (ls' := [vo 89, vi (-1), vn]) dX10_find_1 rfl rfl ?_
  refine a_iconst (pc := 2) dX10_find_2 (by decide) ?_
  refine a_istore_n (pc := 3) (ls' := [vo 89, vi (-1), vi 0]) dX10_find_3 rfl rfl ?_
  exact H
set_option maxRecDepth 20000 in
theorem r_X10_find_4 {E : zE} {d : Nat} {h : zS} {Q : Int → zS → Prop} {x1 : Int} {x2 : Int}  (H : (((hI h 89 24) ≤ x2 → (Q x1 h)) ∧ (x2 < (hI h 89 24) → ((0 ≤ x2 ∧ x2 < 12) ∧ (∀ y3 : Int, y3 = (if (z_lcmp (hL h 91 x2.toNat) (hL h 89 9)) ≠ 0 then x1 else x2) → zWi E d m_X10_find 4 [vo 89, vi y3, vi (w32 (x2 + 1))] h Q))))) : zWi E d m_X10_find 4 [vo 89, vi x1, vi x2] h Q := by
  refine a_iload_n (pc := 4) dX10_find_4 rfl ?_
  refine a_aload_n (pc := 5) dX10_find_5 rfl ?_
  refine a_getI (pc := 6) dX10_find_6 fl_X10_241 (go_89) ?_
  refine a_icmp_ge (pc := 9) (tgt := 38) dX10_find_9 (by decide) (fun c => ?_) (fun c => ?_)
  · have H := H.1 c
    refine a_iload_n (pc := 38) dX10_find_38 rfl ?_
    exact a_ireturn (pc := 39) dX10_find_39 trivial ⟨_, rfl, rfl, H⟩
  · have H := H.2 c
    refine a_aload_n (pc := 12) dX10_find_12 rfl ?_
    refine a_getF (pc := 13) dX10_find_13 fl_X10_17 (go_89) (gf_89_10) ?_
    refine a_iload_n (pc := 16) dX10_find_16 rfl ?_
    obtain ⟨hb1, H⟩ := H
    refine a_laload (pc := 17) dX10_find_17 (ga_91) hb1 ?_
    refine a_aload_n (pc := 18) dX10_find_18 rfl ?_
    refine a_getL (pc := 19) dX10_find_19 fl_X10_177 (go_89) ?_
    refine a_lcmp (pc := 22) dX10_find_22 ?_
    have J : zAt E d 0 0 m_X10_find 31 [vo 89, vi x1, vi x2] [vi (if (z_lcmp (hL h 91 x2.toNat) (hL h 89 9)) ≠ 0 then x1 else x2)] g0 h (zPi Q) := by
      have H := H _ rfl
      generalize ((if (z_lcmp (hL h 91 x2.toNat) (hL h 89 9)) ≠ 0 then x1 else x2) : Int) = y3 at H ⊢
      refine a_istore_n (pc := 31) (ls' := [vo 89, vi y3, vi x2]) dX10_find_31 rfl rfl ?_
      refine a_iinc (pc := 32) (ls' := [vo 89, vi y3, vi (w32 (x2 + 1))]) dX10_find_32 rfl rfl rfl ?_
      refine a_goto (pc := 35) (tgt := 4) dX10_find_35 (by decide) ?_
      exact H
    refine a_if_ne (pc := 23) (tgt := 30) dX10_find_23 (by decide) (fun c2 => ?_) (fun c2 => ?_)
    · skip
      refine a_iload_n (pc := 30) dX10_find_30 rfl ?_
      exact (z_mergeT c2 J)
    · skip
      refine a_iload_n (pc := 26) dX10_find_26 rfl ?_
      refine a_goto (pc := 27) (tgt := 31) dX10_find_27 (by decide) ?_
      exact (z_mergeF (fun n => n c2) J)
set_option maxRecDepth 20000 in
theorem v_X10_old {E : zE} {d : Nat} {h : zS} {Q : Int → zS → Prop}   (H : (((hI h 89 2) ≤ 0 → (zCi E d m_X10_find [vo 89] h (fun y2 h1 => zCi E d m_X10_isName [vo 89] h1 (fun y4 h3 => ((y4 ≠ 0 → ((0 ≤ y2 → (((hI h3 89 2) ≠ 0 → (Q y2 h3)) ∧ ((hI h3 89 2) = 0 → (zCv E d m_X10_token [vo 89] h3 (fun h5 => Q y2 h5))))) ∧ (y2 < 0 → (zCv E d m_X10_wrong [vo 89, vi 5] h3 (fun h6 => (((hI h6 89 2) ≠ 0 → (Q y2 h6)) ∧ ((hI h6 89 2) = 0 → (zCv E d m_X10_token [vo 89] h6 (fun h7 => Q y2 h7))))))))) ∧ (y4 = 0 → (zCv E d m_X10_wrong [vo 89, vi 2] h3 (fun h8 => (((hI h8 89 2) ≠ 0 → (Q y2 h8)) ∧ ((hI h8 89 2) = 0 → (zCv E d m_X10_token [vo 89] h8 (fun h9 => Q y2 h9)))))))))))) ∧ (0 < (hI h 89 2) → (Q 0 h)))) : zCi E (d + 1) m_X10_old [vo 89] h Q := by
  show zAt E (d + 1) 0 0 m_X10_old 0 [vo 89, vn] [] g0 h (zPi Q)
  refine a_aload_n (pc := 0) dX10_old_0 rfl ?_
  refine a_getI (pc := 1) dX10_old_1 fl_X10_194 (go_89) ?_
  refine a_if_le (pc := 4) (tgt := 9) dX10_old_4 (by decide) (fun c => ?_) (fun c => ?_)
  · have H := H.1 c
    refine a_aload_n (pc := 9) dX10_old_9 rfl ?_
    refine a_callV (pc := 10) (kc := 0) (ks := 0) (kc' := 0) (ks' := 0) (st := []) [] dX10_old_10 ml_X10_244 (go_89) rfl (Nat.le_of_ble_eq_true rfl) (Nat.le_of_ble_eq_true rfl) (z_post H (fun r G1 h1 q => ?_))
    obtain ⟨y2, rfl, rfl, H⟩ := q
    show zAt E (d + 1) 0 0 m_X10_old 13 [vo 89, vn] [vi y2] g0 h1 (zPi Q)
    refine a_istore_n (pc := 13) (ls' := [vo 89, vi y2]) dX10_old_13 rfl rfl ?_
    refine a_aload_n (pc := 14) dX10_old_14 rfl ?_
    refine a_callV (pc := 15) (kc := 0) (ks := 0) (kc' := 0) (ks' := 0) (st := []) [] dX10_old_15 ml_X10_248 (go_89) rfl (Nat.le_of_ble_eq_true rfl) (Nat.le_of_ble_eq_true rfl) (z_post H (fun r G1 h3 q => ?_))
    obtain ⟨y4, rfl, rfl, H⟩ := q
    show zAt E (d + 1) 0 0 m_X10_old 18 [vo 89, vi y2] [vi y4] g0 h3 (zPi Q)
    refine a_if_ne (pc := 18) (tgt := 29) dX10_old_18 (by decide) (fun c => ?_) (fun c => ?_)
    · have H := H.1 c
      refine a_iload_n (pc := 29) dX10_old_29 rfl ?_
      refine a_if_ge (pc := 30) (tgt := 38) dX10_old_30 (by decide) (fun c => ?_) (fun c => ?_)
      · have H := H.1 c
        refine a_aload_n (pc := 38) dX10_old_38 rfl ?_
        refine a_getI (pc := 39) dX10_old_39 fl_X10_194 (go_89) ?_
        refine a_if_ne (pc := 42) (tgt := 49) dX10_old_42 (by decide) (fun c => ?_) (fun c => ?_)
        · have H := H.1 c
          refine a_iload_n (pc := 49) dX10_old_49 rfl ?_
          exact a_ireturn (pc := 50) dX10_old_50 trivial ⟨_, rfl, rfl, H⟩
        · have H := H.2 c
          refine a_aload_n (pc := 45) dX10_old_45 rfl ?_
          refine a_callV (pc := 46) (kc := 0) (ks := 0) (kc' := 0) (ks' := 0) (st := []) [] dX10_old_46 ml_X10_230 (go_89) rfl (Nat.le_of_ble_eq_true rfl) (Nat.le_of_ble_eq_true rfl) (z_post H (fun r G1 h5 q => ?_))
          obtain ⟨rfl, rfl, H⟩ := q
          show zAt E (d + 1) 0 0 m_X10_old 49 [vo 89, vi y2] [] g0 h5 (zPi Q)
          refine a_iload_n (pc := 49) dX10_old_49 rfl ?_
          exact a_ireturn (pc := 50) dX10_old_50 trivial ⟨_, rfl, rfl, H⟩
      · have H := H.2 c
        refine a_aload_n (pc := 33) dX10_old_33 rfl ?_
        refine a_iconst (pc := 34) dX10_old_34 (by decide) ?_
        refine a_callV (pc := 35) (kc := 0) (ks := 0) (kc' := 0) (ks' := 0) (st := []) [vi 5] dX10_old_35 ml_X10_227 (go_89) rfl (Nat.le_of_ble_eq_true rfl) (Nat.le_of_ble_eq_true rfl) (z_post H (fun r G1 h6 q => ?_))
        obtain ⟨rfl, rfl, H⟩ := q
        show zAt E (d + 1) 0 0 m_X10_old 38 [vo 89, vi y2] [] g0 h6 (zPi Q)
        refine a_aload_n (pc := 38) dX10_old_38 rfl ?_
        refine a_getI (pc := 39) dX10_old_39 fl_X10_194 (go_89) ?_
        refine a_if_ne (pc := 42) (tgt := 49) dX10_old_42 (by decide) (fun c => ?_) (fun c => ?_)
        · have H := H.1 c
          refine a_iload_n (pc := 49) dX10_old_49 rfl ?_
          exact a_ireturn (pc := 50) dX10_old_50 trivial ⟨_, rfl, rfl, H⟩
        · have H := H.2 c
          refine a_aload_n (pc := 45) dX10_old_45 rfl ?_
          refine a_callV (pc := 46) (kc := 0) (ks := 0) (kc' := 0) (ks' := 0) (st := []) [] dX10_old_46 ml_X10_230 (go_89) rfl (Nat.le_of_ble_eq_true rfl) (Nat.le_of_ble_eq_true rfl) (z_post H (fun r G1 h7 q => ?_))
          obtain ⟨rfl, rfl, H⟩ := q
          show zAt E (d + 1) 0 0 m_X10_old 49 [vo 89, vi y2] [] g0 h7 (zPi Q)
          refine a_iload_n (pc := 49) dX10_old_49 rfl ?_
          exact a_ireturn (pc := 50) dX10_old_50 trivial ⟨_, rfl, rfl, H⟩
    · have H := H.2 c
      refine a_aload_n (pc := 21) dX10_old_21 rfl ?_
      refine a_iconst (pc := 22) dX10_old_22 (by decide) ?_
      refine a_callV (pc := 23) (kc := 0) (ks := 0) (kc' := 0) (ks' := 0) (st := []) [vi 2] dX10_old_23 ml_X10_227 (go_89) rfl (Nat.le_of_ble_eq_true rfl) (Nat.le_of_ble_eq_true rfl) (z_post H (fun r G1 h8 q => ?_))
      obtain ⟨rfl, rfl, H⟩ := q
      show zAt E (d + 1) 0 0 m_X10_old 26 [vo 89, vi y2] [] g0 h8 (zPi Q)
      refine a_goto (pc := 26) (tgt := 38) dX10_old_26 (by decide) ?_
      refine a_aload_n (pc := 38) dX10_old_38 rfl ?_
      refine a_getI (pc := 39) dX10_old_39 fl_X10_194 (go_89) ?_
      refine a_if_ne (pc := 42) (tgt := 49) dX10_old_42 (by decide) (fun c => ?_) (fun c => ?_)
      · have H := H.1 c
        refine a_iload_n (pc := 49) dX10_old_49 rfl ?_
        exact a_ireturn (pc := 50) dX10_old_50 trivial ⟨_, rfl, rfl, H⟩
      · have H := H.2 c
        refine a_aload_n (pc := 45) dX10_old_45 rfl ?_
        refine a_callV (pc := 46) (kc := 0) (ks := 0) (kc' := 0) (ks' := 0) (st := []) [] dX10_old_46 ml_X10_230 (go_89) rfl (Nat.le_of_ble_eq_true rfl) (Nat.le_of_ble_eq_true rfl) (z_post H (fun r G1 h9 q => ?_))
        obtain ⟨rfl, rfl, H⟩ := q
        show zAt E (d + 1) 0 0 m_X10_old 49 [vo 89, vi y2] [] g0 h9 (zPi Q)
        refine a_iload_n (pc := 49) dX10_old_49 rfl ?_
        exact a_ireturn (pc := 50) dX10_old_50 trivial ⟨_, rfl, rfl, H⟩
  · have H := H.2 c
    refine a_iconst (pc := 7) dX10_old_7 (by decide) ?_
    exact a_ireturn (pc := 8) dX10_old_8 trivial ⟨_, rfl, rfl, H⟩
set_option maxRecDepth 20000 in
theorem v_X10_readOne {E : zE} {d : Nat} {h : zS} {Q : zS → Prop}   (H : zCv E d m_X10_token [vo 89] h (fun h1 => zCi E d m_X10_isName [vo 89] h1 (fun y3 h2 => ((y3 ≠ 0 → (zCi E d m_X10_find [vo 89] h2 (fun y5 h4 => ((y5 < 0 → (zWv E (d + 1) m_X10_readOne 31 [vo 89, vn, vn, vn] h4 Q)) ∧ (0 ≤ y5 → (zCv E d m_X10_wrong [vo 89, vi 3] h4 (fun h6 => zWv E (d + 1) m_X10_readOne 31 [vo 89, vn, vn, vn] h6 Q))))))) ∧ (y3 = 0 → (zCv E d m_X10_wrong [vo 89, vi 2] h2 (fun h7 => zWv E (d + 1) m_X10_readOne 31 [vo 89, vn, vn, vn] h7 Q))))))) : zCv E (d + 1) m_X10_readOne [vo 89] h Q := by
  show zAt E (d + 1) 0 0 m_X10_readOne 0 [vo 89, vn, vn, vn] [] g0 h (zPv Q)
  refine a_aload_n (pc := 0) dX10_readOne_0 rfl ?_
  refine a_callV (pc := 1) (kc := 0) (ks := 0) (kc' := 0) (ks' := 0) (st := []) [] dX10_readOne_1 ml_X10_230 (go_89) rfl (Nat.le_of_ble_eq_true rfl) (Nat.le_of_ble_eq_true rfl) (z_post H (fun r G1 h1 q => ?_))
  obtain ⟨rfl, rfl, H⟩ := q
  show zAt E (d + 1) 0 0 m_X10_readOne 4 [vo 89, vn, vn, vn] [] g0 h1 (zPv Q)
  refine a_aload_n (pc := 4) dX10_readOne_4 rfl ?_
  refine a_callV (pc := 5) (kc := 0) (ks := 0) (kc' := 0) (ks' := 0) (st := []) [] dX10_readOne_5 ml_X10_248 (go_89) rfl (Nat.le_of_ble_eq_true rfl) (Nat.le_of_ble_eq_true rfl) (z_post H (fun r G1 h2 q => ?_))
  obtain ⟨y3, rfl, rfl, H⟩ := q
  show zAt E (d + 1) 0 0 m_X10_readOne 8 [vo 89, vn, vn, vn] [vi y3] g0 h2 (zPv Q)
  refine a_if_ne (pc := 8) (tgt := 19) dX10_readOne_8 (by decide) (fun c => ?_) (fun c => ?_)
  · have H := H.1 c
    refine a_aload_n (pc := 19) dX10_readOne_19 rfl ?_
    refine a_callV (pc := 20) (kc := 0) (ks := 0) (kc' := 0) (ks' := 0) (st := []) [] dX10_readOne_20 ml_X10_244 (go_89) rfl (Nat.le_of_ble_eq_true rfl) (Nat.le_of_ble_eq_true rfl) (z_post H (fun r G1 h4 q => ?_))
    obtain ⟨y5, rfl, rfl, H⟩ := q
    show zAt E (d + 1) 0 0 m_X10_readOne 23 [vo 89, vn, vn, vn] [vi y5] g0 h4 (zPv Q)
    refine a_if_lt (pc := 23) (tgt := 31) dX10_readOne_23 (by decide) (fun c => ?_) (fun c => ?_)
    · have H := H.1 c
      exact H
    · have H := H.2 c
      refine a_aload_n (pc := 26) dX10_readOne_26 rfl ?_
      refine a_iconst (pc := 27) dX10_readOne_27 (by decide) ?_
      refine a_callV (pc := 28) (kc := 0) (ks := 0) (kc' := 0) (ks' := 0) (st := []) [vi 3] dX10_readOne_28 ml_X10_227 (go_89) rfl (Nat.le_of_ble_eq_true rfl) (Nat.le_of_ble_eq_true rfl) (z_post H (fun r G1 h6 q => ?_))
      obtain ⟨rfl, rfl, H⟩ := q
      show zAt E (d + 1) 0 0 m_X10_readOne 31 [vo 89, vn, vn, vn] [] g0 h6 (zPv Q)
      exact H
  · have H := H.2 c
    refine a_aload_n (pc := 11) dX10_readOne_11 rfl ?_
    refine a_iconst (pc := 12) dX10_readOne_12 (by decide) ?_
    refine a_callV (pc := 13) (kc := 0) (ks := 0) (kc' := 0) (ks' := 0) (st := []) [vi 2] dX10_readOne_13 ml_X10_227 (go_89) rfl (Nat.le_of_ble_eq_true rfl) (Nat.le_of_ble_eq_true rfl) (z_post H (fun r G1 h7 q => ?_))
    obtain ⟨rfl, rfl, H⟩ := q
    show zAt E (d + 1) 0 0 m_X10_readOne 16 [vo 89, vn, vn, vn] [] g0 h7 (zPv Q)
    refine a_goto (pc := 16) (tgt := 31) dX10_readOne_16 (by decide) ?_
    exact H
set_option maxRecDepth 20000 in
theorem r_X10_readOne_31 {E : zE} {d : Nat} {h : zS} {Q : zS → Prop}   (H : (((hI h 89 2) ≠ 0 → (zWv E (d + 1) m_X10_readOne 47 [vo 89, vl (hL h 89 9), vn, vn] h Q)) ∧ ((hI h 89 2) = 0 → (zCv E d m_X10_token [vo 89] h (fun h1 => zWv E (d + 1) m_X10_readOne 47 [vo 89, vl (hL h 89 9), vn, vn] h1 Q))))) : zWv E (d + 1) m_X10_readOne 31 [vo 89, vn, vn, vn] h Q := by
  refine a_aload_n (pc := 31) dX10_readOne_31 rfl ?_
  refine a_getL (pc := 32) dX10_readOne_32 fl_X10_177 (go_89) ?_
  refine a_lstore_n (pc := 35) (ls' := [vo 89, vl (hL h 89 9), vn, vn]) dX10_readOne_35 rfl rfl ?_
  refine a_aload_n (pc := 36) dX10_readOne_36 rfl ?_
  refine a_getI (pc := 37) dX10_readOne_37 fl_X10_194 (go_89) ?_
  refine a_if_ne (pc := 40) (tgt := 47) dX10_readOne_40 (by decide) (fun c => ?_) (fun c => ?_)
  · have H := H.1 c
    exact H
  · have H := H.2 c
    refine a_aload_n (pc := 43) dX10_readOne_43 rfl ?_
    refine a_callV (pc := 44) (kc := 0) (ks := 0) (kc' := 0) (ks' := 0) (st := []) [] dX10_readOne_44 ml_X10_230 (go_89) rfl (Nat.le_of_ble_eq_true rfl) (Nat.le_of_ble_eq_true rfl) (z_post H (fun r G1 h1 q => ?_))
    obtain ⟨rfl, rfl, H⟩ := q
    show zAt E (d + 1) 0 0 m_X10_readOne 47 [vo 89, vl (hL h 89 9), vn, vn] [] g0 h1 (zPv Q)
    exact H
set_option maxRecDepth 20000 in
theorem r_X10_readOne_47 {E : zE} {d : Nat} {h : zS} {Q : zS → Prop} {x1 : Int}  (H : zCi E d m_X10_isWord [vo 89, vl 422725643876] h (fun y2 h1 => ((y2 = 0 → (zCi E d m_X10_isWord [vo 89, vl 108230850603124] h1 (fun y4 h3 => ((y4 = 0 → (zCi E d m_X10_isWord [vo 89, vl 6451064] h3 (fun y6 h5 => ((y6 = 0 → (zAt E (d + 1) 0 0 m_X10_readOne 90 [vo 89, vl x1, vn, vn] [vi 0] g0 h5 (zPv Q))) ∧ (y6 ≠ 0 → (zAt E (d + 1) 0 0 m_X10_readOne 90 [vo 89, vl x1, vn, vn] [vi 3] g0 h5 (zPv Q))))))) ∧ (y4 ≠ 0 → (zAt E (d + 1) 0 0 m_X10_readOne 90 [vo 89, vl x1, vn, vn] [vi 2] g0 h3 (zPv Q))))))) ∧ (y2 ≠ 0 → (zAt E (d + 1) 0 0 m_X10_readOne 90 [vo 89, vl x1, vn, vn] [vi 1] g0 h1 (zPv Q)))))) : zWv E (d + 1) m_X10_readOne 47 [vo 89, vl x1, vn, vn] h Q := by
  refine a_aload_n (pc := 47) dX10_readOne_47 rfl ?_
  refine a_ldc2 (pc := 48) dX10_readOne_48 cl_X10_199 (by decide) ?_
  refine a_callV (pc := 51) (kc := 0) (ks := 0) (kc' := 0) (ks' := 0) (st := []) [vl 422725643876] dX10_readOne_51 ml_X10_223 (go_89) rfl (Nat.le_of_ble_eq_true rfl) (Nat.le_of_ble_eq_true rfl) (z_post H (fun r G1 h1 q => ?_))
  obtain ⟨y2, rfl, rfl, H⟩ := q
  show zAt E (d + 1) 0 0 m_X10_readOne 54 [vo 89, vl x1, vn, vn] [vi y2] g0 h1 (zPv Q)
  refine a_if_eq (pc := 54) (tgt := 61) dX10_readOne_54 (by decide) (fun c => ?_) (fun c => ?_)
  · have H := H.1 c
    refine a_aload_n (pc := 61) dX10_readOne_61 rfl ?_
    refine a_ldc2 (pc := 62) dX10_readOne_62 cl_X10_201 (by decide) ?_
    refine a_callV (pc := 65) (kc := 0) (ks := 0) (kc' := 0) (ks' := 0) (st := []) [vl 108230850603124] dX10_readOne_65 ml_X10_223 (go_89) rfl (Nat.le_of_ble_eq_true rfl) (Nat.le_of_ble_eq_true rfl) (z_post H (fun r G1 h3 q => ?_))
    obtain ⟨y4, rfl, rfl, H⟩ := q
    show zAt E (d + 1) 0 0 m_X10_readOne 68 [vo 89, vl x1, vn, vn] [vi y4] g0 h3 (zPv Q)
    refine a_if_eq (pc := 68) (tgt := 75) dX10_readOne_68 (by decide) (fun c => ?_) (fun c => ?_)
    · have H := H.1 c
      refine a_aload_n (pc := 75) dX10_readOne_75 rfl ?_
      refine a_ldc2 (pc := 76) dX10_readOne_76 cl_X10_203 (by decide) ?_
      refine a_callV (pc := 79) (kc := 0) (ks := 0) (kc' := 0) (ks' := 0) (st := []) [vl 6451064] dX10_readOne_79 ml_X10_223 (go_89) rfl (Nat.le_of_ble_eq_true rfl) (Nat.le_of_ble_eq_true rfl) (z_post H (fun r G1 h5 q => ?_))
      obtain ⟨y6, rfl, rfl, H⟩ := q
      show zAt E (d + 1) 0 0 m_X10_readOne 82 [vo 89, vl x1, vn, vn] [vi y6] g0 h5 (zPv Q)
      refine a_if_eq (pc := 82) (tgt := 89) dX10_readOne_82 (by decide) (fun c => ?_) (fun c => ?_)
      · have H := H.1 c
        refine a_iconst (pc := 89) dX10_readOne_89 (by decide) ?_
        exact H
      · have H := H.2 c
        refine a_iconst (pc := 85) dX10_readOne_85 (by decide) ?_
        refine a_goto (pc := 86) (tgt := 90) dX10_readOne_86 (by decide) ?_
        exact H
    · have H := H.2 c
      refine a_iconst (pc := 71) dX10_readOne_71 (by decide) ?_
      refine a_goto (pc := 72) (tgt := 90) dX10_readOne_72 (by decide) ?_
      exact H
  · have H := H.2 c
    refine a_iconst (pc := 57) dX10_readOne_57 (by decide) ?_
    refine a_goto (pc := 58) (tgt := 90) dX10_readOne_58 (by decide) ?_
    exact H
set_option maxRecDepth 20000 in
theorem r_X10_readOne_90 {E : zE} {d : Nat} {h : zS} {Q : zS → Prop} {x1 : Int} {u0 : Int}  (H : (((hI h 89 2) ≠ 0 → (zWv E (d + 1) m_X10_readOne 106 [vo 89, vl x1, vn, vi u0] h Q)) ∧ ((hI h 89 2) = 0 → ((u0 = 0 → (zWv E (d + 1) m_X10_readOne 106 [vo 89, vl x1, vn, vi u0] h Q)) ∧ (u0 ≠ 0 → (zCv E d m_X10_token [vo 89] h (fun h1 => zWv E (d + 1) m_X10_readOne 106 [vo 89, vl x1, vn, vi u0] h1 Q))))))) : zAt E (d + 1) 0 0 m_X10_readOne 90 [vo 89, vl x1, vn, vn] [vi u0] g0 h (zPv Q) := by
  refine a_istore_n (pc := 90) (ls' := [vo 89, vl x1, vn, vi u0]) dX10_readOne_90 rfl rfl ?_
  refine a_aload_n (pc := 91) dX10_readOne_91 rfl ?_
  refine a_getI (pc := 92) dX10_readOne_92 fl_X10_194 (go_89) ?_
  refine a_if_ne (pc := 95) (tgt := 106) dX10_readOne_95 (by decide) (fun c => ?_) (fun c => ?_)
  · have H := H.1 c
    exact H
  · have H := H.2 c
    refine a_iload_n (pc := 98) dX10_readOne_98 rfl ?_
    refine a_if_eq (pc := 99) (tgt := 106) dX10_readOne_99 (by decide) (fun c => ?_) (fun c => ?_)
    · have H := H.1 c
      exact H
    · have H := H.2 c
      refine a_aload_n (pc := 102) dX10_readOne_102 rfl ?_
      refine a_callV (pc := 103) (kc := 0) (ks := 0) (kc' := 0) (ks' := 0) (st := []) [] dX10_readOne_103 ml_X10_230 (go_89) rfl (Nat.le_of_ble_eq_true rfl) (Nat.le_of_ble_eq_true rfl) (z_post H (fun r G1 h1 q => ?_))
      obtain ⟨rfl, rfl, H⟩ := q
      show zAt E (d + 1) 0 0 m_X10_readOne 106 [vo 89, vl x1, vn, vi u0] [] g0 h1 (zPv Q)
      exact H
set_option maxRecDepth 20000 in
theorem r_X10_readOne_106 {E : zE} {d : Nat} {h : zS} {Q : zS → Prop} {x1 : Int} {x3 : Int}  (H : (0 ≤ hI h 89 24 ∧ hI h 89 24 < 12) ∧ ∀ h2, h2 = stI h 92 (hI h 89 24).toNat x3 → zCi E d m_X10_told [vo 89, vl 1936486263, vi 0, vi 9] h2 (fun y4 h3 => (0 ≤ hI h2 89 24 ∧ hI h2 89 24 < 12) ∧ ∀ h6, h6 = stI h3 93 (hI h2 89 24).toNat y4 → zCi E d m_X10_told [vo 89, vl 448545973363, vi 0, vi 9] h6 (fun y8 h7 => (0 ≤ hI h6 89 24 ∧ hI h6 89 24 < 12) ∧ ∀ h10, h10 = stI h7 94 (hI h6 89 24).toNat y8 → zCi E d m_X10_told [vo 89, vl 1919513451, vi 0, vi 99] h10 (fun y12 h11 => (0 ≤ hI h10 89 24 ∧ hI h10 89 24 < 12) ∧ ∀ h14, h14 = stI h11 95 (hI h10 89 24).toNat y12 → zCi E d m_X10_told [vo 89, vl 461262647411, vi 0, vi 999] h14 (fun y16 h15 => (0 ≤ hI h14 89 24 ∧ hI h14 89 24 < 12) ∧ ∀ h18, h18 = stI h15 96 (hI h14 89 24).toNat y16 → (0 ≤ hI h18 89 24 ∧ hI h18 89 24 < 12) ∧ ∀ h20, h20 = stL h18 91 (hI h18 89 24).toNat x1 → (((hI h20 89 2) ≠ 0 → (zWv E (d + 1) m_X10_readOne 220 [vn, vn, vn, vn] h20 Q)) ∧ ((hI h20 89 2) = 0 → (∀ h21, h21 = stI h20 89 24 (w32 ((hI h20 89 24) + 1)) → zWv E (d + 1) m_X10_readOne 220 [vn, vn, vn, vn] h21 Q)))))))) : zWv E (d + 1) m_X10_readOne 106 [vo 89, vl x1, vn, vi x3] h Q := by
  refine a_aload_n (pc := 106) dX10_readOne_106 rfl ?_
  refine a_getF (pc := 107) dX10_readOne_107 fl_X10_21 (go_89) (gf_89_11) ?_
  refine a_aload_n (pc := 110) dX10_readOne_110 rfl ?_
  refine a_getI (pc := 111) dX10_readOne_111 fl_X10_241 (go_89) ?_
  refine a_iload_n (pc := 114) dX10_readOne_114 rfl ?_
  obtain ⟨hb1, H⟩ := H
  refine a_iastore (pc := 115) dX10_readOne_115 (ga_92) hb1 ?_
  have H := H _ rfl
  generalize stI h 92 (hI h 89 24).toNat x3 = h2 at H ⊢
  refine a_aload_n (pc := 116) dX10_readOne_116 rfl ?_
  refine a_getF (pc := 117) dX10_readOne_117 fl_X10_24 (go_89) (gf_89_12) ?_
  refine a_aload_n (pc := 120) dX10_readOne_120 rfl ?_
  refine a_getI (pc := 121) dX10_readOne_121 fl_X10_241 (go_89) ?_
  refine a_aload_n (pc := 124) dX10_readOne_124 rfl ?_
  refine a_ldc2 (pc := 125) dX10_readOne_125 cl_X10_205 (by decide) ?_
  refine a_iconst (pc := 128) dX10_readOne_128 (by decide) ?_
  refine a_bipush (pc := 129) dX10_readOne_129 (by decide) ?_
  refine a_callV (pc := 131) (kc := 0) (ks := 0) (kc' := 0) (ks' := 0) (st := [vi (hI h2 89 24), vo 93]) [vl 1936486263, vi 0, vi 9] dX10_readOne_131 ml_X10_252 (go_89) rfl (Nat.le_of_ble_eq_true rfl) (Nat.le_of_ble_eq_true rfl) (z_post H (fun r G1 h3 q => ?_))
  obtain ⟨y4, rfl, rfl, H⟩ := q
  show zAt E (d + 1) 0 0 m_X10_readOne 134 [vo 89, vl x1, vn, vi x3] [vi y4, vi (hI h2 89 24), vo 93] g0 h3 (zPv Q)
  obtain ⟨hb5, H⟩ := H
  refine a_iastore (pc := 134) dX10_readOne_134 (ga_93) hb5 ?_
  have H := H _ rfl
  generalize stI h3 93 (hI h2 89 24).toNat y4 = h6 at H ⊢
  refine a_aload_n (pc := 135) dX10_readOne_135 rfl ?_
  refine a_getF (pc := 136) dX10_readOne_136 fl_X10_27 (go_89) (gf_89_13) ?_
  refine a_aload_n (pc := 139) dX10_readOne_139 rfl ?_
  refine a_getI (pc := 140) dX10_readOne_140 fl_X10_241 (go_89) ?_
  refine a_aload_n (pc := 143) dX10_readOne_143 rfl ?_
  refine a_ldc2 (pc := 144) dX10_readOne_144 cl_X10_207 (by decide) ?_
  refine a_iconst (pc := 147) dX10_readOne_147 (by decide) ?_
  refine a_bipush (pc := 148) dX10_readOne_148 (by decide) ?_
  refine a_callV (pc := 150) (kc := 0) (ks := 0) (kc' := 0) (ks' := 0) (st := [vi (hI h6 89 24), vo 94]) [vl 448545973363, vi 0, vi 9] dX10_readOne_150 ml_X10_252 (go_89) rfl (Nat.le_of_ble_eq_true rfl) (Nat.le_of_ble_eq_true rfl) (z_post H (fun r G1 h7 q => ?_))
  obtain ⟨y8, rfl, rfl, H⟩ := q
  show zAt E (d + 1) 0 0 m_X10_readOne 153 [vo 89, vl x1, vn, vi x3] [vi y8, vi (hI h6 89 24), vo 94] g0 h7 (zPv Q)
  obtain ⟨hb9, H⟩ := H
  refine a_iastore (pc := 153) dX10_readOne_153 (ga_94) hb9 ?_
  have H := H _ rfl
  generalize stI h7 94 (hI h6 89 24).toNat y8 = h10 at H ⊢
  refine a_aload_n (pc := 154) dX10_readOne_154 rfl ?_
  refine a_getF (pc := 155) dX10_readOne_155 fl_X10_30 (go_89) (gf_89_14) ?_
  refine a_aload_n (pc := 158) dX10_readOne_158 rfl ?_
  refine a_getI (pc := 159) dX10_readOne_159 fl_X10_241 (go_89) ?_
  refine a_aload_n (pc := 162) dX10_readOne_162 rfl ?_
  refine a_ldc2 (pc := 163) dX10_readOne_163 cl_X10_209 (by decide) ?_
  refine a_iconst (pc := 166) dX10_readOne_166 (by decide) ?_
  refine a_bipush (pc := 167) dX10_readOne_167 (by decide) ?_
  refine a_callV (pc := 169) (kc := 0) (ks := 0) (kc' := 0) (ks' := 0) (st := [vi (hI h10 89 24), vo 95]) [vl 1919513451, vi 0, vi 99] dX10_readOne_169 ml_X10_252 (go_89) rfl (Nat.le_of_ble_eq_true rfl) (Nat.le_of_ble_eq_true rfl) (z_post H (fun r G1 h11 q => ?_))
  obtain ⟨y12, rfl, rfl, H⟩ := q
  show zAt E (d + 1) 0 0 m_X10_readOne 172 [vo 89, vl x1, vn, vi x3] [vi y12, vi (hI h10 89 24), vo 95] g0 h11 (zPv Q)
  obtain ⟨hb13, H⟩ := H
  refine a_iastore (pc := 172) dX10_readOne_172 (ga_95) hb13 ?_
  have H := H _ rfl
  generalize stI h11 95 (hI h10 89 24).toNat y12 = h14 at H ⊢
  refine a_aload_n (pc := 173) dX10_readOne_173 rfl ?_
  refine a_getF (pc := 174) dX10_readOne_174 fl_X10_33 (go_89) (gf_89_15) ?_
  refine a_aload_n (pc := 177) dX10_readOne_177 rfl ?_
  refine a_getI (pc := 178) dX10_readOne_178 fl_X10_241 (go_89) ?_
  refine a_aload_n (pc := 181) dX10_readOne_181 rfl ?_
  refine a_ldc2 (pc := 182) dX10_readOne_182 cl_X10_211 (by decide) ?_
  refine a_iconst (pc := 185) dX10_readOne_185 (by decide) ?_
  refine a_sipush (pc := 186) dX10_readOne_186 (by decide) ?_
  refine a_callV (pc := 189) (kc := 0) (ks := 0) (kc' := 0) (ks' := 0) (st := [vi (hI h14 89 24), vo 96]) [vl 461262647411, vi 0, vi 999] dX10_readOne_189 ml_X10_252 (go_89) rfl (Nat.le_of_ble_eq_true rfl) (Nat.le_of_ble_eq_true rfl) (z_post H (fun r G1 h15 q => ?_))
  obtain ⟨y16, rfl, rfl, H⟩ := q
  show zAt E (d + 1) 0 0 m_X10_readOne 192 [vo 89, vl x1, vn, vi x3] [vi y16, vi (hI h14 89 24), vo 96] g0 h15 (zPv Q)
  obtain ⟨hb17, H⟩ := H
  refine a_iastore (pc := 192) dX10_readOne_192 (ga_96) hb17 ?_
  have H := H _ rfl
  generalize stI h15 96 (hI h14 89 24).toNat y16 = h18 at H ⊢
  refine a_aload_n (pc := 193) dX10_readOne_193 rfl ?_
  refine a_getF (pc := 194) dX10_readOne_194 fl_X10_17 (go_89) (gf_89_10) ?_
  refine a_aload_n (pc := 197) dX10_readOne_197 rfl ?_
  refine a_getI (pc := 198) dX10_readOne_198 fl_X10_241 (go_89) ?_
  refine a_lload_n (pc := 201) dX10_readOne_201 rfl ?_
  obtain ⟨hb19, H⟩ := H
  refine a_lastore (pc := 202) dX10_readOne_202 (ga_91) hb19 ?_
  have H := H _ rfl
  generalize stL h18 91 (hI h18 89 24).toNat x1 = h20 at H ⊢
  refine a_aload_n (pc := 203) dX10_readOne_203 rfl ?_
  refine a_getI (pc := 204) dX10_readOne_204 fl_X10_194 (go_89) ?_
  refine a_if_ne (pc := 207) (tgt := 220) dX10_readOne_207 (by decide) (fun c => ?_) (fun c => ?_)
  · have H := H.1 c
    exact z_forget (ls' := [vn, vn, vn, vn]) ⟨.inl rfl, .inl rfl, .inr rfl, .inl rfl, trivial⟩ H
  · have H := H.2 c
    refine a_aload_n (pc := 210) dX10_readOne_210 rfl ?_
    refine a_dup (pc := 211) dX10_readOne_211 rfl ?_
    refine a_getI (pc := 212) dX10_readOne_212 fl_X10_241 (go_89) ?_
    refine a_iconst (pc := 215) dX10_readOne_215 (by decide) ?_
    refine a_iadd (pc := 216) dX10_readOne_216 ?_
    refine a_putI (pc := 217) dX10_readOne_217 fl_X10_241 (go_89) ?_
    have H := H _ rfl
    generalize stI h20 89 24 (w32 ((hI h20 89 24) + 1)) = h21 at H ⊢
    exact z_forget (ls' := [vn, vn, vn, vn]) ⟨.inl rfl, .inl rfl, .inr rfl, .inl rfl, trivial⟩ H
set_option maxRecDepth 20000 in
theorem r_X10_readOne_220 {E : zE} {d : Nat} {h : zS} {Q : zS → Prop}   (H : Q h) : zWv E (d + 1) m_X10_readOne 220 [vn, vn, vn, vn] h Q := by
  exact a_return (pc := 220) dX10_readOne_220 trivial ⟨rfl, rfl, H⟩
set_option maxRecDepth 20000 in
theorem v_X10_readGives {E : zE} {d : Nat} {h : zS} {Q : zS → Prop}   (H : zCv E d m_X10_token [vo 89] h (fun h1 => zCi E d m_X10_old [vo 89] h1 (fun y3 h2 => (((hI h2 89 2) ≤ 0 → (zCi E d m_X10_find [vo 89] h2 (fun y5 h4 => zCi E d m_X10_isName [vo 89] h4 (fun y7 h6 => ((y7 = 0 → (zCi E d m_X10_old [vo 89] h6 (fun y9 h8 => zCi E d m_X10_told [vo 89, vl 499850634611, vi 1, vi 9] h8 (fun y11 h10 => (((hI h10 89 2) ≤ 0 → ((0 ≤ w32 ((w32 (12 * y3)) + y9) ∧ w32 ((w32 (12 * y3)) + y9) < 144) ∧ ∀ h13, h13 = stI h10 97 (w32 ((w32 (12 * y3)) + y9)).toNat y11 → ∀ h14, h14 = stI h13 89 25 (w32 ((hI h13 89 25) + 1)) → Q h14)) ∧ (0 < (hI h10 89 2) → (Q h10))))))) ∧ (y7 ≠ 0 → ((y5 < 0 → (zCi E d m_X10_old [vo 89] h6 (fun y16 h15 => zCi E d m_X10_told [vo 89, vl 499850634611, vi 1, vi 9] h15 (fun y18 h17 => (((hI h17 89 2) ≤ 0 → ((0 ≤ w32 ((w32 (12 * y3)) + y16) ∧ w32 ((w32 (12 * y3)) + y16) < 144) ∧ ∀ h20, h20 = stI h17 97 (w32 ((w32 (12 * y3)) + y16)).toNat y18 → ∀ h21, h21 = stI h20 89 25 (w32 ((hI h20 89 25) + 1)) → Q h21)) ∧ (0 < (hI h17 89 2) → (Q h17))))))) ∧ (0 ≤ y5 → ((y3 = y5 → (zCv E d m_X10_wrong [vo 89, vi 3] h6 (fun h22 => zCi E d m_X10_old [vo 89] h22 (fun y24 h23 => zCi E d m_X10_told [vo 89, vl 499850634611, vi 1, vi 9] h23 (fun y26 h25 => (((hI h25 89 2) ≤ 0 → ((0 ≤ w32 ((w32 (12 * y3)) + y24) ∧ w32 ((w32 (12 * y3)) + y24) < 144) ∧ ∀ h28, h28 = stI h25 97 (w32 ((w32 (12 * y3)) + y24)).toNat y26 → ∀ h29, h29 = stI h28 89 25 (w32 ((hI h28 89 25) + 1)) → Q h29)) ∧ (0 < (hI h25 89 2) → (Q h25)))))))) ∧ (y3 ≠ y5 → ((0 ≤ w32 ((w32 (12 * y3)) + y5) ∧ w32 ((w32 (12 * y3)) + y5) < 144) ∧ (((hI h6 97 (w32 ((w32 (12 * y3)) + y5)).toNat) ≤ 0 → (zCi E d m_X10_old [vo 89] h6 (fun y32 h31 => zCi E d m_X10_told [vo 89, vl 499850634611, vi 1, vi 9] h31 (fun y34 h33 => (((hI h33 89 2) ≤ 0 → ((0 ≤ w32 ((w32 (12 * y3)) + y32) ∧ w32 ((w32 (12 * y3)) + y32) < 144) ∧ ∀ h36, h36 = stI h33 97 (w32 ((w32 (12 * y3)) + y32)).toNat y34 → ∀ h37, h37 = stI h36 89 25 (w32 ((hI h36 89 25) + 1)) → Q h37)) ∧ (0 < (hI h33 89 2) → (Q h33))))))) ∧ (0 < (hI h6 97 (w32 ((w32 (12 * y3)) + y5)).toNat) → (zCv E d m_X10_wrong [vo 89, vi 3] h6 (fun h38 => zCi E d m_X10_old [vo 89] h38 (fun y40 h39 => zCi E d m_X10_told [vo 89, vl 499850634611, vi 1, vi 9] h39 (fun y42 h41 => (((hI h41 89 2) ≤ 0 → ((0 ≤ w32 ((w32 (12 * y3)) + y40) ∧ w32 ((w32 (12 * y3)) + y40) < 144) ∧ ∀ h44, h44 = stI h41 97 (w32 ((w32 (12 * y3)) + y40)).toNat y42 → ∀ h45, h45 = stI h44 89 25 (w32 ((hI h44 89 25) + 1)) → Q h45)) ∧ (0 < (hI h41 89 2) → (Q h41)))))))))))))))))))) ∧ (0 < (hI h2 89 2) → (Q h2)))))) : zCv E (d + 1) m_X10_readGives [vo 89] h Q := by
  show zAt E (d + 1) 0 0 m_X10_readGives 0 [vo 89, vn, vn, vn] [] g0 h (zPv Q)
  refine a_aload_n (pc := 0) dX10_readGives_0 rfl ?_
  refine a_callV (pc := 1) (kc := 0) (ks := 0) (kc' := 0) (ks' := 0) (st := []) [] dX10_readGives_1 ml_X10_230 (go_89) rfl (Nat.le_of_ble_eq_true rfl) (Nat.le_of_ble_eq_true rfl) (z_post H (fun r G1 h1 q => ?_))
  obtain ⟨rfl, rfl, H⟩ := q
  show zAt E (d + 1) 0 0 m_X10_readGives 4 [vo 89, vn, vn, vn] [] g0 h1 (zPv Q)
  refine a_aload_n (pc := 4) dX10_readGives_4 rfl ?_
  refine a_callV (pc := 5) (kc := 0) (ks := 0) (kc' := 0) (ks' := 0) (st := []) [] dX10_readGives_5 ml_X10_256 (go_89) rfl (Nat.le_of_ble_eq_true rfl) (Nat.le_of_ble_eq_true rfl) (z_post H (fun r G1 h2 q => ?_))
  obtain ⟨y3, rfl, rfl, H⟩ := q
  show zAt E (d + 1) 0 0 m_X10_readGives 8 [vo 89, vn, vn, vn] [vi y3] g0 h2 (zPv Q)
  refine a_istore_n (pc := 8) (ls' := [vo 89, vi y3, vn, vn]) dX10_readGives_8 rfl rfl ?_
  refine a_aload_n (pc := 9) dX10_readGives_9 rfl ?_
  refine a_getI (pc := 10) dX10_readGives_10 fl_X10_194 (go_89) ?_
  refine a_if_le (pc := 13) (tgt := 17) dX10_readGives_13 (by decide) (fun c => ?_) (fun c => ?_)
  · have H := H.1 c
    refine a_aload_n (pc := 17) dX10_readGives_17 rfl ?_
    refine a_callV (pc := 18) (kc := 0) (ks := 0) (kc' := 0) (ks' := 0) (st := []) [] dX10_readGives_18 ml_X10_244 (go_89) rfl (Nat.le_of_ble_eq_true rfl) (Nat.le_of_ble_eq_true rfl) (z_post H (fun r G1 h4 q => ?_))
    obtain ⟨y5, rfl, rfl, H⟩ := q
    show zAt E (d + 1) 0 0 m_X10_readGives 21 [vo 89, vi y3, vn, vn] [vi y5] g0 h4 (zPv Q)
    refine a_istore_n (pc := 21) (ls' := [vo 89, vi y3, vi y5, vn]) dX10_readGives_21 rfl rfl ?_
    refine a_aload_n (pc := 22) dX10_readGives_22 rfl ?_
    refine a_callV (pc := 23) (kc := 0) (ks := 0) (kc' := 0) (ks' := 0) (st := []) [] dX10_readGives_23 ml_X10_248 (go_89) rfl (Nat.le_of_ble_eq_true rfl) (Nat.le_of_ble_eq_true rfl) (z_post H (fun r G1 h6 q => ?_))
    obtain ⟨y7, rfl, rfl, H⟩ := q
    show zAt E (d + 1) 0 0 m_X10_readGives 26 [vo 89, vi y3, vi y5, vn] [vi y7] g0 h6 (zPv Q)
    refine a_if_eq (pc := 26) (tgt := 57) dX10_readGives_26 (by decide) (fun c => ?_) (fun c => ?_)
    · have H := H.1 c
      refine a_aload_n (pc := 57) dX10_readGives_57 rfl ?_
      refine a_callV (pc := 58) (kc := 0) (ks := 0) (kc' := 0) (ks' := 0) (st := []) [] dX10_readGives_58 ml_X10_256 (go_89) rfl (Nat.le_of_ble_eq_true rfl) (Nat.le_of_ble_eq_true rfl) (z_post H (fun r G1 h8 q => ?_))
      obtain ⟨y9, rfl, rfl, H⟩ := q
      show zAt E (d + 1) 0 0 m_X10_readGives 61 [vo 89, vi y3, vi y5, vn] [vi y9] g0 h8 (zPv Q)
      refine a_istore_n (pc := 61) (ls' := [vo 89, vi y3, vi y9, vn]) dX10_readGives_61 rfl rfl ?_
      refine a_aload_n (pc := 62) dX10_readGives_62 rfl ?_
      refine a_ldc2 (pc := 63) dX10_readGives_63 cl_X10_215 (by decide) ?_
      refine a_iconst (pc := 66) dX10_readGives_66 (by decide) ?_
      refine a_bipush (pc := 67) dX10_readGives_67 (by decide) ?_
      refine a_callV (pc := 69) (kc := 0) (ks := 0) (kc' := 0) (ks' := 0) (st := []) [vl 499850634611, vi 1, vi 9] dX10_readGives_69 ml_X10_252 (go_89) rfl (Nat.le_of_ble_eq_true rfl) (Nat.le_of_ble_eq_true rfl) (z_post H (fun r G1 h10 q => ?_))
      obtain ⟨y11, rfl, rfl, H⟩ := q
      show zAt E (d + 1) 0 0 m_X10_readGives 72 [vo 89, vi y3, vi y9, vn] [vi y11] g0 h10 (zPv Q)
      refine a_istore_n (pc := 72) (ls' := [vo 89, vi y3, vi y9, vi y11]) dX10_readGives_72 rfl rfl ?_
      refine a_aload_n (pc := 73) dX10_readGives_73 rfl ?_
      refine a_getI (pc := 74) dX10_readGives_74 fl_X10_194 (go_89) ?_
      refine a_if_le (pc := 77) (tgt := 81) dX10_readGives_77 (by decide) (fun c => ?_) (fun c => ?_)
      · have H := H.1 c
        refine a_aload_n (pc := 81) dX10_readGives_81 rfl ?_
        refine a_getF (pc := 82) dX10_readGives_82 fl_X10_36 (go_89) (gf_89_16) ?_
        refine a_bipush (pc := 85) dX10_readGives_85 (by decide) ?_
        refine a_iload_n (pc := 87) dX10_readGives_87 rfl ?_
        refine a_imul (pc := 88) dX10_readGives_88 ?_
        refine a_iload_n (pc := 89) dX10_readGives_89 rfl ?_
        refine a_iadd (pc := 90) dX10_readGives_90 ?_
        refine a_iload_n (pc := 91) dX10_readGives_91 rfl ?_
        obtain ⟨hb12, H⟩ := H
        refine a_iastore (pc := 92) dX10_readGives_92 (ga_97) hb12 ?_
        have H := H _ rfl
        generalize stI h10 97 (w32 ((w32 (12 * y3)) + y9)).toNat y11 = h13 at H ⊢
        refine a_aload_n (pc := 93) dX10_readGives_93 rfl ?_
        refine a_dup (pc := 94) dX10_readGives_94 rfl ?_
        refine a_getI (pc := 95) dX10_readGives_95 fl_X10_259 (go_89) ?_
        refine a_iconst (pc := 98) dX10_readGives_98 (by decide) ?_
        refine a_iadd (pc := 99) dX10_readGives_99 ?_
        refine a_putI (pc := 100) dX10_readGives_100 fl_X10_259 (go_89) ?_
        have H := H _ rfl
        generalize stI h13 89 25 (w32 ((hI h13 89 25) + 1)) = h14 at H ⊢
        exact a_return (pc := 103) dX10_readGives_103 trivial ⟨rfl, rfl, H⟩
      · have H := H.2 c
        exact a_return (pc := 80) dX10_readGives_80 trivial ⟨rfl, rfl, H⟩
    · have H := H.2 c
      refine a_iload_n (pc := 29) dX10_readGives_29 rfl ?_
      refine a_if_lt (pc := 30) (tgt := 57) dX10_readGives_30 (by decide) (fun c => ?_) (fun c => ?_)
      · have H := H.1 c
        refine a_aload_n (pc := 57) dX10_readGives_57 rfl ?_
        refine a_callV (pc := 58) (kc := 0) (ks := 0) (kc' := 0) (ks' := 0) (st := []) [] dX10_readGives_58 ml_X10_256 (go_89) rfl (Nat.le_of_ble_eq_true rfl) (Nat.le_of_ble_eq_true rfl) (z_post H (fun r G1 h15 q => ?_))
        obtain ⟨y16, rfl, rfl, H⟩ := q
        show zAt E (d + 1) 0 0 m_X10_readGives 61 [vo 89, vi y3, vi y5, vn] [vi y16] g0 h15 (zPv Q)
        refine a_istore_n (pc := 61) (ls' := [vo 89, vi y3, vi y16, vn]) dX10_readGives_61 rfl rfl ?_
        refine a_aload_n (pc := 62) dX10_readGives_62 rfl ?_
        refine a_ldc2 (pc := 63) dX10_readGives_63 cl_X10_215 (by decide) ?_
        refine a_iconst (pc := 66) dX10_readGives_66 (by decide) ?_
        refine a_bipush (pc := 67) dX10_readGives_67 (by decide) ?_
        refine a_callV (pc := 69) (kc := 0) (ks := 0) (kc' := 0) (ks' := 0) (st := []) [vl 499850634611, vi 1, vi 9] dX10_readGives_69 ml_X10_252 (go_89) rfl (Nat.le_of_ble_eq_true rfl) (Nat.le_of_ble_eq_true rfl) (z_post H (fun r G1 h17 q => ?_))
        obtain ⟨y18, rfl, rfl, H⟩ := q
        show zAt E (d + 1) 0 0 m_X10_readGives 72 [vo 89, vi y3, vi y16, vn] [vi y18] g0 h17 (zPv Q)
        refine a_istore_n (pc := 72) (ls' := [vo 89, vi y3, vi y16, vi y18]) dX10_readGives_72 rfl rfl ?_
        refine a_aload_n (pc := 73) dX10_readGives_73 rfl ?_
        refine a_getI (pc := 74) dX10_readGives_74 fl_X10_194 (go_89) ?_
        refine a_if_le (pc := 77) (tgt := 81) dX10_readGives_77 (by decide) (fun c => ?_) (fun c => ?_)
        · have H := H.1 c
          refine a_aload_n (pc := 81) dX10_readGives_81 rfl ?_
          refine a_getF (pc := 82) dX10_readGives_82 fl_X10_36 (go_89) (gf_89_16) ?_
          refine a_bipush (pc := 85) dX10_readGives_85 (by decide) ?_
          refine a_iload_n (pc := 87) dX10_readGives_87 rfl ?_
          refine a_imul (pc := 88) dX10_readGives_88 ?_
          refine a_iload_n (pc := 89) dX10_readGives_89 rfl ?_
          refine a_iadd (pc := 90) dX10_readGives_90 ?_
          refine a_iload_n (pc := 91) dX10_readGives_91 rfl ?_
          obtain ⟨hb19, H⟩ := H
          refine a_iastore (pc := 92) dX10_readGives_92 (ga_97) hb19 ?_
          have H := H _ rfl
          generalize stI h17 97 (w32 ((w32 (12 * y3)) + y16)).toNat y18 = h20 at H ⊢
          refine a_aload_n (pc := 93) dX10_readGives_93 rfl ?_
          refine a_dup (pc := 94) dX10_readGives_94 rfl ?_
          refine a_getI (pc := 95) dX10_readGives_95 fl_X10_259 (go_89) ?_
          refine a_iconst (pc := 98) dX10_readGives_98 (by decide) ?_
          refine a_iadd (pc := 99) dX10_readGives_99 ?_
          refine a_putI (pc := 100) dX10_readGives_100 fl_X10_259 (go_89) ?_
          have H := H _ rfl
          generalize stI h20 89 25 (w32 ((hI h20 89 25) + 1)) = h21 at H ⊢
          exact a_return (pc := 103) dX10_readGives_103 trivial ⟨rfl, rfl, H⟩
        · have H := H.2 c
          exact a_return (pc := 80) dX10_readGives_80 trivial ⟨rfl, rfl, H⟩
      · have H := H.2 c
        refine a_iload_n (pc := 33) dX10_readGives_33 rfl ?_
        refine a_iload_n (pc := 34) dX10_readGives_34 rfl ?_
        refine a_icmp_eq (pc := 35) (tgt := 52) dX10_readGives_35 (by decide) (fun c => ?_) (fun c => ?_)
        · have H := H.1 c
          refine a_aload_n (pc := 52) dX10_readGives_52 rfl ?_
          refine a_iconst (pc := 53) dX10_readGives_53 (by decide) ?_
          refine a_callV (pc := 54) (kc := 0) (ks := 0) (kc' := 0) (ks' := 0) (st := []) [vi 3] dX10_readGives_54 ml_X10_227 (go_89) rfl (Nat.le_of_ble_eq_true rfl) (Nat.le_of_ble_eq_true rfl) (z_post H (fun r G1 h22 q => ?_))
          obtain ⟨rfl, rfl, H⟩ := q
          show zAt E (d + 1) 0 0 m_X10_readGives 57 [vo 89, vi y3, vi y5, vn] [] g0 h22 (zPv Q)
          refine a_aload_n (pc := 57) dX10_readGives_57 rfl ?_
          refine a_callV (pc := 58) (kc := 0) (ks := 0) (kc' := 0) (ks' := 0) (st := []) [] dX10_readGives_58 ml_X10_256 (go_89) rfl (Nat.le_of_ble_eq_true rfl) (Nat.le_of_ble_eq_true rfl) (z_post H (fun r G1 h23 q => ?_))
          obtain ⟨y24, rfl, rfl, H⟩ := q
          show zAt E (d + 1) 0 0 m_X10_readGives 61 [vo 89, vi y3, vi y5, vn] [vi y24] g0 h23 (zPv Q)
          refine a_istore_n (pc := 61) (ls' := [vo 89, vi y3, vi y24, vn]) dX10_readGives_61 rfl rfl ?_
          refine a_aload_n (pc := 62) dX10_readGives_62 rfl ?_
          refine a_ldc2 (pc := 63) dX10_readGives_63 cl_X10_215 (by decide) ?_
          refine a_iconst (pc := 66) dX10_readGives_66 (by decide) ?_
          refine a_bipush (pc := 67) dX10_readGives_67 (by decide) ?_
          refine a_callV (pc := 69) (kc := 0) (ks := 0) (kc' := 0) (ks' := 0) (st := []) [vl 499850634611, vi 1, vi 9] dX10_readGives_69 ml_X10_252 (go_89) rfl (Nat.le_of_ble_eq_true rfl) (Nat.le_of_ble_eq_true rfl) (z_post H (fun r G1 h25 q => ?_))
          obtain ⟨y26, rfl, rfl, H⟩ := q
          show zAt E (d + 1) 0 0 m_X10_readGives 72 [vo 89, vi y3, vi y24, vn] [vi y26] g0 h25 (zPv Q)
          refine a_istore_n (pc := 72) (ls' := [vo 89, vi y3, vi y24, vi y26]) dX10_readGives_72 rfl rfl ?_
          refine a_aload_n (pc := 73) dX10_readGives_73 rfl ?_
          refine a_getI (pc := 74) dX10_readGives_74 fl_X10_194 (go_89) ?_
          refine a_if_le (pc := 77) (tgt := 81) dX10_readGives_77 (by decide) (fun c => ?_) (fun c => ?_)
          · have H := H.1 c
            refine a_aload_n (pc := 81) dX10_readGives_81 rfl ?_
            refine a_getF (pc := 82) dX10_readGives_82 fl_X10_36 (go_89) (gf_89_16) ?_
            refine a_bipush (pc := 85) dX10_readGives_85 (by decide) ?_
            refine a_iload_n (pc := 87) dX10_readGives_87 rfl ?_
            refine a_imul (pc := 88) dX10_readGives_88 ?_
            refine a_iload_n (pc := 89) dX10_readGives_89 rfl ?_
            refine a_iadd (pc := 90) dX10_readGives_90 ?_
            refine a_iload_n (pc := 91) dX10_readGives_91 rfl ?_
            obtain ⟨hb27, H⟩ := H
            refine a_iastore (pc := 92) dX10_readGives_92 (ga_97) hb27 ?_
            have H := H _ rfl
            generalize stI h25 97 (w32 ((w32 (12 * y3)) + y24)).toNat y26 = h28 at H ⊢
            refine a_aload_n (pc := 93) dX10_readGives_93 rfl ?_
            refine a_dup (pc := 94) dX10_readGives_94 rfl ?_
            refine a_getI (pc := 95) dX10_readGives_95 fl_X10_259 (go_89) ?_
            refine a_iconst (pc := 98) dX10_readGives_98 (by decide) ?_
            refine a_iadd (pc := 99) dX10_readGives_99 ?_
            refine a_putI (pc := 100) dX10_readGives_100 fl_X10_259 (go_89) ?_
            have H := H _ rfl
            generalize stI h28 89 25 (w32 ((hI h28 89 25) + 1)) = h29 at H ⊢
            exact a_return (pc := 103) dX10_readGives_103 trivial ⟨rfl, rfl, H⟩
          · have H := H.2 c
            exact a_return (pc := 80) dX10_readGives_80 trivial ⟨rfl, rfl, H⟩
        · have H := H.2 c
          refine a_aload_n (pc := 38) dX10_readGives_38 rfl ?_
          refine a_getF (pc := 39) dX10_readGives_39 fl_X10_36 (go_89) (gf_89_16) ?_
          refine a_bipush (pc := 42) dX10_readGives_42 (by decide) ?_
          refine a_iload_n (pc := 44) dX10_readGives_44 rfl ?_
          refine a_imul (pc := 45) dX10_readGives_45 ?_
          refine a_iload_n (pc := 46) dX10_readGives_46 rfl ?_
          refine a_iadd (pc := 47) dX10_readGives_47 ?_
          obtain ⟨hb30, H⟩ := H
          refine a_iaload (pc := 48) dX10_readGives_48 (ga_97) hb30 ?_
          refine a_if_le (pc := 49) (tgt := 57) dX10_readGives_49 (by decide) (fun c => ?_) (fun c => ?_)
          · have H := H.1 c
            refine a_aload_n (pc := 57) dX10_readGives_57 rfl ?_
            refine a_callV (pc := 58) (kc := 0) (ks := 0) (kc' := 0) (ks' := 0) (st := []) [] dX10_readGives_58 ml_X10_256 (go_89) rfl (Nat.le_of_ble_eq_true rfl) (Nat.le_of_ble_eq_true rfl) (z_post H (fun r G1 h31 q => ?_))
            obtain ⟨y32, rfl, rfl, H⟩ := q
            show zAt E (d + 1) 0 0 m_X10_readGives 61 [vo 89, vi y3, vi y5, vn] [vi y32] g0 h31 (zPv Q)
            refine a_istore_n (pc := 61) (ls' := [vo 89, vi y3, vi y32, vn]) dX10_readGives_61 rfl rfl ?_
            refine a_aload_n (pc := 62) dX10_readGives_62 rfl ?_
            refine a_ldc2 (pc := 63) dX10_readGives_63 cl_X10_215 (by decide) ?_
            refine a_iconst (pc := 66) dX10_readGives_66 (by decide) ?_
            refine a_bipush (pc := 67) dX10_readGives_67 (by decide) ?_
            refine a_callV (pc := 69) (kc := 0) (ks := 0) (kc' := 0) (ks' := 0) (st := []) [vl 499850634611, vi 1, vi 9] dX10_readGives_69 ml_X10_252 (go_89) rfl (Nat.le_of_ble_eq_true rfl) (Nat.le_of_ble_eq_true rfl) (z_post H (fun r G1 h33 q => ?_))
            obtain ⟨y34, rfl, rfl, H⟩ := q
            show zAt E (d + 1) 0 0 m_X10_readGives 72 [vo 89, vi y3, vi y32, vn] [vi y34] g0 h33 (zPv Q)
            refine a_istore_n (pc := 72) (ls' := [vo 89, vi y3, vi y32, vi y34]) dX10_readGives_72 rfl rfl ?_
            refine a_aload_n (pc := 73) dX10_readGives_73 rfl ?_
            refine a_getI (pc := 74) dX10_readGives_74 fl_X10_194 (go_89) ?_
            refine a_if_le (pc := 77) (tgt := 81) dX10_readGives_77 (by decide) (fun c => ?_) (fun c => ?_)
            · have H := H.1 c
              refine a_aload_n (pc := 81) dX10_readGives_81 rfl ?_
              refine a_getF (pc := 82) dX10_readGives_82 fl_X10_36 (go_89) (gf_89_16) ?_
              refine a_bipush (pc := 85) dX10_readGives_85 (by decide) ?_
              refine a_iload_n (pc := 87) dX10_readGives_87 rfl ?_
              refine a_imul (pc := 88) dX10_readGives_88 ?_
              refine a_iload_n (pc := 89) dX10_readGives_89 rfl ?_
              refine a_iadd (pc := 90) dX10_readGives_90 ?_
              refine a_iload_n (pc := 91) dX10_readGives_91 rfl ?_
              obtain ⟨hb35, H⟩ := H
              refine a_iastore (pc := 92) dX10_readGives_92 (ga_97) hb35 ?_
              have H := H _ rfl
              generalize stI h33 97 (w32 ((w32 (12 * y3)) + y32)).toNat y34 = h36 at H ⊢
              refine a_aload_n (pc := 93) dX10_readGives_93 rfl ?_
              refine a_dup (pc := 94) dX10_readGives_94 rfl ?_
              refine a_getI (pc := 95) dX10_readGives_95 fl_X10_259 (go_89) ?_
              refine a_iconst (pc := 98) dX10_readGives_98 (by decide) ?_
              refine a_iadd (pc := 99) dX10_readGives_99 ?_
              refine a_putI (pc := 100) dX10_readGives_100 fl_X10_259 (go_89) ?_
              have H := H _ rfl
              generalize stI h36 89 25 (w32 ((hI h36 89 25) + 1)) = h37 at H ⊢
              exact a_return (pc := 103) dX10_readGives_103 trivial ⟨rfl, rfl, H⟩
            · have H := H.2 c
              exact a_return (pc := 80) dX10_readGives_80 trivial ⟨rfl, rfl, H⟩
          · have H := H.2 c
            refine a_aload_n (pc := 52) dX10_readGives_52 rfl ?_
            refine a_iconst (pc := 53) dX10_readGives_53 (by decide) ?_
            refine a_callV (pc := 54) (kc := 0) (ks := 0) (kc' := 0) (ks' := 0) (st := []) [vi 3] dX10_readGives_54 ml_X10_227 (go_89) rfl (Nat.le_of_ble_eq_true rfl) (Nat.le_of_ble_eq_true rfl) (z_post H (fun r G1 h38 q => ?_))
            obtain ⟨rfl, rfl, H⟩ := q
            show zAt E (d + 1) 0 0 m_X10_readGives 57 [vo 89, vi y3, vi y5, vn] [] g0 h38 (zPv Q)
            refine a_aload_n (pc := 57) dX10_readGives_57 rfl ?_
            refine a_callV (pc := 58) (kc := 0) (ks := 0) (kc' := 0) (ks' := 0) (st := []) [] dX10_readGives_58 ml_X10_256 (go_89) rfl (Nat.le_of_ble_eq_true rfl) (Nat.le_of_ble_eq_true rfl) (z_post H (fun r G1 h39 q => ?_))
            obtain ⟨y40, rfl, rfl, H⟩ := q
            show zAt E (d + 1) 0 0 m_X10_readGives 61 [vo 89, vi y3, vi y5, vn] [vi y40] g0 h39 (zPv Q)
            refine a_istore_n (pc := 61) (ls' := [vo 89, vi y3, vi y40, vn]) dX10_readGives_61 rfl rfl ?_
            refine a_aload_n (pc := 62) dX10_readGives_62 rfl ?_
            refine a_ldc2 (pc := 63) dX10_readGives_63 cl_X10_215 (by decide) ?_
            refine a_iconst (pc := 66) dX10_readGives_66 (by decide) ?_
            refine a_bipush (pc := 67) dX10_readGives_67 (by decide) ?_
            refine a_callV (pc := 69) (kc := 0) (ks := 0) (kc' := 0) (ks' := 0) (st := []) [vl 499850634611, vi 1, vi 9] dX10_readGives_69 ml_X10_252 (go_89) rfl (Nat.le_of_ble_eq_true rfl) (Nat.le_of_ble_eq_true rfl) (z_post H (fun r G1 h41 q => ?_))
            obtain ⟨y42, rfl, rfl, H⟩ := q
            show zAt E (d + 1) 0 0 m_X10_readGives 72 [vo 89, vi y3, vi y40, vn] [vi y42] g0 h41 (zPv Q)
            refine a_istore_n (pc := 72) (ls' := [vo 89, vi y3, vi y40, vi y42]) dX10_readGives_72 rfl rfl ?_
            refine a_aload_n (pc := 73) dX10_readGives_73 rfl ?_
            refine a_getI (pc := 74) dX10_readGives_74 fl_X10_194 (go_89) ?_
            refine a_if_le (pc := 77) (tgt := 81) dX10_readGives_77 (by decide) (fun c => ?_) (fun c => ?_)
            · have H := H.1 c
              refine a_aload_n (pc := 81) dX10_readGives_81 rfl ?_
              refine a_getF (pc := 82) dX10_readGives_82 fl_X10_36 (go_89) (gf_89_16) ?_
              refine a_bipush (pc := 85) dX10_readGives_85 (by decide) ?_
              refine a_iload_n (pc := 87) dX10_readGives_87 rfl ?_
              refine a_imul (pc := 88) dX10_readGives_88 ?_
              refine a_iload_n (pc := 89) dX10_readGives_89 rfl ?_
              refine a_iadd (pc := 90) dX10_readGives_90 ?_
              refine a_iload_n (pc := 91) dX10_readGives_91 rfl ?_
              obtain ⟨hb43, H⟩ := H
              refine a_iastore (pc := 92) dX10_readGives_92 (ga_97) hb43 ?_
              have H := H _ rfl
              generalize stI h41 97 (w32 ((w32 (12 * y3)) + y40)).toNat y42 = h44 at H ⊢
              refine a_aload_n (pc := 93) dX10_readGives_93 rfl ?_
              refine a_dup (pc := 94) dX10_readGives_94 rfl ?_
              refine a_getI (pc := 95) dX10_readGives_95 fl_X10_259 (go_89) ?_
              refine a_iconst (pc := 98) dX10_readGives_98 (by decide) ?_
              refine a_iadd (pc := 99) dX10_readGives_99 ?_
              refine a_putI (pc := 100) dX10_readGives_100 fl_X10_259 (go_89) ?_
              have H := H _ rfl
              generalize stI h44 89 25 (w32 ((hI h44 89 25) + 1)) = h45 at H ⊢
              exact a_return (pc := 103) dX10_readGives_103 trivial ⟨rfl, rfl, H⟩
            · have H := H.2 c
              exact a_return (pc := 80) dX10_readGives_80 trivial ⟨rfl, rfl, H⟩
  · have H := H.2 c
    exact a_return (pc := 16) dX10_readGives_16 trivial ⟨rfl, rfl, H⟩
set_option maxRecDepth 20000 in
theorem v_X10_readOld {E : zE} {d : Nat} {h : zS} {Q : Int → zS → Prop}   (H : zCv E d m_X10_token [vo 89] h (fun h1 => zCi E d m_X10_old [vo 89] h1 (fun y3 h2 => Q y3 h2))) : zCi E (d + 1) m_X10_readOld [vo 89] h Q := by
  show zAt E (d + 1) 0 0 m_X10_readOld 0 [vo 89] [] g0 h (zPi Q)
  refine a_aload_n (pc := 0) dX10_readOld_0 rfl ?_
  refine a_callV (pc := 1) (kc := 0) (ks := 0) (kc' := 0) (ks' := 0) (st := []) [] dX10_readOld_1 ml_X10_230 (go_89) rfl (Nat.le_of_ble_eq_true rfl) (Nat.le_of_ble_eq_true rfl) (z_post H (fun r G1 h1 q => ?_))
  obtain ⟨rfl, rfl, H⟩ := q
  show zAt E (d + 1) 0 0 m_X10_readOld 4 [vo 89] [] g0 h1 (zPi Q)
  refine a_aload_n (pc := 4) dX10_readOld_4 rfl ?_
  refine a_callV (pc := 5) (kc := 0) (ks := 0) (kc' := 0) (ks' := 0) (st := []) [] dX10_readOld_5 ml_X10_256 (go_89) rfl (Nat.le_of_ble_eq_true rfl) (Nat.le_of_ble_eq_true rfl) (z_post H (fun r G1 h2 q => ?_))
  obtain ⟨y3, rfl, rfl, H⟩ := q
  show zAt E (d + 1) 0 0 m_X10_readOld 8 [vo 89] [vi y3] g0 h2 (zPi Q)
  exact a_ireturn (pc := 8) dX10_readOld_8 trivial ⟨_, rfl, rfl, H⟩
set_option maxRecDepth 20000 in
theorem v_X10_readLuck {E : zE} {d : Nat} {h : zS} {Q : zS → Prop}   (H : zCv E d m_X10_token [vo 89] h (fun h1 => zCi E d m_X10_toldNumber [vo 89, vi 0, vi 9] h1 (fun y3 h2 => ∀ h4, h4 = stI h2 89 28 y3 → Q h4))) : zCv E (d + 1) m_X10_readLuck [vo 89] h Q := by
  show zAt E (d + 1) 0 0 m_X10_readLuck 0 [vo 89] [] g0 h (zPv Q)
  refine a_aload_n (pc := 0) dX10_readLuck_0 rfl ?_
  refine a_callV (pc := 1) (kc := 0) (ks := 0) (kc' := 0) (ks' := 0) (st := []) [] dX10_readLuck_1 ml_X10_230 (go_89) rfl (Nat.le_of_ble_eq_true rfl) (Nat.le_of_ble_eq_true rfl) (z_post H (fun r G1 h1 q => ?_))
  obtain ⟨rfl, rfl, H⟩ := q
  show zAt E (d + 1) 0 0 m_X10_readLuck 4 [vo 89] [] g0 h1 (zPv Q)
  refine a_aload_n (pc := 4) dX10_readLuck_4 rfl ?_
  refine a_aload_n (pc := 5) dX10_readLuck_5 rfl ?_
  refine a_iconst (pc := 6) dX10_readLuck_6 (by decide) ?_
  refine a_bipush (pc := 7) dX10_readLuck_7 (by decide) ?_
  refine a_callV (pc := 9) (kc := 0) (ks := 0) (kc' := 0) (ks' := 0) (st := [vo 89]) [vi 0, vi 9] dX10_readLuck_9 ml_X10_237 (go_89) rfl (Nat.le_of_ble_eq_true rfl) (Nat.le_of_ble_eq_true rfl) (z_post H (fun r G1 h2 q => ?_))
  obtain ⟨y3, rfl, rfl, H⟩ := q
  show zAt E (d + 1) 0 0 m_X10_readLuck 12 [vo 89] [vi y3, vo 89] g0 h2 (zPv Q)
  refine a_putI (pc := 12) dX10_readLuck_12 fl_X10_262 (go_89) ?_
  have H := H _ rfl
  generalize stI h2 89 28 y3 = h4 at H ⊢
  exact a_return (pc := 15) dX10_readLuck_15 trivial ⟨rfl, rfl, H⟩
set_option maxRecDepth 20000 in
theorem v_X10_readLine {E : zE} {d : Nat} {h : zS} {Q : zS → Prop}   (H : zCi E d m_X10_isWord [vo 89, vl 7302757] h (fun y2 h1 => ((y2 = 0 → (zWv E (d + 1) m_X10_readLine 26 [vo 89] h1 Q)) ∧ (y2 ≠ 0 → ((12 ≤ (hI h1 89 24) → (zWv E (d + 1) m_X10_readLine 26 [vo 89] h1 Q)) ∧ ((hI h1 89 24) < 12 → (zCv E d m_X10_readOne [vo 89] h1 (fun h3 => zWv E (d + 1) m_X10_readLine 137 [vo 89] h3 Q)))))))) : zCv E (d + 1) m_X10_readLine [vo 89] h Q := by
  show zAt E (d + 1) 0 0 m_X10_readLine 0 [vo 89] [] g0 h (zPv Q)
  refine a_aload_n (pc := 0) dX10_readLine_0 rfl ?_
  refine a_ldc2 (pc := 1) dX10_readLine_1 cl_X10_197 (by decide) ?_
  refine a_callV (pc := 4) (kc := 0) (ks := 0) (kc' := 0) (ks' := 0) (st := []) [vl 7302757] dX10_readLine_4 ml_X10_223 (go_89) rfl (Nat.le_of_ble_eq_true rfl) (Nat.le_of_ble_eq_true rfl) (z_post H (fun r G1 h1 q => ?_))
  obtain ⟨y2, rfl, rfl, H⟩ := q
  show zAt E (d + 1) 0 0 m_X10_readLine 7 [vo 89] [vi y2] g0 h1 (zPv Q)
  refine a_if_eq (pc := 7) (tgt := 26) dX10_readLine_7 (by decide) (fun c => ?_) (fun c => ?_)
  · have H := H.1 c
    exact H
  · have H := H.2 c
    refine a_aload_n (pc := 10) dX10_readLine_10 rfl ?_
    refine a_getI (pc := 11) dX10_readLine_11 fl_X10_241 (go_89) ?_
    refine a_bipush (pc := 14) dX10_readLine_14 (by decide) ?_
    refine a_icmp_ge (pc := 16) (tgt := 26) dX10_readLine_16 (by decide) (fun c => ?_) (fun c => ?_)
    · have H := H.1 c
      exact H
    · have H := H.2 c
      refine a_aload_n (pc := 19) dX10_readLine_19 rfl ?_
      refine a_callV (pc := 20) (kc := 0) (ks := 0) (kc' := 0) (ks' := 0) (st := []) [] dX10_readLine_20 ml_X10_265 (go_89) rfl (Nat.le_of_ble_eq_true rfl) (Nat.le_of_ble_eq_true rfl) (z_post H (fun r G1 h3 q => ?_))
      obtain ⟨rfl, rfl, H⟩ := q
      show zAt E (d + 1) 0 0 m_X10_readLine 23 [vo 89] [] g0 h3 (zPv Q)
      refine a_goto (pc := 23) (tgt := 137) dX10_readLine_23 (by decide) ?_
      exact H
set_option maxRecDepth 20000 in
theorem r_X10_readLine_26 {E : zE} {d : Nat} {h : zS} {Q : zS → Prop}   (H : zCi E d m_X10_isWord [vo 89, vl 444150998387] h (fun y2 h1 => ((y2 = 0 → (zWv E (d + 1) m_X10_readLine 52 [vo 89] h1 Q)) ∧ (y2 ≠ 0 → ((30 ≤ (hI h1 89 25) → (zWv E (d + 1) m_X10_readLine 52 [vo 89] h1 Q)) ∧ ((hI h1 89 25) < 30 → (zCv E d m_X10_readGives [vo 89] h1 (fun h3 => zWv E (d + 1) m_X10_readLine 137 [vo 89] h3 Q)))))))) : zWv E (d + 1) m_X10_readLine 26 [vo 89] h Q := by
  refine a_aload_n (pc := 26) dX10_readLine_26 rfl ?_
  refine a_ldc2 (pc := 27) dX10_readLine_27 cl_X10_213 (by decide) ?_
  refine a_callV (pc := 30) (kc := 0) (ks := 0) (kc' := 0) (ks' := 0) (st := []) [vl 444150998387] dX10_readLine_30 ml_X10_223 (go_89) rfl (Nat.le_of_ble_eq_true rfl) (Nat.le_of_ble_eq_true rfl) (z_post H (fun r G1 h1 q => ?_))
  obtain ⟨y2, rfl, rfl, H⟩ := q
  show zAt E (d + 1) 0 0 m_X10_readLine 33 [vo 89] [vi y2] g0 h1 (zPv Q)
  refine a_if_eq (pc := 33) (tgt := 52) dX10_readLine_33 (by decide) (fun c => ?_) (fun c => ?_)
  · have H := H.1 c
    exact H
  · have H := H.2 c
    refine a_aload_n (pc := 36) dX10_readLine_36 rfl ?_
    refine a_getI (pc := 37) dX10_readLine_37 fl_X10_259 (go_89) ?_
    refine a_bipush (pc := 40) dX10_readLine_40 (by decide) ?_
    refine a_icmp_ge (pc := 42) (tgt := 52) dX10_readLine_42 (by decide) (fun c => ?_) (fun c => ?_)
    · have H := H.1 c
      exact H
    · have H := H.2 c
      refine a_aload_n (pc := 45) dX10_readLine_45 rfl ?_
      refine a_callV (pc := 46) (kc := 0) (ks := 0) (kc' := 0) (ks' := 0) (st := []) [] dX10_readLine_46 ml_X10_268 (go_89) rfl (Nat.le_of_ble_eq_true rfl) (Nat.le_of_ble_eq_true rfl) (z_post H (fun r G1 h3 q => ?_))
      obtain ⟨rfl, rfl, H⟩ := q
      show zAt E (d + 1) 0 0 m_X10_readLine 49 [vo 89] [] g0 h3 (zPv Q)
      refine a_goto (pc := 49) (tgt := 137) dX10_readLine_49 (by decide) ?_
      exact H
set_option maxRecDepth 20000 in
theorem r_X10_readLine_137 {E : zE} {d : Nat} {h : zS} {Q : zS → Prop}   (H : (((hI h 89 2) ≠ 0 → (zWv E (d + 1) m_X10_readLine 158 [vo 89] h Q)) ∧ ((hI h 89 2) = 0 → (((hI h 89 6) = 59 → (zWv E (d + 1) m_X10_readLine 158 [vo 89] h Q)) ∧ ((hI h 89 6) ≠ 59 → (zCv E d m_X10_wrong [vo 89, vi 2] h (fun h1 => zWv E (d + 1) m_X10_readLine 158 [vo 89] h1 Q))))))) : zWv E (d + 1) m_X10_readLine 137 [vo 89] h Q := by
  refine a_aload_n (pc := 137) dX10_readLine_137 rfl ?_
  refine a_getI (pc := 138) dX10_readLine_138 fl_X10_194 (go_89) ?_
  refine a_if_ne (pc := 141) (tgt := 158) dX10_readLine_141 (by decide) (fun c => ?_) (fun c => ?_)
  · have H := H.1 c
    exact H
  · have H := H.2 c
    refine a_aload_n (pc := 144) dX10_readLine_144 rfl ?_
    refine a_getI (pc := 145) dX10_readLine_145 fl_X10_184 (go_89) ?_
    refine a_bipush (pc := 148) dX10_readLine_148 (by decide) ?_
    refine a_icmp_eq (pc := 150) (tgt := 158) dX10_readLine_150 (by decide) (fun c => ?_) (fun c => ?_)
    · have H := H.1 c
      exact H
    · have H := H.2 c
      refine a_aload_n (pc := 153) dX10_readLine_153 rfl ?_
      refine a_iconst (pc := 154) dX10_readLine_154 (by decide) ?_
      refine a_callV (pc := 155) (kc := 0) (ks := 0) (kc' := 0) (ks' := 0) (st := []) [vi 2] dX10_readLine_155 ml_X10_227 (go_89) rfl (Nat.le_of_ble_eq_true rfl) (Nat.le_of_ble_eq_true rfl) (z_post H (fun r G1 h1 q => ?_))
      obtain ⟨rfl, rfl, H⟩ := q
      show zAt E (d + 1) 0 0 m_X10_readLine 158 [vo 89] [] g0 h1 (zPv Q)
      exact H
set_option maxRecDepth 20000 in
theorem r_X10_readLine_52 {E : zE} {d : Nat} {h : zS} {Q : zS → Prop}   (H : zCi E d m_X10_isWord [vo 89, vl 1718775661] h (fun y2 h1 => ((y2 = 0 → (zWv E (d + 1) m_X10_readLine 80 [vo 89] h1 Q)) ∧ (y2 ≠ 0 → ((0 ≤ (hI h1 89 26) → (zWv E (d + 1) m_X10_readLine 80 [vo 89] h1 Q)) ∧ ((hI h1 89 26) < 0 → (zCi E d m_X10_readOld [vo 89] h1 (fun y4 h3 => ∀ h5, h5 = stI h3 89 26 y4 → zWv E (d + 1) m_X10_readLine 137 [vo 89] h5 Q)))))))) : zWv E (d + 1) m_X10_readLine 52 [vo 89] h Q := by
  refine a_aload_n (pc := 52) dX10_readLine_52 rfl ?_
  refine a_ldc2 (pc := 53) dX10_readLine_53 cl_X10_217 (by decide) ?_
  refine a_callV (pc := 56) (kc := 0) (ks := 0) (kc' := 0) (ks' := 0) (st := []) [vl 1718775661] dX10_readLine_56 ml_X10_223 (go_89) rfl (Nat.le_of_ble_eq_true rfl) (Nat.le_of_ble_eq_true rfl) (z_post H (fun r G1 h1 q => ?_))
  obtain ⟨y2, rfl, rfl, H⟩ := q
  show zAt E (d + 1) 0 0 m_X10_readLine 59 [vo 89] [vi y2] g0 h1 (zPv Q)
  refine a_if_eq (pc := 59) (tgt := 80) dX10_readLine_59 (by decide) (fun c => ?_) (fun c => ?_)
  · have H := H.1 c
    exact H
  · have H := H.2 c
    refine a_aload_n (pc := 62) dX10_readLine_62 rfl ?_
    refine a_getI (pc := 63) dX10_readLine_63 fl_X10_271 (go_89) ?_
    refine a_if_ge (pc := 66) (tgt := 80) dX10_readLine_66 (by decide) (fun c => ?_) (fun c => ?_)
    · have H := H.1 c
      exact H
    · have H := H.2 c
      refine a_aload_n (pc := 69) dX10_readLine_69 rfl ?_
      refine a_aload_n (pc := 70) dX10_readLine_70 rfl ?_
      refine a_callV (pc := 71) (kc := 0) (ks := 0) (kc' := 0) (ks' := 0) (st := [vo 89]) [] dX10_readLine_71 ml_X10_274 (go_89) rfl (Nat.le_of_ble_eq_true rfl) (Nat.le_of_ble_eq_true rfl) (z_post H (fun r G1 h3 q => ?_))
      obtain ⟨y4, rfl, rfl, H⟩ := q
      show zAt E (d + 1) 0 0 m_X10_readLine 74 [vo 89] [vi y4, vo 89] g0 h3 (zPv Q)
      refine a_putI (pc := 74) dX10_readLine_74 fl_X10_271 (go_89) ?_
      have H := H _ rfl
      generalize stI h3 89 26 y4 = h5 at H ⊢
      refine a_goto (pc := 77) (tgt := 137) dX10_readLine_77 (by decide) ?_
      exact H
set_option maxRecDepth 20000 in
theorem r_X10_readLine_158 {E : zE} {d : Nat} {h : zS} {Q : zS → Prop}   (H : (((hI h 89 2) ≠ 0 → (zWv E (d + 1) m_X10_readLine 169 [vn] h Q)) ∧ ((hI h 89 2) = 0 → (zCv E d m_X10_token [vo 89] h (fun h1 => zWv E (d + 1) m_X10_readLine 169 [vn] h1 Q))))) : zWv E (d + 1) m_X10_readLine 158 [vo 89] h Q := by
  refine a_aload_n (pc := 158) dX10_readLine_158 rfl ?_
  refine a_getI (pc := 159) dX10_readLine_159 fl_X10_194 (go_89) ?_
  refine a_if_ne (pc := 162) (tgt := 169) dX10_readLine_162 (by decide) (fun c => ?_) (fun c => ?_)
  · have H := H.1 c
    exact z_forget (ls' := [vn]) ⟨.inl rfl, trivial⟩ H
  · have H := H.2 c
    refine a_aload_n (pc := 165) dX10_readLine_165 rfl ?_
    refine a_callV (pc := 166) (kc := 0) (ks := 0) (kc' := 0) (ks' := 0) (st := []) [] dX10_readLine_166 ml_X10_230 (go_89) rfl (Nat.le_of_ble_eq_true rfl) (Nat.le_of_ble_eq_true rfl) (z_post H (fun r G1 h1 q => ?_))
    obtain ⟨rfl, rfl, H⟩ := q
    show zAt E (d + 1) 0 0 m_X10_readLine 169 [vo 89] [] g0 h1 (zPv Q)
    exact z_forget (ls' := [vn]) ⟨.inl rfl, trivial⟩ H
set_option maxRecDepth 20000 in
theorem r_X10_readLine_80 {E : zE} {d : Nat} {h : zS} {Q : zS → Prop}   (H : zCi E d m_X10_isWord [vo 89, vl 29807] h (fun y2 h1 => ((y2 = 0 → (zWv E (d + 1) m_X10_readLine 108 [vo 89] h1 Q)) ∧ (y2 ≠ 0 → ((0 ≤ (hI h1 89 27) → (zWv E (d + 1) m_X10_readLine 108 [vo 89] h1 Q)) ∧ ((hI h1 89 27) < 0 → (zCi E d m_X10_readOld [vo 89] h1 (fun y4 h3 => ∀ h5, h5 = stI h3 89 27 y4 → zWv E (d + 1) m_X10_readLine 137 [vo 89] h5 Q)))))))) : zWv E (d + 1) m_X10_readLine 80 [vo 89] h Q := by
  refine a_aload_n (pc := 80) dX10_readLine_80 rfl ?_
  refine a_ldc2 (pc := 81) dX10_readLine_81 cl_X10_219 (by decide) ?_
  refine a_callV (pc := 84) (kc := 0) (ks := 0) (kc' := 0) (ks' := 0) (st := []) [vl 29807] dX10_readLine_84 ml_X10_223 (go_89) rfl (Nat.le_of_ble_eq_true rfl) (Nat.le_of_ble_eq_true rfl) (z_post H (fun r G1 h1 q => ?_))
  obtain ⟨y2, rfl, rfl, H⟩ := q
  show zAt E (d + 1) 0 0 m_X10_readLine 87 [vo 89] [vi y2] g0 h1 (zPv Q)
  refine a_if_eq (pc := 87) (tgt := 108) dX10_readLine_87 (by decide) (fun c => ?_) (fun c => ?_)
  · have H := H.1 c
    exact H
  · have H := H.2 c
    refine a_aload_n (pc := 90) dX10_readLine_90 rfl ?_
    refine a_getI (pc := 91) dX10_readLine_91 fl_X10_277 (go_89) ?_
    refine a_if_ge (pc := 94) (tgt := 108) dX10_readLine_94 (by decide) (fun c => ?_) (fun c => ?_)
    · have H := H.1 c
      exact H
    · have H := H.2 c
      refine a_aload_n (pc := 97) dX10_readLine_97 rfl ?_
      refine a_aload_n (pc := 98) dX10_readLine_98 rfl ?_
      refine a_callV (pc := 99) (kc := 0) (ks := 0) (kc' := 0) (ks' := 0) (st := [vo 89]) [] dX10_readLine_99 ml_X10_274 (go_89) rfl (Nat.le_of_ble_eq_true rfl) (Nat.le_of_ble_eq_true rfl) (z_post H (fun r G1 h3 q => ?_))
      obtain ⟨y4, rfl, rfl, H⟩ := q
      show zAt E (d + 1) 0 0 m_X10_readLine 102 [vo 89] [vi y4, vo 89] g0 h3 (zPv Q)
      refine a_putI (pc := 102) dX10_readLine_102 fl_X10_277 (go_89) ?_
      have H := H _ rfl
      generalize stI h3 89 27 y4 = h5 at H ⊢
      refine a_goto (pc := 105) (tgt := 137) dX10_readLine_105 (by decide) ?_
      exact H
set_option maxRecDepth 20000 in
theorem r_X10_readLine_169 {E : zE} {d : Nat} {h : zS} {Q : zS → Prop}   (H : Q h) : zWv E (d + 1) m_X10_readLine 169 [vn] h Q := by
  exact a_return (pc := 169) dX10_readLine_169 trivial ⟨rfl, rfl, H⟩
set_option maxRecDepth 20000 in
theorem r_X10_readLine_108 {E : zE} {d : Nat} {h : zS} {Q : zS → Prop}   (H : zCi E d m_X10_isWord [vo 89, vl 1819632491] h (fun y2 h1 => ((y2 = 0 → (zWv E (d + 1) m_X10_readLine 132 [vo 89] h1 Q)) ∧ (y2 ≠ 0 → ((0 ≤ (hI h1 89 28) → (zWv E (d + 1) m_X10_readLine 132 [vo 89] h1 Q)) ∧ ((hI h1 89 28) < 0 → (zCv E d m_X10_readLuck [vo 89] h1 (fun h3 => zWv E (d + 1) m_X10_readLine 137 [vo 89] h3 Q)))))))) : zWv E (d + 1) m_X10_readLine 108 [vo 89] h Q := by
  refine a_aload_n (pc := 108) dX10_readLine_108 rfl ?_
  refine a_ldc2 (pc := 109) dX10_readLine_109 cl_X10_221 (by decide) ?_
  refine a_callV (pc := 112) (kc := 0) (ks := 0) (kc' := 0) (ks' := 0) (st := []) [vl 1819632491] dX10_readLine_112 ml_X10_223 (go_89) rfl (Nat.le_of_ble_eq_true rfl) (Nat.le_of_ble_eq_true rfl) (z_post H (fun r G1 h1 q => ?_))
  obtain ⟨y2, rfl, rfl, H⟩ := q
  show zAt E (d + 1) 0 0 m_X10_readLine 115 [vo 89] [vi y2] g0 h1 (zPv Q)
  refine a_if_eq (pc := 115) (tgt := 132) dX10_readLine_115 (by decide) (fun c => ?_) (fun c => ?_)
  · have H := H.1 c
    exact H
  · have H := H.2 c
    refine a_aload_n (pc := 118) dX10_readLine_118 rfl ?_
    refine a_getI (pc := 119) dX10_readLine_119 fl_X10_262 (go_89) ?_
    refine a_if_ge (pc := 122) (tgt := 132) dX10_readLine_122 (by decide) (fun c => ?_) (fun c => ?_)
    · have H := H.1 c
      exact H
    · have H := H.2 c
      refine a_aload_n (pc := 125) dX10_readLine_125 rfl ?_
      refine a_callV (pc := 126) (kc := 0) (ks := 0) (kc' := 0) (ks' := 0) (st := []) [] dX10_readLine_126 ml_X10_280 (go_89) rfl (Nat.le_of_ble_eq_true rfl) (Nat.le_of_ble_eq_true rfl) (z_post H (fun r G1 h3 q => ?_))
      obtain ⟨rfl, rfl, H⟩ := q
      show zAt E (d + 1) 0 0 m_X10_readLine 129 [vo 89] [] g0 h3 (zPv Q)
      refine a_goto (pc := 129) (tgt := 137) dX10_readLine_129 (by decide) ?_
      exact H
set_option maxRecDepth 20000 in
theorem r_X10_readLine_132 {E : zE} {d : Nat} {h : zS} {Q : zS → Prop}   (H : zCv E d m_X10_wrong [vo 89, vi 2] h (fun h1 => zWv E (d + 1) m_X10_readLine 137 [vo 89] h1 Q)) : zWv E (d + 1) m_X10_readLine 132 [vo 89] h Q := by
  refine a_aload_n (pc := 132) dX10_readLine_132 rfl ?_
  refine a_iconst (pc := 133) dX10_readLine_133 (by decide) ?_
  refine a_callV (pc := 134) (kc := 0) (ks := 0) (kc' := 0) (ks' := 0) (st := []) [vi 2] dX10_readLine_134 ml_X10_227 (go_89) rfl (Nat.le_of_ble_eq_true rfl) (Nat.le_of_ble_eq_true rfl) (z_post H (fun r G1 h1 q => ?_))
  obtain ⟨rfl, rfl, H⟩ := q
  show zAt E (d + 1) 0 0 m_X10_readLine 137 [vo 89] [] g0 h1 (zPv Q)
  exact H
set_option maxRecDepth 20000 in
theorem v_X10_readAll {E : zE} {d : Nat} {h : zS} {Q : zS → Prop}   (H : ∀ h1, h1 = stI h 89 5 (hI h 89 1) → ∀ h2, h2 = stI h1 89 1 0 → ∀ h3, h3 = stI h2 89 4 0 → ∀ h4, h4 = stI h3 89 2 0 → ∀ h5, h5 = stI h4 89 3 (-1) → ∀ h6, h6 = stI h5 89 24 0 → ∀ h7, h7 = stI h6 89 25 0 → ∀ h8, h8 = stI h7 89 26 (-1) → ∀ h9, h9 = stI h8 89 27 (-1) → ∀ h10, h10 = stI h9 89 28 (-1) → zWv E (d + 1) m_X10_readAll 55 [vo 89, vi 0] h10 Q) : zCv E (d + 1) m_X10_readAll [vo 89] h Q := by
  show zAt E (d + 1) 0 0 m_X10_readAll 0 [vo 89, vn] [] g0 h (zPv Q)
  refine a_aload_n (pc := 0) dX10_readAll_0 rfl ?_
  refine a_aload_n (pc := 1) dX10_readAll_1 rfl ?_
  refine a_getI (pc := 2) dX10_readAll_2 fl_X10_157 (go_89) ?_
  refine a_putI (pc := 5) dX10_readAll_5 fl_X10_167 (go_89) ?_
  have H := H _ rfl
  generalize stI h 89 5 (hI h 89 1) = h1 at H ⊢
  refine a_aload_n (pc := 8) dX10_readAll_8 rfl ?_
  refine a_iconst (pc := 9) dX10_readAll_9 (by decide) ?_
  refine a_putI (pc := 10) dX10_readAll_10 fl_X10_157 (go_89) ?_
  have H := H _ rfl
  generalize stI h1 89 1 0 = h2 at H ⊢
  refine a_aload_n (pc := 13) dX10_readAll_13 rfl ?_
  refine a_iconst (pc := 14) dX10_readAll_14 (by decide) ?_
  refine a_putI (pc := 15) dX10_readAll_15 fl_X10_164 (go_89) ?_
  have H := H _ rfl
  generalize stI h2 89 4 0 = h3 at H ⊢
  refine a_aload_n (pc := 18) dX10_readAll_18 rfl ?_
  refine a_iconst (pc := 19) dX10_readAll_19 (by decide) ?_
  refine a_putI (pc := 20) dX10_readAll_20 fl_X10_194 (go_89) ?_
  have H := H _ rfl
  generalize stI h3 89 2 0 = h4 at H ⊢
  refine a_aload_n (pc := 23) dX10_readAll_23 rfl ?_
  refine a_iconst (pc := 24) dX10_readAll_24 (by decide) ?_
  refine a_putI (pc := 25) dX10_readAll_25 fl_X10_13 (go_89) ?_
  have H := H _ rfl
  generalize stI h4 89 3 (-1) = h5 at H ⊢
  refine a_aload_n (pc := 28) dX10_readAll_28 rfl ?_
  refine a_iconst (pc := 29) dX10_readAll_29 (by decide) ?_
  refine a_putI (pc := 30) dX10_readAll_30 fl_X10_241 (go_89) ?_
  have H := H _ rfl
  generalize stI h5 89 24 0 = h6 at H ⊢
  refine a_aload_n (pc := 33) dX10_readAll_33 rfl ?_
  refine a_iconst (pc := 34) dX10_readAll_34 (by decide) ?_
  refine a_putI (pc := 35) dX10_readAll_35 fl_X10_259 (go_89) ?_
  have H := H _ rfl
  generalize stI h6 89 25 0 = h7 at H ⊢
  refine a_aload_n (pc := 38) dX10_readAll_38 rfl ?_
  refine a_iconst (pc := 39) dX10_readAll_39 (by decide) ?_
  refine a_putI (pc := 40) dX10_readAll_40 fl_X10_271 (go_89) ?_
  have H := H _ rfl
  generalize stI h7 89 26 (-1) = h8 at H ⊢
  refine a_aload_n (pc := 43) dX10_readAll_43 rfl ?_
  refine a_iconst (pc := 44) dX10_readAll_44 (by decide) ?_
  refine a_putI (pc := 45) dX10_readAll_45 fl_X10_277 (go_89) ?_
  have H := H _ rfl
  generalize stI h8 89 27 (-1) = h9 at H ⊢
  refine a_aload_n (pc := 48) dX10_readAll_48 rfl ?_
  refine a_iconst (pc := 49) dX10_readAll_49 (by decide) ?_
  refine a_putI (pc := 50) dX10_readAll_50 fl_X10_262 (go_89) ?_
  have H := H _ rfl
  generalize stI h9 89 28 (-1) = h10 at H ⊢
  refine a_iconst (pc := 53) dX10_readAll_53 (by decide) ?_
  refine a_istore_n (pc := 54) (ls' := [vo 89, vi 0]) dX10_readAll_54 rfl rfl ?_
  exact H
set_option maxRecDepth 20000 in
theorem r_X10_readAll_55 {E : zE} {d : Nat} {h : zS} {Q : zS → Prop} {x1 : Int}  (H : ((144 ≤ x1 → (zCv E d m_X10_token [vo 89] h (fun h1 => zWv E (d + 1) m_X10_readAll 79 [vo 89, vn] h1 Q))) ∧ (x1 < 144 → ((0 ≤ x1 ∧ x1 < 144) ∧ ∀ h3, h3 = stI h 97 x1.toNat 0 → zWv E (d + 1) m_X10_readAll 55 [vo 89, vi (w32 (x1 + 1))] h3 Q)))) : zWv E (d + 1) m_X10_readAll 55 [vo 89, vi x1] h Q := by
  refine a_iload_n (pc := 55) dX10_readAll_55 rfl ?_
  refine a_sipush (pc := 56) dX10_readAll_56 (by decide) ?_
  refine a_icmp_ge (pc := 59) (tgt := 75) dX10_readAll_59 (by decide) (fun c => ?_) (fun c => ?_)
  · have H := H.1 c
    refine a_aload_n (pc := 75) dX10_readAll_75 rfl ?_
    refine a_callV (pc := 76) (kc := 0) (ks := 0) (kc' := 0) (ks' := 0) (st := []) [] dX10_readAll_76 ml_X10_230 (go_89) rfl (Nat.le_of_ble_eq_true rfl) (Nat.le_of_ble_eq_true rfl) (z_post H (fun r G1 h1 q => ?_))
    obtain ⟨rfl, rfl, H⟩ := q
    show zAt E (d + 1) 0 0 m_X10_readAll 79 [vo 89, vi x1] [] g0 h1 (zPv Q)
    exact z_forget (ls' := [vo 89, vn]) ⟨.inr rfl, .inl rfl, trivial⟩ H
  · have H := H.2 c
    refine a_aload_n (pc := 62) dX10_readAll_62 rfl ?_
    refine a_getF (pc := 63) dX10_readAll_63 fl_X10_36 (go_89) (gf_89_16) ?_
    refine a_iload_n (pc := 66) dX10_readAll_66 rfl ?_
    refine a_iconst (pc := 67) dX10_readAll_67 (by decide) ?_
    obtain ⟨hb2, H⟩ := H
    refine a_iastore (pc := 68) dX10_readAll_68 (ga_97) hb2 ?_
    have H := H _ rfl
    generalize stI h 97 x1.toNat 0 = h3 at H ⊢
    refine a_iinc (pc := 69) (ls' := [vo 89, vi (w32 (x1 + 1))]) dX10_readAll_69 rfl rfl rfl ?_
    refine a_goto (pc := 72) (tgt := 55) dX10_readAll_72 (by decide) ?_
    exact H
set_option maxRecDepth 20000 in
theorem r_X10_readAll_79 {E : zE} {d : Nat} {h : zS} {Q : zS → Prop}   (H : (((hI h 89 2) ≠ 0 → (Q h)) ∧ ((hI h 89 2) = 0 → (((hI h 89 6) = 0 → (Q h)) ∧ ((hI h 89 6) ≠ 0 → (zCv E d m_X10_readLine [vo 89] h (fun h1 => zWv E (d + 1) m_X10_readAll 79 [vo 89, vn] h1 Q))))))) : zWv E (d + 1) m_X10_readAll 79 [vo 89, vn] h Q := by
  refine a_aload_n (pc := 79) dX10_readAll_79 rfl ?_
  refine a_getI (pc := 80) dX10_readAll_80 fl_X10_194 (go_89) ?_
  refine a_if_ne (pc := 83) (tgt := 100) dX10_readAll_83 (by decide) (fun c => ?_) (fun c => ?_)
  · have H := H.1 c
    exact a_return (pc := 100) dX10_readAll_100 trivial ⟨rfl, rfl, H⟩
  · have H := H.2 c
    refine a_aload_n (pc := 86) dX10_readAll_86 rfl ?_
    refine a_getI (pc := 87) dX10_readAll_87 fl_X10_184 (go_89) ?_
    refine a_if_eq (pc := 90) (tgt := 100) dX10_readAll_90 (by decide) (fun c => ?_) (fun c => ?_)
    · have H := H.1 c
      exact a_return (pc := 100) dX10_readAll_100 trivial ⟨rfl, rfl, H⟩
    · have H := H.2 c
      refine a_aload_n (pc := 93) dX10_readAll_93 rfl ?_
      refine a_callV (pc := 94) (kc := 0) (ks := 0) (kc' := 0) (ks' := 0) (st := []) [] dX10_readAll_94 ml_X10_283 (go_89) rfl (Nat.le_of_ble_eq_true rfl) (Nat.le_of_ble_eq_true rfl) (z_post H (fun r G1 h1 q => ?_))
      obtain ⟨rfl, rfl, H⟩ := q
      show zAt E (d + 1) 0 0 m_X10_readAll 97 [vo 89, vn] [] g0 h1 (zPv Q)
      refine a_goto (pc := 97) (tgt := 79) dX10_readAll_97 (by decide) ?_
      exact H
set_option maxRecDepth 20000 in
theorem v_X10_city {E : zE} {d : Nat} {h : zS} {Q : Int → zS → Prop}   (H : zCv E d m_X10_readAll [vo 89] h (fun h1 => (((hI h1 89 2) ≤ 0 → (∀ h2, h2 = stI h1 89 29 (hI h1 89 24) → ∀ h3, h3 = stI h2 89 30 (hI h2 89 25) → ∀ h4, h4 = stI h3 89 31 (hI h3 89 26) → ∀ h5, h5 = stI h4 89 32 (hI h4 89 27) → (∀ h7, h7 = stI h5 89 33 (if 0 ≤ (hI h5 89 28) then (hI h5 89 28) else 0) → zWi E (d + 1) m_X10_city 66 [vo 89, vi 0, vn] h7 Q))) ∧ (0 < (hI h1 89 2) → (Q (-1) h1))))) : zCi E (d + 1) m_X10_city [vo 89] h Q := by
  show zAt E (d + 1) 0 0 m_X10_city 0 [vo 89, vn, vn] [] g0 h (zPi Q)
  refine a_aload_n (pc := 0) dX10_city_0 rfl ?_
  refine a_callV (pc := 1) (kc := 0) (ks := 0) (kc' := 0) (ks' := 0) (st := []) [] dX10_city_1 ml_X10_286 (go_89) rfl (Nat.le_of_ble_eq_true rfl) (Nat.le_of_ble_eq_true rfl) (z_post H (fun r G1 h1 q => ?_))
  obtain ⟨rfl, rfl, H⟩ := q
  show zAt E (d + 1) 0 0 m_X10_city 4 [vo 89, vn, vn] [] g0 h1 (zPi Q)
  refine a_aload_n (pc := 4) dX10_city_4 rfl ?_
  refine a_getI (pc := 5) dX10_city_5 fl_X10_194 (go_89) ?_
  refine a_if_le (pc := 8) (tgt := 13) dX10_city_8 (by decide) (fun c => ?_) (fun c => ?_)
  · have H := H.1 c
    refine a_aload_n (pc := 13) dX10_city_13 rfl ?_
    refine a_aload_n (pc := 14) dX10_city_14 rfl ?_
    refine a_getI (pc := 15) dX10_city_15 fl_X10_241 (go_89) ?_
    refine a_putI (pc := 18) dX10_city_18 fl_X10_289 (go_89) ?_
    have H := H _ rfl
    generalize stI h1 89 29 (hI h1 89 24) = h2 at H ⊢
    refine a_aload_n (pc := 21) dX10_city_21 rfl ?_
    refine a_aload_n (pc := 22) dX10_city_22 rfl ?_
    refine a_getI (pc := 23) dX10_city_23 fl_X10_259 (go_89) ?_
    refine a_putI (pc := 26) dX10_city_26 fl_X10_292 (go_89) ?_
    have H := H _ rfl
    generalize stI h2 89 30 (hI h2 89 25) = h3 at H ⊢
    refine a_aload_n (pc := 29) dX10_city_29 rfl ?_
    refine a_aload_n (pc := 30) dX10_city_30 rfl ?_
    refine a_getI (pc := 31) dX10_city_31 fl_X10_271 (go_89) ?_
    refine a_putI (pc := 34) dX10_city_34 fl_X10_151 (go_89) ?_
    have H := H _ rfl
    generalize stI h3 89 31 (hI h3 89 26) = h4 at H ⊢
    refine a_aload_n (pc := 37) dX10_city_37 rfl ?_
    refine a_aload_n (pc := 38) dX10_city_38 rfl ?_
    refine a_getI (pc := 39) dX10_city_39 fl_X10_277 (go_89) ?_
    refine a_putI (pc := 42) dX10_city_42 fl_X10_154 (go_89) ?_
    have H := H _ rfl
    generalize stI h4 89 32 (hI h4 89 27) = h5 at H ⊢
    refine a_aload_n (pc := 45) dX10_city_45 rfl ?_
    refine a_aload_n (pc := 46) dX10_city_46 rfl ?_
    refine a_getI (pc := 47) dX10_city_47 fl_X10_262 (go_89) ?_
    have J : zAt E (d + 1) 0 0 m_X10_city 61 [vo 89, vn, vn] [vi (if 0 ≤ (hI h5 89 28) then (hI h5 89 28) else 0), vo 89] g0 h5 (zPi Q) := by
      refine a_putI (pc := 61) dX10_city_61 fl_X10_295 (go_89) ?_
      have H := H _ rfl
      generalize stI h5 89 33 (if 0 ≤ (hI h5 89 28) then (hI h5 89 28) else 0) = h7 at H ⊢
      refine a_iconst (pc := 64) dX10_city_64 (by decide) ?_
      refine a_istore_n (pc := 65) (ls' := [vo 89, vi 0, vn]) dX10_city_65 rfl rfl ?_
      exact H
    refine a_if_ge (pc := 50) (tgt := 57) dX10_city_50 (by decide) (fun c6 => ?_) (fun c6 => ?_)
    · skip
      refine a_aload_n (pc := 57) dX10_city_57 rfl ?_
      refine a_getI (pc := 58) dX10_city_58 fl_X10_262 (go_89) ?_
      exact (z_mergeT c6 J)
    · skip
      refine a_iconst (pc := 53) dX10_city_53 (by decide) ?_
      refine a_goto (pc := 54) (tgt := 61) dX10_city_54 (by decide) ?_
      exact (z_mergeF (Int.not_le.mpr c6) J)
  · have H := H.2 c
    refine a_iconst (pc := 11) dX10_city_11 (by decide) ?_
    exact a_ireturn (pc := 12) dX10_city_12 trivial ⟨_, rfl, rfl, H⟩
set_option maxRecDepth 20000 in
theorem r_X10_city_66 {E : zE} {d : Nat} {h : zS} {Q : Int → zS → Prop} {x1 : Int}  (H : ((12 ≤ x1 → (zWi E (d + 1) m_X10_city 147 [vo 89, vi 0, vn] h Q)) ∧ (x1 < 12 → ((0 ≤ x1 ∧ x1 < 12) ∧ ∀ h2, h2 = stI h 98 x1.toNat (hI h 92 x1.toNat) → ∀ h3, h3 = stI h2 99 x1.toNat (hI h2 93 x1.toNat) → ∀ h4, h4 = stI h3 100 x1.toNat (hI h3 94 x1.toNat) → ∀ h5, h5 = stI h4 101 x1.toNat (hI h4 95 x1.toNat) → ∀ h6, h6 = stI h5 102 x1.toNat (hI h5 96 x1.toNat) → ∀ h7, h7 = stI h6 104 x1.toNat 0 → zWi E (d + 1) m_X10_city 66 [vo 89, vi (w32 (x1 + 1)), vn] h7 Q)))) : zWi E (d + 1) m_X10_city 66 [vo 89, vi x1, vn] h Q := by
  refine a_iload_n (pc := 66) dX10_city_66 rfl ?_
  refine a_bipush (pc := 67) dX10_city_67 (by decide) ?_
  refine a_icmp_ge (pc := 69) (tgt := 145) dX10_city_69 (by decide) (fun c => ?_) (fun c => ?_)
  · have H := H.1 c
    refine a_iconst (pc := 145) dX10_city_145 (by decide) ?_
    refine a_istore_n (pc := 146) (ls' := [vo 89, vi 0, vn]) dX10_city_146 rfl rfl ?_
    exact H
  · have H := H.2 c
    refine a_aload_n (pc := 72) dX10_city_72 rfl ?_
    refine a_getF (pc := 73) dX10_city_73 fl_X10_39 (go_89) (gf_89_17) ?_
    refine a_iload_n (pc := 76) dX10_city_76 rfl ?_
    refine a_aload_n (pc := 77) dX10_city_77 rfl ?_
    refine a_getF (pc := 78) dX10_city_78 fl_X10_21 (go_89) (gf_89_11) ?_
    refine a_iload_n (pc := 81) dX10_city_81 rfl ?_
    obtain ⟨hb1, H⟩ := H
    refine a_iaload (pc := 82) dX10_city_82 (ga_92) hb1 ?_
    refine a_iastore (pc := 83) dX10_city_83 (ga_98) hb1 ?_
    have H := H _ rfl
    generalize stI h 98 x1.toNat (hI h 92 x1.toNat) = h2 at H ⊢
    refine a_aload_n (pc := 84) dX10_city_84 rfl ?_
    refine a_getF (pc := 85) dX10_city_85 fl_X10_42 (go_89) (gf_89_18) ?_
    refine a_iload_n (pc := 88) dX10_city_88 rfl ?_
    refine a_aload_n (pc := 89) dX10_city_89 rfl ?_
    refine a_getF (pc := 90) dX10_city_90 fl_X10_24 (go_89) (gf_89_12) ?_
    refine a_iload_n (pc := 93) dX10_city_93 rfl ?_
    refine a_iaload (pc := 94) dX10_city_94 (ga_93) hb1 ?_
    refine a_iastore (pc := 95) dX10_city_95 (ga_99) hb1 ?_
    have H := H _ rfl
    generalize stI h2 99 x1.toNat (hI h2 93 x1.toNat) = h3 at H ⊢
    refine a_aload_n (pc := 96) dX10_city_96 rfl ?_
    refine a_getF (pc := 97) dX10_city_97 fl_X10_45 (go_89) (gf_89_19) ?_
    refine a_iload_n (pc := 100) dX10_city_100 rfl ?_
    refine a_aload_n (pc := 101) dX10_city_101 rfl ?_
    refine a_getF (pc := 102) dX10_city_102 fl_X10_27 (go_89) (gf_89_13) ?_
    refine a_iload_n (pc := 105) dX10_city_105 rfl ?_
    refine a_iaload (pc := 106) dX10_city_106 (ga_94) hb1 ?_
    refine a_iastore (pc := 107) dX10_city_107 (ga_100) hb1 ?_
    have H := H _ rfl
    generalize stI h3 100 x1.toNat (hI h3 94 x1.toNat) = h4 at H ⊢
    refine a_aload_n (pc := 108) dX10_city_108 rfl ?_
    refine a_getF (pc := 109) dX10_city_109 fl_X10_48 (go_89) (gf_89_20) ?_
    refine a_iload_n (pc := 112) dX10_city_112 rfl ?_
    refine a_aload_n (pc := 113) dX10_city_113 rfl ?_
    refine a_getF (pc := 114) dX10_city_114 fl_X10_30 (go_89) (gf_89_14) ?_
    refine a_iload_n (pc := 117) dX10_city_117 rfl ?_
    refine a_iaload (pc := 118) dX10_city_118 (ga_95) hb1 ?_
    refine a_iastore (pc := 119) dX10_city_119 (ga_101) hb1 ?_
    have H := H _ rfl
    generalize stI h4 101 x1.toNat (hI h4 95 x1.toNat) = h5 at H ⊢
    refine a_aload_n (pc := 120) dX10_city_120 rfl ?_
    refine a_getF (pc := 121) dX10_city_121 fl_X10_51 (go_89) (gf_89_21) ?_
    refine a_iload_n (pc := 124) dX10_city_124 rfl ?_
    refine a_aload_n (pc := 125) dX10_city_125 rfl ?_
    refine a_getF (pc := 126) dX10_city_126 fl_X10_33 (go_89) (gf_89_15) ?_
    refine a_iload_n (pc := 129) dX10_city_129 rfl ?_
    refine a_iaload (pc := 130) dX10_city_130 (ga_96) hb1 ?_
    refine a_iastore (pc := 131) dX10_city_131 (ga_102) hb1 ?_
    have H := H _ rfl
    generalize stI h5 102 x1.toNat (hI h5 96 x1.toNat) = h6 at H ⊢
    refine a_aload_n (pc := 132) dX10_city_132 rfl ?_
    refine a_getF (pc := 133) dX10_city_133 fl_X10_57 (go_89) (gf_89_23) ?_
    refine a_iload_n (pc := 136) dX10_city_136 rfl ?_
    refine a_iconst (pc := 137) dX10_city_137 (by decide) ?_
    refine a_iastore (pc := 138) dX10_city_138 (ga_104) hb1 ?_
    have H := H _ rfl
    generalize stI h6 104 x1.toNat 0 = h7 at H ⊢
    refine a_iinc (pc := 139) (ls' := [vo 89, vi (w32 (x1 + 1)), vn]) dX10_city_139 rfl rfl rfl ?_
    refine a_goto (pc := 142) (tgt := 66) dX10_city_142 (by decide) ?_
    exact H
set_option maxRecDepth 20000 in
theorem r_X10_city_147 {E : zE} {d : Nat} {h : zS} {Q : Int → zS → Prop} {x1 : Int}  (H : ((144 ≤ x1 → (zWi E (d + 1) m_X10_city 174 [vo 89, vi 0, vn] h Q)) ∧ (x1 < 144 → ((0 ≤ x1 ∧ x1 < 144) ∧ ∀ h2, h2 = stI h 103 x1.toNat (hI h 97 x1.toNat) → zWi E (d + 1) m_X10_city 147 [vo 89, vi (w32 (x1 + 1)), vn] h2 Q)))) : zWi E (d + 1) m_X10_city 147 [vo 89, vi x1, vn] h Q := by
  refine a_iload_n (pc := 147) dX10_city_147 rfl ?_
  refine a_sipush (pc := 148) dX10_city_148 (by decide) ?_
  refine a_icmp_ge (pc := 151) (tgt := 172) dX10_city_151 (by decide) (fun c => ?_) (fun c => ?_)
  · have H := H.1 c
    refine a_iconst (pc := 172) dX10_city_172 (by decide) ?_
    refine a_istore_n (pc := 173) (ls' := [vo 89, vi 0, vn]) dX10_city_173 rfl rfl ?_
    exact H
  · have H := H.2 c
    refine a_aload_n (pc := 154) dX10_city_154 rfl ?_
    refine a_getF (pc := 155) dX10_city_155 fl_X10_54 (go_89) (gf_89_22) ?_
    refine a_iload_n (pc := 158) dX10_city_158 rfl ?_
    refine a_aload_n (pc := 159) dX10_city_159 rfl ?_
    refine a_getF (pc := 160) dX10_city_160 fl_X10_36 (go_89) (gf_89_16) ?_
    refine a_iload_n (pc := 163) dX10_city_163 rfl ?_
    obtain ⟨hb1, H⟩ := H
    refine a_iaload (pc := 164) dX10_city_164 (ga_97) hb1 ?_
    refine a_iastore (pc := 165) dX10_city_165 (ga_103) hb1 ?_
    have H := H _ rfl
    generalize stI h 103 x1.toNat (hI h 97 x1.toNat) = h2 at H ⊢
    refine a_iinc (pc := 166) (ls' := [vo 89, vi (w32 (x1 + 1)), vn]) dX10_city_166 rfl rfl rfl ?_
    refine a_goto (pc := 169) (tgt := 147) dX10_city_169 (by decide) ?_
    exact H
set_option maxRecDepth 20000 in
theorem r_X10_city_174 {E : zE} {d : Nat} {h : zS} {Q : Int → zS → Prop} {x1 : Int}  (H : (((hI h 89 29) ≤ x1 → (zCv E d m_X10_fresh [vo 89] h (fun h1 => ∀ h2, h2 = stI h1 89 62 0 → ∀ h3, h3 = stI h2 89 37 0 → zWi E (d + 1) m_X10_city 260 [vo 89, vi 0, vn] h3 Q))) ∧ (x1 < (hI h 89 29) → (zWi E (d + 1) m_X10_city 184 [vo 89, vi x1, vi 0] h Q)))) : zWi E (d + 1) m_X10_city 174 [vo 89, vi x1, vn] h Q := by
  refine a_iload_n (pc := 174) dX10_city_174 rfl ?_
  refine a_aload_n (pc := 175) dX10_city_175 rfl ?_
  refine a_getI (pc := 176) dX10_city_176 fl_X10_289 (go_89) ?_
  refine a_icmp_ge (pc := 179) (tgt := 244) dX10_city_179 (by decide) (fun c => ?_) (fun c => ?_)
  · have H := H.1 c
    refine a_aload_n (pc := 244) dX10_city_244 rfl ?_
    refine a_callV (pc := 245) (kc := 0) (ks := 0) (kc' := 0) (ks' := 0) (st := []) [] dX10_city_245 ml_X10_302 (go_89) rfl (Nat.le_of_ble_eq_true rfl) (Nat.le_of_ble_eq_true rfl) (z_post H (fun r G1 h1 q => ?_))
    obtain ⟨rfl, rfl, H⟩ := q
    show zAt E (d + 1) 0 0 m_X10_city 248 [vo 89, vi x1, vn] [] g0 h1 (zPi Q)
    refine a_aload_n (pc := 248) dX10_city_248 rfl ?_
    refine a_iconst (pc := 249) dX10_city_249 (by decide) ?_
    refine a_putI (pc := 250) dX10_city_250 fl_X10_305 (go_89) ?_
    have H := H _ rfl
    generalize stI h1 89 62 0 = h2 at H ⊢
    refine a_aload_n (pc := 253) dX10_city_253 rfl ?_
    refine a_iconst (pc := 254) dX10_city_254 (by decide) ?_
    refine a_putI (pc := 255) dX10_city_255 fl_X10_308 (go_89) ?_
    have H := H _ rfl
    generalize stI h2 89 37 0 = h3 at H ⊢
    refine a_iconst (pc := 258) dX10_city_258 (by decide) ?_
    refine a_istore_n (pc := 259) (ls' := [vo 89, vi 0, vn]) dX10_city_259 rfl rfl ?_
    exact H
  · have H := H.2 c
    refine a_iconst (pc := 182) dX10_city_182 (by decide) ?_
    refine a_istore_n (pc := 183) (ls' := [vo 89, vi x1, vi 0]) dX10_city_183 rfl rfl ?_
    exact H
set_option maxRecDepth 20000 in
theorem r_X10_city_260 {E : zE} {d : Nat} {h : zS} {Q : Int → zS → Prop} {x1 : Int}  (H : ((3 ≤ x1 → (Q (hI h 89 29) h)) ∧ (x1 < 3 → ((0 ≤ x1 ∧ x1 < 3) ∧ ∀ h2, h2 = stI h 130 x1.toNat 0 → zWi E (d + 1) m_X10_city 260 [vo 89, vi (w32 (x1 + 1)), vn] h2 Q)))) : zWi E (d + 1) m_X10_city 260 [vo 89, vi x1, vn] h Q := by
  refine a_iload_n (pc := 260) dX10_city_260 rfl ?_
  refine a_iconst (pc := 261) dX10_city_261 (by decide) ?_
  refine a_icmp_ge (pc := 262) (tgt := 278) dX10_city_262 (by decide) (fun c => ?_) (fun c => ?_)
  · have H := H.1 c
    refine a_aload_n (pc := 278) dX10_city_278 rfl ?_
    refine a_getI (pc := 279) dX10_city_279 fl_X10_289 (go_89) ?_
    exact a_ireturn (pc := 282) dX10_city_282 trivial ⟨_, rfl, rfl, H⟩
  · have H := H.2 c
    refine a_aload_n (pc := 265) dX10_city_265 rfl ?_
    refine a_getF (pc := 266) dX10_city_266 fl_X10_135 (go_89) (gf_89_64) ?_
    refine a_iload_n (pc := 269) dX10_city_269 rfl ?_
    refine a_iconst (pc := 270) dX10_city_270 (by decide) ?_
    obtain ⟨hb1, H⟩ := H
    refine a_zastore (pc := 271) dX10_city_271 (ga_130) hb1 (by decide) ?_
    have H := H _ rfl
    generalize stI h 130 x1.toNat 0 = h2 at H ⊢
    refine a_iinc (pc := 272) (ls' := [vo 89, vi (w32 (x1 + 1)), vn]) dX10_city_272 rfl rfl rfl ?_
    refine a_goto (pc := 275) (tgt := 260) dX10_city_275 (by decide) ?_
    exact H
set_option maxRecDepth 20000 in
theorem r_X10_city_184 {E : zE} {d : Nat} {h : zS} {Q : Int → zS → Prop} {x1 : Int} {x2 : Int}  (H : (((hI h 89 29) ≤ x2 → (zWi E (d + 1) m_X10_city 174 [vo 89, vi (w32 (x1 + 1)), vn] h Q)) ∧ (x2 < (hI h 89 29) → ((0 ≤ w32 ((w32 (12 * x1)) + x2) ∧ w32 ((w32 (12 * x1)) + x2) < 144) ∧ (((hI h 103 (w32 ((w32 (12 * x1)) + x2)).toNat) ≤ 0 → (zWi E (d + 1) m_X10_city 184 [vo 89, vi x1, vi (w32 (x2 + 1))] h Q)) ∧ (0 < (hI h 103 (w32 ((w32 (12 * x1)) + x2)).toNat) → ((0 ≤ x1 ∧ x1 < 12) ∧ (((hI h 98 x1.toNat) = 3 → (zWi E (d + 1) m_X10_city 184 [vo 89, vi x1, vi (w32 (x2 + 1))] h Q)) ∧ ((hI h 98 x1.toNat) ≠ 3 → ((0 ≤ x2 ∧ x2 < 12) ∧ (((hI h 98 x2.toNat) = 3 → (zWi E (d + 1) m_X10_city 184 [vo 89, vi x1, vi (w32 (x2 + 1))] h Q)) ∧ ((hI h 98 x2.toNat) ≠ 3 → (zCv E d m_X10_learn [vo 89, vi x1, vi x2] h (fun h4 => zWi E (d + 1) m_X10_city 184 [vo 89, vi x1, vi (w32 (x2 + 1))] h4 Q)))))))))))))) : zWi E (d + 1) m_X10_city 184 [vo 89, vi x1, vi x2] h Q := by
  refine a_iload_n (pc := 184) dX10_city_184 rfl ?_
  refine a_aload_n (pc := 185) dX10_city_185 rfl ?_
  refine a_getI (pc := 186) dX10_city_186 fl_X10_289 (go_89) ?_
  refine a_icmp_ge (pc := 189) (tgt := 238) dX10_city_189 (by decide) (fun c => ?_) (fun c => ?_)
  · have H := H.1 c
    refine a_iinc (pc := 238) (ls' := [vo 89, vi (w32 (x1 + 1)), vi x2]) dX10_city_238 rfl rfl rfl ?_
    refine a_goto (pc := 241) (tgt := 174) dX10_city_241 (by decide) ?_
    exact z_forget (ls' := [vo 89, vi (w32 (x1 + 1)), vn]) ⟨.inr rfl, .inr rfl, .inl rfl, trivial⟩ H
  · have H := H.2 c
    refine a_aload_n (pc := 192) dX10_city_192 rfl ?_
    refine a_getF (pc := 193) dX10_city_193 fl_X10_54 (go_89) (gf_89_22) ?_
    refine a_bipush (pc := 196) dX10_city_196 (by decide) ?_
    refine a_iload_n (pc := 198) dX10_city_198 rfl ?_
    refine a_imul (pc := 199) dX10_city_199 ?_
    refine a_iload_n (pc := 200) dX10_city_200 rfl ?_
    refine a_iadd (pc := 201) dX10_city_201 ?_
    obtain ⟨hb1, H⟩ := H
    refine a_iaload (pc := 202) dX10_city_202 (ga_103) hb1 ?_
    refine a_if_le (pc := 203) (tgt := 232) dX10_city_203 (by decide) (fun c => ?_) (fun c => ?_)
    · have H := H.1 c
      refine a_iinc (pc := 232) (ls' := [vo 89, vi x1, vi (w32 (x2 + 1))]) dX10_city_232 rfl rfl rfl ?_
      refine a_goto (pc := 235) (tgt := 184) dX10_city_235 (by decide) ?_
      exact H
    · have H := H.2 c
      refine a_aload_n (pc := 206) dX10_city_206 rfl ?_
      refine a_getF (pc := 207) dX10_city_207 fl_X10_39 (go_89) (gf_89_17) ?_
      refine a_iload_n (pc := 210) dX10_city_210 rfl ?_
      obtain ⟨hb2, H⟩ := H
      refine a_iaload (pc := 211) dX10_city_211 (ga_98) hb2 ?_
      refine a_iconst (pc := 212) dX10_city_212 (by decide) ?_
      refine a_icmp_eq (pc := 213) (tgt := 232) dX10_city_213 (by decide) (fun c => ?_) (fun c => ?_)
      · have H := H.1 c
        refine a_iinc (pc := 232) (ls' := [vo 89, vi x1, vi (w32 (x2 + 1))]) dX10_city_232 rfl rfl rfl ?_
        refine a_goto (pc := 235) (tgt := 184) dX10_city_235 (by decide) ?_
        exact H
      · have H := H.2 c
        refine a_aload_n (pc := 216) dX10_city_216 rfl ?_
        refine a_getF (pc := 217) dX10_city_217 fl_X10_39 (go_89) (gf_89_17) ?_
        refine a_iload_n (pc := 220) dX10_city_220 rfl ?_
        obtain ⟨hb3, H⟩ := H
        refine a_iaload (pc := 221) dX10_city_221 (ga_98) hb3 ?_
        refine a_iconst (pc := 222) dX10_city_222 (by decide) ?_
        refine a_icmp_eq (pc := 223) (tgt := 232) dX10_city_223 (by decide) (fun c => ?_) (fun c => ?_)
        · have H := H.1 c
          refine a_iinc (pc := 232) (ls' := [vo 89, vi x1, vi (w32 (x2 + 1))]) dX10_city_232 rfl rfl rfl ?_
          refine a_goto (pc := 235) (tgt := 184) dX10_city_235 (by decide) ?_
          exact H
        · have H := H.2 c
          refine a_aload_n (pc := 226) dX10_city_226 rfl ?_
          refine a_iload_n (pc := 227) dX10_city_227 rfl ?_
          refine a_iload_n (pc := 228) dX10_city_228 rfl ?_
          refine a_callV (pc := 229) (kc := 0) (ks := 0) (kc' := 0) (ks' := 0) (st := []) [vi x1, vi x2] dX10_city_229 ml_X10_298 (go_89) rfl (Nat.le_of_ble_eq_true rfl) (Nat.le_of_ble_eq_true rfl) (z_post H (fun r G1 h4 q => ?_))
          obtain ⟨rfl, rfl, H⟩ := q
          show zAt E (d + 1) 0 0 m_X10_city 232 [vo 89, vi x1, vi x2] [] g0 h4 (zPi Q)
          refine a_iinc (pc := 232) (ls' := [vo 89, vi x1, vi (w32 (x2 + 1))]) dX10_city_232 rfl rfl rfl ?_
          refine a_goto (pc := 235) (tgt := 184) dX10_city_235 (by decide) ?_
          exact H
set_option maxRecDepth 20000 in
theorem v_X10_learn {E : zE} {d : Nat} {h : zS} {Q : zS → Prop} {x1 : Int} {x2 : Int}  (H : (0 ≤ x1 ∧ x1 < 12) ∧ ∀ h2, h2 = stI h 104 x1.toNat (z_or (hI h 104 x1.toNat) (z_shl 1 x2)) → (0 ≤ x2 ∧ x2 < 12) ∧ (((hI h2 98 x2.toNat) = 1 → (Q h2)) ∧ ((hI h2 98 x2.toNat) ≠ 1 → (∀ h4, h4 = stI h2 104 x2.toNat (z_or (hI h2 104 x2.toNat) (z_shl 1 x1)) → Q h4)))) : zCv E d m_X10_learn [vo 89, vi x1, vi x2] h Q := by
  show zAt E d 0 0 m_X10_learn 0 [vo 89, vi x1, vi x2] [] g0 h (zPv Q)
  refine a_aload_n (pc := 0) dX10_learn_0 rfl ?_
  refine a_getF (pc := 1) dX10_learn_1 fl_X10_57 (go_89) (gf_89_23) ?_
  refine a_iload_n (pc := 4) dX10_learn_4 rfl ?_
  refine a_dup2 (pc := 5) dX10_learn_5 rfl rfl ?_
  obtain ⟨hb1, H⟩ := H
  refine a_iaload (pc := 6) dX10_learn_6 (ga_104) hb1 ?_
  refine a_iconst (pc := 7) dX10_learn_7 (by decide) ?_
  refine a_iload_n (pc := 8) dX10_learn_8 rfl ?_
  refine a_ishl (pc := 9) dX10_learn_9 ?_
  refine a_ior (pc := 10) dX10_learn_10 ?_
  refine a_iastore (pc := 11) dX10_learn_11 (ga_104) hb1 ?_
  have H := H _ rfl
  generalize stI h 104 x1.toNat (z_or (hI h 104 x1.toNat) (z_shl 1 x2)) = h2 at H ⊢
  refine a_aload_n (pc := 12) dX10_learn_12 rfl ?_
  refine a_getF (pc := 13) dX10_learn_13 fl_X10_39 (go_89) (gf_89_17) ?_
  refine a_iload_n (pc := 16) dX10_learn_16 rfl ?_
  obtain ⟨hb3, H⟩ := H
  refine a_iaload (pc := 17) dX10_learn_17 (ga_98) hb3 ?_
  refine a_iconst (pc := 18) dX10_learn_18 (by decide) ?_
  refine a_icmp_eq (pc := 19) (tgt := 34) dX10_learn_19 (by decide) (fun c => ?_) (fun c => ?_)
  · have H := H.1 c
    exact a_return (pc := 34) dX10_learn_34 trivial ⟨rfl, rfl, H⟩
  · have H := H.2 c
    refine a_aload_n (pc := 22) dX10_learn_22 rfl ?_
    refine a_getF (pc := 23) dX10_learn_23 fl_X10_57 (go_89) (gf_89_23) ?_
    refine a_iload_n (pc := 26) dX10_learn_26 rfl ?_
    refine a_dup2 (pc := 27) dX10_learn_27 rfl rfl ?_
    refine a_iaload (pc := 28) dX10_learn_28 (ga_104) hb3 ?_
    refine a_iconst (pc := 29) dX10_learn_29 (by decide) ?_
    refine a_iload_n (pc := 30) dX10_learn_30 rfl ?_
    refine a_ishl (pc := 31) dX10_learn_31 ?_
    refine a_ior (pc := 32) dX10_learn_32 ?_
    refine a_iastore (pc := 33) dX10_learn_33 (ga_104) hb3 ?_
    have H := H _ rfl
    generalize stI h2 104 x2.toNat (z_or (hI h2 104 x2.toNat) (z_shl 1 x1)) = h4 at H ⊢
    exact a_return (pc := 34) dX10_learn_34 trivial ⟨rfl, rfl, H⟩
set_option maxRecDepth 20000 in
theorem v_X10_fault {E : zE} {d : Nat} {h : zS} {Q : Int → zS → Prop} {x1 : Int}  (H : ((x1 ≠ 0 → ((x1 ≠ 1 → (Q (-1) h)) ∧ (x1 = 1 → (Q (hI h 89 3) h)))) ∧ (x1 = 0 → (Q (hI h 89 2) h)))) : zCi E d m_X10_fault [vo 89, vi x1] h Q := by
  show zAt E d 0 0 m_X10_fault 0 [vo 89, vi x1] [] g0 h (zPi Q)
  refine a_iload_n (pc := 0) dX10_fault_0 rfl ?_
  refine a_if_ne (pc := 1) (tgt := 11) dX10_fault_1 (by decide) (fun c => ?_) (fun c => ?_)
  · have H := H.1 c
    refine a_iload_n (pc := 11) dX10_fault_11 rfl ?_
    refine a_iconst (pc := 12) dX10_fault_12 (by decide) ?_
    refine a_icmp_ne (pc := 13) (tgt := 23) dX10_fault_13 (by decide) (fun c => ?_) (fun c => ?_)
    · have H := H.1 c
      refine a_iconst (pc := 23) dX10_fault_23 (by decide) ?_
      exact a_ireturn (pc := 24) dX10_fault_24 trivial ⟨_, rfl, rfl, H⟩
    · have H := H.2 c
      refine a_aload_n (pc := 16) dX10_fault_16 rfl ?_
      refine a_getI (pc := 17) dX10_fault_17 fl_X10_13 (go_89) ?_
      refine a_goto (pc := 20) (tgt := 24) dX10_fault_20 (by decide) ?_
      exact a_ireturn (pc := 24) dX10_fault_24 trivial ⟨_, rfl, rfl, H⟩
  · have H := H.2 c
    refine a_aload_n (pc := 4) dX10_fault_4 rfl ?_
    refine a_getI (pc := 5) dX10_fault_5 fl_X10_194 (go_89) ?_
    refine a_goto (pc := 8) (tgt := 24) dX10_fault_8 (by decide) ?_
    exact a_ireturn (pc := 24) dX10_fault_24 trivial ⟨_, rfl, rfl, H⟩
set_option maxRecDepth 20000 in
theorem v_X10_isOne {E : zE} {d : Nat} {h : zS} {Q : Int → zS → Prop} {x1 : Int}  (H : ((x1 < 0 → (Q 0 h)) ∧ (0 ≤ x1 → (((hI h 89 29) ≤ x1 → (Q 0 h)) ∧ (x1 < (hI h 89 29) → (Q 1 h)))))) : zCi E d m_X10_isOne [vo 89, vi x1] h Q := by
  show zAt E d 0 0 m_X10_isOne 0 [vo 89, vi x1] [] g0 h (zPi Q)
  refine a_iload_n (pc := 0) dX10_isOne_0 rfl ?_
  refine a_if_lt (pc := 1) (tgt := 16) dX10_isOne_1 (by decide) (fun c => ?_) (fun c => ?_)
  · have H := H.1 c
    refine a_iconst (pc := 16) dX10_isOne_16 (by decide) ?_
    exact a_ireturn (pc := 17) dX10_isOne_17 (.inl rfl) ⟨_, rfl, rfl, H⟩
  · have H := H.2 c
    refine a_iload_n (pc := 4) dX10_isOne_4 rfl ?_
    refine a_aload_n (pc := 5) dX10_isOne_5 rfl ?_
    refine a_getI (pc := 6) dX10_isOne_6 fl_X10_289 (go_89) ?_
    refine a_icmp_ge (pc := 9) (tgt := 16) dX10_isOne_9 (by decide) (fun c => ?_) (fun c => ?_)
    · have H := H.1 c
      refine a_iconst (pc := 16) dX10_isOne_16 (by decide) ?_
      exact a_ireturn (pc := 17) dX10_isOne_17 (.inl rfl) ⟨_, rfl, rfl, H⟩
    · have H := H.2 c
      refine a_iconst (pc := 12) dX10_isOne_12 (by decide) ?_
      refine a_goto (pc := 13) (tgt := 17) dX10_isOne_13 (by decide) ?_
      exact a_ireturn (pc := 17) dX10_isOne_17 (.inr rfl) ⟨_, rfl, rfl, H⟩
set_option maxRecDepth 20000 in
theorem v_X10_knows {E : zE} {d : Nat} {h : zS} {Q : Int → zS → Prop} {x1 : Int}  (H : zCi E d m_X10_isOne [vo 89, vi x1] h (fun y2 h1 => ((y2 = 0 → (Q (-1) h1)) ∧ (y2 ≠ 0 → ((0 ≤ x1 ∧ x1 < 12) ∧ Q (hI h1 104 x1.toNat) h1))))) : zCi E (d + 1) m_X10_knows [vo 89, vi x1] h Q := by
  show zAt E (d + 1) 0 0 m_X10_knows 0 [vo 89, vi x1] [] g0 h (zPi Q)
  refine a_aload_n (pc := 0) dX10_knows_0 rfl ?_
  refine a_iload_n (pc := 1) dX10_knows_1 rfl ?_
  refine a_callV (pc := 2) (kc := 0) (ks := 0) (kc' := 0) (ks' := 0) (st := []) [vi x1] dX10_knows_2 ml_X10_311 (go_89) rfl (Nat.le_of_ble_eq_true rfl) (Nat.le_of_ble_eq_true rfl) (z_post H (fun r G1 h1 q => ?_))
  obtain ⟨y2, rfl, rfl, H⟩ := q
  show zAt E (d + 1) 0 0 m_X10_knows 5 [vo 89, vi x1] [vi y2] g0 h1 (zPi Q)
  refine a_if_eq (pc := 5) (tgt := 17) dX10_knows_5 (by decide) (fun c => ?_) (fun c => ?_)
  · have H := H.1 c
    refine a_iconst (pc := 17) dX10_knows_17 (by decide) ?_
    exact a_ireturn (pc := 18) dX10_knows_18 trivial ⟨_, rfl, rfl, H⟩
  · have H := H.2 c
    refine a_aload_n (pc := 8) dX10_knows_8 rfl ?_
    refine a_getF (pc := 9) dX10_knows_9 fl_X10_57 (go_89) (gf_89_23) ?_
    refine a_iload_n (pc := 12) dX10_knows_12 rfl ?_
    obtain ⟨hb3, H⟩ := H
    refine a_iaload (pc := 13) dX10_knows_13 (ga_104) hb3 ?_
    refine a_goto (pc := 14) (tgt := 18) dX10_knows_14 (by decide) ?_
    exact a_ireturn (pc := 18) dX10_knows_18 trivial ⟨_, rfl, rfl, H⟩
set_option maxRecDepth 20000 in
theorem v_X10_ones {E : zE} {d : Nat} {h : zS} {Q : Int → zS → Prop} {x0 : Int}  (H : zWi E d m_X10_ones 4 [vi x0, vi 0, vi 0] h Q) : zCi E d m_X10_ones [vi x0] h Q := by
  show zAt E d 0 0 m_X10_ones 0 [vi x0, vn, vn] [] g0 h (zPi Q)
  refine a_iconst (pc := 0) dX10_ones_0 (by decide) ?_
  refine a_istore_n (pc := 1) (ls' := [vi x0, vi 0, vn]) dX10_ones_1 rfl rfl ?_
  refine a_iconst (pc := 2) dX10_ones_2 (by decide) ?_
  refine a_istore_n (pc := 3) (ls' := [vi x0, vi 0, vi 0]) dX10_ones_3 rfl rfl ?_
  exact H
set_option maxRecDepth 20000 in
theorem r_X10_ones_4 {E : zE} {d : Nat} {h : zS} {Q : Int → zS → Prop} {x0 : Int} {x1 : Int} {x2 : Int}  (H : ((12 ≤ x2 → (Q x1 h)) ∧ (x2 < 12 → (∀ y1 : Int, y1 = w32 (x1 + (z_and (z_shr x0 x2) 1)) → zWi E d m_X10_ones 4 [vi x0, vi y1, vi (w32 (x2 + 1))] h Q)))) : zWi E d m_X10_ones 4 [vi x0, vi x1, vi x2] h Q := by
  refine a_iload_n (pc := 4) dX10_ones_4 rfl ?_
  refine a_bipush (pc := 5) dX10_ones_5 (by decide) ?_
  refine a_icmp_ge (pc := 7) (tgt := 24) dX10_ones_7 (by decide) (fun c => ?_) (fun c => ?_)
  · have H := H.1 c
    refine a_iload_n (pc := 24) dX10_ones_24 rfl ?_
    exact a_ireturn (pc := 25) dX10_ones_25 trivial ⟨_, rfl, rfl, H⟩
  · have H := H.2 c
    refine a_iload_n (pc := 10) dX10_ones_10 rfl ?_
    refine a_iload_n (pc := 11) dX10_ones_11 rfl ?_
    refine a_iload_n (pc := 12) dX10_ones_12 rfl ?_
    refine a_ishr (pc := 13) dX10_ones_13 ?_
    refine a_iconst (pc := 14) dX10_ones_14 (by decide) ?_
    refine a_iand (pc := 15) dX10_ones_15 ?_
    refine a_iadd (pc := 16) dX10_ones_16 ?_
    have H := H _ rfl
    generalize (w32 (x1 + (z_and (z_shr x0 x2) 1)) : Int) = y1 at H ⊢
    refine a_istore_n (pc := 17) (ls' := [vi x0, vi y1, vi x2]) dX10_ones_17 rfl rfl ?_
    refine a_iinc (pc := 18) (ls' := [vi x0, vi y1, vi (w32 (x2 + 1))]) dX10_ones_18 rfl rfl rfl ?_
    refine a_goto (pc := 21) (tgt := 4) dX10_ones_21 (by decide) ?_
    exact H
set_option maxRecDepth 20000 in
theorem v_X10_stepOf {E : zE} {d : Nat} {h : zS} {Q : Int → zS → Prop} {x1 : Int} {x2 : Int} {x3 : Int}  (H : ((x1 ≠ x2 → ((x3 ≠ 2 → ((0 ≤ w32 ((w32 (12 * x1)) + x2) ∧ w32 ((w32 (12 * x1)) + x2) < 144) ∧ ∀ y2 : Int, y2 = hI h 103 (w32 ((w32 (12 * x1)) + x2)).toNat → ((y2 ≠ 0 → ((x3 ≠ 0 → ((x2 ≠ (hI h 89 32) → ((0 ≤ x2 ∧ x2 < 12) ∧ Q (hI h 102 x2.toNat) h)) ∧ (x2 = (hI h 89 32) → (Q 0 h)))) ∧ (x3 = 0 → (Q y2 h)))) ∧ (y2 = 0 → (Q 1000000 h))))) ∧ (x3 = 2 → (zCi E d m_X10_isThere [vo 89, vi x1] h (fun y5 h4 => ((y5 = 0 → (Q 1000000 h4)) ∧ (y5 ≠ 0 → (zCi E d m_X10_isThere [vo 89, vi x2] h4 (fun y7 h6 => ((y7 ≠ 0 → ((0 ≤ w32 ((w32 (12 * x1)) + x2) ∧ w32 ((w32 (12 * x1)) + x2) < 144) ∧ (((hI h6 118 (w32 ((w32 (12 * x1)) + x2)).toNat) ≤ 0 → (zCi E d m_X10_canMeet [vo 89, vi x1, vi x2] h6 (fun y10 h9 => ((y10 = 0 → (Q 1000000 h9)) ∧ (y10 ≠ 0 → (Q 1 h9)))))) ∧ (0 < (hI h6 118 (w32 ((w32 (12 * x1)) + x2)).toNat) → (Q 0 h6))))) ∧ (y7 = 0 → (Q 1000000 h6)))))))))))) ∧ (x1 = x2 → (Q 1000000 h)))) : zCi E (d + 1) m_X10_stepOf [vo 89, vi x1, vi x2, vi x3] h Q := by
  show zAt E (d + 1) 0 0 m_X10_stepOf 0 [vo 89, vi x1, vi x2, vi x3, vn] [] g0 h (zPi Q)
  refine a_iload_n (pc := 0) dX10_stepOf_0 rfl ?_
  refine a_iload_n (pc := 1) dX10_stepOf_1 rfl ?_
  refine a_icmp_ne (pc := 2) (tgt := 9) dX10_stepOf_2 (by decide) (fun c => ?_) (fun c => ?_)
  · have H := H.1 c
    refine a_iload_n (pc := 9) dX10_stepOf_9 rfl ?_
    refine a_iconst (pc := 10) dX10_stepOf_10 (by decide) ?_
    refine a_icmp_ne (pc := 11) (tgt := 71) dX10_stepOf_11 (by decide) (fun c => ?_) (fun c => ?_)
    · have H := H.1 c
      refine a_aload_n (pc := 71) dX10_stepOf_71 rfl ?_
      refine a_getF (pc := 72) dX10_stepOf_72 fl_X10_54 (go_89) (gf_89_22) ?_
      refine a_bipush (pc := 75) dX10_stepOf_75 (by decide) ?_
      refine a_iload_n (pc := 77) dX10_stepOf_77 rfl ?_
      refine a_imul (pc := 78) dX10_stepOf_78 ?_
      refine a_iload_n (pc := 79) dX10_stepOf_79 rfl ?_
      refine a_iadd (pc := 80) dX10_stepOf_80 ?_
      obtain ⟨hb1, H⟩ := H
      refine a_iaload (pc := 81) dX10_stepOf_81 (ga_103) hb1 ?_
      have H := H _ rfl
      generalize (hI h 103 (w32 ((w32 (12 * x1)) + x2)).toNat : Int) = y2 at H ⊢
      refine a_istore (pc := 82) (ls' := [vo 89, vi x1, vi x2, vi x3, vi y2]) dX10_stepOf_82 rfl rfl ?_
      refine a_iload (pc := 84) dX10_stepOf_84 rfl ?_
      refine a_if_ne (pc := 86) (tgt := 95) dX10_stepOf_86 (by decide) (fun c => ?_) (fun c => ?_)
      · have H := H.1 c
        refine a_iload_n (pc := 95) dX10_stepOf_95 rfl ?_
        refine a_if_ne (pc := 96) (tgt := 104) dX10_stepOf_96 (by decide) (fun c => ?_) (fun c => ?_)
        · have H := H.1 c
          refine a_iload_n (pc := 104) dX10_stepOf_104 rfl ?_
          refine a_aload_n (pc := 105) dX10_stepOf_105 rfl ?_
          refine a_getI (pc := 106) dX10_stepOf_106 fl_X10_154 (go_89) ?_
          refine a_icmp_ne (pc := 109) (tgt := 116) dX10_stepOf_109 (by decide) (fun c => ?_) (fun c => ?_)
          · have H := H.1 c
            refine a_aload_n (pc := 116) dX10_stepOf_116 rfl ?_
            refine a_getF (pc := 117) dX10_stepOf_117 fl_X10_51 (go_89) (gf_89_21) ?_
            refine a_iload_n (pc := 120) dX10_stepOf_120 rfl ?_
            obtain ⟨hb3, H⟩ := H
            refine a_iaload (pc := 121) dX10_stepOf_121 (ga_102) hb3 ?_
            exact a_ireturn (pc := 122) dX10_stepOf_122 trivial ⟨_, rfl, rfl, H⟩
          · have H := H.2 c
            refine a_iconst (pc := 112) dX10_stepOf_112 (by decide) ?_
            refine a_goto (pc := 113) (tgt := 122) dX10_stepOf_113 (by decide) ?_
            exact a_ireturn (pc := 122) dX10_stepOf_122 trivial ⟨_, rfl, rfl, H⟩
        · have H := H.2 c
          refine a_iload (pc := 99) dX10_stepOf_99 rfl ?_
          refine a_goto (pc := 101) (tgt := 122) dX10_stepOf_101 (by decide) ?_
          exact a_ireturn (pc := 122) dX10_stepOf_122 trivial ⟨_, rfl, rfl, H⟩
      · have H := H.2 c
        refine a_ldcw (pc := 89) dX10_stepOf_89 cl_X10_314 (by decide) ?_
        refine a_goto (pc := 92) (tgt := 122) dX10_stepOf_92 (by decide) ?_
        exact a_ireturn (pc := 122) dX10_stepOf_122 trivial ⟨_, rfl, rfl, H⟩
    · have H := H.2 c
      refine a_aload_n (pc := 14) dX10_stepOf_14 rfl ?_
      refine a_iload_n (pc := 15) dX10_stepOf_15 rfl ?_
      refine a_callV (pc := 16) (kc := 0) (ks := 0) (kc' := 0) (ks' := 0) (st := []) [vi x1] dX10_stepOf_16 ml_X10_315 (go_89) rfl (Nat.le_of_ble_eq_true rfl) (Nat.le_of_ble_eq_true rfl) (z_post H (fun r G1 h4 q => ?_))
      obtain ⟨y5, rfl, rfl, H⟩ := q
      show zAt E (d + 1) 0 0 m_X10_stepOf 19 [vo 89, vi x1, vi x2, vi x3, vn] [vi y5] g0 h4 (zPi Q)
      refine a_if_eq (pc := 19) (tgt := 30) dX10_stepOf_19 (by decide) (fun c => ?_) (fun c => ?_)
      · have H := H.1 c
        refine a_ldcw (pc := 30) dX10_stepOf_30 cl_X10_314 (by decide) ?_
        refine a_goto (pc := 33) (tgt := 70) dX10_stepOf_33 (by decide) ?_
        exact a_ireturn (pc := 70) dX10_stepOf_70 trivial ⟨_, rfl, rfl, H⟩
      · have H := H.2 c
        refine a_aload_n (pc := 22) dX10_stepOf_22 rfl ?_
        refine a_iload_n (pc := 23) dX10_stepOf_23 rfl ?_
        refine a_callV (pc := 24) (kc := 0) (ks := 0) (kc' := 0) (ks' := 0) (st := []) [vi x2] dX10_stepOf_24 ml_X10_315 (go_89) rfl (Nat.le_of_ble_eq_true rfl) (Nat.le_of_ble_eq_true rfl) (z_post H (fun r G1 h6 q => ?_))
        obtain ⟨y7, rfl, rfl, H⟩ := q
        show zAt E (d + 1) 0 0 m_X10_stepOf 27 [vo 89, vi x1, vi x2, vi x3, vn] [vi y7] g0 h6 (zPi Q)
        refine a_if_ne (pc := 27) (tgt := 36) dX10_stepOf_27 (by decide) (fun c => ?_) (fun c => ?_)
        · have H := H.1 c
          refine a_aload_n (pc := 36) dX10_stepOf_36 rfl ?_
          refine a_getF (pc := 37) dX10_stepOf_37 fl_X10_99 (go_89) (gf_89_48) ?_
          refine a_bipush (pc := 40) dX10_stepOf_40 (by decide) ?_
          refine a_iload_n (pc := 42) dX10_stepOf_42 rfl ?_
          refine a_imul (pc := 43) dX10_stepOf_43 ?_
          refine a_iload_n (pc := 44) dX10_stepOf_44 rfl ?_
          refine a_iadd (pc := 45) dX10_stepOf_45 ?_
          obtain ⟨hb8, H⟩ := H
          refine a_iaload (pc := 46) dX10_stepOf_46 (ga_118) hb8 ?_
          refine a_if_le (pc := 47) (tgt := 54) dX10_stepOf_47 (by decide) (fun c => ?_) (fun c => ?_)
          · have H := H.1 c
            refine a_aload_n (pc := 54) dX10_stepOf_54 rfl ?_
            refine a_iload_n (pc := 55) dX10_stepOf_55 rfl ?_
            refine a_iload_n (pc := 56) dX10_stepOf_56 rfl ?_
            refine a_callV (pc := 57) (kc := 0) (ks := 0) (kc' := 0) (ks' := 0) (st := []) [vi x1, vi x2] dX10_stepOf_57 ml_X10_318 (go_89) rfl (Nat.le_of_ble_eq_true rfl) (Nat.le_of_ble_eq_true rfl) (z_post H (fun r G1 h9 q => ?_))
            obtain ⟨y10, rfl, rfl, H⟩ := q
            show zAt E (d + 1) 0 0 m_X10_stepOf 60 [vo 89, vi x1, vi x2, vi x3, vn] [vi y10] g0 h9 (zPi Q)
            refine a_if_eq (pc := 60) (tgt := 67) dX10_stepOf_60 (by decide) (fun c => ?_) (fun c => ?_)
            · have H := H.1 c
              refine a_ldcw (pc := 67) dX10_stepOf_67 cl_X10_314 (by decide) ?_
              exact a_ireturn (pc := 70) dX10_stepOf_70 trivial ⟨_, rfl, rfl, H⟩
            · have H := H.2 c
              refine a_iconst (pc := 63) dX10_stepOf_63 (by decide) ?_
              refine a_goto (pc := 64) (tgt := 70) dX10_stepOf_64 (by decide) ?_
              exact a_ireturn (pc := 70) dX10_stepOf_70 trivial ⟨_, rfl, rfl, H⟩
          · have H := H.2 c
            refine a_iconst (pc := 50) dX10_stepOf_50 (by decide) ?_
            refine a_goto (pc := 51) (tgt := 70) dX10_stepOf_51 (by decide) ?_
            exact a_ireturn (pc := 70) dX10_stepOf_70 trivial ⟨_, rfl, rfl, H⟩
        · have H := H.2 c
          refine a_ldcw (pc := 30) dX10_stepOf_30 cl_X10_314 (by decide) ?_
          refine a_goto (pc := 33) (tgt := 70) dX10_stepOf_33 (by decide) ?_
          exact a_ireturn (pc := 70) dX10_stepOf_70 trivial ⟨_, rfl, rfl, H⟩
  · have H := H.2 c
    refine a_ldcw (pc := 5) dX10_stepOf_5 cl_X10_314 (by decide) ?_
    exact a_ireturn (pc := 8) dX10_stepOf_8 trivial ⟨_, rfl, rfl, H⟩
set_option maxRecDepth 20000 in
theorem v_X10_layWays {E : zE} {d : Nat} {h : zS} {Q : zS → Prop} {x1 : Int}  (H : zWv E (d + 1) m_X10_layWays 2 [vo 89, vi x1, vi 0, vn, vn] h Q) : zCv E (d + 1) m_X10_layWays [vo 89, vi x1] h Q := by
  show zAt E (d + 1) 0 0 m_X10_layWays 0 [vo 89, vi x1, vn, vn, vn] [] g0 h (zPv Q)
  refine a_iconst (pc := 0) dX10_layWays_0 (by decide) ?_
  refine a_istore_n (pc := 1) (ls' := [vo 89, vi x1, vi 0, vn, vn]) dX10_layWays_1 rfl rfl ?_
  exact H
set_option maxRecDepth 20000 in
theorem r_X10_layWays_2 {E : zE} {d : Nat} {h : zS} {Q : zS → Prop} {x1 : Int} {x2 : Int}  (H : ((12 ≤ x2 → ((0 ≤ hI h 89 32 ∧ hI h 89 32 < 12) ∧ ∀ h2, h2 = stI h 105 (hI h 89 32).toNat 0 → (0 ≤ hI h2 89 32 ∧ hI h2 89 32 < 12) ∧ ∀ h4, h4 = stI h2 106 (hI h2 89 32).toNat 0 → zWv E (d + 1) m_X10_layWays 54 [vo 89, vi x1, vi 0, vn, vn] h4 Q)) ∧ (x2 < 12 → ((0 ≤ x2 ∧ x2 < 12) ∧ ∀ h6, h6 = stI h 105 x2.toNat 1000000 → ∀ h7, h7 = stI h6 106 x2.toNat 1000000 → zWv E (d + 1) m_X10_layWays 2 [vo 89, vi x1, vi (w32 (x2 + 1)), vn, vn] h7 Q)))) : zWv E (d + 1) m_X10_layWays 2 [vo 89, vi x1, vi x2, vn, vn] h Q := by
  refine a_iload_n (pc := 2) dX10_layWays_2 rfl ?_
  refine a_bipush (pc := 3) dX10_layWays_3 (by decide) ?_
  refine a_icmp_ge (pc := 5) (tgt := 32) dX10_layWays_5 (by decide) (fun c => ?_) (fun c => ?_)
  · have H := H.1 c
    refine a_aload_n (pc := 32) dX10_layWays_32 rfl ?_
    refine a_getF (pc := 33) dX10_layWays_33 fl_X10_60 (go_89) (gf_89_34) ?_
    refine a_aload_n (pc := 36) dX10_layWays_36 rfl ?_
    refine a_getI (pc := 37) dX10_layWays_37 fl_X10_154 (go_89) ?_
    refine a_iconst (pc := 40) dX10_layWays_40 (by decide) ?_
    obtain ⟨hb1, H⟩ := H
    refine a_iastore (pc := 41) dX10_layWays_41 (ga_105) hb1 ?_
    have H := H _ rfl
    generalize stI h 105 (hI h 89 32).toNat 0 = h2 at H ⊢
    refine a_aload_n (pc := 42) dX10_layWays_42 rfl ?_
    refine a_getF (pc := 43) dX10_layWays_43 fl_X10_63 (go_89) (gf_89_35) ?_
    refine a_aload_n (pc := 46) dX10_layWays_46 rfl ?_
    refine a_getI (pc := 47) dX10_layWays_47 fl_X10_154 (go_89) ?_
    refine a_iconst (pc := 50) dX10_layWays_50 (by decide) ?_
    obtain ⟨hb3, H⟩ := H
    refine a_iastore (pc := 51) dX10_layWays_51 (ga_106) hb3 ?_
    have H := H _ rfl
    generalize stI h2 106 (hI h2 89 32).toNat 0 = h4 at H ⊢
    refine a_iconst (pc := 52) dX10_layWays_52 (by decide) ?_
    refine a_istore_n (pc := 53) (ls' := [vo 89, vi x1, vi 0, vn, vn]) dX10_layWays_53 rfl rfl ?_
    exact H
  · have H := H.2 c
    refine a_aload_n (pc := 8) dX10_layWays_8 rfl ?_
    refine a_getF (pc := 9) dX10_layWays_9 fl_X10_60 (go_89) (gf_89_34) ?_
    refine a_iload_n (pc := 12) dX10_layWays_12 rfl ?_
    refine a_ldcw (pc := 13) dX10_layWays_13 cl_X10_314 (by decide) ?_
    obtain ⟨hb5, H⟩ := H
    refine a_iastore (pc := 16) dX10_layWays_16 (ga_105) hb5 ?_
    have H := H _ rfl
    generalize stI h 105 x2.toNat 1000000 = h6 at H ⊢
    refine a_aload_n (pc := 17) dX10_layWays_17 rfl ?_
    refine a_getF (pc := 18) dX10_layWays_18 fl_X10_63 (go_89) (gf_89_35) ?_
    refine a_iload_n (pc := 21) dX10_layWays_21 rfl ?_
    refine a_ldcw (pc := 22) dX10_layWays_22 cl_X10_314 (by decide) ?_
    refine a_iastore (pc := 25) dX10_layWays_25 (ga_106) hb5 ?_
    have H := H _ rfl
    generalize stI h6 106 x2.toNat 1000000 = h7 at H ⊢
    refine a_iinc (pc := 26) (ls' := [vo 89, vi x1, vi (w32 (x2 + 1)), vn, vn]) dX10_layWays_26 rfl rfl rfl ?_
    refine a_goto (pc := 29) (tgt := 2) dX10_layWays_29 (by decide) ?_
    exact H
set_option maxRecDepth 20000 in
theorem r_X10_layWays_54 {E : zE} {d : Nat} {h : zS} {Q : zS → Prop} {x1 : Int} {x2 : Int}  (H : (((hI h 89 29) ≤ x2 → (Q h)) ∧ (x2 < (hI h 89 29) → (zWv E (d + 1) m_X10_layWays 64 [vo 89, vi x1, vi x2, vi 0, vn] h Q)))) : zWv E (d + 1) m_X10_layWays 54 [vo 89, vi x1, vi x2, vn, vn] h Q := by
  refine a_iload_n (pc := 54) dX10_layWays_54 rfl ?_
  refine a_aload_n (pc := 55) dX10_layWays_55 rfl ?_
  refine a_getI (pc := 56) dX10_layWays_56 fl_X10_289 (go_89) ?_
  refine a_icmp_ge (pc := 59) (tgt := 117) dX10_layWays_59 (by decide) (fun c => ?_) (fun c => ?_)
  · have H := H.1 c
    exact a_return (pc := 117) dX10_layWays_117 trivial ⟨rfl, rfl, H⟩
  · have H := H.2 c
    refine a_iconst (pc := 62) dX10_layWays_62 (by decide) ?_
    refine a_istore_n (pc := 63) (ls' := [vo 89, vi x1, vi x2, vi 0, vn]) dX10_layWays_63 rfl rfl ?_
    exact H
set_option maxRecDepth 20000 in
theorem r_X10_layWays_64 {E : zE} {d : Nat} {h : zS} {Q : zS → Prop} {x1 : Int} {x2 : Int} {x3 : Int}  (H : (((hI h 89 29) ≤ x3 → (zWv E (d + 1) m_X10_layWays 54 [vo 89, vi x1, vi (w32 (x2 + 1)), vn, vn] h Q)) ∧ (x3 < (hI h 89 29) → (zWv E (d + 1) m_X10_layWays 75 [vo 89, vi x1, vi x2, vi x3, vi 0] h Q)))) : zWv E (d + 1) m_X10_layWays 64 [vo 89, vi x1, vi x2, vi x3, vn] h Q := by
  refine a_iload_n (pc := 64) dX10_layWays_64 rfl ?_
  refine a_aload_n (pc := 65) dX10_layWays_65 rfl ?_
  refine a_getI (pc := 66) dX10_layWays_66 fl_X10_289 (go_89) ?_
  refine a_icmp_ge (pc := 69) (tgt := 111) dX10_layWays_69 (by decide) (fun c => ?_) (fun c => ?_)
  · have H := H.1 c
    refine a_iinc (pc := 111) (ls' := [vo 89, vi x1, vi (w32 (x2 + 1)), vi x3, vn]) dX10_layWays_111 rfl rfl rfl ?_
    refine a_goto (pc := 114) (tgt := 54) dX10_layWays_114 (by decide) ?_
    exact z_forget (ls' := [vo 89, vi x1, vi (w32 (x2 + 1)), vn, vn]) ⟨.inr rfl, .inr rfl, .inr rfl, .inl rfl, .inr rfl, trivial⟩ H
  · have H := H.2 c
    refine a_iconst (pc := 72) dX10_layWays_72 (by decide) ?_
    refine a_istore (pc := 73) (ls' := [vo 89, vi x1, vi x2, vi x3, vi 0]) dX10_layWays_73 rfl rfl ?_
    exact H
set_option maxRecDepth 20000 in
theorem r_X10_layWays_75 {E : zE} {d : Nat} {h : zS} {Q : zS → Prop} {x1 : Int} {x2 : Int} {x3 : Int} {x4 : Int}  (H : (((hI h 89 29) ≤ x4 → (zWv E (d + 1) m_X10_layWays 64 [vo 89, vi x1, vi x2, vi (w32 (x3 + 1)), vn] h Q)) ∧ (x4 < (hI h 89 29) → (zCi E d m_X10_stepOf [vo 89, vi x3, vi x4, vi x1] h (fun y2 h1 => zCv E d m_X10_better [vo 89, vi x3, vi x4, vi y2] h1 (fun h3 => zWv E (d + 1) m_X10_layWays 75 [vo 89, vi x1, vi x2, vi x3, vi (w32 (x4 + 1))] h3 Q)))))) : zWv E (d + 1) m_X10_layWays 75 [vo 89, vi x1, vi x2, vi x3, vi x4] h Q := by
  refine a_iload (pc := 75) dX10_layWays_75 rfl ?_
  refine a_aload_n (pc := 77) dX10_layWays_77 rfl ?_
  refine a_getI (pc := 78) dX10_layWays_78 fl_X10_289 (go_89) ?_
  refine a_icmp_ge (pc := 81) (tgt := 105) dX10_layWays_81 (by decide) (fun c => ?_) (fun c => ?_)
  · have H := H.1 c
    refine a_iinc (pc := 105) (ls' := [vo 89, vi x1, vi x2, vi (w32 (x3 + 1)), vi x4]) dX10_layWays_105 rfl rfl rfl ?_
    refine a_goto (pc := 108) (tgt := 64) dX10_layWays_108 (by decide) ?_
    exact z_forget (ls' := [vo 89, vi x1, vi x2, vi (w32 (x3 + 1)), vn]) ⟨.inr rfl, .inr rfl, .inr rfl, .inr rfl, .inl rfl, trivial⟩ H
  · have H := H.2 c
    refine a_aload_n (pc := 84) dX10_layWays_84 rfl ?_
    refine a_iload_n (pc := 85) dX10_layWays_85 rfl ?_
    refine a_iload (pc := 86) dX10_layWays_86 rfl ?_
    refine a_aload_n (pc := 88) dX10_layWays_88 rfl ?_
    refine a_iload_n (pc := 89) dX10_layWays_89 rfl ?_
    refine a_iload (pc := 90) dX10_layWays_90 rfl ?_
    refine a_iload_n (pc := 92) dX10_layWays_92 rfl ?_
    refine a_callV (pc := 93) (kc := 0) (ks := 0) (kc' := 0) (ks' := 0) (st := [vi x4, vi x3, vo 89]) [vi x3, vi x4, vi x1] dX10_layWays_93 ml_X10_322 (go_89) rfl (Nat.le_of_ble_eq_true rfl) (Nat.le_of_ble_eq_true rfl) (z_post H (fun r G1 h1 q => ?_))
    obtain ⟨y2, rfl, rfl, H⟩ := q
    show zAt E (d + 1) 0 0 m_X10_layWays 96 [vo 89, vi x1, vi x2, vi x3, vi x4] [vi y2, vi x4, vi x3, vo 89] g0 h1 (zPv Q)
    refine a_callV (pc := 96) (kc := 0) (ks := 0) (kc' := 0) (ks' := 0) (st := []) [vi x3, vi x4, vi y2] dX10_layWays_96 ml_X10_326 (go_89) rfl (Nat.le_of_ble_eq_true rfl) (Nat.le_of_ble_eq_true rfl) (z_post H (fun r G1 h3 q => ?_))
    obtain ⟨rfl, rfl, H⟩ := q
    show zAt E (d + 1) 0 0 m_X10_layWays 99 [vo 89, vi x1, vi x2, vi x3, vi x4] [] g0 h3 (zPv Q)
    refine a_iinc (pc := 99) (ls' := [vo 89, vi x1, vi x2, vi x3, vi (w32 (x4 + 1))]) dX10_layWays_99 rfl rfl rfl ?_
    refine a_goto (pc := 102) (tgt := 75) dX10_layWays_102 (by decide) ?_
    exact H
set_option maxRecDepth 20000 in
theorem v_X10_better {E : zE} {d : Nat} {h : zS} {Q : zS → Prop} {x1 : Int} {x2 : Int} {x3 : Int}  (H : ((x3 = 1000000 → (Q h)) ∧ (x3 ≠ 1000000 → ((0 ≤ x2 ∧ x2 < 12) ∧ (((hI h 105 x2.toNat) = 1000000 → (Q h)) ∧ ((hI h 105 x2.toNat) ≠ 1000000 → ((x1 ≠ (hI h 89 32) → (∀ y2 : Int, y2 = w32 ((hI h 105 x2.toNat) + x3) → ∀ y3 : Int, y3 = w32 ((hI h 106 x2.toNat) + 1) → (0 ≤ x1 ∧ x1 < 12) ∧ (((hI h 105 x1.toNat) < y2 → (Q h)) ∧ (y2 ≤ (hI h 105 x1.toNat) → ((y2 ≠ (hI h 105 x1.toNat) → (∀ h5, h5 = stI h 105 x1.toNat y2 → ∀ h6, h6 = stI h5 106 x1.toNat y3 → Q h6)) ∧ (y2 = (hI h 105 x1.toNat) → ((y3 < (hI h 106 x1.toNat) → (∀ h7, h7 = stI h 105 x1.toNat y2 → ∀ h8, h8 = stI h7 106 x1.toNat y3 → Q h8)) ∧ ((hI h 106 x1.toNat) ≤ y3 → (Q h))))))))) ∧ (x1 = (hI h 89 32) → (Q h))))))))) : zCv E d m_X10_better [vo 89, vi x1, vi x2, vi x3] h Q := by
  show zAt E d 0 0 m_X10_better 0 [vo 89, vi x1, vi x2, vi x3, vn, vn] [] g0 h (zPv Q)
  refine a_iload_n (pc := 0) dX10_better_0 rfl ?_
  refine a_ldcw (pc := 1) dX10_better_1 cl_X10_314 (by decide) ?_
  refine a_icmp_eq (pc := 4) (tgt := 27) dX10_better_4 (by decide) (fun c => ?_) (fun c => ?_)
  · have H := H.1 c
    exact a_return (pc := 27) dX10_better_27 trivial ⟨rfl, rfl, H⟩
  · have H := H.2 c
    refine a_aload_n (pc := 7) dX10_better_7 rfl ?_
    refine a_getF (pc := 8) dX10_better_8 fl_X10_60 (go_89) (gf_89_34) ?_
    refine a_iload_n (pc := 11) dX10_better_11 rfl ?_
    obtain ⟨hb1, H⟩ := H
    refine a_iaload (pc := 12) dX10_better_12 (ga_105) hb1 ?_
    refine a_ldcw (pc := 13) dX10_better_13 cl_X10_314 (by decide) ?_
    refine a_icmp_eq (pc := 16) (tgt := 27) dX10_better_16 (by decide) (fun c => ?_) (fun c => ?_)
    · have H := H.1 c
      exact a_return (pc := 27) dX10_better_27 trivial ⟨rfl, rfl, H⟩
    · have H := H.2 c
      refine a_iload_n (pc := 19) dX10_better_19 rfl ?_
      refine a_aload_n (pc := 20) dX10_better_20 rfl ?_
      refine a_getI (pc := 21) dX10_better_21 fl_X10_154 (go_89) ?_
      refine a_icmp_ne (pc := 24) (tgt := 28) dX10_better_24 (by decide) (fun c => ?_) (fun c => ?_)
      · have H := H.1 c
        refine a_aload_n (pc := 28) dX10_better_28 rfl ?_
        refine a_getF (pc := 29) dX10_better_29 fl_X10_60 (go_89) (gf_89_34) ?_
        refine a_iload_n (pc := 32) dX10_better_32 rfl ?_
        refine a_iaload (pc := 33) dX10_better_33 (ga_105) hb1 ?_
        refine a_iload_n (pc := 34) dX10_better_34 rfl ?_
        refine a_iadd (pc := 35) dX10_better_35 ?_
        have H := H _ rfl
        generalize (w32 ((hI h 105 x2.toNat) + x3) : Int) = y2 at H ⊢
        refine a_istore (pc := 36) (ls' := [vo 89, vi x1, vi x2, vi x3, vi y2, vn]) dX10_better_36 rfl rfl ?_
        refine a_aload_n (pc := 38) dX10_better_38 rfl ?_
        refine a_getF (pc := 39) dX10_better_39 fl_X10_63 (go_89) (gf_89_35) ?_
        refine a_iload_n (pc := 42) dX10_better_42 rfl ?_
        refine a_iaload (pc := 43) dX10_better_43 (ga_106) hb1 ?_
        refine a_iconst (pc := 44) dX10_better_44 (by decide) ?_
        refine a_iadd (pc := 45) dX10_better_45 ?_
        have H := H _ rfl
        generalize (w32 ((hI h 106 x2.toNat) + 1) : Int) = y3 at H ⊢
        refine a_istore (pc := 46) (ls' := [vo 89, vi x1, vi x2, vi x3, vi y2, vi y3]) dX10_better_46 rfl rfl ?_
        refine a_iload (pc := 48) dX10_better_48 rfl ?_
        refine a_aload_n (pc := 50) dX10_better_50 rfl ?_
        refine a_getF (pc := 51) dX10_better_51 fl_X10_60 (go_89) (gf_89_34) ?_
        refine a_iload_n (pc := 54) dX10_better_54 rfl ?_
        obtain ⟨hb4, H⟩ := H
        refine a_iaload (pc := 55) dX10_better_55 (ga_105) hb4 ?_
        refine a_icmp_gt (pc := 56) (tgt := 81) dX10_better_56 (by decide) (fun c => ?_) (fun c => ?_)
        · have H := H.1 c
          exact a_return (pc := 81) dX10_better_81 trivial ⟨rfl, rfl, H⟩
        · have H := H.2 c
          refine a_iload (pc := 59) dX10_better_59 rfl ?_
          refine a_aload_n (pc := 61) dX10_better_61 rfl ?_
          refine a_getF (pc := 62) dX10_better_62 fl_X10_60 (go_89) (gf_89_34) ?_
          refine a_iload_n (pc := 65) dX10_better_65 rfl ?_
          refine a_iaload (pc := 66) dX10_better_66 (ga_105) hb4 ?_
          refine a_icmp_ne (pc := 67) (tgt := 82) dX10_better_67 (by decide) (fun c => ?_) (fun c => ?_)
          · have H := H.1 c
            refine a_aload_n (pc := 82) dX10_better_82 rfl ?_
            refine a_getF (pc := 83) dX10_better_83 fl_X10_60 (go_89) (gf_89_34) ?_
            refine a_iload_n (pc := 86) dX10_better_86 rfl ?_
            refine a_iload (pc := 87) dX10_better_87 rfl ?_
            refine a_iastore (pc := 89) dX10_better_89 (ga_105) hb4 ?_
            have H := H _ rfl
            generalize stI h 105 x1.toNat y2 = h5 at H ⊢
            refine a_aload_n (pc := 90) dX10_better_90 rfl ?_
            refine a_getF (pc := 91) dX10_better_91 fl_X10_63 (go_89) (gf_89_35) ?_
            refine a_iload_n (pc := 94) dX10_better_94 rfl ?_
            refine a_iload (pc := 95) dX10_better_95 rfl ?_
            refine a_iastore (pc := 97) dX10_better_97 (ga_106) hb4 ?_
            have H := H _ rfl
            generalize stI h5 106 x1.toNat y3 = h6 at H ⊢
            exact a_return (pc := 98) dX10_better_98 trivial ⟨rfl, rfl, H⟩
          · have H := H.2 c
            refine a_iload (pc := 70) dX10_better_70 rfl ?_
            refine a_aload_n (pc := 72) dX10_better_72 rfl ?_
            refine a_getF (pc := 73) dX10_better_73 fl_X10_63 (go_89) (gf_89_35) ?_
            refine a_iload_n (pc := 76) dX10_better_76 rfl ?_
            refine a_iaload (pc := 77) dX10_better_77 (ga_106) hb4 ?_
            refine a_icmp_lt (pc := 78) (tgt := 82) dX10_better_78 (by decide) (fun c => ?_) (fun c => ?_)
            · have H := H.1 c
              refine a_aload_n (pc := 82) dX10_better_82 rfl ?_
              refine a_getF (pc := 83) dX10_better_83 fl_X10_60 (go_89) (gf_89_34) ?_
              refine a_iload_n (pc := 86) dX10_better_86 rfl ?_
              refine a_iload (pc := 87) dX10_better_87 rfl ?_
              refine a_iastore (pc := 89) dX10_better_89 (ga_105) hb4 ?_
              have H := H _ rfl
              generalize stI h 105 x1.toNat y2 = h7 at H ⊢
              refine a_aload_n (pc := 90) dX10_better_90 rfl ?_
              refine a_getF (pc := 91) dX10_better_91 fl_X10_63 (go_89) (gf_89_35) ?_
              refine a_iload_n (pc := 94) dX10_better_94 rfl ?_
              refine a_iload (pc := 95) dX10_better_95 rfl ?_
              refine a_iastore (pc := 97) dX10_better_97 (ga_106) hb4 ?_
              have H := H _ rfl
              generalize stI h7 106 x1.toNat y3 = h8 at H ⊢
              exact a_return (pc := 98) dX10_better_98 trivial ⟨rfl, rfl, H⟩
            · have H := H.2 c
              exact a_return (pc := 81) dX10_better_81 trivial ⟨rfl, rfl, H⟩
      · have H := H.2 c
        exact a_return (pc := 27) dX10_better_27 trivial ⟨rfl, rfl, H⟩
