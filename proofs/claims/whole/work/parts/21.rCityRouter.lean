/-! by program: the conditions of each method, CityRouter -/
set_option maxRecDepth 20000 in
theorem v_X0_clear {E : zE} {d : Nat} {h : zS} {Q : zS → Prop} {k0 : Nat} (hk0 : isCity k0) (H : ∀ h1, h1 = stI h k0 0 0 → ∀ h2, h2 = stI h1 k0 1 0 → ∀ h3, h3 = stI h2 k0 2 (-1) → ∀ h4, h4 = stI h3 k0 3 (-1) → ∀ h5, h5 = stI h4 k0 4 0 → zCv E d m_J7_fill_53178 [vo (k0 + 7), vi 0] h5 (fun h6 => Q h6)) : zCv E (d + 1) m_X0_clear [vo k0] h Q := by
  show zAt E (d + 1) 0 0 m_X0_clear 0 [vo k0] [] g0 h (zPv Q)
  refine a_aload_n (pc := 0) dX0_clear_0 rfl ?_
  refine a_iconst (pc := 1) dX0_clear_1 (by decide) ?_
  refine a_putI (pc := 2) dX0_clear_2 fl_X0_47 (goCity hk0) ?_
  have H := H _ rfl
  generalize stI h k0 0 0 = h1 at H ⊢
  refine a_aload_n (pc := 5) dX0_clear_5 rfl ?_
  refine a_iconst (pc := 6) dX0_clear_6 (by decide) ?_
  refine a_putI (pc := 7) dX0_clear_7 fl_X0_50 (goCity hk0) ?_
  have H := H _ rfl
  generalize stI h1 k0 1 0 = h2 at H ⊢
  refine a_aload_n (pc := 10) dX0_clear_10 rfl ?_
  refine a_iconst (pc := 11) dX0_clear_11 (by decide) ?_
  refine a_putI (pc := 12) dX0_clear_12 fl_X0_9 (goCity hk0) ?_
  have H := H _ rfl
  generalize stI h2 k0 2 (-1) = h3 at H ⊢
  refine a_aload_n (pc := 15) dX0_clear_15 rfl ?_
  refine a_iconst (pc := 16) dX0_clear_16 (by decide) ?_
  refine a_putI (pc := 17) dX0_clear_17 fl_X0_15 (goCity hk0) ?_
  have H := H _ rfl
  generalize stI h3 k0 3 (-1) = h4 at H ⊢
  refine a_aload_n (pc := 20) dX0_clear_20 rfl ?_
  refine a_iconst (pc := 21) dX0_clear_21 (by decide) ?_
  refine a_putI (pc := 22) dX0_clear_22 fl_X0_53 (goCity hk0) ?_
  have H := H _ rfl
  generalize stI h4 k0 4 0 = h5 at H ⊢
  refine a_aload_n (pc := 25) dX0_clear_25 rfl ?_
  refine a_getF (pc := 26) dX0_clear_26 fl_X0_38 (goCity hk0) (gfCity_11 hk0) ?_
  refine a_iconst (pc := 29) dX0_clear_29 (by decide) ?_
  refine a_callS (pc := 30) (kc := 0) (ks := 0) (kc' := 0) (ks' := 0) (st := []) [vo (k0 + 7), vi 0] dX0_clear_30 ml_X0_56 rfl (Nat.le_of_ble_eq_true rfl) (Nat.le_of_ble_eq_true rfl) (z_post H (fun r G1 h6 q => ?_))
  obtain ⟨rfl, rfl, H⟩ := q
  show zAt E (d + 1) 0 0 m_X0_clear 33 [vo k0] [] g0 h6 (zPv Q)
  exact a_return (pc := 33) dX0_clear_33 trivial ⟨rfl, rfl, H⟩
set_option maxRecDepth 20000 in
theorem v_X0_has {E : zE} {d : Nat} {h : zS} {Q : Int → zS → Prop} {k0 : Nat} {x1 : Int} (hk0 : isCity k0) (H : ((x1 < 0 → (Q 0 h)) ∧ (0 ≤ x1 → (((hI h k0 0) ≤ x1 → (Q 0 h)) ∧ (x1 < (hI h k0 0) → (Q 1 h)))))) : zCi E d m_X0_has [vo k0, vi x1] h Q := by
  show zAt E d 0 0 m_X0_has 0 [vo k0, vi x1] [] g0 h (zPi Q)
  refine a_iload_n (pc := 0) dX0_has_0 rfl ?_
  refine a_if_lt (pc := 1) (tgt := 16) dX0_has_1 (by decide) (fun c => ?_) (fun c => ?_)
  · have H := H.1 c
    refine a_iconst (pc := 16) dX0_has_16 (by decide) ?_
    exact a_ireturn (pc := 17) dX0_has_17 (.inl rfl) ⟨_, rfl, rfl, H⟩
  · have H := H.2 c
    refine a_iload_n (pc := 4) dX0_has_4 rfl ?_
    refine a_aload_n (pc := 5) dX0_has_5 rfl ?_
    refine a_getI (pc := 6) dX0_has_6 fl_X0_47 (goCity hk0) ?_
    refine a_icmp_ge (pc := 9) (tgt := 16) dX0_has_9 (by decide) (fun c => ?_) (fun c => ?_)
    · have H := H.1 c
      refine a_iconst (pc := 16) dX0_has_16 (by decide) ?_
      exact a_ireturn (pc := 17) dX0_has_17 (.inl rfl) ⟨_, rfl, rfl, H⟩
    · have H := H.2 c
      refine a_iconst (pc := 12) dX0_has_12 (by decide) ?_
      refine a_goto (pc := 13) (tgt := 17) dX0_has_13 (by decide) ?_
      exact a_ireturn (pc := 17) dX0_has_17 (.inr rfl) ⟨_, rfl, rfl, H⟩
set_option maxRecDepth 20000 in
theorem v_X0_hasEnds {E : zE} {d : Nat} {h : zS} {Q : Int → zS → Prop} {k0 : Nat} (hk0 : isCity k0) (H : zCi E d m_X0_has [vo k0, vi (hI h k0 2)] h (fun y2 h1 => ((y2 = 0 → (Q 0 h1)) ∧ (y2 ≠ 0 → (zCi E d m_X0_has [vo k0, vi (hI h1 k0 3)] h1 (fun y4 h3 => ((y4 = 0 → (Q 0 h3)) ∧ (y4 ≠ 0 → (Q 1 h3))))))))) : zCi E (d + 1) m_X0_hasEnds [vo k0] h Q := by
  show zAt E (d + 1) 0 0 m_X0_hasEnds 0 [vo k0] [] g0 h (zPi Q)
  refine a_aload_n (pc := 0) dX0_hasEnds_0 rfl ?_
  refine a_aload_n (pc := 1) dX0_hasEnds_1 rfl ?_
  refine a_getI (pc := 2) dX0_hasEnds_2 fl_X0_9 (goCity hk0) ?_
  refine a_callV (pc := 5) (kc := 0) (ks := 0) (kc' := 0) (ks' := 0) (st := []) [vi (hI h k0 2)] dX0_hasEnds_5 ml_X0_62 (goCity hk0) rfl (Nat.le_of_ble_eq_true rfl) (Nat.le_of_ble_eq_true rfl) (z_post H (fun r G1 h1 q => ?_))
  obtain ⟨y2, rfl, rfl, H⟩ := q
  show zAt E (d + 1) 0 0 m_X0_hasEnds 8 [vo k0] [vi y2] g0 h1 (zPi Q)
  refine a_if_eq (pc := 8) (tgt := 26) dX0_hasEnds_8 (by decide) (fun c => ?_) (fun c => ?_)
  · have H := H.1 c
    refine a_iconst (pc := 26) dX0_hasEnds_26 (by decide) ?_
    exact a_ireturn (pc := 27) dX0_hasEnds_27 (.inl rfl) ⟨_, rfl, rfl, H⟩
  · have H := H.2 c
    refine a_aload_n (pc := 11) dX0_hasEnds_11 rfl ?_
    refine a_aload_n (pc := 12) dX0_hasEnds_12 rfl ?_
    refine a_getI (pc := 13) dX0_hasEnds_13 fl_X0_15 (goCity hk0) ?_
    refine a_callV (pc := 16) (kc := 0) (ks := 0) (kc' := 0) (ks' := 0) (st := []) [vi (hI h1 k0 3)] dX0_hasEnds_16 ml_X0_62 (goCity hk0) rfl (Nat.le_of_ble_eq_true rfl) (Nat.le_of_ble_eq_true rfl) (z_post H (fun r G1 h3 q => ?_))
    obtain ⟨y4, rfl, rfl, H⟩ := q
    show zAt E (d + 1) 0 0 m_X0_hasEnds 19 [vo k0] [vi y4] g0 h3 (zPi Q)
    refine a_if_eq (pc := 19) (tgt := 26) dX0_hasEnds_19 (by decide) (fun c => ?_) (fun c => ?_)
    · have H := H.1 c
      refine a_iconst (pc := 26) dX0_hasEnds_26 (by decide) ?_
      exact a_ireturn (pc := 27) dX0_hasEnds_27 (.inl rfl) ⟨_, rfl, rfl, H⟩
    · have H := H.2 c
      refine a_iconst (pc := 22) dX0_hasEnds_22 (by decide) ?_
      refine a_goto (pc := 23) (tgt := 27) dX0_hasEnds_23 (by decide) ?_
      exact a_ireturn (pc := 27) dX0_hasEnds_27 (.inr rfl) ⟨_, rfl, rfl, H⟩
set_option maxRecDepth 20000 in
theorem v_X0_isBox {E : zE} {d : Nat} {h : zS} {Q : Int → zS → Prop} {k0 : Nat} {x1 : Int} (hk0 : isCity k0) (H : zCi E d m_X9_isIn [vi (hI h k0 14), vi x1] h (fun y2 h1 => (y2 = 0 ∨ y2 = 1) ∧ Q y2 h1)) : zCi E (d + 1) m_X0_isBox [vo k0, vi x1] h Q := by
  show zAt E (d + 1) 0 0 m_X0_isBox 0 [vo k0, vi x1] [] g0 h (zPi Q)
  refine a_aload_n (pc := 0) dX0_isBox_0 rfl ?_
  refine a_getI (pc := 1) dX0_isBox_1 fl_X0_66 (goCity hk0) ?_
  refine a_iload_n (pc := 4) dX0_isBox_4 rfl ?_
  refine a_callSN (pc := 5) (kc := 0) (ks := 0) (kc' := 0) (ks' := 0) (st := []) [vi (hI h k0 14), vi x1] dX0_isBox_5 ml_X0_69 rfl (Nat.le_of_ble_eq_true rfl) (Nat.le_of_ble_eq_true rfl) (z_post H (fun r G1 h1 q => ?_))
  obtain ⟨y2, rfl, rfl, H⟩ := q
  show zAt E (d + 1) 0 0 m_X0_isBox 8 [vo k0, vi x1] [vi y2] g0 h1 (zPi Q)
  obtain ⟨hz, H⟩ := H
  exact a_ireturn (pc := 8) dX0_isBox_8 hz ⟨_, rfl, rfl, H⟩
set_option maxRecDepth 20000 in
theorem v_X0_gives {E : zE} {d : Nat} {h : zS} {Q : Int → zS → Prop} {k0 : Nat} {x1 : Int} {x2 : Int} (hk0 : isCity k0) (H : zCi E d m_X9_pair [vi x1, vi x2] h (fun y2 h1 => (0 ≤ y2 ∧ y2 < 144) ∧ (((hI h1 (k0 + 7) y2.toNat) ≤ 0 → (Q 0 h1)) ∧ (0 < (hI h1 (k0 + 7) y2.toNat) → (Q 1 h1))))) : zCi E (d + 1) m_X0_gives [vo k0, vi x1, vi x2] h Q := by
  show zAt E (d + 1) 0 0 m_X0_gives 0 [vo k0, vi x1, vi x2] [] g0 h (zPi Q)
  refine a_aload_n (pc := 0) dX0_gives_0 rfl ?_
  refine a_getF (pc := 1) dX0_gives_1 fl_X0_38 (goCity hk0) (gfCity_11 hk0) ?_
  refine a_iload_n (pc := 4) dX0_gives_4 rfl ?_
  refine a_iload_n (pc := 5) dX0_gives_5 rfl ?_
  refine a_callSN (pc := 6) (kc := 0) (ks := 0) (kc' := 0) (ks' := 0) (st := [vo (k0 + 7)]) [vi x1, vi x2] dX0_gives_6 ml_X0_73 rfl (Nat.le_of_ble_eq_true rfl) (Nat.le_of_ble_eq_true rfl) (z_post H (fun r G1 h1 q => ?_))
  obtain ⟨y2, rfl, rfl, H⟩ := q
  show zAt E (d + 1) 0 0 m_X0_gives 9 [vo k0, vi x1, vi x2] [vi y2, vo (k0 + 7)] g0 h1 (zPi Q)
  obtain ⟨hb3, H⟩ := H
  refine a_iaload (pc := 9) dX0_gives_9 (gaCity_11 hk0) hb3 ?_
  refine a_if_le (pc := 10) (tgt := 17) dX0_gives_10 (by decide) (fun c => ?_) (fun c => ?_)
  · have H := H.1 c
    refine a_iconst (pc := 17) dX0_gives_17 (by decide) ?_
    exact a_ireturn (pc := 18) dX0_gives_18 (.inl rfl) ⟨_, rfl, rfl, H⟩
  · have H := H.2 c
    refine a_iconst (pc := 13) dX0_gives_13 (by decide) ?_
    refine a_goto (pc := 14) (tgt := 18) dX0_gives_14 (by decide) ?_
    exact a_ireturn (pc := 18) dX0_gives_18 (.inr rfl) ⟨_, rfl, rfl, H⟩
set_option maxRecDepth 20000 in
theorem v_X0_everybody {E : zE} {d : Nat} {h : zS} {Q : Int → zS → Prop} {k0 : Nat} (hk0 : isCity k0) (H : Q (w32 ((z_shl 1 (hI h k0 0)) - 1)) h) : zCi E d m_X0_everybody [vo k0] h Q := by
  show zAt E d 0 0 m_X0_everybody 0 [vo k0] [] g0 h (zPi Q)
  refine a_iconst (pc := 0) dX0_everybody_0 (by decide) ?_
  refine a_aload_n (pc := 1) dX0_everybody_1 rfl ?_
  refine a_getI (pc := 2) dX0_everybody_2 fl_X0_47 (goCity hk0) ?_
  refine a_ishl (pc := 5) dX0_everybody_5 ?_
  refine a_iconst (pc := 6) dX0_everybody_6 (by decide) ?_
  refine a_isub (pc := 7) dX0_everybody_7 ?_
  exact a_ireturn (pc := 8) dX0_everybody_8 trivial ⟨_, rfl, rfl, H⟩
set_option maxRecDepth 20000 in
theorem v_X0_between {E : zE} {d : Nat} {h : zS} {Q : Int → zS → Prop} {k0 : Nat} (hk0 : isCity k0) (H : zCi E d m_X0_everybody [vo k0] h (fun y2 h1 => Q (z_and (z_and y2 (z_xor (z_shl 1 (hI h1 k0 2)) (-1))) (z_xor (z_shl 1 (hI h1 k0 3)) (-1))) h1)) : zCi E (d + 1) m_X0_between [vo k0] h Q := by
  show zAt E (d + 1) 0 0 m_X0_between 0 [vo k0] [] g0 h (zPi Q)
  refine a_aload_n (pc := 0) dX0_between_0 rfl ?_
  refine a_callV (pc := 1) (kc := 0) (ks := 0) (kc' := 0) (ks' := 0) (st := []) [] dX0_between_1 ml_X0_77 (goCity hk0) rfl (Nat.le_of_ble_eq_true rfl) (Nat.le_of_ble_eq_true rfl) (z_post H (fun r G1 h1 q => ?_))
  obtain ⟨y2, rfl, rfl, H⟩ := q
  show zAt E (d + 1) 0 0 m_X0_between 4 [vo k0] [vi y2] g0 h1 (zPi Q)
  refine a_iconst (pc := 4) dX0_between_4 (by decide) ?_
  refine a_aload_n (pc := 5) dX0_between_5 rfl ?_
  refine a_getI (pc := 6) dX0_between_6 fl_X0_9 (goCity hk0) ?_
  refine a_ishl (pc := 9) dX0_between_9 ?_
  refine a_iconst (pc := 10) dX0_between_10 (by decide) ?_
  refine a_ixor (pc := 11) dX0_between_11 ?_
  refine a_iand (pc := 12) dX0_between_12 ?_
  refine a_iconst (pc := 13) dX0_between_13 (by decide) ?_
  refine a_aload_n (pc := 14) dX0_between_14 rfl ?_
  refine a_getI (pc := 15) dX0_between_15 fl_X0_15 (goCity hk0) ?_
  refine a_ishl (pc := 18) dX0_between_18 ?_
  refine a_iconst (pc := 19) dX0_between_19 (by decide) ?_
  refine a_ixor (pc := 20) dX0_between_20 ?_
  refine a_iand (pc := 21) dX0_between_21 ?_
  exact a_ireturn (pc := 22) dX0_between_22 trivial ⟨_, rfl, rfl, H⟩
set_option maxRecDepth 20000 in
theorem v_X0_called {E : zE} {d : Nat} {h : zS} {Q : Int → zS → Prop} {k0 : Nat} {x1 : Int} (hk0 : isCity k0) (H : zWi E d m_X0_called 2 [vo k0, vl x1, vn, vi 0] h Q) : zCi E d m_X0_called [vo k0, vl x1] h Q := by
  show zAt E d 0 0 m_X0_called 0 [vo k0, vl x1, vn, vn] [] g0 h (zPi Q)
  refine a_iconst (pc := 0) dX0_called_0 (by decide) ?_
  refine a_istore_n (pc := 1) (ls' := [vo k0, vl x1, vn, vi 0]) dX0_called_1 rfl rfl ?_
  exact H
set_option maxRecDepth 20000 in
theorem r_X0_called_2 {E : zE} {d : Nat} {h : zS} {Q : Int → zS → Prop} {k0 : Nat} {x1 : Int} {x3 : Int} (hk0 : isCity k0) (H : (((hI h k0 0) ≤ x3 → (Q (-1) h)) ∧ (x3 < (hI h k0 0) → ((0 ≤ x3 ∧ x3 < 12) ∧ (((z_lcmp (hL h (k0 + 1) x3.toNat) x1) ≠ 0 → (zWi E d m_X0_called 2 [vo k0, vl x1, vn, vi (w32 (x3 + 1))] h Q)) ∧ ((z_lcmp (hL h (k0 + 1) x3.toNat) x1) = 0 → (Q x3 h))))))) : zWi E d m_X0_called 2 [vo k0, vl x1, vn, vi x3] h Q := by
  refine a_iload_n (pc := 2) dX0_called_2 rfl ?_
  refine a_aload_n (pc := 3) dX0_called_3 rfl ?_
  refine a_getI (pc := 4) dX0_called_4 fl_X0_47 (goCity hk0) ?_
  refine a_icmp_ge (pc := 7) (tgt := 29) dX0_called_7 (by decide) (fun c => ?_) (fun c => ?_)
  · have H := H.1 c
    refine a_iconst (pc := 29) dX0_called_29 (by decide) ?_
    exact a_ireturn (pc := 30) dX0_called_30 trivial ⟨_, rfl, rfl, H⟩
  · have H := H.2 c
    refine a_aload_n (pc := 10) dX0_called_10 rfl ?_
    refine a_getF (pc := 11) dX0_called_11 fl_X0_18 (goCity hk0) (gfCity_5 hk0) ?_
    refine a_iload_n (pc := 14) dX0_called_14 rfl ?_
    obtain ⟨hb1, H⟩ := H
    refine a_laload (pc := 15) dX0_called_15 (gaCity_5 hk0) hb1 ?_
    refine a_lload_n (pc := 16) dX0_called_16 rfl ?_
    refine a_lcmp (pc := 17) dX0_called_17 ?_
    refine a_if_ne (pc := 18) (tgt := 23) dX0_called_18 (by decide) (fun c => ?_) (fun c => ?_)
    · have H := H.1 c
      refine a_iinc (pc := 23) (ls' := [vo k0, vl x1, vn, vi (w32 (x3 + 1))]) dX0_called_23 rfl rfl rfl ?_
      refine a_goto (pc := 26) (tgt := 2) dX0_called_26 (by decide) ?_
      exact H
    · have H := H.2 c
      refine a_iload_n (pc := 21) dX0_called_21 rfl ?_
      exact a_ireturn (pc := 22) dX0_called_22 trivial ⟨_, rfl, rfl, H⟩
set_option maxRecDepth 20000 in
theorem v_X0_settle {E : zE} {d : Nat} {h : zS} {Q : zS → Prop} {k0 : Nat} (hk0 : isCity k0) (H : ∀ h1, h1 = stI h k0 14 0 → ∀ h2, h2 = stI h1 k0 15 0 → ∀ h3, h3 = stI h2 k0 16 0 → zWv E (d + 1) m_X0_settle 17 [vo k0, vi 0, vn] h3 Q) : zCv E (d + 1) m_X0_settle [vo k0] h Q := by
  show zAt E (d + 1) 0 0 m_X0_settle 0 [vo k0, vn, vn] [] g0 h (zPv Q)
  refine a_aload_n (pc := 0) dX0_settle_0 rfl ?_
  refine a_iconst (pc := 1) dX0_settle_1 (by decide) ?_
  refine a_putI (pc := 2) dX0_settle_2 fl_X0_66 (goCity hk0) ?_
  have H := H _ rfl
  generalize stI h k0 14 0 = h1 at H ⊢
  refine a_aload_n (pc := 5) dX0_settle_5 rfl ?_
  refine a_iconst (pc := 6) dX0_settle_6 (by decide) ?_
  refine a_putI (pc := 7) dX0_settle_7 fl_X0_81 (goCity hk0) ?_
  have H := H _ rfl
  generalize stI h1 k0 15 0 = h2 at H ⊢
  refine a_aload_n (pc := 10) dX0_settle_10 rfl ?_
  refine a_iconst (pc := 11) dX0_settle_11 (by decide) ?_
  refine a_putI (pc := 12) dX0_settle_12 fl_X0_84 (goCity hk0) ?_
  have H := H _ rfl
  generalize stI h2 k0 16 0 = h3 at H ⊢
  refine a_iconst (pc := 15) dX0_settle_15 (by decide) ?_
  refine a_istore_n (pc := 16) (ls' := [vo k0, vi 0, vn]) dX0_settle_16 rfl rfl ?_
  exact H
set_option maxRecDepth 20000 in
theorem r_X0_settle_17 {E : zE} {d : Nat} {h : zS} {Q : zS → Prop} {k0 : Nat} {x1 : Int} (hk0 : isCity k0) (H : (((hI h k0 0) ≤ x1 → (zWv E (d + 1) m_X0_settle 144 [vo k0, vi 0, vn] h Q)) ∧ (x1 < (hI h k0 0) → ((0 ≤ x1 ∧ x1 < 12) ∧ ∀ h2, h2 = stI h (k0 + 8) x1.toNat 0 → ∀ h3, h3 = stI h2 (k0 + 9) x1.toNat 0 → (∀ h5, h5 = stI h3 k0 14 (z_or (hI h3 k0 14) (if (hI h3 (k0 + 2) x1.toNat) ≠ 3 then 0 else (z_shl 1 x1))) → (((hI h5 (k0 + 2) x1.toNat) ≠ 2 → (0 ≤ x1 ∧ x1 < 12))) ∧ (∀ h8, h8 = stI h5 k0 15 (z_or (hI h5 k0 15) (if (hI h5 (k0 + 2) x1.toNat) = 2 then (z_shl 1 x1) else (if (hI h5 (k0 + 4) x1.toNat) ≠ 0 then 0 else (z_shl 1 x1)))) → (((hI h8 (k0 + 2) x1.toNat) ≠ 2 → (0 ≤ x1 ∧ x1 < 12))) ∧ (∀ h11, h11 = stI h8 k0 16 (z_or (hI h8 k0 16) (if (hI h8 (k0 + 2) x1.toNat) = 2 then (z_shl 1 x1) else (if (hI h8 (k0 + 2) x1.toNat) ≠ 3 then 0 else (z_shl 1 x1)))) → zWv E (d + 1) m_X0_settle 17 [vo k0, vi (w32 (x1 + 1)), vn] h11 Q))))))) : zWv E (d + 1) m_X0_settle 17 [vo k0, vi x1, vn] h Q := by
  refine a_iload_n (pc := 17) dX0_settle_17 rfl ?_
  refine a_aload_n (pc := 18) dX0_settle_18 rfl ?_
  refine a_getI (pc := 19) dX0_settle_19 fl_X0_47 (goCity hk0) ?_
  refine a_icmp_ge (pc := 22) (tgt := 142) dX0_settle_22 (by decide) (fun c => ?_) (fun c => ?_)
  · have H := H.1 c
    refine a_iconst (pc := 142) dX0_settle_142 (by decide) ?_
    refine a_istore_n (pc := 143) (ls' := [vo k0, vi 0, vn]) dX0_settle_143 rfl rfl ?_
    exact H
  · have H := H.2 c
    refine a_aload_n (pc := 25) dX0_settle_25 rfl ?_
    refine a_getF (pc := 26) dX0_settle_26 fl_X0_41 (goCity hk0) (gfCity_12 hk0) ?_
    refine a_iload_n (pc := 29) dX0_settle_29 rfl ?_
    refine a_iconst (pc := 30) dX0_settle_30 (by decide) ?_
    obtain ⟨hb1, H⟩ := H
    refine a_iastore (pc := 31) dX0_settle_31 (gaCity_12 hk0) hb1 ?_
    have H := H _ rfl
    generalize stI h (k0 + 8) x1.toNat 0 = h2 at H ⊢
    refine a_aload_n (pc := 32) dX0_settle_32 rfl ?_
    refine a_getF (pc := 33) dX0_settle_33 fl_X0_44 (goCity hk0) (gfCity_13 hk0) ?_
    refine a_iload_n (pc := 36) dX0_settle_36 rfl ?_
    refine a_iconst (pc := 37) dX0_settle_37 (by decide) ?_
    refine a_iastore (pc := 38) dX0_settle_38 (gaCity_13 hk0) hb1 ?_
    have H := H _ rfl
    generalize stI h2 (k0 + 9) x1.toNat 0 = h3 at H ⊢
    refine a_aload_n (pc := 39) dX0_settle_39 rfl ?_
    refine a_dup (pc := 40) dX0_settle_40 rfl ?_
    refine a_getI (pc := 41) dX0_settle_41 fl_X0_66 (goCity hk0) ?_
    refine a_aload_n (pc := 44) dX0_settle_44 rfl ?_
    refine a_getF (pc := 45) dX0_settle_45 fl_X0_22 (goCity hk0) (gfCity_6 hk0) ?_
    refine a_iload_n (pc := 48) dX0_settle_48 rfl ?_
    refine a_iaload (pc := 49) dX0_settle_49 (gaCity_6 hk0) hb1 ?_
    refine a_iconst (pc := 50) dX0_settle_50 (by decide) ?_
    have J : zAt E (d + 1) 0 0 m_X0_settle 61 [vo k0, vi x1, vn] [vi (if (hI h3 (k0 + 2) x1.toNat) ≠ 3 then 0 else (z_shl 1 x1)), vi (hI h3 k0 14), vo k0] g0 h3 (zPv Q) := by
      refine a_ior (pc := 61) dX0_settle_61 ?_
      refine a_putI (pc := 62) dX0_settle_62 fl_X0_66 (goCity hk0) ?_
      have H := H _ rfl
      generalize stI h3 k0 14 (z_or (hI h3 k0 14) (if (hI h3 (k0 + 2) x1.toNat) ≠ 3 then 0 else (z_shl 1 x1))) = h5 at H ⊢
      refine a_aload_n (pc := 65) dX0_settle_65 rfl ?_
      refine a_dup (pc := 66) dX0_settle_66 rfl ?_
      refine a_getI (pc := 67) dX0_settle_67 fl_X0_81 (goCity hk0) ?_
      refine a_aload_n (pc := 70) dX0_settle_70 rfl ?_
      refine a_getF (pc := 71) dX0_settle_71 fl_X0_22 (goCity hk0) (gfCity_6 hk0) ?_
      refine a_iload_n (pc := 74) dX0_settle_74 rfl ?_
      refine a_iaload (pc := 75) dX0_settle_75 (gaCity_6 hk0) hb1 ?_
      refine a_iconst (pc := 76) dX0_settle_76 (by decide) ?_
      obtain ⟨HS, H⟩ := H
      have J : zAt E (d + 1) 0 0 m_X0_settle 96 [vo k0, vi x1, vn] [vi (if (hI h5 (k0 + 2) x1.toNat) = 2 then (z_shl 1 x1) else (if (hI h5 (k0 + 4) x1.toNat) ≠ 0 then 0 else (z_shl 1 x1))), vi (hI h5 k0 15), vo k0] g0 h5 (zPv Q) := by
        refine a_ior (pc := 96) dX0_settle_96 ?_
        refine a_putI (pc := 97) dX0_settle_97 fl_X0_81 (goCity hk0) ?_
        have H := H _ rfl
        generalize stI h5 k0 15 (z_or (hI h5 k0 15) (if (hI h5 (k0 + 2) x1.toNat) = 2 then (z_shl 1 x1) else (if (hI h5 (k0 + 4) x1.toNat) ≠ 0 then 0 else (z_shl 1 x1)))) = h8 at H ⊢
        refine a_aload_n (pc := 100) dX0_settle_100 rfl ?_
        refine a_dup (pc := 101) dX0_settle_101 rfl ?_
        refine a_getI (pc := 102) dX0_settle_102 fl_X0_84 (goCity hk0) ?_
        refine a_aload_n (pc := 105) dX0_settle_105 rfl ?_
        refine a_getF (pc := 106) dX0_settle_106 fl_X0_22 (goCity hk0) (gfCity_6 hk0) ?_
        refine a_iload_n (pc := 109) dX0_settle_109 rfl ?_
        refine a_iaload (pc := 110) dX0_settle_110 (gaCity_6 hk0) hb1 ?_
        refine a_iconst (pc := 111) dX0_settle_111 (by decide) ?_
        obtain ⟨HS, H⟩ := H
        have J : zAt E (d + 1) 0 0 m_X0_settle 132 [vo k0, vi x1, vn] [vi (if (hI h8 (k0 + 2) x1.toNat) = 2 then (z_shl 1 x1) else (if (hI h8 (k0 + 2) x1.toNat) ≠ 3 then 0 else (z_shl 1 x1))), vi (hI h8 k0 16), vo k0] g0 h8 (zPv Q) := by
          refine a_ior (pc := 132) dX0_settle_132 ?_
          refine a_putI (pc := 133) dX0_settle_133 fl_X0_84 (goCity hk0) ?_
          have H := H _ rfl
          generalize stI h8 k0 16 (z_or (hI h8 k0 16) (if (hI h8 (k0 + 2) x1.toNat) = 2 then (z_shl 1 x1) else (if (hI h8 (k0 + 2) x1.toNat) ≠ 3 then 0 else (z_shl 1 x1)))) = h11 at H ⊢
          refine a_iinc (pc := 136) (ls' := [vo k0, vi (w32 (x1 + 1)), vn]) dX0_settle_136 rfl rfl rfl ?_
          refine a_goto (pc := 139) (tgt := 17) dX0_settle_139 (by decide) ?_
          exact H
        refine a_icmp_eq (pc := 112) (tgt := 125) dX0_settle_112 (by decide) (fun c9 => ?_) (fun c9 => ?_)
        · skip
          refine a_iconst (pc := 125) dX0_settle_125 (by decide) ?_
          refine a_iload_n (pc := 126) dX0_settle_126 rfl ?_
          refine a_ishl (pc := 127) dX0_settle_127 ?_
          refine a_goto (pc := 128) (tgt := 132) dX0_settle_128 (by decide) ?_
          exact (z_mergeT c9 J)
        · have HS := HS c9
          refine a_aload_n (pc := 115) dX0_settle_115 rfl ?_
          refine a_getF (pc := 116) dX0_settle_116 fl_X0_22 (goCity hk0) (gfCity_6 hk0) ?_
          refine a_iload_n (pc := 119) dX0_settle_119 rfl ?_
          have HB0 := HS
          refine a_iaload (pc := 120) dX0_settle_120 (gaCity_6 hk0) HB0 ?_
          refine a_iconst (pc := 121) dX0_settle_121 (by decide) ?_
          refine a_icmp_ne (pc := 122) (tgt := 131) dX0_settle_122 (by decide) (fun c10 => ?_) (fun c10 => ?_)
          · skip
            refine a_iconst (pc := 131) dX0_settle_131 (by decide) ?_
            exact (z_mergeT c10 (z_mergeF c9 J))
          · skip
            refine a_iconst (pc := 125) dX0_settle_125 (by decide) ?_
            refine a_iload_n (pc := 126) dX0_settle_126 rfl ?_
            refine a_ishl (pc := 127) dX0_settle_127 ?_
            refine a_goto (pc := 128) (tgt := 132) dX0_settle_128 (by decide) ?_
            exact (z_mergeF (fun n => n c10) (z_mergeF c9 J))
      refine a_icmp_eq (pc := 77) (tgt := 89) dX0_settle_77 (by decide) (fun c6 => ?_) (fun c6 => ?_)
      · skip
        refine a_iconst (pc := 89) dX0_settle_89 (by decide) ?_
        refine a_iload_n (pc := 90) dX0_settle_90 rfl ?_
        refine a_ishl (pc := 91) dX0_settle_91 ?_
        refine a_goto (pc := 92) (tgt := 96) dX0_settle_92 (by decide) ?_
        exact (z_mergeT c6 J)
      · have HS := HS c6
        refine a_aload_n (pc := 80) dX0_settle_80 rfl ?_
        refine a_getF (pc := 81) dX0_settle_81 fl_X0_29 (goCity hk0) (gfCity_8 hk0) ?_
        refine a_iload_n (pc := 84) dX0_settle_84 rfl ?_
        have HB0 := HS
        refine a_iaload (pc := 85) dX0_settle_85 (gaCity_8 hk0) HB0 ?_
        refine a_if_ne (pc := 86) (tgt := 95) dX0_settle_86 (by decide) (fun c7 => ?_) (fun c7 => ?_)
        · skip
          refine a_iconst (pc := 95) dX0_settle_95 (by decide) ?_
          exact (z_mergeT c7 (z_mergeF c6 J))
        · skip
          refine a_iconst (pc := 89) dX0_settle_89 (by decide) ?_
          refine a_iload_n (pc := 90) dX0_settle_90 rfl ?_
          refine a_ishl (pc := 91) dX0_settle_91 ?_
          refine a_goto (pc := 92) (tgt := 96) dX0_settle_92 (by decide) ?_
          exact (z_mergeF (fun n => n c7) (z_mergeF c6 J))
    refine a_icmp_ne (pc := 51) (tgt := 60) dX0_settle_51 (by decide) (fun c4 => ?_) (fun c4 => ?_)
    · skip
      refine a_iconst (pc := 60) dX0_settle_60 (by decide) ?_
      exact (z_mergeT c4 J)
    · skip
      refine a_iconst (pc := 54) dX0_settle_54 (by decide) ?_
      refine a_iload_n (pc := 55) dX0_settle_55 rfl ?_
      refine a_ishl (pc := 56) dX0_settle_56 ?_
      refine a_goto (pc := 57) (tgt := 61) dX0_settle_57 (by decide) ?_
      exact (z_mergeF (fun n => n c4) J)
set_option maxRecDepth 20000 in
theorem r_X0_settle_144 {E : zE} {d : Nat} {h : zS} {Q : zS → Prop} {k0 : Nat} {x1 : Int} (hk0 : isCity k0) (H : (((hI h k0 0) ≤ x1 → (Q h)) ∧ (x1 < (hI h k0 0) → (zWv E (d + 1) m_X0_settle 154 [vo k0, vi x1, vi 0] h Q)))) : zWv E (d + 1) m_X0_settle 144 [vo k0, vi x1, vn] h Q := by
  refine a_iload_n (pc := 144) dX0_settle_144 rfl ?_
  refine a_aload_n (pc := 145) dX0_settle_145 rfl ?_
  refine a_getI (pc := 146) dX0_settle_146 fl_X0_47 (goCity hk0) ?_
  refine a_icmp_ge (pc := 149) (tgt := 201) dX0_settle_149 (by decide) (fun c => ?_) (fun c => ?_)
  · have H := H.1 c
    exact a_return (pc := 201) dX0_settle_201 trivial ⟨rfl, rfl, H⟩
  · have H := H.2 c
    refine a_iconst (pc := 152) dX0_settle_152 (by decide) ?_
    refine a_istore_n (pc := 153) (ls' := [vo k0, vi x1, vi 0]) dX0_settle_153 rfl rfl ?_
    exact H
set_option maxRecDepth 20000 in
theorem r_X0_settle_154 {E : zE} {d : Nat} {h : zS} {Q : zS → Prop} {k0 : Nat} {x1 : Int} {x2 : Int} (hk0 : isCity k0) (H : (((hI h k0 0) ≤ x2 → (zWv E (d + 1) m_X0_settle 144 [vo k0, vi (w32 (x1 + 1)), vn] h Q)) ∧ (x2 < (hI h k0 0) → (zCi E d m_X0_gives [vo k0, vi x1, vi x2] h (fun y2 h1 => ((y2 = 0 → (zWv E (d + 1) m_X0_settle 154 [vo k0, vi x1, vi (w32 (x2 + 1))] h1 Q)) ∧ (y2 ≠ 0 → ((0 ≤ x1 ∧ x1 < 12) ∧ ∀ h4, h4 = stI h1 (k0 + 8) x1.toNat (z_or (hI h1 (k0 + 8) x1.toNat) (z_shl 1 x2)) → zCv E d m_X0_introduce [vo k0, vi x1, vi x2] h4 (fun h5 => zWv E (d + 1) m_X0_settle 154 [vo k0, vi x1, vi (w32 (x2 + 1))] h5 Q))))))))) : zWv E (d + 1) m_X0_settle 154 [vo k0, vi x1, vi x2] h Q := by
  refine a_iload_n (pc := 154) dX0_settle_154 rfl ?_
  refine a_aload_n (pc := 155) dX0_settle_155 rfl ?_
  refine a_getI (pc := 156) dX0_settle_156 fl_X0_47 (goCity hk0) ?_
  refine a_icmp_ge (pc := 159) (tgt := 195) dX0_settle_159 (by decide) (fun c => ?_) (fun c => ?_)
  · have H := H.1 c
    refine a_iinc (pc := 195) (ls' := [vo k0, vi (w32 (x1 + 1)), vi x2]) dX0_settle_195 rfl rfl rfl ?_
    refine a_goto (pc := 198) (tgt := 144) dX0_settle_198 (by decide) ?_
    exact z_forget (ls' := [vo k0, vi (w32 (x1 + 1)), vn]) ⟨.inr rfl, .inr rfl, .inl rfl, trivial⟩ H
  · have H := H.2 c
    refine a_aload_n (pc := 162) dX0_settle_162 rfl ?_
    refine a_iload_n (pc := 163) dX0_settle_163 rfl ?_
    refine a_iload_n (pc := 164) dX0_settle_164 rfl ?_
    refine a_callV (pc := 165) (kc := 0) (ks := 0) (kc' := 0) (ks' := 0) (st := []) [vi x1, vi x2] dX0_settle_165 ml_X0_87 (goCity hk0) rfl (Nat.le_of_ble_eq_true rfl) (Nat.le_of_ble_eq_true rfl) (z_post H (fun r G1 h1 q => ?_))
    obtain ⟨y2, rfl, rfl, H⟩ := q
    show zAt E (d + 1) 0 0 m_X0_settle 168 [vo k0, vi x1, vi x2] [vi y2] g0 h1 (zPv Q)
    refine a_if_eq (pc := 168) (tgt := 189) dX0_settle_168 (by decide) (fun c => ?_) (fun c => ?_)
    · have H := H.1 c
      refine a_iinc (pc := 189) (ls' := [vo k0, vi x1, vi (w32 (x2 + 1))]) dX0_settle_189 rfl rfl rfl ?_
      refine a_goto (pc := 192) (tgt := 154) dX0_settle_192 (by decide) ?_
      exact H
    · have H := H.2 c
      refine a_aload_n (pc := 171) dX0_settle_171 rfl ?_
      refine a_getF (pc := 172) dX0_settle_172 fl_X0_41 (goCity hk0) (gfCity_12 hk0) ?_
      refine a_iload_n (pc := 175) dX0_settle_175 rfl ?_
      refine a_dup2 (pc := 176) dX0_settle_176 rfl rfl ?_
      obtain ⟨hb3, H⟩ := H
      refine a_iaload (pc := 177) dX0_settle_177 (gaCity_12 hk0) hb3 ?_
      refine a_iconst (pc := 178) dX0_settle_178 (by decide) ?_
      refine a_iload_n (pc := 179) dX0_settle_179 rfl ?_
      refine a_ishl (pc := 180) dX0_settle_180 ?_
      refine a_ior (pc := 181) dX0_settle_181 ?_
      refine a_iastore (pc := 182) dX0_settle_182 (gaCity_12 hk0) hb3 ?_
      have H := H _ rfl
      generalize stI h1 (k0 + 8) x1.toNat (z_or (hI h1 (k0 + 8) x1.toNat) (z_shl 1 x2)) = h4 at H ⊢
      refine a_aload_n (pc := 183) dX0_settle_183 rfl ?_
      refine a_iload_n (pc := 184) dX0_settle_184 rfl ?_
      refine a_iload_n (pc := 185) dX0_settle_185 rfl ?_
      refine a_callV (pc := 186) (kc := 0) (ks := 0) (kc' := 0) (ks' := 0) (st := []) [vi x1, vi x2] dX0_settle_186 ml_X0_90 (goCity hk0) rfl (Nat.le_of_ble_eq_true rfl) (Nat.le_of_ble_eq_true rfl) (z_post H (fun r G1 h5 q => ?_))
      obtain ⟨rfl, rfl, H⟩ := q
      show zAt E (d + 1) 0 0 m_X0_settle 189 [vo k0, vi x1, vi x2] [] g0 h5 (zPv Q)
      refine a_iinc (pc := 189) (ls' := [vo k0, vi x1, vi (w32 (x2 + 1))]) dX0_settle_189 rfl rfl rfl ?_
      refine a_goto (pc := 192) (tgt := 154) dX0_settle_192 (by decide) ?_
      exact H
set_option maxRecDepth 20000 in
theorem v_X0_introduce {E : zE} {d : Nat} {h : zS} {Q : zS → Prop} {k0 : Nat} {x1 : Int} {x2 : Int} (hk0 : isCity k0) (H : zCi E d m_X0_isBox [vo k0, vi x1] h (fun y2 h1 => ((y2 ≠ 0 → (Q h1)) ∧ (y2 = 0 → (zCi E d m_X0_isBox [vo k0, vi x2] h1 (fun y4 h3 => ((y4 = 0 → ((0 ≤ x1 ∧ x1 < 12) ∧ ∀ h6, h6 = stI h3 (k0 + 9) x1.toNat (z_or (hI h3 (k0 + 9) x1.toNat) (z_shl 1 x2)) → (0 ≤ x2 ∧ x2 < 12) ∧ (((hI h6 (k0 + 2) x2.toNat) = 1 → (Q h6)) ∧ ((hI h6 (k0 + 2) x2.toNat) ≠ 1 → (∀ h8, h8 = stI h6 (k0 + 9) x2.toNat (z_or (hI h6 (k0 + 9) x2.toNat) (z_shl 1 x1)) → Q h8))))) ∧ (y4 ≠ 0 → (Q h3))))))))) : zCv E (d + 1) m_X0_introduce [vo k0, vi x1, vi x2] h Q := by
  show zAt E (d + 1) 0 0 m_X0_introduce 0 [vo k0, vi x1, vi x2] [] g0 h (zPv Q)
  refine a_aload_n (pc := 0) dX0_introduce_0 rfl ?_
  refine a_iload_n (pc := 1) dX0_introduce_1 rfl ?_
  refine a_callV (pc := 2) (kc := 0) (ks := 0) (kc' := 0) (ks' := 0) (st := []) [vi x1] dX0_introduce_2 ml_X0_94 (goCity hk0) rfl (Nat.le_of_ble_eq_true rfl) (Nat.le_of_ble_eq_true rfl) (z_post H (fun r G1 h1 q => ?_))
  obtain ⟨y2, rfl, rfl, H⟩ := q
  show zAt E (d + 1) 0 0 m_X0_introduce 5 [vo k0, vi x1, vi x2] [vi y2] g0 h1 (zPv Q)
  refine a_if_ne (pc := 5) (tgt := 16) dX0_introduce_5 (by decide) (fun c => ?_) (fun c => ?_)
  · have H := H.1 c
    exact a_return (pc := 16) dX0_introduce_16 trivial ⟨rfl, rfl, H⟩
  · have H := H.2 c
    refine a_aload_n (pc := 8) dX0_introduce_8 rfl ?_
    refine a_iload_n (pc := 9) dX0_introduce_9 rfl ?_
    refine a_callV (pc := 10) (kc := 0) (ks := 0) (kc' := 0) (ks' := 0) (st := []) [vi x2] dX0_introduce_10 ml_X0_94 (goCity hk0) rfl (Nat.le_of_ble_eq_true rfl) (Nat.le_of_ble_eq_true rfl) (z_post H (fun r G1 h3 q => ?_))
    obtain ⟨y4, rfl, rfl, H⟩ := q
    show zAt E (d + 1) 0 0 m_X0_introduce 13 [vo k0, vi x1, vi x2] [vi y4] g0 h3 (zPv Q)
    refine a_if_eq (pc := 13) (tgt := 17) dX0_introduce_13 (by decide) (fun c => ?_) (fun c => ?_)
    · have H := H.1 c
      refine a_aload_n (pc := 17) dX0_introduce_17 rfl ?_
      refine a_getF (pc := 18) dX0_introduce_18 fl_X0_44 (goCity hk0) (gfCity_13 hk0) ?_
      refine a_iload_n (pc := 21) dX0_introduce_21 rfl ?_
      refine a_dup2 (pc := 22) dX0_introduce_22 rfl rfl ?_
      obtain ⟨hb5, H⟩ := H
      refine a_iaload (pc := 23) dX0_introduce_23 (gaCity_13 hk0) hb5 ?_
      refine a_iconst (pc := 24) dX0_introduce_24 (by decide) ?_
      refine a_iload_n (pc := 25) dX0_introduce_25 rfl ?_
      refine a_ishl (pc := 26) dX0_introduce_26 ?_
      refine a_ior (pc := 27) dX0_introduce_27 ?_
      refine a_iastore (pc := 28) dX0_introduce_28 (gaCity_13 hk0) hb5 ?_
      have H := H _ rfl
      generalize stI h3 (k0 + 9) x1.toNat (z_or (hI h3 (k0 + 9) x1.toNat) (z_shl 1 x2)) = h6 at H ⊢
      refine a_aload_n (pc := 29) dX0_introduce_29 rfl ?_
      refine a_getF (pc := 30) dX0_introduce_30 fl_X0_22 (goCity hk0) (gfCity_6 hk0) ?_
      refine a_iload_n (pc := 33) dX0_introduce_33 rfl ?_
      obtain ⟨hb7, H⟩ := H
      refine a_iaload (pc := 34) dX0_introduce_34 (gaCity_6 hk0) hb7 ?_
      refine a_iconst (pc := 35) dX0_introduce_35 (by decide) ?_
      refine a_icmp_eq (pc := 36) (tgt := 51) dX0_introduce_36 (by decide) (fun c => ?_) (fun c => ?_)
      · have H := H.1 c
        exact a_return (pc := 51) dX0_introduce_51 trivial ⟨rfl, rfl, H⟩
      · have H := H.2 c
        refine a_aload_n (pc := 39) dX0_introduce_39 rfl ?_
        refine a_getF (pc := 40) dX0_introduce_40 fl_X0_44 (goCity hk0) (gfCity_13 hk0) ?_
        refine a_iload_n (pc := 43) dX0_introduce_43 rfl ?_
        refine a_dup2 (pc := 44) dX0_introduce_44 rfl rfl ?_
        refine a_iaload (pc := 45) dX0_introduce_45 (gaCity_13 hk0) hb7 ?_
        refine a_iconst (pc := 46) dX0_introduce_46 (by decide) ?_
        refine a_iload_n (pc := 47) dX0_introduce_47 rfl ?_
        refine a_ishl (pc := 48) dX0_introduce_48 ?_
        refine a_ior (pc := 49) dX0_introduce_49 ?_
        refine a_iastore (pc := 50) dX0_introduce_50 (gaCity_13 hk0) hb7 ?_
        have H := H _ rfl
        generalize stI h6 (k0 + 9) x2.toNat (z_or (hI h6 (k0 + 9) x2.toNat) (z_shl 1 x1)) = h8 at H ⊢
        exact a_return (pc := 51) dX0_introduce_51 trivial ⟨rfl, rfl, H⟩
    · have H := H.2 c
      exact a_return (pc := 16) dX0_introduce_16 trivial ⟨rfl, rfl, H⟩
set_option maxRecDepth 20000 in
theorem v_X0_hasWay {E : zE} {d : Nat} {h : zS} {Q : Int → zS → Prop} {k0 : Nat} {x1 : Int} {x2 : Int} (hk0 : isCity k0) (H : zCi E d m_X0_everybody [vo k0] h (fun y2 h1 => zWi E (d + 1) m_X0_hasWay 24 [vo k0, vn, vi x2, vi (z_and y2 (z_xor x1 (-1))), vi (z_shl 1 (hI h1 k0 2)), vi (z_shl 1 (hI h1 k0 2)), vi 0, vn, vn] h1 Q)) : zCi E (d + 1) m_X0_hasWay [vo k0, vi x1, vi x2] h Q := by
  show zAt E (d + 1) 0 0 m_X0_hasWay 0 [vo k0, vi x1, vi x2, vn, vn, vn, vn, vn, vn] [] g0 h (zPi Q)
  refine a_aload_n (pc := 0) dX0_hasWay_0 rfl ?_
  refine a_callV (pc := 1) (kc := 0) (ks := 0) (kc' := 0) (ks' := 0) (st := []) [] dX0_hasWay_1 ml_X0_77 (goCity hk0) rfl (Nat.le_of_ble_eq_true rfl) (Nat.le_of_ble_eq_true rfl) (z_post H (fun r G1 h1 q => ?_))
  obtain ⟨y2, rfl, rfl, H⟩ := q
  show zAt E (d + 1) 0 0 m_X0_hasWay 4 [vo k0, vi x1, vi x2, vn, vn, vn, vn, vn, vn] [vi y2] g0 h1 (zPi Q)
  refine a_iload_n (pc := 4) dX0_hasWay_4 rfl ?_
  refine a_iconst (pc := 5) dX0_hasWay_5 (by decide) ?_
  refine a_ixor (pc := 6) dX0_hasWay_6 ?_
  refine a_iand (pc := 7) dX0_hasWay_7 ?_
  refine a_istore_n (pc := 8) (ls' := [vo k0, vi x1, vi x2, vi (z_and y2 (z_xor x1 (-1))), vn, vn, vn, vn, vn]) dX0_hasWay_8 rfl rfl ?_
  refine a_iconst (pc := 9) dX0_hasWay_9 (by decide) ?_
  refine a_aload_n (pc := 10) dX0_hasWay_10 rfl ?_
  refine a_getI (pc := 11) dX0_hasWay_11 fl_X0_9 (goCity hk0) ?_
  refine a_ishl (pc := 14) dX0_hasWay_14 ?_
  refine a_istore (pc := 15) (ls' := [vo k0, vi x1, vi x2, vi (z_and y2 (z_xor x1 (-1))), vi (z_shl 1 (hI h1 k0 2)), vn, vn, vn, vn]) dX0_hasWay_15 rfl rfl ?_
  refine a_iload (pc := 17) dX0_hasWay_17 rfl ?_
  refine a_istore (pc := 19) (ls' := [vo k0, vi x1, vi x2, vi (z_and y2 (z_xor x1 (-1))), vi (z_shl 1 (hI h1 k0 2)), vi (z_shl 1 (hI h1 k0 2)), vn, vn, vn]) dX0_hasWay_19 rfl rfl ?_
  refine a_iconst (pc := 21) dX0_hasWay_21 (by decide) ?_
  refine a_istore (pc := 22) (ls' := [vo k0, vi x1, vi x2, vi (z_and y2 (z_xor x1 (-1))), vi (z_shl 1 (hI h1 k0 2)), vi (z_shl 1 (hI h1 k0 2)), vi 0, vn, vn]) dX0_hasWay_22 rfl rfl ?_
  exact z_forget (ls' := [vo k0, vn, vi x2, vi (z_and y2 (z_xor x1 (-1))), vi (z_shl 1 (hI h1 k0 2)), vi (z_shl 1 (hI h1 k0 2)), vi 0, vn, vn]) ⟨.inr rfl, .inl rfl, .inr rfl, .inr rfl, .inr rfl, .inr rfl, .inr rfl, .inr rfl, .inr rfl, trivial⟩ H
set_option maxRecDepth 20000 in
theorem r_X0_hasWay_24 {E : zE} {d : Nat} {h : zS} {Q : Int → zS → Prop} {k0 : Nat} {x2 : Int} {x3 : Int} {x4 : Int} {x5 : Int} {x6 : Int} (hk0 : isCity k0) (H : ((12 ≤ x6 → (zCi E d m_X9_isIn [vi x4, vi (hI h k0 3)] h (fun y2 h1 => (y2 = 0 ∨ y2 = 1) ∧ Q y2 h1))) ∧ (x6 < 12 → ((x5 = 0 → (zCi E d m_X9_isIn [vi x4, vi (hI h k0 3)] h (fun y4 h3 => (y4 = 0 ∨ y4 = 1) ∧ Q y4 h3))) ∧ (x5 ≠ 0 → (zCi E d m_X9_isIn [vi x4, vi (hI h k0 3)] h (fun y6 h5 => ((y6 ≠ 0 → (zCi E d m_X9_isIn [vi x4, vi (hI h5 k0 3)] h5 (fun y8 h7 => (y8 = 0 ∨ y8 = 1) ∧ Q y8 h7))) ∧ (y6 = 0 → (zWi E (d + 1) m_X0_hasWay 54 [vo k0, vn, vi x2, vi x3, vi x4, vi x5, vi x6, vi 0, vi 0] h5 Q)))))))))) : zWi E (d + 1) m_X0_hasWay 24 [vo k0, vn, vi x2, vi x3, vi x4, vi x5, vi x6, vn, vn] h Q := by
  refine a_iload (pc := 24) dX0_hasWay_24 rfl ?_
  refine a_bipush (pc := 26) dX0_hasWay_26 (by decide) ?_
  refine a_icmp_ge (pc := 28) (tgt := 137) dX0_hasWay_28 (by decide) (fun c => ?_) (fun c => ?_)
  · have H := H.1 c
    refine a_iload (pc := 137) dX0_hasWay_137 rfl ?_
    refine a_aload_n (pc := 139) dX0_hasWay_139 rfl ?_
    refine a_getI (pc := 140) dX0_hasWay_140 fl_X0_15 (goCity hk0) ?_
    refine a_callSN (pc := 143) (kc := 0) (ks := 0) (kc' := 0) (ks' := 0) (st := []) [vi x4, vi (hI h k0 3)] dX0_hasWay_143 ml_X0_69 rfl (Nat.le_of_ble_eq_true rfl) (Nat.le_of_ble_eq_true rfl) (z_post H (fun r G1 h1 q => ?_))
    obtain ⟨y2, rfl, rfl, H⟩ := q
    show zAt E (d + 1) 0 0 m_X0_hasWay 146 [vo k0, vn, vi x2, vi x3, vi x4, vi x5, vi x6, vn, vn] [vi y2] g0 h1 (zPi Q)
    obtain ⟨hz, H⟩ := H
    exact a_ireturn (pc := 146) dX0_hasWay_146 hz ⟨_, rfl, rfl, H⟩
  · have H := H.2 c
    refine a_iload (pc := 31) dX0_hasWay_31 rfl ?_
    refine a_if_eq (pc := 33) (tgt := 137) dX0_hasWay_33 (by decide) (fun c => ?_) (fun c => ?_)
    · have H := H.1 c
      refine a_iload (pc := 137) dX0_hasWay_137 rfl ?_
      refine a_aload_n (pc := 139) dX0_hasWay_139 rfl ?_
      refine a_getI (pc := 140) dX0_hasWay_140 fl_X0_15 (goCity hk0) ?_
      refine a_callSN (pc := 143) (kc := 0) (ks := 0) (kc' := 0) (ks' := 0) (st := []) [vi x4, vi (hI h k0 3)] dX0_hasWay_143 ml_X0_69 rfl (Nat.le_of_ble_eq_true rfl) (Nat.le_of_ble_eq_true rfl) (z_post H (fun r G1 h3 q => ?_))
      obtain ⟨y4, rfl, rfl, H⟩ := q
      show zAt E (d + 1) 0 0 m_X0_hasWay 146 [vo k0, vn, vi x2, vi x3, vi x4, vi x5, vi x6, vn, vn] [vi y4] g0 h3 (zPi Q)
      obtain ⟨hz, H⟩ := H
      exact a_ireturn (pc := 146) dX0_hasWay_146 hz ⟨_, rfl, rfl, H⟩
    · have H := H.2 c
      refine a_iload (pc := 36) dX0_hasWay_36 rfl ?_
      refine a_aload_n (pc := 38) dX0_hasWay_38 rfl ?_
      refine a_getI (pc := 39) dX0_hasWay_39 fl_X0_15 (goCity hk0) ?_
      refine a_callSN (pc := 42) (kc := 0) (ks := 0) (kc' := 0) (ks' := 0) (st := []) [vi x4, vi (hI h k0 3)] dX0_hasWay_42 ml_X0_69 rfl (Nat.le_of_ble_eq_true rfl) (Nat.le_of_ble_eq_true rfl) (z_post H (fun r G1 h5 q => ?_))
      obtain ⟨y6, rfl, rfl, H⟩ := q
      show zAt E (d + 1) 0 0 m_X0_hasWay 45 [vo k0, vn, vi x2, vi x3, vi x4, vi x5, vi x6, vn, vn] [vi y6] g0 h5 (zPi Q)
      refine a_if_ne (pc := 45) (tgt := 137) dX0_hasWay_45 (by decide) (fun c => ?_) (fun c => ?_)
      · have H := H.1 c
        refine a_iload (pc := 137) dX0_hasWay_137 rfl ?_
        refine a_aload_n (pc := 139) dX0_hasWay_139 rfl ?_
        refine a_getI (pc := 140) dX0_hasWay_140 fl_X0_15 (goCity hk0) ?_
        refine a_callSN (pc := 143) (kc := 0) (ks := 0) (kc' := 0) (ks' := 0) (st := []) [vi x4, vi (hI h5 k0 3)] dX0_hasWay_143 ml_X0_69 rfl (Nat.le_of_ble_eq_true rfl) (Nat.le_of_ble_eq_true rfl) (z_post H (fun r G1 h7 q => ?_))
        obtain ⟨y8, rfl, rfl, H⟩ := q
        show zAt E (d + 1) 0 0 m_X0_hasWay 146 [vo k0, vn, vi x2, vi x3, vi x4, vi x5, vi x6, vn, vn] [vi y8] g0 h7 (zPi Q)
        obtain ⟨hz, H⟩ := H
        exact a_ireturn (pc := 146) dX0_hasWay_146 hz ⟨_, rfl, rfl, H⟩
      · have H := H.2 c
        refine a_iconst (pc := 48) dX0_hasWay_48 (by decide) ?_
        refine a_istore (pc := 49) (ls' := [vo k0, vn, vi x2, vi x3, vi x4, vi x5, vi x6, vi 0, vn]) dX0_hasWay_49 rfl rfl ?_
        refine a_iconst (pc := 51) dX0_hasWay_51 (by decide) ?_
        refine a_istore (pc := 52) (ls' := [vo k0, vn, vi x2, vi x3, vi x4, vi x5, vi x6, vi 0, vi 0]) dX0_hasWay_52 rfl rfl ?_
        exact H
set_option maxRecDepth 20000 in
theorem r_X0_hasWay_54 {E : zE} {d : Nat} {h : zS} {Q : Int → zS → Prop} {k0 : Nat} {x2 : Int} {x3 : Int} {x4 : Int} {x5 : Int} {x6 : Int} {x7 : Int} {x8 : Int} (hk0 : isCity k0) (H : (((hI h k0 0) ≤ x8 → ((x6 ≠ 0 → (∀ y1 : Int, y1 = z_and (z_and x7 x3) (z_xor x4 (-1)) → zWi E (d + 1) m_X0_hasWay 24 [vo k0, vn, vi x2, vi x3, vi (z_or x4 y1), vi y1, vi (w32 (x6 + 1)), vn, vn] h Q)) ∧ (x6 = 0 → ((x2 = 0 → (∀ y2 : Int, y2 = z_and (z_and x7 x3) (z_xor x4 (-1)) → zWi E (d + 1) m_X0_hasWay 24 [vo k0, vn, vi x2, vi x3, vi (z_or x4 y2), vi y2, vi (w32 (x6 + 1)), vn, vn] h Q)) ∧ (x2 ≠ 0 → (∀ y3 : Int, y3 = z_and x7 (z_xor (z_shl 1 (hI h k0 3)) (-1)) → ∀ y4 : Int, y4 = z_and (z_and y3 x3) (z_xor x4 (-1)) → zWi E (d + 1) m_X0_hasWay 24 [vo k0, vn, vi x2, vi x3, vi (z_or x4 y4), vi y4, vi (w32 (x6 + 1)), vn, vn] h Q)))))) ∧ (x8 < (hI h k0 0) → (zCi E d m_X9_isIn [vi x5, vi x8] h (fun y6 h5 => ((y6 = 0 → (zWi E (d + 1) m_X0_hasWay 54 [vo k0, vn, vi x2, vi x3, vi x4, vi x5, vi x6, vi x7, vi (w32 (x8 + 1))] h5 Q)) ∧ (y6 ≠ 0 → ((0 ≤ x8 ∧ x8 < 12) ∧ ∀ y8 : Int, y8 = z_or x7 (hI h5 (k0 + 8) x8.toNat) → zWi E (d + 1) m_X0_hasWay 54 [vo k0, vn, vi x2, vi x3, vi x4, vi x5, vi x6, vi y8, vi (w32 (x8 + 1))] h5 Q)))))))) : zWi E (d + 1) m_X0_hasWay 54 [vo k0, vn, vi x2, vi x3, vi x4, vi x5, vi x6, vi x7, vi x8] h Q := by
  refine a_iload (pc := 54) dX0_hasWay_54 rfl ?_
  refine a_aload_n (pc := 56) dX0_hasWay_56 rfl ?_
  refine a_getI (pc := 57) dX0_hasWay_57 fl_X0_47 (goCity hk0) ?_
  refine a_icmp_ge (pc := 60) (tgt := 91) dX0_hasWay_60 (by decide) (fun c => ?_) (fun c => ?_)
  · have H := H.1 c
    refine a_iload (pc := 91) dX0_hasWay_91 rfl ?_
    refine a_if_ne (pc := 93) (tgt := 113) dX0_hasWay_93 (by decide) (fun c => ?_) (fun c => ?_)
    · have H := H.1 c
      refine a_iload (pc := 113) dX0_hasWay_113 rfl ?_
      refine a_iload_n (pc := 115) dX0_hasWay_115 rfl ?_
      refine a_iand (pc := 116) dX0_hasWay_116 ?_
      refine a_iload (pc := 117) dX0_hasWay_117 rfl ?_
      refine a_iconst (pc := 119) dX0_hasWay_119 (by decide) ?_
      refine a_ixor (pc := 120) dX0_hasWay_120 ?_
      refine a_iand (pc := 121) dX0_hasWay_121 ?_
      have H := H _ rfl
      generalize (z_and (z_and x7 x3) (z_xor x4 (-1)) : Int) = y1 at H ⊢
      refine a_istore (pc := 122) (ls' := [vo k0, vn, vi x2, vi x3, vi x4, vi y1, vi x6, vi x7, vi x8]) dX0_hasWay_122 rfl rfl ?_
      refine a_iload (pc := 124) dX0_hasWay_124 rfl ?_
      refine a_iload (pc := 126) dX0_hasWay_126 rfl ?_
      refine a_ior (pc := 128) dX0_hasWay_128 ?_
      refine a_istore (pc := 129) (ls' := [vo k0, vn, vi x2, vi x3, vi (z_or x4 y1), vi y1, vi x6, vi x7, vi x8]) dX0_hasWay_129 rfl rfl ?_
      refine a_iinc (pc := 131) (ls' := [vo k0, vn, vi x2, vi x3, vi (z_or x4 y1), vi y1, vi (w32 (x6 + 1)), vi x7, vi x8]) dX0_hasWay_131 rfl rfl rfl ?_
      refine a_goto (pc := 134) (tgt := 24) dX0_hasWay_134 (by decide) ?_
      exact z_forget (ls' := [vo k0, vn, vi x2, vi x3, vi (z_or x4 y1), vi y1, vi (w32 (x6 + 1)), vn, vn]) ⟨.inr rfl, .inr rfl, .inr rfl, .inr rfl, .inr rfl, .inr rfl, .inr rfl, .inl rfl, .inl rfl, trivial⟩ H
    · have H := H.2 c
      refine a_iload_n (pc := 96) dX0_hasWay_96 rfl ?_
      refine a_if_eq (pc := 97) (tgt := 113) dX0_hasWay_97 (by decide) (fun c => ?_) (fun c => ?_)
      · have H := H.1 c
        refine a_iload (pc := 113) dX0_hasWay_113 rfl ?_
        refine a_iload_n (pc := 115) dX0_hasWay_115 rfl ?_
        refine a_iand (pc := 116) dX0_hasWay_116 ?_
        refine a_iload (pc := 117) dX0_hasWay_117 rfl ?_
        refine a_iconst (pc := 119) dX0_hasWay_119 (by decide) ?_
        refine a_ixor (pc := 120) dX0_hasWay_120 ?_
        refine a_iand (pc := 121) dX0_hasWay_121 ?_
        have H := H _ rfl
        generalize (z_and (z_and x7 x3) (z_xor x4 (-1)) : Int) = y2 at H ⊢
        refine a_istore (pc := 122) (ls' := [vo k0, vn, vi x2, vi x3, vi x4, vi y2, vi x6, vi x7, vi x8]) dX0_hasWay_122 rfl rfl ?_
        refine a_iload (pc := 124) dX0_hasWay_124 rfl ?_
        refine a_iload (pc := 126) dX0_hasWay_126 rfl ?_
        refine a_ior (pc := 128) dX0_hasWay_128 ?_
        refine a_istore (pc := 129) (ls' := [vo k0, vn, vi x2, vi x3, vi (z_or x4 y2), vi y2, vi x6, vi x7, vi x8]) dX0_hasWay_129 rfl rfl ?_
        refine a_iinc (pc := 131) (ls' := [vo k0, vn, vi x2, vi x3, vi (z_or x4 y2), vi y2, vi (w32 (x6 + 1)), vi x7, vi x8]) dX0_hasWay_131 rfl rfl rfl ?_
        refine a_goto (pc := 134) (tgt := 24) dX0_hasWay_134 (by decide) ?_
        exact z_forget (ls' := [vo k0, vn, vi x2, vi x3, vi (z_or x4 y2), vi y2, vi (w32 (x6 + 1)), vn, vn]) ⟨.inr rfl, .inr rfl, .inr rfl, .inr rfl, .inr rfl, .inr rfl, .inr rfl, .inl rfl, .inl rfl, trivial⟩ H
      · have H := H.2 c
        refine a_iload (pc := 100) dX0_hasWay_100 rfl ?_
        refine a_iconst (pc := 102) dX0_hasWay_102 (by decide) ?_
        refine a_aload_n (pc := 103) dX0_hasWay_103 rfl ?_
        refine a_getI (pc := 104) dX0_hasWay_104 fl_X0_15 (goCity hk0) ?_
        refine a_ishl (pc := 107) dX0_hasWay_107 ?_
        refine a_iconst (pc := 108) dX0_hasWay_108 (by decide) ?_
        refine a_ixor (pc := 109) dX0_hasWay_109 ?_
        refine a_iand (pc := 110) dX0_hasWay_110 ?_
        have H := H _ rfl
        generalize (z_and x7 (z_xor (z_shl 1 (hI h k0 3)) (-1)) : Int) = y3 at H ⊢
        refine a_istore (pc := 111) (ls' := [vo k0, vn, vi x2, vi x3, vi x4, vi x5, vi x6, vi y3, vi x8]) dX0_hasWay_111 rfl rfl ?_
        refine a_iload (pc := 113) dX0_hasWay_113 rfl ?_
        refine a_iload_n (pc := 115) dX0_hasWay_115 rfl ?_
        refine a_iand (pc := 116) dX0_hasWay_116 ?_
        refine a_iload (pc := 117) dX0_hasWay_117 rfl ?_
        refine a_iconst (pc := 119) dX0_hasWay_119 (by decide) ?_
        refine a_ixor (pc := 120) dX0_hasWay_120 ?_
        refine a_iand (pc := 121) dX0_hasWay_121 ?_
        have H := H _ rfl
        generalize (z_and (z_and y3 x3) (z_xor x4 (-1)) : Int) = y4 at H ⊢
        refine a_istore (pc := 122) (ls' := [vo k0, vn, vi x2, vi x3, vi x4, vi y4, vi x6, vi y3, vi x8]) dX0_hasWay_122 rfl rfl ?_
        refine a_iload (pc := 124) dX0_hasWay_124 rfl ?_
        refine a_iload (pc := 126) dX0_hasWay_126 rfl ?_
        refine a_ior (pc := 128) dX0_hasWay_128 ?_
        refine a_istore (pc := 129) (ls' := [vo k0, vn, vi x2, vi x3, vi (z_or x4 y4), vi y4, vi x6, vi y3, vi x8]) dX0_hasWay_129 rfl rfl ?_
        refine a_iinc (pc := 131) (ls' := [vo k0, vn, vi x2, vi x3, vi (z_or x4 y4), vi y4, vi (w32 (x6 + 1)), vi y3, vi x8]) dX0_hasWay_131 rfl rfl rfl ?_
        refine a_goto (pc := 134) (tgt := 24) dX0_hasWay_134 (by decide) ?_
        exact z_forget (ls' := [vo k0, vn, vi x2, vi x3, vi (z_or x4 y4), vi y4, vi (w32 (x6 + 1)), vn, vn]) ⟨.inr rfl, .inr rfl, .inr rfl, .inr rfl, .inr rfl, .inr rfl, .inr rfl, .inl rfl, .inl rfl, trivial⟩ H
  · have H := H.2 c
    refine a_iload (pc := 63) dX0_hasWay_63 rfl ?_
    refine a_iload (pc := 65) dX0_hasWay_65 rfl ?_
    refine a_callSN (pc := 67) (kc := 0) (ks := 0) (kc' := 0) (ks' := 0) (st := []) [vi x5, vi x8] dX0_hasWay_67 ml_X0_69 rfl (Nat.le_of_ble_eq_true rfl) (Nat.le_of_ble_eq_true rfl) (z_post H (fun r G1 h5 q => ?_))
    obtain ⟨y6, rfl, rfl, H⟩ := q
    show zAt E (d + 1) 0 0 m_X0_hasWay 70 [vo k0, vn, vi x2, vi x3, vi x4, vi x5, vi x6, vi x7, vi x8] [vi y6] g0 h5 (zPi Q)
    refine a_if_eq (pc := 70) (tgt := 85) dX0_hasWay_70 (by decide) (fun c => ?_) (fun c => ?_)
    · have H := H.1 c
      refine a_iinc (pc := 85) (ls' := [vo k0, vn, vi x2, vi x3, vi x4, vi x5, vi x6, vi x7, vi (w32 (x8 + 1))]) dX0_hasWay_85 rfl rfl rfl ?_
      refine a_goto (pc := 88) (tgt := 54) dX0_hasWay_88 (by decide) ?_
      exact H
    · have H := H.2 c
      refine a_iload (pc := 73) dX0_hasWay_73 rfl ?_
      refine a_aload_n (pc := 75) dX0_hasWay_75 rfl ?_
      refine a_getF (pc := 76) dX0_hasWay_76 fl_X0_41 (goCity hk0) (gfCity_12 hk0) ?_
      refine a_iload (pc := 79) dX0_hasWay_79 rfl ?_
      obtain ⟨hb7, H⟩ := H
      refine a_iaload (pc := 81) dX0_hasWay_81 (gaCity_12 hk0) hb7 ?_
      refine a_ior (pc := 82) dX0_hasWay_82 ?_
      have H := H _ rfl
      generalize (z_or x7 (hI h5 (k0 + 8) x8.toNat) : Int) = y8 at H ⊢
      refine a_istore (pc := 83) (ls' := [vo k0, vn, vi x2, vi x3, vi x4, vi x5, vi x6, vi y8, vi x8]) dX0_hasWay_83 rfl rfl ?_
      refine a_iinc (pc := 85) (ls' := [vo k0, vn, vi x2, vi x3, vi x4, vi x5, vi x6, vi y8, vi (w32 (x8 + 1))]) dX0_hasWay_85 rfl rfl rfl ?_
      refine a_goto (pc := 88) (tgt := 54) dX0_hasWay_88 (by decide) ?_
      exact H
set_option maxRecDepth 20000 in
theorem v_X7_forget {E : zE} {d : Nat} {h : zS} {Q : zS → Prop}   (H : ∀ h1, h1 = stI h 30 4 0 → Q h1) : zCv E d m_X7_forget [vo 30] h Q := by
  show zAt E d 0 0 m_X7_forget 0 [vo 30] [] g0 h (zPv Q)
  refine a_aload_n (pc := 0) dX7_forget_0 rfl ?_
  refine a_iconst (pc := 1) dX7_forget_1 (by decide) ?_
  refine a_putI (pc := 2) dX7_forget_2 fl_X7_22 (go_30) ?_
  have H := H _ rfl
  generalize stI h 30 4 0 = h1 at H ⊢
  exact a_return (pc := 5) dX7_forget_5 trivial ⟨rfl, rfl, H⟩
set_option maxRecDepth 20000 in
theorem v_X7_stepByDays {E : zE} {d : Nat} {h : zS} {Q : zS → Prop} {k1 : Nat} (hk1 : isCity k1) (H : zWv E d m_X7_stepByDays 2 [vo 30, vo k1, vi 0] h Q) : zCv E d m_X7_stepByDays [vo 30, vo k1] h Q := by
  show zAt E d 0 0 m_X7_stepByDays 0 [vo 30, vo k1, vn] [] g0 h (zPv Q)
  refine a_iconst (pc := 0) dX7_stepByDays_0 (by decide) ?_
  refine a_istore_n (pc := 1) (ls' := [vo 30, vo k1, vi 0]) dX7_stepByDays_1 rfl rfl ?_
  exact H
set_option maxRecDepth 20000 in
theorem r_X7_stepByDays_2 {E : zE} {d : Nat} {h : zS} {Q : zS → Prop} {k1 : Nat} {x2 : Int} (hk1 : isCity k1) (H : ((144 ≤ x2 → (Q h)) ∧ (x2 < 144 → ((0 ≤ x2 ∧ x2 < 144) ∧ ((0 < (hI h (k1 + 7) x2.toNat) → (0 ≤ x2 ∧ x2 < 144))) ∧ (∀ h3, h3 = stI h 31 x2.toNat (if (hI h (k1 + 7) x2.toNat) ≤ 0 then (-1) else (hI h (k1 + 7) x2.toNat)) → zWv E d m_X7_stepByDays 2 [vo 30, vo k1, vi (w32 (x2 + 1))] h3 Q))))) : zWv E d m_X7_stepByDays 2 [vo 30, vo k1, vi x2] h Q := by
  refine a_iload_n (pc := 2) dX7_stepByDays_2 rfl ?_
  refine a_sipush (pc := 3) dX7_stepByDays_3 (by decide) ?_
  refine a_icmp_ge (pc := 6) (tgt := 40) dX7_stepByDays_6 (by decide) (fun c => ?_) (fun c => ?_)
  · have H := H.1 c
    exact a_return (pc := 40) dX7_stepByDays_40 trivial ⟨rfl, rfl, H⟩
  · have H := H.2 c
    refine a_aload_n (pc := 9) dX7_stepByDays_9 rfl ?_
    refine a_getF (pc := 10) dX7_stepByDays_10 fl_X7_9 (go_30) (gf_30_0) ?_
    refine a_iload_n (pc := 13) dX7_stepByDays_13 rfl ?_
    refine a_aload_n (pc := 14) dX7_stepByDays_14 rfl ?_
    refine a_getG (pc := 15) dX7_stepByDays_15 fl_X7_26 rfl (goCity hk1) (gfCity_11 hk1) ?_
    refine a_iload_n (pc := 18) dX7_stepByDays_18 rfl ?_
    obtain ⟨hb1, H⟩ := H
    refine a_iaload (pc := 19) dX7_stepByDays_19 (gaCity_11 hk1) hb1 ?_
    obtain ⟨HS, H⟩ := H
    have J : zAt E d 0 0 m_X7_stepByDays 33 [vo 30, vo k1, vi x2] [vi (if (hI h (k1 + 7) x2.toNat) ≤ 0 then (-1) else (hI h (k1 + 7) x2.toNat)), vi x2, vo 31] g0 h (zPv Q) := by
      refine a_iastore (pc := 33) dX7_stepByDays_33 (ga_31) hb1 ?_
      have H := H _ rfl
      generalize stI h 31 x2.toNat (if (hI h (k1 + 7) x2.toNat) ≤ 0 then (-1) else (hI h (k1 + 7) x2.toNat)) = h3 at H ⊢
      refine a_iinc (pc := 34) (ls' := [vo 30, vo k1, vi (w32 (x2 + 1))]) dX7_stepByDays_34 rfl rfl rfl ?_
      refine a_goto (pc := 37) (tgt := 2) dX7_stepByDays_37 (by decide) ?_
      exact H
    refine a_if_le (pc := 20) (tgt := 32) dX7_stepByDays_20 (by decide) (fun c2 => ?_) (fun c2 => ?_)
    · skip
      refine a_iconst (pc := 32) dX7_stepByDays_32 (by decide) ?_
      exact (z_mergeT c2 J)
    · have HS := HS c2
      refine a_aload_n (pc := 23) dX7_stepByDays_23 rfl ?_
      refine a_getG (pc := 24) dX7_stepByDays_24 fl_X7_26 rfl (goCity hk1) (gfCity_11 hk1) ?_
      refine a_iload_n (pc := 27) dX7_stepByDays_27 rfl ?_
      have HB0 := HS
      refine a_iaload (pc := 28) dX7_stepByDays_28 (gaCity_11 hk1) HB0 ?_
      refine a_goto (pc := 29) (tgt := 33) dX7_stepByDays_29 (by decide) ?_
      exact (z_mergeF (Int.not_le.mpr c2) J)
set_option maxRecDepth 20000 in
theorem v_X7_stepByKeeps {E : zE} {d : Nat} {h : zS} {Q : zS → Prop} {k1 : Nat} (hk1 : isCity k1) (H : zWv E (d + 1) m_X7_stepByKeeps 2 [vo 30, vo k1, vi 0, vn, vn] h Q) : zCv E (d + 1) m_X7_stepByKeeps [vo 30, vo k1] h Q := by
  show zAt E (d + 1) 0 0 m_X7_stepByKeeps 0 [vo 30, vo k1, vn, vn, vn] [] g0 h (zPv Q)
  refine a_iconst (pc := 0) dX7_stepByKeeps_0 (by decide) ?_
  refine a_istore_n (pc := 1) (ls' := [vo 30, vo k1, vi 0, vn, vn]) dX7_stepByKeeps_1 rfl rfl ?_
  exact H
set_option maxRecDepth 20000 in
theorem r_X7_stepByKeeps_2 {E : zE} {d : Nat} {h : zS} {Q : zS → Prop} {k1 : Nat} {x2 : Int} (hk1 : isCity k1) (H : (((hI h k1 0) ≤ x2 → (Q h)) ∧ (x2 < (hI h k1 0) → (zWv E (d + 1) m_X7_stepByKeeps 12 [vo 30, vo k1, vi x2, vi 0, vn] h Q)))) : zWv E (d + 1) m_X7_stepByKeeps 2 [vo 30, vo k1, vi x2, vn, vn] h Q := by
  refine a_iload_n (pc := 2) dX7_stepByKeeps_2 rfl ?_
  refine a_aload_n (pc := 3) dX7_stepByKeeps_3 rfl ?_
  refine a_getI (pc := 4) dX7_stepByKeeps_4 fl_X7_31 (goCity hk1) ?_
  refine a_icmp_ge (pc := 7) (tgt := 77) dX7_stepByKeeps_7 (by decide) (fun c => ?_) (fun c => ?_)
  · have H := H.1 c
    exact a_return (pc := 77) dX7_stepByKeeps_77 trivial ⟨rfl, rfl, H⟩
  · have H := H.2 c
    refine a_iconst (pc := 10) dX7_stepByKeeps_10 (by decide) ?_
    refine a_istore_n (pc := 11) (ls' := [vo 30, vo k1, vi x2, vi 0, vn]) dX7_stepByKeeps_11 rfl rfl ?_
    exact H
set_option maxRecDepth 20000 in
theorem r_X7_stepByKeeps_12 {E : zE} {d : Nat} {h : zS} {Q : zS → Prop} {k1 : Nat} {x2 : Int} {x3 : Int} (hk1 : isCity k1) (H : (((hI h k1 0) ≤ x3 → (zWv E (d + 1) m_X7_stepByKeeps 2 [vo 30, vo k1, vi (w32 (x2 + 1)), vn, vn] h Q)) ∧ (x3 < (hI h k1 0) → (((x3 ≠ (hI h k1 3) → (0 ≤ x3 ∧ x3 < 12))) ∧ (∀ y2 : Int, y2 = (if x3 ≠ (hI h k1 3) then (hI h (k1 + 6) x3.toNat) else 0) → zCi E d m_X9_pair [vi x2, vi x3] h (fun y4 h3 => zCi E d m_X0_gives [vo k1, vi x2, vi x3] h3 (fun y6 h5 => ((0 ≤ y4 ∧ y4 < 144) ∧ ∀ h9, h9 = stI h5 31 y4.toNat (if y6 = 0 then (-1) else y2) → zWv E (d + 1) m_X7_stepByKeeps 12 [vo 30, vo k1, vi x2, vi (w32 (x3 + 1)), vn] h9 Q)))))))) : zWv E (d + 1) m_X7_stepByKeeps 12 [vo 30, vo k1, vi x2, vi x3, vn] h Q := by
  refine a_iload_n (pc := 12) dX7_stepByKeeps_12 rfl ?_
  refine a_aload_n (pc := 13) dX7_stepByKeeps_13 rfl ?_
  refine a_getI (pc := 14) dX7_stepByKeeps_14 fl_X7_31 (goCity hk1) ?_
  refine a_icmp_ge (pc := 17) (tgt := 71) dX7_stepByKeeps_17 (by decide) (fun c => ?_) (fun c => ?_)
  · have H := H.1 c
    refine a_iinc (pc := 71) (ls' := [vo 30, vo k1, vi (w32 (x2 + 1)), vi x3, vn]) dX7_stepByKeeps_71 rfl rfl rfl ?_
    refine a_goto (pc := 74) (tgt := 2) dX7_stepByKeeps_74 (by decide) ?_
    exact z_forget (ls' := [vo 30, vo k1, vi (w32 (x2 + 1)), vn, vn]) ⟨.inr rfl, .inr rfl, .inr rfl, .inl rfl, .inr rfl, trivial⟩ H
  · have H := H.2 c
    refine a_iload_n (pc := 20) dX7_stepByKeeps_20 rfl ?_
    refine a_aload_n (pc := 21) dX7_stepByKeeps_21 rfl ?_
    refine a_getI (pc := 22) dX7_stepByKeeps_22 fl_X7_34 (goCity hk1) ?_
    obtain ⟨HS, H⟩ := H
    have J : zAt E (d + 1) 0 0 m_X7_stepByKeeps 38 [vo 30, vo k1, vi x2, vi x3, vn] [vi (if x3 ≠ (hI h k1 3) then (hI h (k1 + 6) x3.toNat) else 0)] g0 h (zPv Q) := by
      have H := H _ rfl
      generalize ((if x3 ≠ (hI h k1 3) then (hI h (k1 + 6) x3.toNat) else 0) : Int) = y2 at H ⊢
      refine a_istore (pc := 38) (ls' := [vo 30, vo k1, vi x2, vi x3, vi y2]) dX7_stepByKeeps_38 rfl rfl ?_
      refine a_aload_n (pc := 40) dX7_stepByKeeps_40 rfl ?_
      refine a_getF (pc := 41) dX7_stepByKeeps_41 fl_X7_9 (go_30) (gf_30_0) ?_
      refine a_iload_n (pc := 44) dX7_stepByKeeps_44 rfl ?_
      refine a_iload_n (pc := 45) dX7_stepByKeeps_45 rfl ?_
      refine a_callSN (pc := 46) (kc := 0) (ks := 0) (kc' := 0) (ks' := 0) (st := [vo 31]) [vi x2, vi x3] dX7_stepByKeeps_46 ml_X7_40 rfl (Nat.le_of_ble_eq_true rfl) (Nat.le_of_ble_eq_true rfl) (z_post H (fun r G1 h3 q => ?_))
      obtain ⟨y4, rfl, rfl, H⟩ := q
      show zAt E (d + 1) 0 0 m_X7_stepByKeeps 49 [vo 30, vo k1, vi x2, vi x3, vi y2] [vi y4, vo 31] g0 h3 (zPv Q)
      refine a_aload_n (pc := 49) dX7_stepByKeeps_49 rfl ?_
      refine a_iload_n (pc := 50) dX7_stepByKeeps_50 rfl ?_
      refine a_iload_n (pc := 51) dX7_stepByKeeps_51 rfl ?_
      refine a_callV (pc := 52) (kc := 0) (ks := 0) (kc' := 0) (ks' := 0) (st := [vi y4, vo 31]) [vi x2, vi x3] dX7_stepByKeeps_52 ml_X7_44 (goCity hk1) rfl (Nat.le_of_ble_eq_true rfl) (Nat.le_of_ble_eq_true rfl) (z_post H (fun r G1 h5 q => ?_))
      obtain ⟨y6, rfl, rfl, H⟩ := q
      show zAt E (d + 1) 0 0 m_X7_stepByKeeps 55 [vo 30, vo k1, vi x2, vi x3, vi y2] [vi y6, vi y4, vo 31] g0 h5 (zPv Q)
      have J : zAt E (d + 1) 0 0 m_X7_stepByKeeps 64 [vo 30, vo k1, vi x2, vi x3, vi y2] [vi (if y6 = 0 then (-1) else y2), vi y4, vo 31] g0 h5 (zPv Q) := by
        obtain ⟨hb8, H⟩ := H
        refine a_iastore (pc := 64) dX7_stepByKeeps_64 (ga_31) hb8 ?_
        have H := H _ rfl
        generalize stI h5 31 y4.toNat (if y6 = 0 then (-1) else y2) = h9 at H ⊢
        refine a_iinc (pc := 65) (ls' := [vo 30, vo k1, vi x2, vi (w32 (x3 + 1)), vi y2]) dX7_stepByKeeps_65 rfl rfl rfl ?_
        refine a_goto (pc := 68) (tgt := 12) dX7_stepByKeeps_68 (by decide) ?_
        exact z_forget (ls' := [vo 30, vo k1, vi x2, vi (w32 (x3 + 1)), vn]) ⟨.inr rfl, .inr rfl, .inr rfl, .inr rfl, .inl rfl, trivial⟩ H
      refine a_if_eq (pc := 55) (tgt := 63) dX7_stepByKeeps_55 (by decide) (fun c7 => ?_) (fun c7 => ?_)
      · skip
        refine a_iconst (pc := 63) dX7_stepByKeeps_63 (by decide) ?_
        exact (z_mergeT c7 J)
      · skip
        refine a_iload (pc := 58) dX7_stepByKeeps_58 rfl ?_
        refine a_goto (pc := 60) (tgt := 64) dX7_stepByKeeps_60 (by decide) ?_
        exact (z_mergeF c7 J)
    refine a_icmp_ne (pc := 25) (tgt := 32) dX7_stepByKeeps_25 (by decide) (fun c1 => ?_) (fun c1 => ?_)
    · have HS := HS c1
      refine a_aload_n (pc := 32) dX7_stepByKeeps_32 rfl ?_
      refine a_getG (pc := 33) dX7_stepByKeeps_33 fl_X7_37 rfl (goCity hk1) (gfCity_10 hk1) ?_
      refine a_iload_n (pc := 36) dX7_stepByKeeps_36 rfl ?_
      have HB0 := HS
      refine a_iaload (pc := 37) dX7_stepByKeeps_37 (gaCity_10 hk1) HB0 ?_
      exact (z_mergeT c1 J)
    · skip
      refine a_iconst (pc := 28) dX7_stepByKeeps_28 (by decide) ?_
      refine a_goto (pc := 29) (tgt := 38) dX7_stepByKeeps_29 (by decide) ?_
      exact (z_mergeF (fun n => n c1) J)
set_option maxRecDepth 20000 in
theorem v_X7_stepByOdds {E : zE} {d : Nat} {h : zS} {Q : zS → Prop} {k1 : Nat} (hk1 : isCity k1) (H : zWv E (d + 1) m_X7_stepByOdds 2 [vo 30, vo k1, vi 0, vn, vn] h Q) : zCv E (d + 1) m_X7_stepByOdds [vo 30, vo k1] h Q := by
  show zAt E (d + 1) 0 0 m_X7_stepByOdds 0 [vo 30, vo k1, vn, vn, vn] [] g0 h (zPv Q)
  refine a_iconst (pc := 0) dX7_stepByOdds_0 (by decide) ?_
  refine a_istore_n (pc := 1) (ls' := [vo 30, vo k1, vi 0, vn, vn]) dX7_stepByOdds_1 rfl rfl ?_
  exact H
set_option maxRecDepth 20000 in
theorem r_X7_stepByOdds_2 {E : zE} {d : Nat} {h : zS} {Q : zS → Prop} {k1 : Nat} {x2 : Int} (hk1 : isCity k1) (H : (((hI h k1 0) ≤ x2 → (Q h)) ∧ (x2 < (hI h k1 0) → (zWv E (d + 1) m_X7_stepByOdds 12 [vo 30, vo k1, vi x2, vi 0, vn] h Q)))) : zWv E (d + 1) m_X7_stepByOdds 2 [vo 30, vo k1, vi x2, vn, vn] h Q := by
  refine a_iload_n (pc := 2) dX7_stepByOdds_2 rfl ?_
  refine a_aload_n (pc := 3) dX7_stepByOdds_3 rfl ?_
  refine a_getI (pc := 4) dX7_stepByOdds_4 fl_X7_31 (goCity hk1) ?_
  refine a_icmp_ge (pc := 7) (tgt := 81) dX7_stepByOdds_7 (by decide) (fun c => ?_) (fun c => ?_)
  · have H := H.1 c
    exact a_return (pc := 81) dX7_stepByOdds_81 trivial ⟨rfl, rfl, H⟩
  · have H := H.2 c
    refine a_iconst (pc := 10) dX7_stepByOdds_10 (by decide) ?_
    refine a_istore_n (pc := 11) (ls' := [vo 30, vo k1, vi x2, vi 0, vn]) dX7_stepByOdds_11 rfl rfl ?_
    exact H
set_option maxRecDepth 20000 in
theorem r_X7_stepByOdds_12 {E : zE} {d : Nat} {h : zS} {Q : zS → Prop} {k1 : Nat} {x2 : Int} {x3 : Int} (hk1 : isCity k1) (H : (((hI h k1 0) ≤ x3 → (zWv E (d + 1) m_X7_stepByOdds 2 [vo 30, vo k1, vi (w32 (x2 + 1)), vn, vn] h Q)) ∧ (x3 < (hI h k1 0) → (((x3 ≠ (hI h k1 3) → (0 ≤ x3 ∧ x3 < 12))) ∧ (∀ y2 : Int, y2 = (if x3 ≠ (hI h k1 3) then (w32 (100 - (hI h (k1 + 5) x3.toNat))) else 100) → zCi E d m_X9_pair [vi x2, vi x3] h (fun y4 h3 => zCi E d m_X0_gives [vo k1, vi x2, vi x3] h3 (fun y6 h5 => ((0 ≤ y4 ∧ y4 < 144) ∧ ∀ h9, h9 = stI h5 31 y4.toNat (if y6 = 0 then (-1) else y2) → zWv E (d + 1) m_X7_stepByOdds 12 [vo 30, vo k1, vi x2, vi (w32 (x3 + 1)), vn] h9 Q)))))))) : zWv E (d + 1) m_X7_stepByOdds 12 [vo 30, vo k1, vi x2, vi x3, vn] h Q := by
  refine a_iload_n (pc := 12) dX7_stepByOdds_12 rfl ?_
  refine a_aload_n (pc := 13) dX7_stepByOdds_13 rfl ?_
  refine a_getI (pc := 14) dX7_stepByOdds_14 fl_X7_31 (goCity hk1) ?_
  refine a_icmp_ge (pc := 17) (tgt := 75) dX7_stepByOdds_17 (by decide) (fun c => ?_) (fun c => ?_)
  · have H := H.1 c
    refine a_iinc (pc := 75) (ls' := [vo 30, vo k1, vi (w32 (x2 + 1)), vi x3, vn]) dX7_stepByOdds_75 rfl rfl rfl ?_
    refine a_goto (pc := 78) (tgt := 2) dX7_stepByOdds_78 (by decide) ?_
    exact z_forget (ls' := [vo 30, vo k1, vi (w32 (x2 + 1)), vn, vn]) ⟨.inr rfl, .inr rfl, .inr rfl, .inl rfl, .inr rfl, trivial⟩ H
  · have H := H.2 c
    refine a_iload_n (pc := 20) dX7_stepByOdds_20 rfl ?_
    refine a_aload_n (pc := 21) dX7_stepByOdds_21 rfl ?_
    refine a_getI (pc := 22) dX7_stepByOdds_22 fl_X7_34 (goCity hk1) ?_
    obtain ⟨HS, H⟩ := H
    have J : zAt E (d + 1) 0 0 m_X7_stepByOdds 42 [vo 30, vo k1, vi x2, vi x3, vn] [vi (if x3 ≠ (hI h k1 3) then (w32 (100 - (hI h (k1 + 5) x3.toNat))) else 100)] g0 h (zPv Q) := by
      have H := H _ rfl
      generalize ((if x3 ≠ (hI h k1 3) then (w32 (100 - (hI h (k1 + 5) x3.toNat))) else 100) : Int) = y2 at H ⊢
      refine a_istore (pc := 42) (ls' := [vo 30, vo k1, vi x2, vi x3, vi y2]) dX7_stepByOdds_42 rfl rfl ?_
      refine a_aload_n (pc := 44) dX7_stepByOdds_44 rfl ?_
      refine a_getF (pc := 45) dX7_stepByOdds_45 fl_X7_9 (go_30) (gf_30_0) ?_
      refine a_iload_n (pc := 48) dX7_stepByOdds_48 rfl ?_
      refine a_iload_n (pc := 49) dX7_stepByOdds_49 rfl ?_
      refine a_callSN (pc := 50) (kc := 0) (ks := 0) (kc' := 0) (ks' := 0) (st := [vo 31]) [vi x2, vi x3] dX7_stepByOdds_50 ml_X7_40 rfl (Nat.le_of_ble_eq_true rfl) (Nat.le_of_ble_eq_true rfl) (z_post H (fun r G1 h3 q => ?_))
      obtain ⟨y4, rfl, rfl, H⟩ := q
      show zAt E (d + 1) 0 0 m_X7_stepByOdds 53 [vo 30, vo k1, vi x2, vi x3, vi y2] [vi y4, vo 31] g0 h3 (zPv Q)
      refine a_aload_n (pc := 53) dX7_stepByOdds_53 rfl ?_
      refine a_iload_n (pc := 54) dX7_stepByOdds_54 rfl ?_
      refine a_iload_n (pc := 55) dX7_stepByOdds_55 rfl ?_
      refine a_callV (pc := 56) (kc := 0) (ks := 0) (kc' := 0) (ks' := 0) (st := [vi y4, vo 31]) [vi x2, vi x3] dX7_stepByOdds_56 ml_X7_44 (goCity hk1) rfl (Nat.le_of_ble_eq_true rfl) (Nat.le_of_ble_eq_true rfl) (z_post H (fun r G1 h5 q => ?_))
      obtain ⟨y6, rfl, rfl, H⟩ := q
      show zAt E (d + 1) 0 0 m_X7_stepByOdds 59 [vo 30, vo k1, vi x2, vi x3, vi y2] [vi y6, vi y4, vo 31] g0 h5 (zPv Q)
      have J : zAt E (d + 1) 0 0 m_X7_stepByOdds 68 [vo 30, vo k1, vi x2, vi x3, vi y2] [vi (if y6 = 0 then (-1) else y2), vi y4, vo 31] g0 h5 (zPv Q) := by
        obtain ⟨hb8, H⟩ := H
        refine a_iastore (pc := 68) dX7_stepByOdds_68 (ga_31) hb8 ?_
        have H := H _ rfl
        generalize stI h5 31 y4.toNat (if y6 = 0 then (-1) else y2) = h9 at H ⊢
        refine a_iinc (pc := 69) (ls' := [vo 30, vo k1, vi x2, vi (w32 (x3 + 1)), vi y2]) dX7_stepByOdds_69 rfl rfl rfl ?_
        refine a_goto (pc := 72) (tgt := 12) dX7_stepByOdds_72 (by decide) ?_
        exact z_forget (ls' := [vo 30, vo k1, vi x2, vi (w32 (x3 + 1)), vn]) ⟨.inr rfl, .inr rfl, .inr rfl, .inr rfl, .inl rfl, trivial⟩ H
      refine a_if_eq (pc := 59) (tgt := 67) dX7_stepByOdds_59 (by decide) (fun c7 => ?_) (fun c7 => ?_)
      · skip
        refine a_iconst (pc := 67) dX7_stepByOdds_67 (by decide) ?_
        exact (z_mergeT c7 J)
      · skip
        refine a_iload (pc := 62) dX7_stepByOdds_62 rfl ?_
        refine a_goto (pc := 64) (tgt := 68) dX7_stepByOdds_64 (by decide) ?_
        exact (z_mergeF c7 J)
    refine a_icmp_ne (pc := 25) (tgt := 33) dX7_stepByOdds_25 (by decide) (fun c1 => ?_) (fun c1 => ?_)
    · have HS := HS c1
      refine a_bipush (pc := 33) dX7_stepByOdds_33 (by decide) ?_
      refine a_aload_n (pc := 35) dX7_stepByOdds_35 rfl ?_
      refine a_getG (pc := 36) dX7_stepByOdds_36 fl_X7_48 rfl (goCity hk1) (gfCity_9 hk1) ?_
      refine a_iload_n (pc := 39) dX7_stepByOdds_39 rfl ?_
      have HB0 := HS
      refine a_iaload (pc := 40) dX7_stepByOdds_40 (gaCity_9 hk1) HB0 ?_
      refine a_isub (pc := 41) dX7_stepByOdds_41 ?_
      exact (z_mergeT c1 J)
    · skip
      refine a_bipush (pc := 28) dX7_stepByOdds_28 (by decide) ?_
      refine a_goto (pc := 30) (tgt := 42) dX7_stepByOdds_30 (by decide) ?_
      exact (z_mergeF (fun n => n c1) J)
set_option maxRecDepth 20000 in
theorem v_X7_stepByAcquaintances {E : zE} {d : Nat} {h : zS} {Q : zS → Prop} {k1 : Nat} {k2 : Nat} (hk1 : isCity k1) (hk2 : isEarnest k2) (H : zWv E (d + 1) m_X7_stepByAcquaintances 2 [vo 30, vo k1, vo k2, vi 0, vn] h Q) : zCv E (d + 1) m_X7_stepByAcquaintances [vo 30, vo k1, vo k2] h Q := by
  show zAt E (d + 1) 0 0 m_X7_stepByAcquaintances 0 [vo 30, vo k1, vo k2, vn, vn] [] g0 h (zPv Q)
  refine a_iconst (pc := 0) dX7_stepByAcquaintances_0 (by decide) ?_
  refine a_istore_n (pc := 1) (ls' := [vo 30, vo k1, vo k2, vi 0, vn]) dX7_stepByAcquaintances_1 rfl rfl ?_
  exact H
set_option maxRecDepth 20000 in
theorem r_X7_stepByAcquaintances_2 {E : zE} {d : Nat} {h : zS} {Q : zS → Prop} {k1 : Nat} {k2 : Nat} {x3 : Int} (hk1 : isCity k1) (hk2 : isEarnest k2) (H : (((hI h k1 0) ≤ x3 → (Q h)) ∧ (x3 < (hI h k1 0) → (zWv E (d + 1) m_X7_stepByAcquaintances 13 [vo 30, vo k1, vo k2, vi x3, vi 0] h Q)))) : zWv E (d + 1) m_X7_stepByAcquaintances 2 [vo 30, vo k1, vo k2, vi x3, vn] h Q := by
  refine a_iload_n (pc := 2) dX7_stepByAcquaintances_2 rfl ?_
  refine a_aload_n (pc := 3) dX7_stepByAcquaintances_3 rfl ?_
  refine a_getI (pc := 4) dX7_stepByAcquaintances_4 fl_X7_31 (goCity hk1) ?_
  refine a_icmp_ge (pc := 7) (tgt := 53) dX7_stepByAcquaintances_7 (by decide) (fun c => ?_) (fun c => ?_)
  · have H := H.1 c
    exact a_return (pc := 53) dX7_stepByAcquaintances_53 trivial ⟨rfl, rfl, H⟩
  · have H := H.2 c
    refine a_iconst (pc := 10) dX7_stepByAcquaintances_10 (by decide) ?_
    refine a_istore (pc := 11) (ls' := [vo 30, vo k1, vo k2, vi x3, vi 0]) dX7_stepByAcquaintances_11 rfl rfl ?_
    exact H
set_option maxRecDepth 20000 in
theorem r_X7_stepByAcquaintances_13 {E : zE} {d : Nat} {h : zS} {Q : zS → Prop} {k1 : Nat} {k2 : Nat} {x3 : Int} {x4 : Int} (hk1 : isCity k1) (hk2 : isEarnest k2) (H : (((hI h k1 0) ≤ x4 → (zWv E (d + 1) m_X7_stepByAcquaintances 2 [vo 30, vo k1, vo k2, vi (w32 (x3 + 1)), vn] h Q)) ∧ (x4 < (hI h k1 0) → (zCi E d m_X9_pair [vi x3, vi x4] h (fun y2 h1 => zCi E d m_X1_acquaintancesFor [vo k2, vo k1, vi x3, vi x4] h1 (fun y4 h3 => (0 ≤ y2 ∧ y2 < 144) ∧ ∀ h6, h6 = stI h3 31 y2.toNat y4 → zWv E (d + 1) m_X7_stepByAcquaintances 13 [vo 30, vo k1, vo k2, vi x3, vi (w32 (x4 + 1))] h6 Q)))))) : zWv E (d + 1) m_X7_stepByAcquaintances 13 [vo 30, vo k1, vo k2, vi x3, vi x4] h Q := by
  refine a_iload (pc := 13) dX7_stepByAcquaintances_13 rfl ?_
  refine a_aload_n (pc := 15) dX7_stepByAcquaintances_15 rfl ?_
  refine a_getI (pc := 16) dX7_stepByAcquaintances_16 fl_X7_31 (goCity hk1) ?_
  refine a_icmp_ge (pc := 19) (tgt := 47) dX7_stepByAcquaintances_19 (by decide) (fun c => ?_) (fun c => ?_)
  · have H := H.1 c
    refine a_iinc (pc := 47) (ls' := [vo 30, vo k1, vo k2, vi (w32 (x3 + 1)), vi x4]) dX7_stepByAcquaintances_47 rfl rfl rfl ?_
    refine a_goto (pc := 50) (tgt := 2) dX7_stepByAcquaintances_50 (by decide) ?_
    exact z_forget (ls' := [vo 30, vo k1, vo k2, vi (w32 (x3 + 1)), vn]) ⟨.inr rfl, .inr rfl, .inr rfl, .inr rfl, .inl rfl, trivial⟩ H
  · have H := H.2 c
    refine a_aload_n (pc := 22) dX7_stepByAcquaintances_22 rfl ?_
    refine a_getF (pc := 23) dX7_stepByAcquaintances_23 fl_X7_9 (go_30) (gf_30_0) ?_
    refine a_iload_n (pc := 26) dX7_stepByAcquaintances_26 rfl ?_
    refine a_iload (pc := 27) dX7_stepByAcquaintances_27 rfl ?_
    refine a_callSN (pc := 29) (kc := 0) (ks := 0) (kc' := 0) (ks' := 0) (st := [vo 31]) [vi x3, vi x4] dX7_stepByAcquaintances_29 ml_X7_40 rfl (Nat.le_of_ble_eq_true rfl) (Nat.le_of_ble_eq_true rfl) (z_post H (fun r G1 h1 q => ?_))
    obtain ⟨y2, rfl, rfl, H⟩ := q
    show zAt E (d + 1) 0 0 m_X7_stepByAcquaintances 32 [vo 30, vo k1, vo k2, vi x3, vi x4] [vi y2, vo 31] g0 h1 (zPv Q)
    refine a_aload_n (pc := 32) dX7_stepByAcquaintances_32 rfl ?_
    refine a_aload_n (pc := 33) dX7_stepByAcquaintances_33 rfl ?_
    refine a_iload_n (pc := 34) dX7_stepByAcquaintances_34 rfl ?_
    refine a_iload (pc := 35) dX7_stepByAcquaintances_35 rfl ?_
    refine a_callV (pc := 37) (kc := 0) (ks := 0) (kc' := 0) (ks' := 0) (st := [vi y2, vo 31]) [vo k1, vi x3, vi x4] dX7_stepByAcquaintances_37 ml_X7_51 (goEarnest hk2) rfl (Nat.le_of_ble_eq_true rfl) (Nat.le_of_ble_eq_true rfl) (z_post H (fun r G1 h3 q => ?_))
    obtain ⟨y4, rfl, rfl, H⟩ := q
    show zAt E (d + 1) 0 0 m_X7_stepByAcquaintances 40 [vo 30, vo k1, vo k2, vi x3, vi x4] [vi y4, vi y2, vo 31] g0 h3 (zPv Q)
    obtain ⟨hb5, H⟩ := H
    refine a_iastore (pc := 40) dX7_stepByAcquaintances_40 (ga_31) hb5 ?_
    have H := H _ rfl
    generalize stI h3 31 y2.toNat y4 = h6 at H ⊢
    refine a_iinc (pc := 41) (ls' := [vo 30, vo k1, vo k2, vi x3, vi (w32 (x4 + 1))]) dX7_stepByAcquaintances_41 rfl rfl rfl ?_
    refine a_goto (pc := 44) (tgt := 13) dX7_stepByAcquaintances_44 (by decide) ?_
    exact H
set_option maxRecDepth 20000 in
theorem v_X7_layLeast {E : zE} {d : Nat} {h : zS} {Q : Int → zS → Prop} {k1 : Nat} (hk1 : isCity k1) (H : ∀ h1, h1 = stI h 30 2 0 → zCl E d m_X7_lay [vo 30, vo k1, vi 11, vl 0] h1 (fun y3 h2 => Q y3 h2)) : zCl E (d + 1) m_X7_layLeast [vo 30, vo k1] h Q := by
  show zAt E (d + 1) 0 0 m_X7_layLeast 0 [vo 30, vo k1] [] g0 h (zPl Q)
  refine a_aload_n (pc := 0) dX7_layLeast_0 rfl ?_
  refine a_iconst (pc := 1) dX7_layLeast_1 (by decide) ?_
  refine a_putZ (pc := 2) dX7_layLeast_2 fl_X7_57 (go_30) (by decide) ?_
  have H := H _ rfl
  generalize stI h 30 2 0 = h1 at H ⊢
  refine a_aload_n (pc := 5) dX7_layLeast_5 rfl ?_
  refine a_aload_n (pc := 6) dX7_layLeast_6 rfl ?_
  refine a_bipush (pc := 7) dX7_layLeast_7 (by decide) ?_
  refine a_lconst0 (pc := 9) dX7_layLeast_9 ?_
  refine a_callV (pc := 10) (kc := 0) (ks := 0) (kc' := 0) (ks' := 0) (st := []) [vo k1, vi 11, vl 0] dX7_layLeast_10 ml_X7_61 (go_30) rfl (Nat.le_of_ble_eq_true rfl) (Nat.le_of_ble_eq_true rfl) (z_post H (fun r G1 h2 q => ?_))
  obtain ⟨y3, rfl, rfl, H⟩ := q
  show zAt E (d + 1) 0 0 m_X7_layLeast 13 [vo 30, vo k1] [vl y3] g0 h2 (zPl Q)
  exact a_lreturn (pc := 13) dX7_layLeast_13 trivial ⟨_, rfl, rfl, H⟩
set_option maxRecDepth 20000 in
theorem v_X7_layLikeliest {E : zE} {d : Nat} {h : zS} {Q : Int → zS → Prop} {k1 : Nat} (hk1 : isCity k1) (H : ∀ h1, h1 = stI h 30 2 1 → zCl E d m_X7_lay [vo 30, vo k1, vi 10, vl (-1000000000000000000)] h1 (fun y3 h2 => (((z_lcmp y3 4000000000000000000) ≠ 0 → (Q (w64 (-y3)) h2)) ∧ ((z_lcmp y3 4000000000000000000) = 0 → (Q 4000000000000000000 h2))))) : zCl E (d + 1) m_X7_layLikeliest [vo 30, vo k1] h Q := by
  show zAt E (d + 1) 0 0 m_X7_layLikeliest 0 [vo 30, vo k1, vn, vn] [] g0 h (zPl Q)
  refine a_aload_n (pc := 0) dX7_layLikeliest_0 rfl ?_
  refine a_iconst (pc := 1) dX7_layLikeliest_1 (by decide) ?_
  refine a_putZ (pc := 2) dX7_layLikeliest_2 fl_X7_57 (go_30) (by decide) ?_
  have H := H _ rfl
  generalize stI h 30 2 1 = h1 at H ⊢
  refine a_aload_n (pc := 5) dX7_layLikeliest_5 rfl ?_
  refine a_aload_n (pc := 6) dX7_layLikeliest_6 rfl ?_
  refine a_bipush (pc := 7) dX7_layLikeliest_7 (by decide) ?_
  refine a_ldc2 (pc := 9) dX7_layLikeliest_9 cl_X7_65 (by decide) ?_
  refine a_callV (pc := 12) (kc := 0) (ks := 0) (kc' := 0) (ks' := 0) (st := []) [vo k1, vi 10, vl (-1000000000000000000)] dX7_layLikeliest_12 ml_X7_61 (go_30) rfl (Nat.le_of_ble_eq_true rfl) (Nat.le_of_ble_eq_true rfl) (z_post H (fun r G1 h2 q => ?_))
  obtain ⟨y3, rfl, rfl, H⟩ := q
  show zAt E (d + 1) 0 0 m_X7_layLikeliest 15 [vo 30, vo k1, vn, vn] [vl y3] g0 h2 (zPl Q)
  refine a_lstore_n (pc := 15) (ls' := [vo 30, vo k1, vl y3, vn]) dX7_layLikeliest_15 rfl rfl ?_
  refine a_lload_n (pc := 16) dX7_layLikeliest_16 rfl ?_
  refine a_ldc2 (pc := 17) dX7_layLikeliest_17 cl_X7_67 (by decide) ?_
  refine a_lcmp (pc := 20) dX7_layLikeliest_20 ?_
  refine a_if_ne (pc := 21) (tgt := 30) dX7_layLikeliest_21 (by decide) (fun c => ?_) (fun c => ?_)
  · have H := H.1 c
    refine a_lload_n (pc := 30) dX7_layLikeliest_30 rfl ?_
    refine a_lneg (pc := 31) dX7_layLikeliest_31 ?_
    exact a_lreturn (pc := 32) dX7_layLikeliest_32 trivial ⟨_, rfl, rfl, H⟩
  · have H := H.2 c
    refine a_ldc2 (pc := 24) dX7_layLikeliest_24 cl_X7_67 (by decide) ?_
    refine a_goto (pc := 27) (tgt := 32) dX7_layLikeliest_27 (by decide) ?_
    exact a_lreturn (pc := 32) dX7_layLikeliest_32 trivial ⟨_, rfl, rfl, H⟩
set_option maxRecDepth 20000 in
theorem v_X7_lay {E : zE} {d : Nat} {h : zS} {Q : Int → zS → Prop} {k1 : Nat} {x2 : Int} {x3 : Int} (hk1 : isCity k1) (H : ∀ h1, h1 = stI h 30 4 0 → zCi E d m_X0_hasEnds [vo k1] h1 (fun y3 h2 => ((y3 ≠ 0 → (zCv E d m_X7_fillBest [vo 30, vo k1, vi x2, vl x3] h2 (fun h4 => zWl E (d + 1) m_X7_lay 34 [vo 30, vo k1, vi x2, vn, vn, vl 4000000000000000000, vn, vi 0, vi 0] h4 Q))) ∧ (y3 = 0 → (Q 4000000000000000000 h2))))) : zCl E (d + 1) m_X7_lay [vo 30, vo k1, vi x2, vl x3] h Q := by
  show zAt E (d + 1) 0 0 m_X7_lay 0 [vo 30, vo k1, vi x2, vl x3, vn, vn, vn, vn, vn] [] g0 h (zPl Q)
  refine a_aload_n (pc := 0) dX7_lay_0 rfl ?_
  refine a_iconst (pc := 1) dX7_lay_1 (by decide) ?_
  refine a_putI (pc := 2) dX7_lay_2 fl_X7_22 (go_30) ?_
  have H := H _ rfl
  generalize stI h 30 4 0 = h1 at H ⊢
  refine a_aload_n (pc := 5) dX7_lay_5 rfl ?_
  refine a_callV (pc := 6) (kc := 0) (ks := 0) (kc' := 0) (ks' := 0) (st := []) [] dX7_lay_6 ml_X7_69 (goCity hk1) rfl (Nat.le_of_ble_eq_true rfl) (Nat.le_of_ble_eq_true rfl) (z_post H (fun r G1 h2 q => ?_))
  obtain ⟨y3, rfl, rfl, H⟩ := q
  show zAt E (d + 1) 0 0 m_X7_lay 9 [vo 30, vo k1, vi x2, vl x3, vn, vn, vn, vn, vn] [vi y3] g0 h2 (zPl Q)
  refine a_if_ne (pc := 9) (tgt := 16) dX7_lay_9 (by decide) (fun c => ?_) (fun c => ?_)
  · have H := H.1 c
    refine a_aload_n (pc := 16) dX7_lay_16 rfl ?_
    refine a_aload_n (pc := 17) dX7_lay_17 rfl ?_
    refine a_iload_n (pc := 18) dX7_lay_18 rfl ?_
    refine a_lload_n (pc := 19) dX7_lay_19 rfl ?_
    refine a_callV (pc := 20) (kc := 0) (ks := 0) (kc' := 0) (ks' := 0) (st := []) [vo k1, vi x2, vl x3] dX7_lay_20 ml_X7_73 (go_30) rfl (Nat.le_of_ble_eq_true rfl) (Nat.le_of_ble_eq_true rfl) (z_post H (fun r G1 h4 q => ?_))
    obtain ⟨rfl, rfl, H⟩ := q
    show zAt E (d + 1) 0 0 m_X7_lay 23 [vo 30, vo k1, vi x2, vl x3, vn, vn, vn, vn, vn] [] g0 h4 (zPl Q)
    refine a_ldc2 (pc := 23) dX7_lay_23 cl_X7_67 (by decide) ?_
    refine a_lstore (pc := 26) (ls' := [vo 30, vo k1, vi x2, vl x3, vn, vl 4000000000000000000, vn, vn, vn]) dX7_lay_26 rfl rfl ?_
    refine a_iconst (pc := 28) dX7_lay_28 (by decide) ?_
    refine a_istore (pc := 29) (ls' := [vo 30, vo k1, vi x2, vl x3, vn, vl 4000000000000000000, vn, vi 0, vn]) dX7_lay_29 rfl rfl ?_
    refine a_iconst (pc := 31) dX7_lay_31 (by decide) ?_
    refine a_istore (pc := 32) (ls' := [vo 30, vo k1, vi x2, vl x3, vn, vl 4000000000000000000, vn, vi 0, vi 0]) dX7_lay_32 rfl rfl ?_
    exact z_forget (ls' := [vo 30, vo k1, vi x2, vn, vn, vl 4000000000000000000, vn, vi 0, vi 0]) ⟨.inr rfl, .inr rfl, .inr rfl, .inl rfl, .inr rfl, .inr rfl, .inr rfl, .inr rfl, .inr rfl, trivial⟩ H
  · have H := H.2 c
    refine a_ldc2 (pc := 12) dX7_lay_12 cl_X7_67 (by decide) ?_
    exact a_lreturn (pc := 15) dX7_lay_15 trivial ⟨_, rfl, rfl, H⟩
set_option maxRecDepth 20000 in
theorem r_X7_lay_34 {E : zE} {d : Nat} {h : zS} {Q : Int → zS → Prop} {k1 : Nat} {x2 : Int} {x5 : Int} {x7 : Int} {x8 : Int} (hk1 : isCity k1) (H : ((x2 < x8 → (((z_lcmp x5 4000000000000000000) = 0 → (Q x5 h)) ∧ ((z_lcmp x5 4000000000000000000) ≠ 0 → (zCv E d m_X7_trace [vo 30, vo k1, vi x7] h (fun h1 => Q x5 h1))))) ∧ (x8 ≤ x2 → (zCi E d m_X9_pair [vi x8, vi (hI h k1 2)] h (fun y3 h2 => (0 ≤ y3 ∧ y3 < 144) ∧ ((0 ≤ (z_lcmp (hL h2 32 y3.toNat) x5) → (zWl E (d + 1) m_X7_lay 34 [vo 30, vo k1, vi x2, vn, vn, vl x5, vn, vi x7, vi (w32 (x8 + 1))] h2 Q)) ∧ ((z_lcmp (hL h2 32 y3.toNat) x5) < 0 → (zCi E d m_X9_pair [vi x8, vi (hI h2 k1 2)] h2 (fun y6 h5 => (0 ≤ y6 ∧ y6 < 144) ∧ zWl E (d + 1) m_X7_lay 34 [vo 30, vo k1, vi x2, vn, vn, vl (hL h5 32 y6.toNat), vn, vi x8, vi (w32 (x8 + 1))] h5 Q))))))))) : zWl E (d + 1) m_X7_lay 34 [vo 30, vo k1, vi x2, vn, vn, vl x5, vn, vi x7, vi x8] h Q := by
  refine a_iload (pc := 34) dX7_lay_34 rfl ?_
  refine a_iload_n (pc := 36) dX7_lay_36 rfl ?_
  refine a_icmp_gt (pc := 37) (tgt := 86) dX7_lay_37 (by decide) (fun c => ?_) (fun c => ?_)
  · have H := H.1 c
    refine a_lload (pc := 86) dX7_lay_86 rfl ?_
    refine a_ldc2 (pc := 88) dX7_lay_88 cl_X7_67 (by decide) ?_
    refine a_lcmp (pc := 91) dX7_lay_91 ?_
    refine a_if_eq (pc := 92) (tgt := 102) dX7_lay_92 (by decide) (fun c => ?_) (fun c => ?_)
    · have H := H.1 c
      refine a_lload (pc := 102) dX7_lay_102 rfl ?_
      exact a_lreturn (pc := 104) dX7_lay_104 trivial ⟨_, rfl, rfl, H⟩
    · have H := H.2 c
      refine a_aload_n (pc := 95) dX7_lay_95 rfl ?_
      refine a_aload_n (pc := 96) dX7_lay_96 rfl ?_
      refine a_iload (pc := 97) dX7_lay_97 rfl ?_
      refine a_callV (pc := 99) (kc := 0) (ks := 0) (kc' := 0) (ks' := 0) (st := []) [vo k1, vi x7] dX7_lay_99 ml_X7_80 (go_30) rfl (Nat.le_of_ble_eq_true rfl) (Nat.le_of_ble_eq_true rfl) (z_post H (fun r G1 h1 q => ?_))
      obtain ⟨rfl, rfl, H⟩ := q
      show zAt E (d + 1) 0 0 m_X7_lay 102 [vo 30, vo k1, vi x2, vn, vn, vl x5, vn, vi x7, vi x8] [] g0 h1 (zPl Q)
      refine a_lload (pc := 102) dX7_lay_102 rfl ?_
      exact a_lreturn (pc := 104) dX7_lay_104 trivial ⟨_, rfl, rfl, H⟩
  · have H := H.2 c
    refine a_aload_n (pc := 40) dX7_lay_40 rfl ?_
    refine a_getF (pc := 41) dX7_lay_41 fl_X7_15 (go_30) (gf_30_1) ?_
    refine a_iload (pc := 44) dX7_lay_44 rfl ?_
    refine a_aload_n (pc := 46) dX7_lay_46 rfl ?_
    refine a_getI (pc := 47) dX7_lay_47 fl_X7_77 (goCity hk1) ?_
    refine a_callSN (pc := 50) (kc := 0) (ks := 0) (kc' := 0) (ks' := 0) (st := [vo 32]) [vi x8, vi (hI h k1 2)] dX7_lay_50 ml_X7_40 rfl (Nat.le_of_ble_eq_true rfl) (Nat.le_of_ble_eq_true rfl) (z_post H (fun r G1 h2 q => ?_))
    obtain ⟨y3, rfl, rfl, H⟩ := q
    show zAt E (d + 1) 0 0 m_X7_lay 53 [vo 30, vo k1, vi x2, vn, vn, vl x5, vn, vi x7, vi x8] [vi y3, vo 32] g0 h2 (zPl Q)
    obtain ⟨hb4, H⟩ := H
    refine a_laload (pc := 53) dX7_lay_53 (ga_32) hb4 ?_
    refine a_lload (pc := 54) dX7_lay_54 rfl ?_
    refine a_lcmp (pc := 56) dX7_lay_56 ?_
    refine a_if_ge (pc := 57) (tgt := 80) dX7_lay_57 (by decide) (fun c => ?_) (fun c => ?_)
    · have H := H.1 c
      refine a_iinc (pc := 80) (ls' := [vo 30, vo k1, vi x2, vn, vn, vl x5, vn, vi x7, vi (w32 (x8 + 1))]) dX7_lay_80 rfl rfl rfl ?_
      refine a_goto (pc := 83) (tgt := 34) dX7_lay_83 (by decide) ?_
      exact H
    · have H := H.2 c
      refine a_aload_n (pc := 60) dX7_lay_60 rfl ?_
      refine a_getF (pc := 61) dX7_lay_61 fl_X7_15 (go_30) (gf_30_1) ?_
      refine a_iload (pc := 64) dX7_lay_64 rfl ?_
      refine a_aload_n (pc := 66) dX7_lay_66 rfl ?_
      refine a_getI (pc := 67) dX7_lay_67 fl_X7_77 (goCity hk1) ?_
      refine a_callSN (pc := 70) (kc := 0) (ks := 0) (kc' := 0) (ks' := 0) (st := [vo 32]) [vi x8, vi (hI h2 k1 2)] dX7_lay_70 ml_X7_40 rfl (Nat.le_of_ble_eq_true rfl) (Nat.le_of_ble_eq_true rfl) (z_post H (fun r G1 h5 q => ?_))
      obtain ⟨y6, rfl, rfl, H⟩ := q
      show zAt E (d + 1) 0 0 m_X7_lay 73 [vo 30, vo k1, vi x2, vn, vn, vl x5, vn, vi x7, vi x8] [vi y6, vo 32] g0 h5 (zPl Q)
      obtain ⟨hb7, H⟩ := H
      refine a_laload (pc := 73) dX7_lay_73 (ga_32) hb7 ?_
      refine a_lstore (pc := 74) (ls' := [vo 30, vo k1, vi x2, vn, vn, vl (hL h5 32 y6.toNat), vn, vi x7, vi x8]) dX7_lay_74 rfl rfl ?_
      refine a_iload (pc := 76) dX7_lay_76 rfl ?_
      refine a_istore (pc := 78) (ls' := [vo 30, vo k1, vi x2, vn, vn, vl (hL h5 32 y6.toNat), vn, vi x8, vi x8]) dX7_lay_78 rfl rfl ?_
      refine a_iinc (pc := 80) (ls' := [vo 30, vo k1, vi x2, vn, vn, vl (hL h5 32 y6.toNat), vn, vi x8, vi (w32 (x8 + 1))]) dX7_lay_80 rfl rfl rfl ?_
      refine a_goto (pc := 83) (tgt := 34) dX7_lay_83 (by decide) ?_
      exact H
set_option maxRecDepth 20000 in
theorem v_X7_fillBest {E : zE} {d : Nat} {h : zS} {Q : zS → Prop} {k1 : Nat} {x2 : Int} {x3 : Int} (hk1 : isCity k1) (H : zCv E d m_J7_fill_d0a16 [vo 32, vl 4000000000000000000] h (fun h1 => (0 ≤ hI h1 k1 3 ∧ hI h1 k1 3 < 144) ∧ ∀ h3, h3 = stL h1 32 (hI h1 k1 3).toNat x3 → zWv E (d + 1) m_X7_fillBest 23 [vo 30, vo k1, vi x2, vn, vn, vi 1, vn] h3 Q)) : zCv E (d + 1) m_X7_fillBest [vo 30, vo k1, vi x2, vl x3] h Q := by
  show zAt E (d + 1) 0 0 m_X7_fillBest 0 [vo 30, vo k1, vi x2, vl x3, vn, vn, vn] [] g0 h (zPv Q)
  refine a_aload_n (pc := 0) dX7_fillBest_0 rfl ?_
  refine a_getF (pc := 1) dX7_fillBest_1 fl_X7_15 (go_30) (gf_30_1) ?_
  refine a_ldc2 (pc := 4) dX7_fillBest_4 cl_X7_67 (by decide) ?_
  refine a_callS (pc := 7) (kc := 0) (ks := 0) (kc' := 0) (ks' := 0) (st := []) [vo 32, vl 4000000000000000000] dX7_fillBest_7 ml_X7_84 rfl (Nat.le_of_ble_eq_true rfl) (Nat.le_of_ble_eq_true rfl) (z_post H (fun r G1 h1 q => ?_))
  obtain ⟨rfl, rfl, H⟩ := q
  show zAt E (d + 1) 0 0 m_X7_fillBest 10 [vo 30, vo k1, vi x2, vl x3, vn, vn, vn] [] g0 h1 (zPv Q)
  refine a_aload_n (pc := 10) dX7_fillBest_10 rfl ?_
  refine a_getF (pc := 11) dX7_fillBest_11 fl_X7_15 (go_30) (gf_30_1) ?_
  refine a_aload_n (pc := 14) dX7_fillBest_14 rfl ?_
  refine a_getI (pc := 15) dX7_fillBest_15 fl_X7_34 (goCity hk1) ?_
  refine a_lload_n (pc := 18) dX7_fillBest_18 rfl ?_
  obtain ⟨hb2, H⟩ := H
  refine a_lastore (pc := 19) dX7_fillBest_19 (ga_32) hb2 ?_
  have H := H _ rfl
  generalize stL h1 32 (hI h1 k1 3).toNat x3 = h3 at H ⊢
  refine a_iconst (pc := 20) dX7_fillBest_20 (by decide) ?_
  refine a_istore (pc := 21) (ls' := [vo 30, vo k1, vi x2, vl x3, vn, vi 1, vn]) dX7_fillBest_21 rfl rfl ?_
  exact z_forget (ls' := [vo 30, vo k1, vi x2, vn, vn, vi 1, vn]) ⟨.inr rfl, .inr rfl, .inr rfl, .inl rfl, .inr rfl, .inr rfl, .inr rfl, trivial⟩ H
set_option maxRecDepth 20000 in
theorem r_X7_fillBest_23 {E : zE} {d : Nat} {h : zS} {Q : zS → Prop} {k1 : Nat} {x2 : Int} {x5 : Int} (hk1 : isCity k1) (H : ((x2 < x5 → (Q h)) ∧ (x5 ≤ x2 → (zWv E (d + 1) m_X7_fillBest 32 [vo 30, vo k1, vi x2, vn, vn, vi x5, vi 0] h Q)))) : zWv E (d + 1) m_X7_fillBest 23 [vo 30, vo k1, vi x2, vn, vn, vi x5, vn] h Q := by
  refine a_iload (pc := 23) dX7_fillBest_23 rfl ?_
  refine a_iload_n (pc := 25) dX7_fillBest_25 rfl ?_
  refine a_icmp_gt (pc := 26) (tgt := 83) dX7_fillBest_26 (by decide) (fun c => ?_) (fun c => ?_)
  · have H := H.1 c
    exact a_return (pc := 83) dX7_fillBest_83 trivial ⟨rfl, rfl, H⟩
  · have H := H.2 c
    refine a_iconst (pc := 29) dX7_fillBest_29 (by decide) ?_
    refine a_istore (pc := 30) (ls' := [vo 30, vo k1, vi x2, vn, vn, vi x5, vi 0]) dX7_fillBest_30 rfl rfl ?_
    exact H
set_option maxRecDepth 20000 in
theorem r_X7_fillBest_32 {E : zE} {d : Nat} {h : zS} {Q : zS → Prop} {k1 : Nat} {x2 : Int} {x5 : Int} {x6 : Int} (hk1 : isCity k1) (H : (((hI h k1 0) ≤ x6 → (zWv E (d + 1) m_X7_fillBest 23 [vo 30, vo k1, vi x2, vn, vn, vi (w32 (x5 + 1)), vn] h Q)) ∧ (x6 < (hI h k1 0) → ((x6 = (hI h k1 3) → (zWv E (d + 1) m_X7_fillBest 32 [vo 30, vo k1, vi x2, vn, vn, vi x5, vi (w32 (x6 + 1))] h Q)) ∧ (x6 ≠ (hI h k1 3) → (zCi E d m_X9_pair [vi x5, vi x6] h (fun y2 h1 => zCl E d m_X7_leastOnward [vo 30, vo k1, vi x5, vi x6] h1 (fun y4 h3 => (0 ≤ y2 ∧ y2 < 144) ∧ ∀ h6, h6 = stL h3 32 y2.toNat y4 → zWv E (d + 1) m_X7_fillBest 32 [vo 30, vo k1, vi x2, vn, vn, vi x5, vi (w32 (x6 + 1))] h6 Q)))))))) : zWv E (d + 1) m_X7_fillBest 32 [vo 30, vo k1, vi x2, vn, vn, vi x5, vi x6] h Q := by
  refine a_iload (pc := 32) dX7_fillBest_32 rfl ?_
  refine a_aload_n (pc := 34) dX7_fillBest_34 rfl ?_
  refine a_getI (pc := 35) dX7_fillBest_35 fl_X7_31 (goCity hk1) ?_
  refine a_icmp_ge (pc := 38) (tgt := 77) dX7_fillBest_38 (by decide) (fun c => ?_) (fun c => ?_)
  · have H := H.1 c
    refine a_iinc (pc := 77) (ls' := [vo 30, vo k1, vi x2, vn, vn, vi (w32 (x5 + 1)), vi x6]) dX7_fillBest_77 rfl rfl rfl ?_
    refine a_goto (pc := 80) (tgt := 23) dX7_fillBest_80 (by decide) ?_
    exact z_forget (ls' := [vo 30, vo k1, vi x2, vn, vn, vi (w32 (x5 + 1)), vn]) ⟨.inr rfl, .inr rfl, .inr rfl, .inr rfl, .inr rfl, .inr rfl, .inl rfl, trivial⟩ H
  · have H := H.2 c
    refine a_iload (pc := 41) dX7_fillBest_41 rfl ?_
    refine a_aload_n (pc := 43) dX7_fillBest_43 rfl ?_
    refine a_getI (pc := 44) dX7_fillBest_44 fl_X7_34 (goCity hk1) ?_
    refine a_icmp_eq (pc := 47) (tgt := 71) dX7_fillBest_47 (by decide) (fun c => ?_) (fun c => ?_)
    · have H := H.1 c
      refine a_iinc (pc := 71) (ls' := [vo 30, vo k1, vi x2, vn, vn, vi x5, vi (w32 (x6 + 1))]) dX7_fillBest_71 rfl rfl rfl ?_
      refine a_goto (pc := 74) (tgt := 32) dX7_fillBest_74 (by decide) ?_
      exact H
    · have H := H.2 c
      refine a_aload_n (pc := 50) dX7_fillBest_50 rfl ?_
      refine a_getF (pc := 51) dX7_fillBest_51 fl_X7_15 (go_30) (gf_30_1) ?_
      refine a_iload (pc := 54) dX7_fillBest_54 rfl ?_
      refine a_iload (pc := 56) dX7_fillBest_56 rfl ?_
      refine a_callSN (pc := 58) (kc := 0) (ks := 0) (kc' := 0) (ks' := 0) (st := [vo 32]) [vi x5, vi x6] dX7_fillBest_58 ml_X7_40 rfl (Nat.le_of_ble_eq_true rfl) (Nat.le_of_ble_eq_true rfl) (z_post H (fun r G1 h1 q => ?_))
      obtain ⟨y2, rfl, rfl, H⟩ := q
      show zAt E (d + 1) 0 0 m_X7_fillBest 61 [vo 30, vo k1, vi x2, vn, vn, vi x5, vi x6] [vi y2, vo 32] g0 h1 (zPv Q)
      refine a_aload_n (pc := 61) dX7_fillBest_61 rfl ?_
      refine a_aload_n (pc := 62) dX7_fillBest_62 rfl ?_
      refine a_iload (pc := 63) dX7_fillBest_63 rfl ?_
      refine a_iload (pc := 65) dX7_fillBest_65 rfl ?_
      refine a_callV (pc := 67) (kc := 0) (ks := 0) (kc' := 0) (ks' := 0) (st := [vi y2, vo 32]) [vo k1, vi x5, vi x6] dX7_fillBest_67 ml_X7_90 (go_30) rfl (Nat.le_of_ble_eq_true rfl) (Nat.le_of_ble_eq_true rfl) (z_post H (fun r G1 h3 q => ?_))
      obtain ⟨y4, rfl, rfl, H⟩ := q
      show zAt E (d + 1) 0 0 m_X7_fillBest 70 [vo 30, vo k1, vi x2, vn, vn, vi x5, vi x6] [vl y4, vi y2, vo 32] g0 h3 (zPv Q)
      obtain ⟨hb5, H⟩ := H
      refine a_lastore (pc := 70) dX7_fillBest_70 (ga_32) hb5 ?_
      have H := H _ rfl
      generalize stL h3 32 y2.toNat y4 = h6 at H ⊢
      refine a_iinc (pc := 71) (ls' := [vo 30, vo k1, vi x2, vn, vn, vi x5, vi (w32 (x6 + 1))]) dX7_fillBest_71 rfl rfl rfl ?_
      refine a_goto (pc := 74) (tgt := 32) dX7_fillBest_74 (by decide) ?_
      exact H
set_option maxRecDepth 20000 in
theorem v_X7_leastOnward {E : zE} {d : Nat} {h : zS} {Q : Int → zS → Prop} {k1 : Nat} {x2 : Int} {x3 : Int} (hk1 : isCity k1) (H : zWl E (d + 1) m_X7_leastOnward 8 [vo 30, vo k1, vi x2, vi x3, vl 4000000000000000000, vn, vi 0] h Q) : zCl E (d + 1) m_X7_leastOnward [vo 30, vo k1, vi x2, vi x3] h Q := by
  show zAt E (d + 1) 0 0 m_X7_leastOnward 0 [vo 30, vo k1, vi x2, vi x3, vn, vn, vn] [] g0 h (zPl Q)
  refine a_ldc2 (pc := 0) dX7_leastOnward_0 cl_X7_67 (by decide) ?_
  refine a_lstore (pc := 3) (ls' := [vo 30, vo k1, vi x2, vi x3, vl 4000000000000000000, vn, vn]) dX7_leastOnward_3 rfl rfl ?_
  refine a_iconst (pc := 5) dX7_leastOnward_5 (by decide) ?_
  refine a_istore (pc := 6) (ls' := [vo 30, vo k1, vi x2, vi x3, vl 4000000000000000000, vn, vi 0]) dX7_leastOnward_6 rfl rfl ?_
  exact H
set_option maxRecDepth 20000 in
theorem r_X7_leastOnward_8 {E : zE} {d : Nat} {h : zS} {Q : Int → zS → Prop} {k1 : Nat} {x2 : Int} {x3 : Int} {x4 : Int} {x6 : Int} (hk1 : isCity k1) (H : (((hI h k1 0) ≤ x6 → (Q x4 h)) ∧ (x6 < (hI h k1 0) → (zCl E d m_X7_onward [vo 30, vi x2, vi x3, vi x6] h (fun y2 h1 => ∀ y3 : Int, y3 = (if y2 < x4 then y2 else x4) → zWl E (d + 1) m_X7_leastOnward 8 [vo 30, vo k1, vi x2, vi x3, vl y3, vn, vi (w32 (x6 + 1))] h1 Q))))) : zWl E (d + 1) m_X7_leastOnward 8 [vo 30, vo k1, vi x2, vi x3, vl x4, vn, vi x6] h Q := by
  refine a_iload (pc := 8) dX7_leastOnward_8 rfl ?_
  refine a_aload_n (pc := 10) dX7_leastOnward_10 rfl ?_
  refine a_getI (pc := 11) dX7_leastOnward_11 fl_X7_31 (goCity hk1) ?_
  refine a_icmp_ge (pc := 14) (tgt := 38) dX7_leastOnward_14 (by decide) (fun c => ?_) (fun c => ?_)
  · have H := H.1 c
    refine a_lload (pc := 38) dX7_leastOnward_38 rfl ?_
    exact a_lreturn (pc := 40) dX7_leastOnward_40 trivial ⟨_, rfl, rfl, H⟩
  · have H := H.2 c
    refine a_lload (pc := 17) dX7_leastOnward_17 rfl ?_
    refine a_aload_n (pc := 19) dX7_leastOnward_19 rfl ?_
    refine a_iload_n (pc := 20) dX7_leastOnward_20 rfl ?_
    refine a_iload_n (pc := 21) dX7_leastOnward_21 rfl ?_
    refine a_iload (pc := 22) dX7_leastOnward_22 rfl ?_
    refine a_callV (pc := 24) (kc := 0) (ks := 0) (kc' := 0) (ks' := 0) (st := [vl x4]) [vi x2, vi x3, vi x6] dX7_leastOnward_24 ml_X7_94 (go_30) rfl (Nat.le_of_ble_eq_true rfl) (Nat.le_of_ble_eq_true rfl) (z_post H (fun r G1 h1 q => ?_))
    obtain ⟨y2, rfl, rfl, H⟩ := q
    show zAt E (d + 1) 0 0 m_X7_leastOnward 27 [vo 30, vo k1, vi x2, vi x3, vl x4, vn, vi x6] [vl y2, vl x4] g0 h1 (zPl Q)
    refine a_minL (pc := 27) dX7_leastOnward_27 ml_X7_98 (by omega) (Nat.le_of_ble_eq_true rfl) ?_
    have H := H _ rfl
    generalize ((if y2 < x4 then y2 else x4) : Int) = y3 at H ⊢
    refine a_lstore (pc := 30) (ls' := [vo 30, vo k1, vi x2, vi x3, vl y3, vn, vi x6]) dX7_leastOnward_30 rfl rfl ?_
    refine a_iinc (pc := 32) (ls' := [vo 30, vo k1, vi x2, vi x3, vl y3, vn, vi (w32 (x6 + 1))]) dX7_leastOnward_32 rfl rfl rfl ?_
    refine a_goto (pc := 35) (tgt := 8) dX7_leastOnward_35 (by decide) ?_
    exact H
set_option maxRecDepth 20000 in
theorem v_X7_onward {E : zE} {d : Nat} {h : zS} {Q : Int → zS → Prop} {x1 : Int} {x2 : Int} {x3 : Int}  (H : zCi E d m_X9_pair [vi x2, vi x3] h (fun y2 h1 => (0 ≤ y2 ∧ y2 < 144) ∧ zCi E d m_X9_pair [vi (w32 (x1 - 1)), vi x3] h1 (fun y5 h4 => (0 ≤ y5 ∧ y5 < 144) ∧ (((hI h1 31 y2.toNat) = (-1) → (Q 4000000000000000000 h4)) ∧ ((hI h1 31 y2.toNat) ≠ (-1) → (((z_lcmp (hL h4 32 y5.toNat) 4000000000000000000) ≠ 0 → (((hI h4 30 2) = 0 → (Q (w64 ((hL h4 32 y5.toNat) + (hI h1 31 y2.toNat))) h4)) ∧ ((hI h4 30 2) ≠ 0 → (Q (w64 ((z_ldiv (hL h4 32 y5.toNat) 100) * (hI h1 31 y2.toNat))) h4)))) ∧ ((z_lcmp (hL h4 32 y5.toNat) 4000000000000000000) = 0 → (Q 4000000000000000000 h4)))))))) : zCl E (d + 1) m_X7_onward [vo 30, vi x1, vi x2, vi x3] h Q := by
  show zAt E (d + 1) 0 0 m_X7_onward 0 [vo 30, vi x1, vi x2, vi x3, vn, vn, vn] [] g0 h (zPl Q)
  refine a_aload_n (pc := 0) dX7_onward_0 rfl ?_
  refine a_getF (pc := 1) dX7_onward_1 fl_X7_9 (go_30) (gf_30_0) ?_
  refine a_iload_n (pc := 4) dX7_onward_4 rfl ?_
  refine a_iload_n (pc := 5) dX7_onward_5 rfl ?_
  refine a_callSN (pc := 6) (kc := 0) (ks := 0) (kc' := 0) (ks' := 0) (st := [vo 31]) [vi x2, vi x3] dX7_onward_6 ml_X7_40 rfl (Nat.le_of_ble_eq_true rfl) (Nat.le_of_ble_eq_true rfl) (z_post H (fun r G1 h1 q => ?_))
  obtain ⟨y2, rfl, rfl, H⟩ := q
  show zAt E (d + 1) 0 0 m_X7_onward 9 [vo 30, vi x1, vi x2, vi x3, vn, vn, vn] [vi y2, vo 31] g0 h1 (zPl Q)
  obtain ⟨hb3, H⟩ := H
  refine a_iaload (pc := 9) dX7_onward_9 (ga_31) hb3 ?_
  refine a_istore (pc := 10) (ls' := [vo 30, vi x1, vi x2, vi x3, vi (hI h1 31 y2.toNat), vn, vn]) dX7_onward_10 rfl rfl ?_
  refine a_aload_n (pc := 12) dX7_onward_12 rfl ?_
  refine a_getF (pc := 13) dX7_onward_13 fl_X7_15 (go_30) (gf_30_1) ?_
  refine a_iload_n (pc := 16) dX7_onward_16 rfl ?_
  refine a_iconst (pc := 17) dX7_onward_17 (by decide) ?_
  refine a_isub (pc := 18) dX7_onward_18 ?_
  refine a_iload_n (pc := 19) dX7_onward_19 rfl ?_
  refine a_callSN (pc := 20) (kc := 0) (ks := 0) (kc' := 0) (ks' := 0) (st := [vo 32]) [vi (w32 (x1 - 1)), vi x3] dX7_onward_20 ml_X7_40 rfl (Nat.le_of_ble_eq_true rfl) (Nat.le_of_ble_eq_true rfl) (z_post H (fun r G1 h4 q => ?_))
  obtain ⟨y5, rfl, rfl, H⟩ := q
  show zAt E (d + 1) 0 0 m_X7_onward 23 [vo 30, vi x1, vi x2, vi x3, vi (hI h1 31 y2.toNat), vn, vn] [vi y5, vo 32] g0 h4 (zPl Q)
  obtain ⟨hb6, H⟩ := H
  refine a_laload (pc := 23) dX7_onward_23 (ga_32) hb6 ?_
  refine a_lstore (pc := 24) (ls' := [vo 30, vi x1, vi x2, vi x3, vi (hI h1 31 y2.toNat), vl (hL h4 32 y5.toNat), vn]) dX7_onward_24 rfl rfl ?_
  refine a_iload (pc := 26) dX7_onward_26 rfl ?_
  refine a_iconst (pc := 28) dX7_onward_28 (by decide) ?_
  refine a_icmp_eq (pc := 29) (tgt := 41) dX7_onward_29 (by decide) (fun c => ?_) (fun c => ?_)
  · have H := H.1 c
    refine a_ldc2 (pc := 41) dX7_onward_41 cl_X7_67 (by decide) ?_
    exact a_lreturn (pc := 44) dX7_onward_44 trivial ⟨_, rfl, rfl, H⟩
  · have H := H.2 c
    refine a_lload (pc := 32) dX7_onward_32 rfl ?_
    refine a_ldc2 (pc := 34) dX7_onward_34 cl_X7_67 (by decide) ?_
    refine a_lcmp (pc := 37) dX7_onward_37 ?_
    refine a_if_ne (pc := 38) (tgt := 45) dX7_onward_38 (by decide) (fun c => ?_) (fun c => ?_)
    · have H := H.1 c
      refine a_aload_n (pc := 45) dX7_onward_45 rfl ?_
      refine a_getZ (pc := 46) dX7_onward_46 fl_X7_57 (go_30) ?_
      refine a_if_eq (pc := 49) (tgt := 65) dX7_onward_49 (by decide) (fun c => ?_) (fun c => ?_)
      · have H := H.1 c
        refine a_lload (pc := 65) dX7_onward_65 rfl ?_
        refine a_iload (pc := 67) dX7_onward_67 rfl ?_
        refine a_i2l (pc := 69) dX7_onward_69 ?_
        refine a_ladd (pc := 70) dX7_onward_70 ?_
        exact a_lreturn (pc := 71) dX7_onward_71 trivial ⟨_, rfl, rfl, H⟩
      · have H := H.2 c
        refine a_lload (pc := 52) dX7_onward_52 rfl ?_
        refine a_ldc2 (pc := 54) dX7_onward_54 cl_X7_104 (by decide) ?_
        refine a_ldiv (pc := 57) dX7_onward_57 (by decide) ?_
        refine a_iload (pc := 58) dX7_onward_58 rfl ?_
        refine a_i2l (pc := 60) dX7_onward_60 ?_
        refine a_lmul (pc := 61) dX7_onward_61 ?_
        refine a_goto (pc := 62) (tgt := 71) dX7_onward_62 (by decide) ?_
        exact a_lreturn (pc := 71) dX7_onward_71 trivial ⟨_, rfl, rfl, H⟩
    · have H := H.2 c
      refine a_ldc2 (pc := 41) dX7_onward_41 cl_X7_67 (by decide) ?_
      exact a_lreturn (pc := 44) dX7_onward_44 trivial ⟨_, rfl, rfl, H⟩
set_option maxRecDepth 20000 in
theorem v_X7_trace {E : zE} {d : Nat} {h : zS} {Q : zS → Prop} {k1 : Nat} {x2 : Int} (hk1 : isCity k1) (H : ∀ h1, h1 = stI h 33 0 (hI h k1 2) → ∀ h2, h2 = stI h1 30 4 1 → zWv E (d + 1) m_X7_trace 20 [vo 30, vo k1, vn, vi (hI h k1 2), vi x2, vn] h2 Q) : zCv E (d + 1) m_X7_trace [vo 30, vo k1, vi x2] h Q := by
  show zAt E (d + 1) 0 0 m_X7_trace 0 [vo 30, vo k1, vi x2, vn, vn, vn] [] g0 h (zPv Q)
  refine a_aload_n (pc := 0) dX7_trace_0 rfl ?_
  refine a_getI (pc := 1) dX7_trace_1 fl_X7_77 (goCity hk1) ?_
  refine a_istore_n (pc := 4) (ls' := [vo 30, vo k1, vi x2, vi (hI h k1 2), vn, vn]) dX7_trace_4 rfl rfl ?_
  refine a_aload_n (pc := 5) dX7_trace_5 rfl ?_
  refine a_getF (pc := 6) dX7_trace_6 fl_X7_19 (go_30) (gf_30_3) ?_
  refine a_iconst (pc := 9) dX7_trace_9 (by decide) ?_
  refine a_iload_n (pc := 10) dX7_trace_10 rfl ?_
  refine a_iastore (pc := 11) dX7_trace_11 (ga_33) (by decide) ?_
  have H := H _ rfl
  show zAt E (d + 1) 0 0 m_X7_trace 12 [vo 30, vo k1, vi x2, vi (hI h k1 2), vn, vn] [] g0 (stI h 33 0 (hI h k1 2)) (zPv Q)
  generalize stI h 33 0 (hI h k1 2) = h1 at H ⊢
  refine a_aload_n (pc := 12) dX7_trace_12 rfl ?_
  refine a_iconst (pc := 13) dX7_trace_13 (by decide) ?_
  refine a_putI (pc := 14) dX7_trace_14 fl_X7_22 (go_30) ?_
  have H := H _ rfl
  generalize stI h1 30 4 1 = h2 at H ⊢
  refine a_iload_n (pc := 17) dX7_trace_17 rfl ?_
  refine a_istore (pc := 18) (ls' := [vo 30, vo k1, vi x2, vi (hI h k1 2), vi x2, vn]) dX7_trace_18 rfl rfl ?_
  exact z_forget (ls' := [vo 30, vo k1, vn, vi (hI h k1 2), vi x2, vn]) ⟨.inr rfl, .inr rfl, .inl rfl, .inr rfl, .inr rfl, .inr rfl, trivial⟩ H
set_option maxRecDepth 20000 in
theorem r_X7_trace_20 {E : zE} {d : Nat} {h : zS} {Q : zS → Prop} {k1 : Nat} {x3 : Int} {x4 : Int} (hk1 : isCity k1) (H : ((x4 ≤ 0 → (Q h)) ∧ (0 < x4 → (zCi E d m_X7_firstBest [vo 30, vo k1, vi x4, vi x3] h (fun y2 h1 => (0 ≤ hI h1 30 4 ∧ hI h1 30 4 < 12) ∧ ∀ h4, h4 = stI h1 33 (hI h1 30 4).toNat y2 → ∀ h5, h5 = stI h4 30 4 (w32 ((hI h4 30 4) + 1)) → zWv E (d + 1) m_X7_trace 20 [vo 30, vo k1, vn, vi y2, vi (w32 (x4 + (-1))), vn] h5 Q))))) : zWv E (d + 1) m_X7_trace 20 [vo 30, vo k1, vn, vi x3, vi x4, vn] h Q := by
  refine a_iload (pc := 20) dX7_trace_20 rfl ?_
  refine a_if_le (pc := 22) (tgt := 65) dX7_trace_22 (by decide) (fun c => ?_) (fun c => ?_)
  · have H := H.1 c
    exact a_return (pc := 65) dX7_trace_65 trivial ⟨rfl, rfl, H⟩
  · have H := H.2 c
    refine a_aload_n (pc := 25) dX7_trace_25 rfl ?_
    refine a_aload_n (pc := 26) dX7_trace_26 rfl ?_
    refine a_iload (pc := 27) dX7_trace_27 rfl ?_
    refine a_iload_n (pc := 29) dX7_trace_29 rfl ?_
    refine a_callV (pc := 30) (kc := 0) (ks := 0) (kc' := 0) (ks' := 0) (st := []) [vo k1, vi x4, vi x3] dX7_trace_30 ml_X7_106 (go_30) rfl (Nat.le_of_ble_eq_true rfl) (Nat.le_of_ble_eq_true rfl) (z_post H (fun r G1 h1 q => ?_))
    obtain ⟨y2, rfl, rfl, H⟩ := q
    show zAt E (d + 1) 0 0 m_X7_trace 33 [vo 30, vo k1, vn, vi x3, vi x4, vn] [vi y2] g0 h1 (zPv Q)
    refine a_istore (pc := 33) (ls' := [vo 30, vo k1, vn, vi x3, vi x4, vi y2]) dX7_trace_33 rfl rfl ?_
    refine a_aload_n (pc := 35) dX7_trace_35 rfl ?_
    refine a_getF (pc := 36) dX7_trace_36 fl_X7_19 (go_30) (gf_30_3) ?_
    refine a_aload_n (pc := 39) dX7_trace_39 rfl ?_
    refine a_getI (pc := 40) dX7_trace_40 fl_X7_22 (go_30) ?_
    refine a_iload (pc := 43) dX7_trace_43 rfl ?_
    obtain ⟨hb3, H⟩ := H
    refine a_iastore (pc := 45) dX7_trace_45 (ga_33) hb3 ?_
    have H := H _ rfl
    generalize stI h1 33 (hI h1 30 4).toNat y2 = h4 at H ⊢
    refine a_aload_n (pc := 46) dX7_trace_46 rfl ?_
    refine a_dup (pc := 47) dX7_trace_47 rfl ?_
    refine a_getI (pc := 48) dX7_trace_48 fl_X7_22 (go_30) ?_
    refine a_iconst (pc := 51) dX7_trace_51 (by decide) ?_
    refine a_iadd (pc := 52) dX7_trace_52 ?_
    refine a_putI (pc := 53) dX7_trace_53 fl_X7_22 (go_30) ?_
    have H := H _ rfl
    generalize stI h4 30 4 (w32 ((hI h4 30 4) + 1)) = h5 at H ⊢
    refine a_iload (pc := 56) dX7_trace_56 rfl ?_
    refine a_istore_n (pc := 58) (ls' := [vo 30, vo k1, vn, vi y2, vi x4, vi y2]) dX7_trace_58 rfl rfl ?_
    refine a_iinc (pc := 59) (ls' := [vo 30, vo k1, vn, vi y2, vi (w32 (x4 + (-1))), vi y2]) dX7_trace_59 rfl rfl rfl ?_
    refine a_goto (pc := 62) (tgt := 20) dX7_trace_62 (by decide) ?_
    exact z_forget (ls' := [vo 30, vo k1, vn, vi y2, vi (w32 (x4 + (-1))), vn]) ⟨.inr rfl, .inr rfl, .inr rfl, .inr rfl, .inr rfl, .inl rfl, trivial⟩ H
set_option maxRecDepth 20000 in
theorem v_X7_firstBest {E : zE} {d : Nat} {h : zS} {Q : Int → zS → Prop} {k1 : Nat} {x2 : Int} {x3 : Int} (hk1 : isCity k1) (H : zWi E (d + 1) m_X7_firstBest 3 [vo 30, vo k1, vi x2, vi x3, vi 0] h Q) : zCi E (d + 1) m_X7_firstBest [vo 30, vo k1, vi x2, vi x3] h Q := by
  show zAt E (d + 1) 0 0 m_X7_firstBest 0 [vo 30, vo k1, vi x2, vi x3, vn] [] g0 h (zPi Q)
  refine a_iconst (pc := 0) dX7_firstBest_0 (by decide) ?_
  refine a_istore (pc := 1) (ls' := [vo 30, vo k1, vi x2, vi x3, vi 0]) dX7_firstBest_1 rfl rfl ?_
  exact H
set_option maxRecDepth 20000 in
theorem r_X7_firstBest_3 {E : zE} {d : Nat} {h : zS} {Q : Int → zS → Prop} {k1 : Nat} {x2 : Int} {x3 : Int} {x4 : Int} (hk1 : isCity k1) (H : (((hI h k1 0) ≤ x4 → (Q (hI h k1 3) h)) ∧ (x4 < (hI h k1 0) → (zCl E d m_X7_onward [vo 30, vi x2, vi x3, vi x4] h (fun y2 h1 => zCi E d m_X9_pair [vi x2, vi x3] h1 (fun y4 h3 => (0 ≤ y4 ∧ y4 < 144) ∧ (((z_lcmp y2 (hL h3 32 y4.toNat)) ≠ 0 → (zWi E (d + 1) m_X7_firstBest 3 [vo 30, vo k1, vi x2, vi x3, vi (w32 (x4 + 1))] h3 Q)) ∧ ((z_lcmp y2 (hL h3 32 y4.toNat)) = 0 → (Q x4 h3))))))))) : zWi E (d + 1) m_X7_firstBest 3 [vo 30, vo k1, vi x2, vi x3, vi x4] h Q := by
  refine a_iload (pc := 3) dX7_firstBest_3 rfl ?_
  refine a_aload_n (pc := 5) dX7_firstBest_5 rfl ?_
  refine a_getI (pc := 6) dX7_firstBest_6 fl_X7_31 (goCity hk1) ?_
  refine a_icmp_ge (pc := 9) (tgt := 43) dX7_firstBest_9 (by decide) (fun c => ?_) (fun c => ?_)
  · have H := H.1 c
    refine a_aload_n (pc := 43) dX7_firstBest_43 rfl ?_
    refine a_getI (pc := 44) dX7_firstBest_44 fl_X7_34 (goCity hk1) ?_
    exact a_ireturn (pc := 47) dX7_firstBest_47 trivial ⟨_, rfl, rfl, H⟩
  · have H := H.2 c
    refine a_aload_n (pc := 12) dX7_firstBest_12 rfl ?_
    refine a_iload_n (pc := 13) dX7_firstBest_13 rfl ?_
    refine a_iload_n (pc := 14) dX7_firstBest_14 rfl ?_
    refine a_iload (pc := 15) dX7_firstBest_15 rfl ?_
    refine a_callV (pc := 17) (kc := 0) (ks := 0) (kc' := 0) (ks' := 0) (st := []) [vi x2, vi x3, vi x4] dX7_firstBest_17 ml_X7_94 (go_30) rfl (Nat.le_of_ble_eq_true rfl) (Nat.le_of_ble_eq_true rfl) (z_post H (fun r G1 h1 q => ?_))
    obtain ⟨y2, rfl, rfl, H⟩ := q
    show zAt E (d + 1) 0 0 m_X7_firstBest 20 [vo 30, vo k1, vi x2, vi x3, vi x4] [vl y2] g0 h1 (zPi Q)
    refine a_aload_n (pc := 20) dX7_firstBest_20 rfl ?_
    refine a_getF (pc := 21) dX7_firstBest_21 fl_X7_15 (go_30) (gf_30_1) ?_
    refine a_iload_n (pc := 24) dX7_firstBest_24 rfl ?_
    refine a_iload_n (pc := 25) dX7_firstBest_25 rfl ?_
    refine a_callSN (pc := 26) (kc := 0) (ks := 0) (kc' := 0) (ks' := 0) (st := [vo 32, vl y2]) [vi x2, vi x3] dX7_firstBest_26 ml_X7_40 rfl (Nat.le_of_ble_eq_true rfl) (Nat.le_of_ble_eq_true rfl) (z_post H (fun r G1 h3 q => ?_))
    obtain ⟨y4, rfl, rfl, H⟩ := q
    show zAt E (d + 1) 0 0 m_X7_firstBest 29 [vo 30, vo k1, vi x2, vi x3, vi x4] [vi y4, vo 32, vl y2] g0 h3 (zPi Q)
    obtain ⟨hb5, H⟩ := H
    refine a_laload (pc := 29) dX7_firstBest_29 (ga_32) hb5 ?_
    refine a_lcmp (pc := 30) dX7_firstBest_30 ?_
    refine a_if_ne (pc := 31) (tgt := 37) dX7_firstBest_31 (by decide) (fun c => ?_) (fun c => ?_)
    · have H := H.1 c
      refine a_iinc (pc := 37) (ls' := [vo 30, vo k1, vi x2, vi x3, vi (w32 (x4 + 1))]) dX7_firstBest_37 rfl rfl rfl ?_
      refine a_goto (pc := 40) (tgt := 3) dX7_firstBest_40 (by decide) ?_
      exact H
    · have H := H.2 c
      refine a_iload (pc := 34) dX7_firstBest_34 rfl ?_
      exact a_ireturn (pc := 36) dX7_firstBest_36 trivial ⟨_, rfl, rfl, H⟩
