/-! by program: the conditions of each method, J_small -/
set_option maxRecDepth 20000 in
theorem v_J6_bitCount_0f7a4 {E : zE} {d : Nat} {h : zS} {Q : Int → zS → Prop} {x0 : Int}  (H : ∀ y1 : Int, y1 = w32 (x0 - (z_and (z_ushr x0 1) 1431655765)) → ∀ y2 : Int, y2 = w32 ((z_and y1 858993459) + (z_and (z_ushr y1 2) 858993459)) → ∀ y3 : Int, y3 = z_and (w32 (y2 + (z_ushr y2 4))) 252645135 → ∀ y4 : Int, y4 = w32 ((w32 (y3 + (z_ushr y3 8))) + (z_ushr (w32 (y3 + (z_ushr y3 8))) 16)) → Q (z_and y4 63) h) : zCi E d m_J6_bitCount_0f7a4 [vi x0] h Q := by
  show zAt E d 0 0 m_J6_bitCount_0f7a4 0 [vi x0] [] g0 h (zPi Q)
  refine a_iload_n (pc := 0) dJ6_bitCount_0f7a4_0 rfl ?_
  refine a_iload_n (pc := 1) dJ6_bitCount_0f7a4_1 rfl ?_
  refine a_iconst (pc := 2) dJ6_bitCount_0f7a4_2 (by decide) ?_
  refine a_iushr (pc := 3) dJ6_bitCount_0f7a4_3 ?_
  refine a_ldcw (pc := 4) dJ6_bitCount_0f7a4_4 cl_J6_265 (by decide) ?_
  refine a_iand (pc := 7) dJ6_bitCount_0f7a4_7 ?_
  refine a_isub (pc := 8) dJ6_bitCount_0f7a4_8 ?_
  have H := H _ rfl
  generalize (w32 (x0 - (z_and (z_ushr x0 1) 1431655765)) : Int) = y1 at H ⊢
  refine a_istore_n (pc := 9) (ls' := [vi y1]) dJ6_bitCount_0f7a4_9 rfl rfl ?_
  refine a_iload_n (pc := 10) dJ6_bitCount_0f7a4_10 rfl ?_
  refine a_ldcw (pc := 11) dJ6_bitCount_0f7a4_11 cl_J6_266 (by decide) ?_
  refine a_iand (pc := 14) dJ6_bitCount_0f7a4_14 ?_
  refine a_iload_n (pc := 15) dJ6_bitCount_0f7a4_15 rfl ?_
  refine a_iconst (pc := 16) dJ6_bitCount_0f7a4_16 (by decide) ?_
  refine a_iushr (pc := 17) dJ6_bitCount_0f7a4_17 ?_
  refine a_ldcw (pc := 18) dJ6_bitCount_0f7a4_18 cl_J6_266 (by decide) ?_
  refine a_iand (pc := 21) dJ6_bitCount_0f7a4_21 ?_
  refine a_iadd (pc := 22) dJ6_bitCount_0f7a4_22 ?_
  have H := H _ rfl
  generalize (w32 ((z_and y1 858993459) + (z_and (z_ushr y1 2) 858993459)) : Int) = y2 at H ⊢
  refine a_istore_n (pc := 23) (ls' := [vi y2]) dJ6_bitCount_0f7a4_23 rfl rfl ?_
  refine a_iload_n (pc := 24) dJ6_bitCount_0f7a4_24 rfl ?_
  refine a_iload_n (pc := 25) dJ6_bitCount_0f7a4_25 rfl ?_
  refine a_iconst (pc := 26) dJ6_bitCount_0f7a4_26 (by decide) ?_
  refine a_iushr (pc := 27) dJ6_bitCount_0f7a4_27 ?_
  refine a_iadd (pc := 28) dJ6_bitCount_0f7a4_28 ?_
  refine a_ldcw (pc := 29) dJ6_bitCount_0f7a4_29 cl_J6_267 (by decide) ?_
  refine a_iand (pc := 32) dJ6_bitCount_0f7a4_32 ?_
  have H := H _ rfl
  generalize (z_and (w32 (y2 + (z_ushr y2 4))) 252645135 : Int) = y3 at H ⊢
  refine a_istore_n (pc := 33) (ls' := [vi y3]) dJ6_bitCount_0f7a4_33 rfl rfl ?_
  refine a_iload_n (pc := 34) dJ6_bitCount_0f7a4_34 rfl ?_
  refine a_iload_n (pc := 35) dJ6_bitCount_0f7a4_35 rfl ?_
  refine a_bipush (pc := 36) dJ6_bitCount_0f7a4_36 (by decide) ?_
  refine a_iushr (pc := 38) dJ6_bitCount_0f7a4_38 ?_
  refine a_iadd (pc := 39) dJ6_bitCount_0f7a4_39 ?_
  refine a_istore_n (pc := 40) (ls' := [vi (w32 (y3 + (z_ushr y3 8)))]) dJ6_bitCount_0f7a4_40 rfl rfl ?_
  refine a_iload_n (pc := 41) dJ6_bitCount_0f7a4_41 rfl ?_
  refine a_iload_n (pc := 42) dJ6_bitCount_0f7a4_42 rfl ?_
  refine a_bipush (pc := 43) dJ6_bitCount_0f7a4_43 (by decide) ?_
  refine a_iushr (pc := 45) dJ6_bitCount_0f7a4_45 ?_
  refine a_iadd (pc := 46) dJ6_bitCount_0f7a4_46 ?_
  have H := H _ rfl
  generalize (w32 ((w32 (y3 + (z_ushr y3 8))) + (z_ushr (w32 (y3 + (z_ushr y3 8))) 16)) : Int) = y4 at H ⊢
  refine a_istore_n (pc := 47) (ls' := [vi y4]) dJ6_bitCount_0f7a4_47 rfl rfl ?_
  refine a_iload_n (pc := 48) dJ6_bitCount_0f7a4_48 rfl ?_
  refine a_bipush (pc := 49) dJ6_bitCount_0f7a4_49 (by decide) ?_
  refine a_iand (pc := 51) dJ6_bitCount_0f7a4_51 ?_
  exact a_ireturn (pc := 52) dJ6_bitCount_0f7a4_52 trivial ⟨_, rfl, rfl, H⟩
set_option maxRecDepth 20000 in
theorem v_J7_fill_d0a16 {E : zE} {d : Nat} {h : zS} {Q : zS → Prop} {k0 nn : Nat} {x1 : Int} (hk0 : zArr g0 k0 3 nn) (hnn : nn < 2147483648) (H : zWv E d m_J7_fill_d0a16 6 [vo k0, vl x1, vn, vi 0, vi (nn : Int)] h Q) : zCv E d m_J7_fill_d0a16 [vo k0, vl x1] h Q := by
  show zAt E d 0 0 m_J7_fill_d0a16 0 [vo k0, vl x1, vn, vn, vn] [] g0 h (zPv Q)
  refine a_iconst (pc := 0) dJ7_fill_d0a16_0 (by decide) ?_
  refine a_istore_n (pc := 1) (ls' := [vo k0, vl x1, vn, vi 0, vn]) dJ7_fill_d0a16_1 rfl rfl ?_
  refine a_aload_n (pc := 2) dJ7_fill_d0a16_2 rfl ?_
  refine a_alen (pc := 3) dJ7_fill_d0a16_3 (hk0) (by decide) hnn ?_
  refine a_istore (pc := 4) (ls' := [vo k0, vl x1, vn, vi 0, vi (nn : Int)]) dJ7_fill_d0a16_4 rfl rfl ?_
  exact H
set_option maxRecDepth 20000 in
theorem r_J7_fill_d0a16_6 {E : zE} {d : Nat} {h : zS} {Q : zS → Prop} {k0 nn : Nat} {x1 : Int} {x3 : Int} {x4 : Int} (hk0 : zArr g0 k0 3 nn) (hnn : nn < 2147483648) (H : ((x4 ≤ x3 → (Q h)) ∧ (x3 < x4 → ((0 ≤ x3 ∧ x3 < nn) ∧ ∀ h2, h2 = stL h k0 x3.toNat x1 → zWv E d m_J7_fill_d0a16 6 [vo k0, vl x1, vn, vi (w32 (x3 + 1)), vi x4] h2 Q)))) : zWv E d m_J7_fill_d0a16 6 [vo k0, vl x1, vn, vi x3, vi x4] h Q := by
  refine a_iload_n (pc := 6) dJ7_fill_d0a16_6 rfl ?_
  refine a_iload (pc := 7) dJ7_fill_d0a16_7 rfl ?_
  refine a_icmp_ge (pc := 9) (tgt := 22) dJ7_fill_d0a16_9 (by decide) (fun c => ?_) (fun c => ?_)
  · have H := H.1 c
    exact a_return (pc := 22) dJ7_fill_d0a16_22 trivial ⟨rfl, rfl, H⟩
  · have H := H.2 c
    refine a_aload_n (pc := 12) dJ7_fill_d0a16_12 rfl ?_
    refine a_iload_n (pc := 13) dJ7_fill_d0a16_13 rfl ?_
    refine a_lload_n (pc := 14) dJ7_fill_d0a16_14 rfl ?_
    obtain ⟨hb1, H⟩ := H
    refine a_lastore (pc := 15) dJ7_fill_d0a16_15 (hk0) hb1 ?_
    have H := H _ rfl
    generalize stL h k0 x3.toNat x1 = h2 at H ⊢
    refine a_iinc (pc := 16) (ls' := [vo k0, vl x1, vn, vi (w32 (x3 + 1)), vi x4]) dJ7_fill_d0a16_16 rfl rfl rfl ?_
    refine a_goto (pc := 19) (tgt := 6) dJ7_fill_d0a16_19 (by decide) ?_
    exact H
set_option maxRecDepth 20000 in
theorem v_J7_fill_53178 {E : zE} {d : Nat} {h : zS} {Q : zS → Prop} {k0 nn : Nat} {x1 : Int} (hk0 : zArr g0 k0 0 nn) (hnn : nn < 2147483648) (H : zWv E d m_J7_fill_53178 5 [vo k0, vi x1, vi 0, vi (nn : Int)] h Q) : zCv E d m_J7_fill_53178 [vo k0, vi x1] h Q := by
  show zAt E d 0 0 m_J7_fill_53178 0 [vo k0, vi x1, vn, vn] [] g0 h (zPv Q)
  refine a_iconst (pc := 0) dJ7_fill_53178_0 (by decide) ?_
  refine a_istore_n (pc := 1) (ls' := [vo k0, vi x1, vi 0, vn]) dJ7_fill_53178_1 rfl rfl ?_
  refine a_aload_n (pc := 2) dJ7_fill_53178_2 rfl ?_
  refine a_alen (pc := 3) dJ7_fill_53178_3 (hk0) (by decide) hnn ?_
  refine a_istore_n (pc := 4) (ls' := [vo k0, vi x1, vi 0, vi (nn : Int)]) dJ7_fill_53178_4 rfl rfl ?_
  exact H
set_option maxRecDepth 20000 in
theorem r_J7_fill_53178_5 {E : zE} {d : Nat} {h : zS} {Q : zS → Prop} {k0 nn : Nat} {x1 : Int} {x2 : Int} {x3 : Int} (hk0 : zArr g0 k0 0 nn) (hnn : nn < 2147483648) (H : ((x3 ≤ x2 → (Q h)) ∧ (x2 < x3 → ((0 ≤ x2 ∧ x2 < nn) ∧ ∀ h2, h2 = stI h k0 x2.toNat x1 → zWv E d m_J7_fill_53178 5 [vo k0, vi x1, vi (w32 (x2 + 1)), vi x3] h2 Q)))) : zWv E d m_J7_fill_53178 5 [vo k0, vi x1, vi x2, vi x3] h Q := by
  refine a_iload_n (pc := 5) dJ7_fill_53178_5 rfl ?_
  refine a_iload_n (pc := 6) dJ7_fill_53178_6 rfl ?_
  refine a_icmp_ge (pc := 7) (tgt := 20) dJ7_fill_53178_7 (by decide) (fun c => ?_) (fun c => ?_)
  · have H := H.1 c
    exact a_return (pc := 20) dJ7_fill_53178_20 trivial ⟨rfl, rfl, H⟩
  · have H := H.2 c
    refine a_aload_n (pc := 10) dJ7_fill_53178_10 rfl ?_
    refine a_iload_n (pc := 11) dJ7_fill_53178_11 rfl ?_
    refine a_iload_n (pc := 12) dJ7_fill_53178_12 rfl ?_
    obtain ⟨hb1, H⟩ := H
    refine a_iastore (pc := 13) dJ7_fill_53178_13 (hk0) hb1 ?_
    have H := H _ rfl
    generalize stI h k0 x2.toNat x1 = h2 at H ⊢
    refine a_iinc (pc := 14) (ls' := [vo k0, vi x1, vi (w32 (x2 + 1)), vi x3]) dJ7_fill_53178_14 rfl rfl rfl ?_
    refine a_goto (pc := 17) (tgt := 5) dJ7_fill_53178_17 (by decide) ?_
    exact H
set_option maxRecDepth 20000 in
theorem v_X4_clear {E : zE} {d : Nat} {h : zS} {Q : zS → Prop} {k0 : Nat} {k1 : Nat} (hk0 : isFate k0) (hk1 : isCity k1) (H : zCi E d m_X0_everybody [vo k1] h (fun y2 h1 => ∀ h3, h3 = stI h1 k0 0 y2 → ∀ h4, h4 = stI h3 k0 1 0 → zCv E d m_J7_fill_53178 [vo (k0 + 1), vi (-1)] h4 (fun h5 => Q h5))) : zCv E (d + 1) m_X4_clear [vo k0, vo k1] h Q := by
  show zAt E (d + 1) 0 0 m_X4_clear 0 [vo k0, vo k1] [] g0 h (zPv Q)
  refine a_aload_n (pc := 0) dX4_clear_0 rfl ?_
  refine a_aload_n (pc := 1) dX4_clear_1 rfl ?_
  refine a_callV (pc := 2) (kc := 0) (ks := 0) (kc' := 0) (ks' := 0) (st := [vo k0]) [] dX4_clear_2 ml_X4_15 (goCity hk1) rfl (Nat.le_of_ble_eq_true rfl) (Nat.le_of_ble_eq_true rfl) (z_post H (fun r G1 h1 q => ?_))
  obtain ⟨y2, rfl, rfl, H⟩ := q
  show zAt E (d + 1) 0 0 m_X4_clear 5 [vo k0, vo k1] [vi y2, vo k0] g0 h1 (zPv Q)
  refine a_putI (pc := 5) dX4_clear_5 fl_X4_21 (goFate hk0) ?_
  have H := H _ rfl
  generalize stI h1 k0 0 y2 = h3 at H ⊢
  refine a_aload_n (pc := 8) dX4_clear_8 rfl ?_
  refine a_iconst (pc := 9) dX4_clear_9 (by decide) ?_
  refine a_putI (pc := 10) dX4_clear_10 fl_X4_25 (goFate hk0) ?_
  have H := H _ rfl
  generalize stI h3 k0 1 0 = h4 at H ⊢
  refine a_aload_n (pc := 13) dX4_clear_13 rfl ?_
  refine a_getF (pc := 14) dX4_clear_14 fl_X4_9 (goFate hk0) (gfFate_2 hk0) ?_
  refine a_iconst (pc := 17) dX4_clear_17 (by decide) ?_
  refine a_callS (pc := 18) (kc := 0) (ks := 0) (kc' := 0) (ks' := 0) (st := []) [vo (k0 + 1), vi (-1)] dX4_clear_18 ml_X4_28 rfl (Nat.le_of_ble_eq_true rfl) (Nat.le_of_ble_eq_true rfl) (z_post H (fun r G1 h5 q => ?_))
  obtain ⟨rfl, rfl, H⟩ := q
  show zAt E (d + 1) 0 0 m_X4_clear 21 [vo k0, vo k1] [] g0 h5 (zPv Q)
  exact a_return (pc := 21) dX4_clear_21 trivial ⟨rfl, rfl, H⟩
set_option maxRecDepth 20000 in
theorem v_X4_copy {E : zE} {d : Nat} {h : zS} {Q : zS → Prop} {k0 : Nat} {k1 : Nat} (hk0 : isFate k0) (hk1 : isFate k1) (H : ∀ h1, h1 = stI h k0 0 (hI h k1 0) → ∀ h2, h2 = stI h1 k0 1 (hI h1 k1 1) → ∀ h3, h3 = stRow h2 (k0 + 1) (fun i => if i < Int.toNat 12 then hI h2 (k1 + 1) i else hI h2 (k0 + 1) i) → Q h3) : zCv E (d + 1) m_X4_copy [vo k0, vo k1] h Q := by
  show zAt E (d + 1) 0 0 m_X4_copy 0 [vo k0, vo k1] [] g0 h (zPv Q)
  refine a_aload_n (pc := 0) dX4_copy_0 rfl ?_
  refine a_aload_n (pc := 1) dX4_copy_1 rfl ?_
  refine a_getI (pc := 2) dX4_copy_2 fl_X4_21 (goFate hk1) ?_
  refine a_putI (pc := 5) dX4_copy_5 fl_X4_21 (goFate hk0) ?_
  have H := H _ rfl
  generalize stI h k0 0 (hI h k1 0) = h1 at H ⊢
  refine a_aload_n (pc := 8) dX4_copy_8 rfl ?_
  refine a_aload_n (pc := 9) dX4_copy_9 rfl ?_
  refine a_getI (pc := 10) dX4_copy_10 fl_X4_25 (goFate hk1) ?_
  refine a_putI (pc := 13) dX4_copy_13 fl_X4_25 (goFate hk0) ?_
  have H := H _ rfl
  generalize stI h1 k0 1 (hI h1 k1 1) = h2 at H ⊢
  refine a_aload_n (pc := 16) dX4_copy_16 rfl ?_
  refine a_getF (pc := 17) dX4_copy_17 fl_X4_9 (goFate hk1) (gfFate_2 hk1) ?_
  refine a_iconst (pc := 20) dX4_copy_20 (by decide) ?_
  refine a_aload_n (pc := 21) dX4_copy_21 rfl ?_
  refine a_getF (pc := 22) dX4_copy_22 fl_X4_9 (goFate hk0) (gfFate_2 hk0) ?_
  refine a_iconst (pc := 25) dX4_copy_25 (by decide) ?_
  refine a_bipush (pc := 26) dX4_copy_26 (by decide) ?_
  refine a_copy (pc := 28) dX4_copy_28 ml_X4_34 (by omega) (gaFate_2 hk1) (gaFate_2 hk0) (by decide) ?_
  have H := H _ rfl
  generalize stRow h2 (k0 + 1) (fun i => if i < Int.toNat 12 then hI h2 (k1 + 1) i else hI h2 (k0 + 1) i) = h3 at H ⊢
  exact a_return (pc := 31) dX4_copy_31 trivial ⟨rfl, rfl, H⟩
set_option maxRecDepth 20000 in
theorem v_X4_isThere {E : zE} {d : Nat} {h : zS} {Q : Int → zS → Prop} {k0 : Nat} {x1 : Int} (hk0 : isFate k0) (H : zCi E d m_X9_isIn [vi (hI h k0 0), vi x1] h (fun y2 h1 => (y2 = 0 ∨ y2 = 1) ∧ Q y2 h1)) : zCi E (d + 1) m_X4_isThere [vo k0, vi x1] h Q := by
  show zAt E (d + 1) 0 0 m_X4_isThere 0 [vo k0, vi x1] [] g0 h (zPi Q)
  refine a_aload_n (pc := 0) dX4_isThere_0 rfl ?_
  refine a_getI (pc := 1) dX4_isThere_1 fl_X4_21 (goFate hk0) ?_
  refine a_iload_n (pc := 4) dX4_isThere_4 rfl ?_
  refine a_callSN (pc := 5) (kc := 0) (ks := 0) (kc' := 0) (ks' := 0) (st := []) [vi (hI h k0 0), vi x1] dX4_isThere_5 ml_X4_40 rfl (Nat.le_of_ble_eq_true rfl) (Nat.le_of_ble_eq_true rfl) (z_post H (fun r G1 h1 q => ?_))
  obtain ⟨y2, rfl, rfl, H⟩ := q
  show zAt E (d + 1) 0 0 m_X4_isThere 8 [vo k0, vi x1] [vi y2] g0 h1 (zPi Q)
  obtain ⟨hz, H⟩ := H
  exact a_ireturn (pc := 8) dX4_isThere_8 hz ⟨_, rfl, rfl, H⟩
set_option maxRecDepth 20000 in
theorem v_X4_stateOf {E : zE} {d : Nat} {h : zS} {Q : Int → zS → Prop} {k0 : Nat} {x1 : Int} (hk0 : isFate k0) (H : zCi E d m_X4_isThere [vo k0, vi x1] h (fun y2 h1 => ((y2 = 0 → (zCi E d m_X9_isIn [vi (hI h1 k0 1), vi x1] h1 (fun y4 h3 => ((y4 = 0 → (Q 2 h3)) ∧ (y4 ≠ 0 → (Q 1 h3)))))) ∧ (y2 ≠ 0 → (Q 0 h1))))) : zCi E (d + 1) m_X4_stateOf [vo k0, vi x1] h Q := by
  show zAt E (d + 1) 0 0 m_X4_stateOf 0 [vo k0, vi x1] [] g0 h (zPi Q)
  refine a_aload_n (pc := 0) dX4_stateOf_0 rfl ?_
  refine a_iload_n (pc := 1) dX4_stateOf_1 rfl ?_
  refine a_callV (pc := 2) (kc := 0) (ks := 0) (kc' := 0) (ks' := 0) (st := []) [vi x1] dX4_stateOf_2 ml_X4_44 (goFate hk0) rfl (Nat.le_of_ble_eq_true rfl) (Nat.le_of_ble_eq_true rfl) (z_post H (fun r G1 h1 q => ?_))
  obtain ⟨y2, rfl, rfl, H⟩ := q
  show zAt E (d + 1) 0 0 m_X4_stateOf 5 [vo k0, vi x1] [vi y2] g0 h1 (zPi Q)
  refine a_if_eq (pc := 5) (tgt := 10) dX4_stateOf_5 (by decide) (fun c => ?_) (fun c => ?_)
  · have H := H.1 c
    refine a_aload_n (pc := 10) dX4_stateOf_10 rfl ?_
    refine a_getI (pc := 11) dX4_stateOf_11 fl_X4_25 (goFate hk0) ?_
    refine a_iload_n (pc := 14) dX4_stateOf_14 rfl ?_
    refine a_callSN (pc := 15) (kc := 0) (ks := 0) (kc' := 0) (ks' := 0) (st := []) [vi (hI h1 k0 1), vi x1] dX4_stateOf_15 ml_X4_40 rfl (Nat.le_of_ble_eq_true rfl) (Nat.le_of_ble_eq_true rfl) (z_post H (fun r G1 h3 q => ?_))
    obtain ⟨y4, rfl, rfl, H⟩ := q
    show zAt E (d + 1) 0 0 m_X4_stateOf 18 [vo k0, vi x1] [vi y4] g0 h3 (zPi Q)
    refine a_if_eq (pc := 18) (tgt := 25) dX4_stateOf_18 (by decide) (fun c => ?_) (fun c => ?_)
    · have H := H.1 c
      refine a_iconst (pc := 25) dX4_stateOf_25 (by decide) ?_
      exact a_ireturn (pc := 26) dX4_stateOf_26 trivial ⟨_, rfl, rfl, H⟩
    · have H := H.2 c
      refine a_iconst (pc := 21) dX4_stateOf_21 (by decide) ?_
      refine a_goto (pc := 22) (tgt := 26) dX4_stateOf_22 (by decide) ?_
      exact a_ireturn (pc := 26) dX4_stateOf_26 trivial ⟨_, rfl, rfl, H⟩
  · have H := H.2 c
    refine a_iconst (pc := 8) dX4_stateOf_8 (by decide) ?_
    exact a_ireturn (pc := 9) dX4_stateOf_9 trivial ⟨_, rfl, rfl, H⟩
set_option maxRecDepth 20000 in
theorem v_X4_seize {E : zE} {d : Nat} {h : zS} {Q : Int → zS → Prop} {k0 : Nat} {k1 : Nat} {k2 : Nat} {x3 : Int} {x4 : Int} (hk0 : isFate k0) (hk1 : isCity k1) (hk2 : zArr g0 k2 0 12) (H : zCi E d m_J6_bitCount_0f7a4 [vi (hI h k0 1)] h (fun y2 h1 => zWi E (d + 1) m_X4_seize 20 [vo k0, vo k1, vo k2, vn, vi x4, vi y2, vi (z_and x3 (hI h1 k0 0)), vi 0] h1 Q)) : zCi E (d + 1) m_X4_seize [vo k0, vo k1, vo k2, vi x3, vi x4] h Q := by
  show zAt E (d + 1) 0 0 m_X4_seize 0 [vo k0, vo k1, vo k2, vi x3, vi x4, vn, vn, vn] [] g0 h (zPi Q)
  refine a_aload_n (pc := 0) dX4_seize_0 rfl ?_
  refine a_getI (pc := 1) dX4_seize_1 fl_X4_25 (goFate hk0) ?_
  refine a_callS (pc := 4) (kc := 0) (ks := 0) (kc' := 0) (ks' := 0) (st := []) [vi (hI h k0 1)] dX4_seize_4 ml_X4_48 rfl (Nat.le_of_ble_eq_true rfl) (Nat.le_of_ble_eq_true rfl) (z_post H (fun r G1 h1 q => ?_))
  obtain ⟨y2, rfl, rfl, H⟩ := q
  show zAt E (d + 1) 0 0 m_X4_seize 7 [vo k0, vo k1, vo k2, vi x3, vi x4, vn, vn, vn] [vi y2] g0 h1 (zPi Q)
  refine a_istore (pc := 7) (ls' := [vo k0, vo k1, vo k2, vi x3, vi x4, vi y2, vn, vn]) dX4_seize_7 rfl rfl ?_
  refine a_iload_n (pc := 9) dX4_seize_9 rfl ?_
  refine a_aload_n (pc := 10) dX4_seize_10 rfl ?_
  refine a_getI (pc := 11) dX4_seize_11 fl_X4_21 (goFate hk0) ?_
  refine a_iand (pc := 14) dX4_seize_14 ?_
  refine a_istore (pc := 15) (ls' := [vo k0, vo k1, vo k2, vi x3, vi x4, vi y2, vi (z_and x3 (hI h1 k0 0)), vn]) dX4_seize_15 rfl rfl ?_
  refine a_iconst (pc := 17) dX4_seize_17 (by decide) ?_
  refine a_istore (pc := 18) (ls' := [vo k0, vo k1, vo k2, vi x3, vi x4, vi y2, vi (z_and x3 (hI h1 k0 0)), vi 0]) dX4_seize_18 rfl rfl ?_
  exact z_forget (ls' := [vo k0, vo k1, vo k2, vn, vi x4, vi y2, vi (z_and x3 (hI h1 k0 0)), vi 0]) ⟨.inr rfl, .inr rfl, .inr rfl, .inl rfl, .inr rfl, .inr rfl, .inr rfl, .inr rfl, trivial⟩ H
set_option maxRecDepth 20000 in
theorem r_X4_seize_20 {E : zE} {d : Nat} {h : zS} {Q : Int → zS → Prop} {k0 : Nat} {k1 : Nat} {k2 : Nat} {x4 : Int} {x5 : Int} {x6 : Int} {x7 : Int} (hk0 : isFate k0) (hk1 : isCity k1) (hk2 : zArr g0 k2 0 12) (H : ((12 ≤ x7 → (zCi E d m_J6_bitCount_0f7a4 [vi (hI h k0 1)] h (fun y2 h1 => Q (w32 (y2 - x5)) h1))) ∧ (x7 < 12 → ((x6 = 0 → (zCi E d m_J6_bitCount_0f7a4 [vi (hI h k0 1)] h (fun y4 h3 => Q (w32 (y4 - x5)) h3))) ∧ (x6 ≠ 0 → (∀ h5, h5 = stI h k0 1 (z_or (hI h k0 1) x6) → zCv E d m_X4_remove [vo k0, vo k1, vi x6, vi x4] h5 (fun h6 => zCi E d m_X4_knownToAny [vo k1, vo k2, vi (z_and x6 (hI h6 k1 15))] h6 (fun y8 h7 => zWi E (d + 1) m_X4_seize 20 [vo k0, vo k1, vo k2, vn, vi x4, vi x5, vi (z_and y8 (hI h7 k0 0)), vi (w32 (x7 + 1))] h7 Q)))))))) : zWi E (d + 1) m_X4_seize 20 [vo k0, vo k1, vo k2, vn, vi x4, vi x5, vi x6, vi x7] h Q := by
  refine a_iload (pc := 20) dX4_seize_20 rfl ?_
  refine a_bipush (pc := 22) dX4_seize_22 (by decide) ?_
  refine a_icmp_ge (pc := 24) (tgt := 77) dX4_seize_24 (by decide) (fun c => ?_) (fun c => ?_)
  · have H := H.1 c
    refine a_aload_n (pc := 77) dX4_seize_77 rfl ?_
    refine a_getI (pc := 78) dX4_seize_78 fl_X4_25 (goFate hk0) ?_
    refine a_callS (pc := 81) (kc := 0) (ks := 0) (kc' := 0) (ks' := 0) (st := []) [vi (hI h k0 1)] dX4_seize_81 ml_X4_48 rfl (Nat.le_of_ble_eq_true rfl) (Nat.le_of_ble_eq_true rfl) (z_post H (fun r G1 h1 q => ?_))
    obtain ⟨y2, rfl, rfl, H⟩ := q
    show zAt E (d + 1) 0 0 m_X4_seize 84 [vo k0, vo k1, vo k2, vn, vi x4, vi x5, vi x6, vi x7] [vi y2] g0 h1 (zPi Q)
    refine a_iload (pc := 84) dX4_seize_84 rfl ?_
    refine a_isub (pc := 86) dX4_seize_86 ?_
    exact a_ireturn (pc := 87) dX4_seize_87 trivial ⟨_, rfl, rfl, H⟩
  · have H := H.2 c
    refine a_iload (pc := 27) dX4_seize_27 rfl ?_
    refine a_if_eq (pc := 29) (tgt := 77) dX4_seize_29 (by decide) (fun c => ?_) (fun c => ?_)
    · have H := H.1 c
      refine a_aload_n (pc := 77) dX4_seize_77 rfl ?_
      refine a_getI (pc := 78) dX4_seize_78 fl_X4_25 (goFate hk0) ?_
      refine a_callS (pc := 81) (kc := 0) (ks := 0) (kc' := 0) (ks' := 0) (st := []) [vi (hI h k0 1)] dX4_seize_81 ml_X4_48 rfl (Nat.le_of_ble_eq_true rfl) (Nat.le_of_ble_eq_true rfl) (z_post H (fun r G1 h3 q => ?_))
      obtain ⟨y4, rfl, rfl, H⟩ := q
      show zAt E (d + 1) 0 0 m_X4_seize 84 [vo k0, vo k1, vo k2, vn, vi x4, vi x5, vi x6, vi x7] [vi y4] g0 h3 (zPi Q)
      refine a_iload (pc := 84) dX4_seize_84 rfl ?_
      refine a_isub (pc := 86) dX4_seize_86 ?_
      exact a_ireturn (pc := 87) dX4_seize_87 trivial ⟨_, rfl, rfl, H⟩
    · have H := H.2 c
      refine a_aload_n (pc := 32) dX4_seize_32 rfl ?_
      refine a_dup (pc := 33) dX4_seize_33 rfl ?_
      refine a_getI (pc := 34) dX4_seize_34 fl_X4_25 (goFate hk0) ?_
      refine a_iload (pc := 37) dX4_seize_37 rfl ?_
      refine a_ior (pc := 39) dX4_seize_39 ?_
      refine a_putI (pc := 40) dX4_seize_40 fl_X4_25 (goFate hk0) ?_
      have H := H _ rfl
      generalize stI h k0 1 (z_or (hI h k0 1) x6) = h5 at H ⊢
      refine a_aload_n (pc := 43) dX4_seize_43 rfl ?_
      refine a_aload_n (pc := 44) dX4_seize_44 rfl ?_
      refine a_iload (pc := 45) dX4_seize_45 rfl ?_
      refine a_iload (pc := 47) dX4_seize_47 rfl ?_
      refine a_callV (pc := 49) (kc := 0) (ks := 0) (kc' := 0) (ks' := 0) (st := []) [vo k1, vi x6, vi x4] dX4_seize_49 ml_X4_54 (goFate hk0) rfl (Nat.le_of_ble_eq_true rfl) (Nat.le_of_ble_eq_true rfl) (z_post H (fun r G1 h6 q => ?_))
      obtain ⟨rfl, rfl, H⟩ := q
      show zAt E (d + 1) 0 0 m_X4_seize 52 [vo k0, vo k1, vo k2, vn, vi x4, vi x5, vi x6, vi x7] [] g0 h6 (zPi Q)
      refine a_aload_n (pc := 52) dX4_seize_52 rfl ?_
      refine a_aload_n (pc := 53) dX4_seize_53 rfl ?_
      refine a_iload (pc := 54) dX4_seize_54 rfl ?_
      refine a_aload_n (pc := 56) dX4_seize_56 rfl ?_
      refine a_getI (pc := 57) dX4_seize_57 fl_X4_58 (goCity hk1) ?_
      refine a_iand (pc := 60) dX4_seize_60 ?_
      refine a_callS (pc := 61) (kc := 0) (ks := 0) (kc' := 0) (ks' := 0) (st := []) [vo k1, vo k2, vi (z_and x6 (hI h6 k1 15))] dX4_seize_61 ml_X4_61 rfl (Nat.le_of_ble_eq_true rfl) (Nat.le_of_ble_eq_true rfl) (z_post H (fun r G1 h7 q => ?_))
      obtain ⟨y8, rfl, rfl, H⟩ := q
      show zAt E (d + 1) 0 0 m_X4_seize 64 [vo k0, vo k1, vo k2, vn, vi x4, vi x5, vi x6, vi x7] [vi y8] g0 h7 (zPi Q)
      refine a_aload_n (pc := 64) dX4_seize_64 rfl ?_
      refine a_getI (pc := 65) dX4_seize_65 fl_X4_21 (goFate hk0) ?_
      refine a_iand (pc := 68) dX4_seize_68 ?_
      refine a_istore (pc := 69) (ls' := [vo k0, vo k1, vo k2, vn, vi x4, vi x5, vi (z_and y8 (hI h7 k0 0)), vi x7]) dX4_seize_69 rfl rfl ?_
      refine a_iinc (pc := 71) (ls' := [vo k0, vo k1, vo k2, vn, vi x4, vi x5, vi (z_and y8 (hI h7 k0 0)), vi (w32 (x7 + 1))]) dX4_seize_71 rfl rfl rfl ?_
      refine a_goto (pc := 74) (tgt := 20) dX4_seize_74 (by decide) ?_
      exact H
set_option maxRecDepth 20000 in
theorem v_X4_tellOn {E : zE} {d : Nat} {h : zS} {Q : zS → Prop} {k0 : Nat} {k1 : Nat} {k2 : Nat} {x3 : Int} (hk0 : isFate k0) (hk1 : isCity k1) (hk2 : zArr g0 k2 0 12) (H : zWv E (d + 1) m_X4_tellOn 6 [vo k0, vo k1, vo k2, vi x3, vi 0, vi 0] h Q) : zCv E (d + 1) m_X4_tellOn [vo k0, vo k1, vo k2, vi x3] h Q := by
  show zAt E (d + 1) 0 0 m_X4_tellOn 0 [vo k0, vo k1, vo k2, vi x3, vn, vn] [] g0 h (zPv Q)
  refine a_iconst (pc := 0) dX4_tellOn_0 (by decide) ?_
  refine a_istore (pc := 1) (ls' := [vo k0, vo k1, vo k2, vi x3, vi 0, vn]) dX4_tellOn_1 rfl rfl ?_
  refine a_iconst (pc := 3) dX4_tellOn_3 (by decide) ?_
  refine a_istore (pc := 4) (ls' := [vo k0, vo k1, vo k2, vi x3, vi 0, vi 0]) dX4_tellOn_4 rfl rfl ?_
  exact H
set_option maxRecDepth 20000 in
theorem r_X4_tellOn_6 {E : zE} {d : Nat} {h : zS} {Q : zS → Prop} {k0 : Nat} {k1 : Nat} {k2 : Nat} {x3 : Int} {x4 : Int} {x5 : Int} (hk0 : isFate k0) (hk1 : isCity k1) (hk2 : zArr g0 k2 0 12) (H : (((hI h k1 0) ≤ x5 → (zCi E d m_X4_knownToAny [vo k1, vo k2, vi x4] h (fun y2 h1 => zCi E d m_X4_seize [vo k0, vo k1, vo k2, vi y2, vi x3] h1 (fun y4 h3 => Q h3)))) ∧ (x5 < (hI h k1 0) → (zCi E d m_X9_isIn [vi (z_and (hI h k0 1) (z_xor (hI h k1 15) (-1))), vi x5] h (fun y6 h5 => ((y6 = 0 → (zWv E (d + 1) m_X4_tellOn 6 [vo k0, vo k1, vo k2, vi x3, vi x4, vi (w32 (x5 + 1))] h5 Q)) ∧ (y6 ≠ 0 → ((0 ≤ x5 ∧ x5 < 12) ∧ (((w32 ((hI h5 (k0 + 1) x5.toNat) + (hI h5 (k1 + 4) x5.toNat))) ≠ x3 → (zWv E (d + 1) m_X4_tellOn 6 [vo k0, vo k1, vo k2, vi x3, vi x4, vi (w32 (x5 + 1))] h5 Q)) ∧ ((w32 ((hI h5 (k0 + 1) x5.toNat) + (hI h5 (k1 + 4) x5.toNat))) = x3 → (zWv E (d + 1) m_X4_tellOn 6 [vo k0, vo k1, vo k2, vi x3, vi (z_or x4 (z_shl 1 x5)), vi (w32 (x5 + 1))] h5 Q))))))))))) : zWv E (d + 1) m_X4_tellOn 6 [vo k0, vo k1, vo k2, vi x3, vi x4, vi x5] h Q := by
  refine a_iload (pc := 6) dX4_tellOn_6 rfl ?_
  refine a_aload_n (pc := 8) dX4_tellOn_8 rfl ?_
  refine a_getI (pc := 9) dX4_tellOn_9 fl_X4_65 (goCity hk1) ?_
  refine a_icmp_ge (pc := 12) (tgt := 68) dX4_tellOn_12 (by decide) (fun c => ?_) (fun c => ?_)
  · have H := H.1 c
    refine a_aload_n (pc := 68) dX4_tellOn_68 rfl ?_
    refine a_aload_n (pc := 69) dX4_tellOn_69 rfl ?_
    refine a_aload_n (pc := 70) dX4_tellOn_70 rfl ?_
    refine a_aload_n (pc := 71) dX4_tellOn_71 rfl ?_
    refine a_aload_n (pc := 72) dX4_tellOn_72 rfl ?_
    refine a_iload (pc := 73) dX4_tellOn_73 rfl ?_
    refine a_callS (pc := 75) (kc := 0) (ks := 0) (kc' := 0) (ks' := 0) (st := [vo k2, vo k1, vo k0]) [vo k1, vo k2, vi x4] dX4_tellOn_75 ml_X4_61 rfl (Nat.le_of_ble_eq_true rfl) (Nat.le_of_ble_eq_true rfl) (z_post H (fun r G1 h1 q => ?_))
    obtain ⟨y2, rfl, rfl, H⟩ := q
    show zAt E (d + 1) 0 0 m_X4_tellOn 78 [vo k0, vo k1, vo k2, vi x3, vi x4, vi x5] [vi y2, vo k2, vo k1, vo k0] g0 h1 (zPv Q)
    refine a_iload_n (pc := 78) dX4_tellOn_78 rfl ?_
    refine a_callV (pc := 79) (kc := 0) (ks := 0) (kc' := 0) (ks' := 0) (st := []) [vo k1, vo k2, vi y2, vi x3] dX4_tellOn_79 ml_X4_71 (goFate hk0) rfl (Nat.le_of_ble_eq_true rfl) (Nat.le_of_ble_eq_true rfl) (z_post H (fun r G1 h3 q => ?_))
    obtain ⟨y4, rfl, rfl, H⟩ := q
    show zAt E (d + 1) 0 0 m_X4_tellOn 82 [vo k0, vo k1, vo k2, vi x3, vi x4, vi x5] [vi y4] g0 h3 (zPv Q)
    refine a_pop (pc := 82) dX4_tellOn_82 rfl ?_
    exact a_return (pc := 83) dX4_tellOn_83 trivial ⟨rfl, rfl, H⟩
  · have H := H.2 c
    refine a_aload_n (pc := 15) dX4_tellOn_15 rfl ?_
    refine a_getI (pc := 16) dX4_tellOn_16 fl_X4_25 (goFate hk0) ?_
    refine a_aload_n (pc := 19) dX4_tellOn_19 rfl ?_
    refine a_getI (pc := 20) dX4_tellOn_20 fl_X4_58 (goCity hk1) ?_
    refine a_iconst (pc := 23) dX4_tellOn_23 (by decide) ?_
    refine a_ixor (pc := 24) dX4_tellOn_24 ?_
    refine a_iand (pc := 25) dX4_tellOn_25 ?_
    refine a_iload (pc := 26) dX4_tellOn_26 rfl ?_
    refine a_callSN (pc := 28) (kc := 0) (ks := 0) (kc' := 0) (ks' := 0) (st := []) [vi (z_and (hI h k0 1) (z_xor (hI h k1 15) (-1))), vi x5] dX4_tellOn_28 ml_X4_40 rfl (Nat.le_of_ble_eq_true rfl) (Nat.le_of_ble_eq_true rfl) (z_post H (fun r G1 h5 q => ?_))
    obtain ⟨y6, rfl, rfl, H⟩ := q
    show zAt E (d + 1) 0 0 m_X4_tellOn 31 [vo k0, vo k1, vo k2, vi x3, vi x4, vi x5] [vi y6] g0 h5 (zPv Q)
    refine a_if_eq (pc := 31) (tgt := 62) dX4_tellOn_31 (by decide) (fun c => ?_) (fun c => ?_)
    · have H := H.1 c
      refine a_iinc (pc := 62) (ls' := [vo k0, vo k1, vo k2, vi x3, vi x4, vi (w32 (x5 + 1))]) dX4_tellOn_62 rfl rfl rfl ?_
      refine a_goto (pc := 65) (tgt := 6) dX4_tellOn_65 (by decide) ?_
      exact H
    · have H := H.2 c
      refine a_aload_n (pc := 34) dX4_tellOn_34 rfl ?_
      refine a_getF (pc := 35) dX4_tellOn_35 fl_X4_9 (goFate hk0) (gfFate_2 hk0) ?_
      refine a_iload (pc := 38) dX4_tellOn_38 rfl ?_
      obtain ⟨hb7, H⟩ := H
      refine a_iaload (pc := 40) dX4_tellOn_40 (gaFate_2 hk0) hb7 ?_
      refine a_aload_n (pc := 41) dX4_tellOn_41 rfl ?_
      refine a_getG (pc := 42) dX4_tellOn_42 fl_X4_68 rfl (goCity hk1) (gfCity_8 hk1) ?_
      refine a_iload (pc := 45) dX4_tellOn_45 rfl ?_
      refine a_iaload (pc := 47) dX4_tellOn_47 (gaCity_8 hk1) hb7 ?_
      refine a_iadd (pc := 48) dX4_tellOn_48 ?_
      refine a_iload_n (pc := 49) dX4_tellOn_49 rfl ?_
      refine a_icmp_ne (pc := 50) (tgt := 62) dX4_tellOn_50 (by decide) (fun c => ?_) (fun c => ?_)
      · have H := H.1 c
        refine a_iinc (pc := 62) (ls' := [vo k0, vo k1, vo k2, vi x3, vi x4, vi (w32 (x5 + 1))]) dX4_tellOn_62 rfl rfl rfl ?_
        refine a_goto (pc := 65) (tgt := 6) dX4_tellOn_65 (by decide) ?_
        exact H
      · have H := H.2 c
        refine a_iload (pc := 53) dX4_tellOn_53 rfl ?_
        refine a_iconst (pc := 55) dX4_tellOn_55 (by decide) ?_
        refine a_iload (pc := 56) dX4_tellOn_56 rfl ?_
        refine a_ishl (pc := 58) dX4_tellOn_58 ?_
        refine a_ior (pc := 59) dX4_tellOn_59 ?_
        refine a_istore (pc := 60) (ls' := [vo k0, vo k1, vo k2, vi x3, vi (z_or x4 (z_shl 1 x5)), vi x5]) dX4_tellOn_60 rfl rfl ?_
        refine a_iinc (pc := 62) (ls' := [vo k0, vo k1, vo k2, vi x3, vi (z_or x4 (z_shl 1 x5)), vi (w32 (x5 + 1))]) dX4_tellOn_62 rfl rfl rfl ?_
        refine a_goto (pc := 65) (tgt := 6) dX4_tellOn_65 (by decide) ?_
        exact H
set_option maxRecDepth 20000 in
theorem v_X4_fleeOn {E : zE} {d : Nat} {h : zS} {Q : zS → Prop} {k0 : Nat} {k1 : Nat} {k2 : Nat} {x3 : Int} (hk0 : isFate k0) (hk1 : isCity k1) (hk2 : zArr g0 k2 0 12) (H : zWv E (d + 1) m_X4_fleeOn 6 [vo k0, vo k1, vo k2, vi x3, vi 0, vi 0] h Q) : zCv E (d + 1) m_X4_fleeOn [vo k0, vo k1, vo k2, vi x3] h Q := by
  show zAt E (d + 1) 0 0 m_X4_fleeOn 0 [vo k0, vo k1, vo k2, vi x3, vn, vn] [] g0 h (zPv Q)
  refine a_iconst (pc := 0) dX4_fleeOn_0 (by decide) ?_
  refine a_istore (pc := 1) (ls' := [vo k0, vo k1, vo k2, vi x3, vi 0, vn]) dX4_fleeOn_1 rfl rfl ?_
  refine a_iconst (pc := 3) dX4_fleeOn_3 (by decide) ?_
  refine a_istore (pc := 4) (ls' := [vo k0, vo k1, vo k2, vi x3, vi 0, vi 0]) dX4_fleeOn_4 rfl rfl ?_
  exact H
set_option maxRecDepth 20000 in
theorem r_X4_fleeOn_6 {E : zE} {d : Nat} {h : zS} {Q : zS → Prop} {k0 : Nat} {k1 : Nat} {k2 : Nat} {x3 : Int} {x4 : Int} {x5 : Int} (hk0 : isFate k0) (hk1 : isCity k1) (hk2 : zArr g0 k2 0 12) (H : (((hI h k1 0) ≤ x5 → (zCv E d m_X4_remove [vo k0, vo k1, vi x4, vi x3] h (fun h1 => Q h1))) ∧ (x5 < (hI h k1 0) → (zCi E d m_X9_isIn [vi (z_and (hI h k0 0) (z_xor (hI h k1 16) (-1))), vi x5] h (fun y3 h2 => ((y3 = 0 → (zWv E (d + 1) m_X4_fleeOn 6 [vo k0, vo k1, vo k2, vi x3, vi x4, vi (w32 (x5 + 1))] h2 Q)) ∧ (y3 ≠ 0 → ((0 ≤ x5 ∧ x5 < 12) ∧ zCi E d m_X4_sawBy [vo k0, vo k1, vi (z_and (hI h2 k2 x5.toNat) (hI h2 k0 1)), vi (w32 ((w32 (x3 - 1)) - (hI h2 (k1 + 3) x5.toNat)))] h2 (fun y6 h5 => ((y6 = 0 → (zWv E (d + 1) m_X4_fleeOn 6 [vo k0, vo k1, vo k2, vi x3, vi x4, vi (w32 (x5 + 1))] h5 Q)) ∧ (y6 ≠ 0 → (zWv E (d + 1) m_X4_fleeOn 6 [vo k0, vo k1, vo k2, vi x3, vi (z_or x4 (z_shl 1 x5)), vi (w32 (x5 + 1))] h5 Q)))))))))))) : zWv E (d + 1) m_X4_fleeOn 6 [vo k0, vo k1, vo k2, vi x3, vi x4, vi x5] h Q := by
  refine a_iload (pc := 6) dX4_fleeOn_6 rfl ?_
  refine a_aload_n (pc := 8) dX4_fleeOn_8 rfl ?_
  refine a_getI (pc := 9) dX4_fleeOn_9 fl_X4_65 (goCity hk1) ?_
  refine a_icmp_ge (pc := 12) (tgt := 77) dX4_fleeOn_12 (by decide) (fun c => ?_) (fun c => ?_)
  · have H := H.1 c
    refine a_aload_n (pc := 77) dX4_fleeOn_77 rfl ?_
    refine a_aload_n (pc := 78) dX4_fleeOn_78 rfl ?_
    refine a_iload (pc := 79) dX4_fleeOn_79 rfl ?_
    refine a_iload_n (pc := 81) dX4_fleeOn_81 rfl ?_
    refine a_callV (pc := 82) (kc := 0) (ks := 0) (kc' := 0) (ks' := 0) (st := []) [vo k1, vi x4, vi x3] dX4_fleeOn_82 ml_X4_54 (goFate hk0) rfl (Nat.le_of_ble_eq_true rfl) (Nat.le_of_ble_eq_true rfl) (z_post H (fun r G1 h1 q => ?_))
    obtain ⟨rfl, rfl, H⟩ := q
    show zAt E (d + 1) 0 0 m_X4_fleeOn 85 [vo k0, vo k1, vo k2, vi x3, vi x4, vi x5] [] g0 h1 (zPv Q)
    exact a_return (pc := 85) dX4_fleeOn_85 trivial ⟨rfl, rfl, H⟩
  · have H := H.2 c
    refine a_aload_n (pc := 15) dX4_fleeOn_15 rfl ?_
    refine a_getI (pc := 16) dX4_fleeOn_16 fl_X4_21 (goFate hk0) ?_
    refine a_aload_n (pc := 19) dX4_fleeOn_19 rfl ?_
    refine a_getI (pc := 20) dX4_fleeOn_20 fl_X4_75 (goCity hk1) ?_
    refine a_iconst (pc := 23) dX4_fleeOn_23 (by decide) ?_
    refine a_ixor (pc := 24) dX4_fleeOn_24 ?_
    refine a_iand (pc := 25) dX4_fleeOn_25 ?_
    refine a_iload (pc := 26) dX4_fleeOn_26 rfl ?_
    refine a_callSN (pc := 28) (kc := 0) (ks := 0) (kc' := 0) (ks' := 0) (st := []) [vi (z_and (hI h k0 0) (z_xor (hI h k1 16) (-1))), vi x5] dX4_fleeOn_28 ml_X4_40 rfl (Nat.le_of_ble_eq_true rfl) (Nat.le_of_ble_eq_true rfl) (z_post H (fun r G1 h2 q => ?_))
    obtain ⟨y3, rfl, rfl, H⟩ := q
    show zAt E (d + 1) 0 0 m_X4_fleeOn 31 [vo k0, vo k1, vo k2, vi x3, vi x4, vi x5] [vi y3] g0 h2 (zPv Q)
    refine a_if_eq (pc := 31) (tgt := 71) dX4_fleeOn_31 (by decide) (fun c => ?_) (fun c => ?_)
    · have H := H.1 c
      refine a_iinc (pc := 71) (ls' := [vo k0, vo k1, vo k2, vi x3, vi x4, vi (w32 (x5 + 1))]) dX4_fleeOn_71 rfl rfl rfl ?_
      refine a_goto (pc := 74) (tgt := 6) dX4_fleeOn_74 (by decide) ?_
      exact H
    · have H := H.2 c
      refine a_aload_n (pc := 34) dX4_fleeOn_34 rfl ?_
      refine a_aload_n (pc := 35) dX4_fleeOn_35 rfl ?_
      refine a_aload_n (pc := 36) dX4_fleeOn_36 rfl ?_
      refine a_iload (pc := 37) dX4_fleeOn_37 rfl ?_
      obtain ⟨hb4, H⟩ := H
      refine a_iaload (pc := 39) dX4_fleeOn_39 (hk2) hb4 ?_
      refine a_aload_n (pc := 40) dX4_fleeOn_40 rfl ?_
      refine a_getI (pc := 41) dX4_fleeOn_41 fl_X4_25 (goFate hk0) ?_
      refine a_iand (pc := 44) dX4_fleeOn_44 ?_
      refine a_iload_n (pc := 45) dX4_fleeOn_45 rfl ?_
      refine a_iconst (pc := 46) dX4_fleeOn_46 (by decide) ?_
      refine a_isub (pc := 47) dX4_fleeOn_47 ?_
      refine a_aload_n (pc := 48) dX4_fleeOn_48 rfl ?_
      refine a_getG (pc := 49) dX4_fleeOn_49 fl_X4_78 rfl (goCity hk1) (gfCity_7 hk1) ?_
      refine a_iload (pc := 52) dX4_fleeOn_52 rfl ?_
      refine a_iaload (pc := 54) dX4_fleeOn_54 (gaCity_7 hk1) hb4 ?_
      refine a_isub (pc := 55) dX4_fleeOn_55 ?_
      refine a_callV (pc := 56) (kc := 0) (ks := 0) (kc' := 0) (ks' := 0) (st := []) [vo k1, vi (z_and (hI h2 k2 x5.toNat) (hI h2 k0 1)), vi (w32 ((w32 (x3 - 1)) - (hI h2 (k1 + 3) x5.toNat)))] dX4_fleeOn_56 ml_X4_81 (goFate hk0) rfl (Nat.le_of_ble_eq_true rfl) (Nat.le_of_ble_eq_true rfl) (z_post H (fun r G1 h5 q => ?_))
      obtain ⟨y6, rfl, rfl, H⟩ := q
      show zAt E (d + 1) 0 0 m_X4_fleeOn 59 [vo k0, vo k1, vo k2, vi x3, vi x4, vi x5] [vi y6] g0 h5 (zPv Q)
      refine a_if_eq (pc := 59) (tgt := 71) dX4_fleeOn_59 (by decide) (fun c => ?_) (fun c => ?_)
      · have H := H.1 c
        refine a_iinc (pc := 71) (ls' := [vo k0, vo k1, vo k2, vi x3, vi x4, vi (w32 (x5 + 1))]) dX4_fleeOn_71 rfl rfl rfl ?_
        refine a_goto (pc := 74) (tgt := 6) dX4_fleeOn_74 (by decide) ?_
        exact H
      · have H := H.2 c
        refine a_iload (pc := 62) dX4_fleeOn_62 rfl ?_
        refine a_iconst (pc := 64) dX4_fleeOn_64 (by decide) ?_
        refine a_iload (pc := 65) dX4_fleeOn_65 rfl ?_
        refine a_ishl (pc := 67) dX4_fleeOn_67 ?_
        refine a_ior (pc := 68) dX4_fleeOn_68 ?_
        refine a_istore (pc := 69) (ls' := [vo k0, vo k1, vo k2, vi x3, vi (z_or x4 (z_shl 1 x5)), vi x5]) dX4_fleeOn_69 rfl rfl ?_
        refine a_iinc (pc := 71) (ls' := [vo k0, vo k1, vo k2, vi x3, vi (z_or x4 (z_shl 1 x5)), vi (w32 (x5 + 1))]) dX4_fleeOn_71 rfl rfl rfl ?_
        refine a_goto (pc := 74) (tgt := 6) dX4_fleeOn_74 (by decide) ?_
        exact H
set_option maxRecDepth 20000 in
theorem v_X4_sawBy {E : zE} {d : Nat} {h : zS} {Q : Int → zS → Prop} {k0 : Nat} {k1 : Nat} {x2 : Int} {x3 : Int} (hk0 : isFate k0) (hk1 : isCity k1) (H : zWi E (d + 1) m_X4_sawBy 3 [vo k0, vo k1, vi x2, vi x3, vi 0] h Q) : zCi E (d + 1) m_X4_sawBy [vo k0, vo k1, vi x2, vi x3] h Q := by
  show zAt E (d + 1) 0 0 m_X4_sawBy 0 [vo k0, vo k1, vi x2, vi x3, vn] [] g0 h (zPi Q)
  refine a_iconst (pc := 0) dX4_sawBy_0 (by decide) ?_
  refine a_istore (pc := 1) (ls' := [vo k0, vo k1, vi x2, vi x3, vi 0]) dX4_sawBy_1 rfl rfl ?_
  exact H
set_option maxRecDepth 20000 in
theorem r_X4_sawBy_3 {E : zE} {d : Nat} {h : zS} {Q : Int → zS → Prop} {k0 : Nat} {k1 : Nat} {x2 : Int} {x3 : Int} {x4 : Int} (hk0 : isFate k0) (hk1 : isCity k1) (H : (((hI h k1 0) ≤ x4 → (Q 0 h)) ∧ (x4 < (hI h k1 0) → ((x2 = 0 → (Q 0 h)) ∧ (x2 ≠ 0 → (zCi E d m_X9_isIn [vi x2, vi x4] h (fun y2 h1 => ((y2 = 0 → (zWi E (d + 1) m_X4_sawBy 3 [vo k0, vo k1, vi x2, vi x3, vi (w32 (x4 + 1))] h1 Q)) ∧ (y2 ≠ 0 → ((0 ≤ x4 ∧ x4 < 12) ∧ ((x3 < (hI h1 (k0 + 1) x4.toNat) → (zWi E (d + 1) m_X4_sawBy 3 [vo k0, vo k1, vi x2, vi x3, vi (w32 (x4 + 1))] h1 Q)) ∧ ((hI h1 (k0 + 1) x4.toNat) ≤ x3 → (Q 1 h1))))))))))))) : zWi E (d + 1) m_X4_sawBy 3 [vo k0, vo k1, vi x2, vi x3, vi x4] h Q := by
  refine a_iload (pc := 3) dX4_sawBy_3 rfl ?_
  refine a_aload_n (pc := 5) dX4_sawBy_5 rfl ?_
  refine a_getI (pc := 6) dX4_sawBy_6 fl_X4_65 (goCity hk1) ?_
  refine a_icmp_ge (pc := 9) (tgt := 44) dX4_sawBy_9 (by decide) (fun c => ?_) (fun c => ?_)
  · have H := H.1 c
    refine a_iconst (pc := 44) dX4_sawBy_44 (by decide) ?_
    exact a_ireturn (pc := 45) dX4_sawBy_45 (.inl rfl) ⟨_, rfl, rfl, H⟩
  · have H := H.2 c
    refine a_iload_n (pc := 12) dX4_sawBy_12 rfl ?_
    refine a_if_eq (pc := 13) (tgt := 44) dX4_sawBy_13 (by decide) (fun c => ?_) (fun c => ?_)
    · have H := H.1 c
      refine a_iconst (pc := 44) dX4_sawBy_44 (by decide) ?_
      exact a_ireturn (pc := 45) dX4_sawBy_45 (.inl rfl) ⟨_, rfl, rfl, H⟩
    · have H := H.2 c
      refine a_iload_n (pc := 16) dX4_sawBy_16 rfl ?_
      refine a_iload (pc := 17) dX4_sawBy_17 rfl ?_
      refine a_callSN (pc := 19) (kc := 0) (ks := 0) (kc' := 0) (ks' := 0) (st := []) [vi x2, vi x4] dX4_sawBy_19 ml_X4_40 rfl (Nat.le_of_ble_eq_true rfl) (Nat.le_of_ble_eq_true rfl) (z_post H (fun r G1 h1 q => ?_))
      obtain ⟨y2, rfl, rfl, H⟩ := q
      show zAt E (d + 1) 0 0 m_X4_sawBy 22 [vo k0, vo k1, vi x2, vi x3, vi x4] [vi y2] g0 h1 (zPi Q)
      refine a_if_eq (pc := 22) (tgt := 38) dX4_sawBy_22 (by decide) (fun c => ?_) (fun c => ?_)
      · have H := H.1 c
        refine a_iinc (pc := 38) (ls' := [vo k0, vo k1, vi x2, vi x3, vi (w32 (x4 + 1))]) dX4_sawBy_38 rfl rfl rfl ?_
        refine a_goto (pc := 41) (tgt := 3) dX4_sawBy_41 (by decide) ?_
        exact H
      · have H := H.2 c
        refine a_aload_n (pc := 25) dX4_sawBy_25 rfl ?_
        refine a_getF (pc := 26) dX4_sawBy_26 fl_X4_9 (goFate hk0) (gfFate_2 hk0) ?_
        refine a_iload (pc := 29) dX4_sawBy_29 rfl ?_
        obtain ⟨hb3, H⟩ := H
        refine a_iaload (pc := 31) dX4_sawBy_31 (gaFate_2 hk0) hb3 ?_
        refine a_iload_n (pc := 32) dX4_sawBy_32 rfl ?_
        refine a_icmp_gt (pc := 33) (tgt := 38) dX4_sawBy_33 (by decide) (fun c => ?_) (fun c => ?_)
        · have H := H.1 c
          refine a_iinc (pc := 38) (ls' := [vo k0, vo k1, vi x2, vi x3, vi (w32 (x4 + 1))]) dX4_sawBy_38 rfl rfl rfl ?_
          refine a_goto (pc := 41) (tgt := 3) dX4_sawBy_41 (by decide) ?_
          exact H
        · have H := H.2 c
          refine a_iconst (pc := 36) dX4_sawBy_36 (by decide) ?_
          exact a_ireturn (pc := 37) dX4_sawBy_37 (.inr rfl) ⟨_, rfl, rfl, H⟩
set_option maxRecDepth 20000 in
theorem v_X4_remove {E : zE} {d : Nat} {h : zS} {Q : zS → Prop} {k0 : Nat} {k1 : Nat} {x2 : Int} {x3 : Int} (hk0 : isFate k0) (hk1 : isCity k1) (H : ∀ h1, h1 = stI h k0 0 (z_and (hI h k0 0) (z_xor x2 (-1))) → zWv E (d + 1) m_X4_remove 15 [vo k0, vo k1, vi x2, vi x3, vi 0] h1 Q) : zCv E (d + 1) m_X4_remove [vo k0, vo k1, vi x2, vi x3] h Q := by
  show zAt E (d + 1) 0 0 m_X4_remove 0 [vo k0, vo k1, vi x2, vi x3, vn] [] g0 h (zPv Q)
  refine a_aload_n (pc := 0) dX4_remove_0 rfl ?_
  refine a_dup (pc := 1) dX4_remove_1 rfl ?_
  refine a_getI (pc := 2) dX4_remove_2 fl_X4_21 (goFate hk0) ?_
  refine a_iload_n (pc := 5) dX4_remove_5 rfl ?_
  refine a_iconst (pc := 6) dX4_remove_6 (by decide) ?_
  refine a_ixor (pc := 7) dX4_remove_7 ?_
  refine a_iand (pc := 8) dX4_remove_8 ?_
  refine a_putI (pc := 9) dX4_remove_9 fl_X4_21 (goFate hk0) ?_
  have H := H _ rfl
  generalize stI h k0 0 (z_and (hI h k0 0) (z_xor x2 (-1))) = h1 at H ⊢
  refine a_iconst (pc := 12) dX4_remove_12 (by decide) ?_
  refine a_istore (pc := 13) (ls' := [vo k0, vo k1, vi x2, vi x3, vi 0]) dX4_remove_13 rfl rfl ?_
  exact H
set_option maxRecDepth 20000 in
theorem r_X4_remove_15 {E : zE} {d : Nat} {h : zS} {Q : zS → Prop} {k0 : Nat} {k1 : Nat} {x2 : Int} {x3 : Int} {x4 : Int} (hk0 : isFate k0) (hk1 : isCity k1) (H : (((hI h k1 0) ≤ x4 → (Q h)) ∧ (x4 < (hI h k1 0) → (zCi E d m_X9_isIn [vi x2, vi x4] h (fun y2 h1 => ((y2 = 0 → (zWv E (d + 1) m_X4_remove 15 [vo k0, vo k1, vi x2, vi x3, vi (w32 (x4 + 1))] h1 Q)) ∧ (y2 ≠ 0 → ((0 ≤ x4 ∧ x4 < 12) ∧ ∀ h4, h4 = stI h1 (k0 + 1) x4.toNat x3 → zWv E (d + 1) m_X4_remove 15 [vo k0, vo k1, vi x2, vi x3, vi (w32 (x4 + 1))] h4 Q)))))))) : zWv E (d + 1) m_X4_remove 15 [vo k0, vo k1, vi x2, vi x3, vi x4] h Q := by
  refine a_iload (pc := 15) dX4_remove_15 rfl ?_
  refine a_aload_n (pc := 17) dX4_remove_17 rfl ?_
  refine a_getI (pc := 18) dX4_remove_18 fl_X4_65 (goCity hk1) ?_
  refine a_icmp_ge (pc := 21) (tgt := 47) dX4_remove_21 (by decide) (fun c => ?_) (fun c => ?_)
  · have H := H.1 c
    exact a_return (pc := 47) dX4_remove_47 trivial ⟨rfl, rfl, H⟩
  · have H := H.2 c
    refine a_iload_n (pc := 24) dX4_remove_24 rfl ?_
    refine a_iload (pc := 25) dX4_remove_25 rfl ?_
    refine a_callSN (pc := 27) (kc := 0) (ks := 0) (kc' := 0) (ks' := 0) (st := []) [vi x2, vi x4] dX4_remove_27 ml_X4_40 rfl (Nat.le_of_ble_eq_true rfl) (Nat.le_of_ble_eq_true rfl) (z_post H (fun r G1 h1 q => ?_))
    obtain ⟨y2, rfl, rfl, H⟩ := q
    show zAt E (d + 1) 0 0 m_X4_remove 30 [vo k0, vo k1, vi x2, vi x3, vi x4] [vi y2] g0 h1 (zPv Q)
    refine a_if_eq (pc := 30) (tgt := 41) dX4_remove_30 (by decide) (fun c => ?_) (fun c => ?_)
    · have H := H.1 c
      refine a_iinc (pc := 41) (ls' := [vo k0, vo k1, vi x2, vi x3, vi (w32 (x4 + 1))]) dX4_remove_41 rfl rfl rfl ?_
      refine a_goto (pc := 44) (tgt := 15) dX4_remove_44 (by decide) ?_
      exact H
    · have H := H.2 c
      refine a_aload_n (pc := 33) dX4_remove_33 rfl ?_
      refine a_getF (pc := 34) dX4_remove_34 fl_X4_9 (goFate hk0) (gfFate_2 hk0) ?_
      refine a_iload (pc := 37) dX4_remove_37 rfl ?_
      refine a_iload_n (pc := 39) dX4_remove_39 rfl ?_
      obtain ⟨hb3, H⟩ := H
      refine a_iastore (pc := 40) dX4_remove_40 (gaFate_2 hk0) hb3 ?_
      have H := H _ rfl
      generalize stI h1 (k0 + 1) x4.toNat x3 = h4 at H ⊢
      refine a_iinc (pc := 41) (ls' := [vo k0, vo k1, vi x2, vi x3, vi (w32 (x4 + 1))]) dX4_remove_41 rfl rfl rfl ?_
      refine a_goto (pc := 44) (tgt := 15) dX4_remove_44 (by decide) ?_
      exact H
set_option maxRecDepth 20000 in
theorem v_X4_knownToAny {E : zE} {d : Nat} {h : zS} {Q : Int → zS → Prop} {k0 : Nat} {k1 : Nat} {x2 : Int} (hk0 : isCity k0) (hk1 : zArr g0 k1 0 12) (H : zWi E (d + 1) m_X4_knownToAny 5 [vo k0, vo k1, vi x2, vi 0, vi 0] h Q) : zCi E (d + 1) m_X4_knownToAny [vo k0, vo k1, vi x2] h Q := by
  show zAt E (d + 1) 0 0 m_X4_knownToAny 0 [vo k0, vo k1, vi x2, vn, vn] [] g0 h (zPi Q)
  refine a_iconst (pc := 0) dX4_knownToAny_0 (by decide) ?_
  refine a_istore_n (pc := 1) (ls' := [vo k0, vo k1, vi x2, vi 0, vn]) dX4_knownToAny_1 rfl rfl ?_
  refine a_iconst (pc := 2) dX4_knownToAny_2 (by decide) ?_
  refine a_istore (pc := 3) (ls' := [vo k0, vo k1, vi x2, vi 0, vi 0]) dX4_knownToAny_3 rfl rfl ?_
  exact H
set_option maxRecDepth 20000 in
theorem r_X4_knownToAny_5 {E : zE} {d : Nat} {h : zS} {Q : Int → zS → Prop} {k0 : Nat} {k1 : Nat} {x2 : Int} {x3 : Int} {x4 : Int} (hk0 : isCity k0) (hk1 : zArr g0 k1 0 12) (H : (((hI h k0 0) ≤ x4 → (Q x3 h)) ∧ (x4 < (hI h k0 0) → ((x2 = 0 → (Q x3 h)) ∧ (x2 ≠ 0 → (zCi E d m_X9_isIn [vi x2, vi x4] h (fun y2 h1 => ((y2 = 0 → (zWi E (d + 1) m_X4_knownToAny 5 [vo k0, vo k1, vi x2, vi x3, vi (w32 (x4 + 1))] h1 Q)) ∧ (y2 ≠ 0 → ((0 ≤ x4 ∧ x4 < 12) ∧ ∀ y4 : Int, y4 = z_or x3 (hI h1 k1 x4.toNat) → zWi E (d + 1) m_X4_knownToAny 5 [vo k0, vo k1, vi x2, vi y4, vi (w32 (x4 + 1))] h1 Q)))))))))) : zWi E (d + 1) m_X4_knownToAny 5 [vo k0, vo k1, vi x2, vi x3, vi x4] h Q := by
  refine a_iload (pc := 5) dX4_knownToAny_5 rfl ?_
  refine a_aload_n (pc := 7) dX4_knownToAny_7 rfl ?_
  refine a_getI (pc := 8) dX4_knownToAny_8 fl_X4_65 (goCity hk0) ?_
  refine a_icmp_ge (pc := 11) (tgt := 40) dX4_knownToAny_11 (by decide) (fun c => ?_) (fun c => ?_)
  · have H := H.1 c
    refine a_iload_n (pc := 40) dX4_knownToAny_40 rfl ?_
    exact a_ireturn (pc := 41) dX4_knownToAny_41 trivial ⟨_, rfl, rfl, H⟩
  · have H := H.2 c
    refine a_iload_n (pc := 14) dX4_knownToAny_14 rfl ?_
    refine a_if_eq (pc := 15) (tgt := 40) dX4_knownToAny_15 (by decide) (fun c => ?_) (fun c => ?_)
    · have H := H.1 c
      refine a_iload_n (pc := 40) dX4_knownToAny_40 rfl ?_
      exact a_ireturn (pc := 41) dX4_knownToAny_41 trivial ⟨_, rfl, rfl, H⟩
    · have H := H.2 c
      refine a_iload_n (pc := 18) dX4_knownToAny_18 rfl ?_
      refine a_iload (pc := 19) dX4_knownToAny_19 rfl ?_
      refine a_callSN (pc := 21) (kc := 0) (ks := 0) (kc' := 0) (ks' := 0) (st := []) [vi x2, vi x4] dX4_knownToAny_21 ml_X4_40 rfl (Nat.le_of_ble_eq_true rfl) (Nat.le_of_ble_eq_true rfl) (z_post H (fun r G1 h1 q => ?_))
      obtain ⟨y2, rfl, rfl, H⟩ := q
      show zAt E (d + 1) 0 0 m_X4_knownToAny 24 [vo k0, vo k1, vi x2, vi x3, vi x4] [vi y2] g0 h1 (zPi Q)
      refine a_if_eq (pc := 24) (tgt := 34) dX4_knownToAny_24 (by decide) (fun c => ?_) (fun c => ?_)
      · have H := H.1 c
        refine a_iinc (pc := 34) (ls' := [vo k0, vo k1, vi x2, vi x3, vi (w32 (x4 + 1))]) dX4_knownToAny_34 rfl rfl rfl ?_
        refine a_goto (pc := 37) (tgt := 5) dX4_knownToAny_37 (by decide) ?_
        exact H
      · have H := H.2 c
        refine a_iload_n (pc := 27) dX4_knownToAny_27 rfl ?_
        refine a_aload_n (pc := 28) dX4_knownToAny_28 rfl ?_
        refine a_iload (pc := 29) dX4_knownToAny_29 rfl ?_
        obtain ⟨hb3, H⟩ := H
        refine a_iaload (pc := 31) dX4_knownToAny_31 (hk1) hb3 ?_
        refine a_ior (pc := 32) dX4_knownToAny_32 ?_
        have H := H _ rfl
        generalize (z_or x3 (hI h1 k1 x4.toNat) : Int) = y4 at H ⊢
        refine a_istore_n (pc := 33) (ls' := [vo k0, vo k1, vi x2, vi y4, vi x4]) dX4_knownToAny_33 rfl rfl ?_
        refine a_iinc (pc := 34) (ls' := [vo k0, vo k1, vi x2, vi y4, vi (w32 (x4 + 1))]) dX4_knownToAny_34 rfl rfl rfl ?_
        refine a_goto (pc := 37) (tgt := 5) dX4_knownToAny_37 (by decide) ?_
        exact H
set_option maxRecDepth 20000 in
theorem v_X3_reckon {E : zE} {d : Nat} {h : zS} {Q : zS → Prop} {k1 : Nat} (hk1 : isCity k1) (H : zCv E d m_J7_fill_53178 [vo 25, vi (-1)] h (fun h1 => zCv E d m_J7_fill_53178 [vo 26, vi (-1)] h1 (fun h2 => zCv E d m_J7_fill_53178 [vo 27, vi 0] h2 (fun h3 => zWv E (d + 1) m_X3_reckon 26 [vo 24, vo k1, vi 0] h3 Q)))) : zCv E (d + 1) m_X3_reckon [vo 24, vo k1] h Q := by
  show zAt E (d + 1) 0 0 m_X3_reckon 0 [vo 24, vo k1, vn] [] g0 h (zPv Q)
  refine a_aload_n (pc := 0) dX3_reckon_0 rfl ?_
  refine a_getF (pc := 1) dX3_reckon_1 fl_X3_9 (go_24) (gf_24_0) ?_
  refine a_iconst (pc := 4) dX3_reckon_4 (by decide) ?_
  refine a_callS (pc := 5) (kc := 0) (ks := 0) (kc' := 0) (ks' := 0) (st := []) [vo 25, vi (-1)] dX3_reckon_5 ml_X3_28 rfl (Nat.le_of_ble_eq_true rfl) (Nat.le_of_ble_eq_true rfl) (z_post H (fun r G1 h1 q => ?_))
  obtain ⟨rfl, rfl, H⟩ := q
  show zAt E (d + 1) 0 0 m_X3_reckon 8 [vo 24, vo k1, vn] [] g0 h1 (zPv Q)
  refine a_aload_n (pc := 8) dX3_reckon_8 rfl ?_
  refine a_getF (pc := 9) dX3_reckon_9 fl_X3_15 (go_24) (gf_24_1) ?_
  refine a_iconst (pc := 12) dX3_reckon_12 (by decide) ?_
  refine a_callS (pc := 13) (kc := 0) (ks := 0) (kc' := 0) (ks' := 0) (st := []) [vo 26, vi (-1)] dX3_reckon_13 ml_X3_28 rfl (Nat.le_of_ble_eq_true rfl) (Nat.le_of_ble_eq_true rfl) (z_post H (fun r G1 h2 q => ?_))
  obtain ⟨rfl, rfl, H⟩ := q
  show zAt E (d + 1) 0 0 m_X3_reckon 16 [vo 24, vo k1, vn] [] g0 h2 (zPv Q)
  refine a_aload_n (pc := 16) dX3_reckon_16 rfl ?_
  refine a_getF (pc := 17) dX3_reckon_17 fl_X3_18 (go_24) (gf_24_2) ?_
  refine a_iconst (pc := 20) dX3_reckon_20 (by decide) ?_
  refine a_callS (pc := 21) (kc := 0) (ks := 0) (kc' := 0) (ks' := 0) (st := []) [vo 27, vi 0] dX3_reckon_21 ml_X3_28 rfl (Nat.le_of_ble_eq_true rfl) (Nat.le_of_ble_eq_true rfl) (z_post H (fun r G1 h3 q => ?_))
  obtain ⟨rfl, rfl, H⟩ := q
  show zAt E (d + 1) 0 0 m_X3_reckon 24 [vo 24, vo k1, vn] [] g0 h3 (zPv Q)
  refine a_iconst (pc := 24) dX3_reckon_24 (by decide) ?_
  refine a_istore_n (pc := 25) (ls' := [vo 24, vo k1, vi 0]) dX3_reckon_25 rfl rfl ?_
  exact H
set_option maxRecDepth 20000 in
theorem r_X3_reckon_26 {E : zE} {d : Nat} {h : zS} {Q : zS → Prop} {k1 : Nat} {x2 : Int} (hk1 : isCity k1) (H : (((hI h k1 0) ≤ x2 → (Q h)) ∧ (x2 < (hI h k1 0) → (zCi E d m_X0_isBox [vo k1, vi x2] h (fun y2 h1 => ((y2 ≠ 0 → (zWv E (d + 1) m_X3_reckon 26 [vo 24, vo k1, vi (w32 (x2 + 1))] h1 Q)) ∧ (y2 = 0 → (zCv E d m_X3_reckonOne [vo 24, vo k1, vi x2] h1 (fun h3 => zWv E (d + 1) m_X3_reckon 26 [vo 24, vo k1, vi (w32 (x2 + 1))] h3 Q))))))))) : zWv E (d + 1) m_X3_reckon 26 [vo 24, vo k1, vi x2] h Q := by
  refine a_iload_n (pc := 26) dX3_reckon_26 rfl ?_
  refine a_aload_n (pc := 27) dX3_reckon_27 rfl ?_
  refine a_getI (pc := 28) dX3_reckon_28 fl_X3_34 (goCity hk1) ?_
  refine a_icmp_ge (pc := 31) (tgt := 54) dX3_reckon_31 (by decide) (fun c => ?_) (fun c => ?_)
  · have H := H.1 c
    exact a_return (pc := 54) dX3_reckon_54 trivial ⟨rfl, rfl, H⟩
  · have H := H.2 c
    refine a_aload_n (pc := 34) dX3_reckon_34 rfl ?_
    refine a_iload_n (pc := 35) dX3_reckon_35 rfl ?_
    refine a_callV (pc := 36) (kc := 0) (ks := 0) (kc' := 0) (ks' := 0) (st := []) [vi x2] dX3_reckon_36 ml_X3_40 (goCity hk1) rfl (Nat.le_of_ble_eq_true rfl) (Nat.le_of_ble_eq_true rfl) (z_post H (fun r G1 h1 q => ?_))
    obtain ⟨y2, rfl, rfl, H⟩ := q
    show zAt E (d + 1) 0 0 m_X3_reckon 39 [vo 24, vo k1, vi x2] [vi y2] g0 h1 (zPv Q)
    refine a_if_ne (pc := 39) (tgt := 48) dX3_reckon_39 (by decide) (fun c => ?_) (fun c => ?_)
    · have H := H.1 c
      refine a_iinc (pc := 48) (ls' := [vo 24, vo k1, vi (w32 (x2 + 1))]) dX3_reckon_48 rfl rfl rfl ?_
      refine a_goto (pc := 51) (tgt := 26) dX3_reckon_51 (by decide) ?_
      exact H
    · have H := H.2 c
      refine a_aload_n (pc := 42) dX3_reckon_42 rfl ?_
      refine a_aload_n (pc := 43) dX3_reckon_43 rfl ?_
      refine a_iload_n (pc := 44) dX3_reckon_44 rfl ?_
      refine a_callV (pc := 45) (kc := 0) (ks := 0) (kc' := 0) (ks' := 0) (st := []) [vo k1, vi x2] dX3_reckon_45 ml_X3_44 (go_24) rfl (Nat.le_of_ble_eq_true rfl) (Nat.le_of_ble_eq_true rfl) (z_post H (fun r G1 h3 q => ?_))
      obtain ⟨rfl, rfl, H⟩ := q
      show zAt E (d + 1) 0 0 m_X3_reckon 48 [vo 24, vo k1, vi x2] [] g0 h3 (zPv Q)
      refine a_iinc (pc := 48) (ls' := [vo 24, vo k1, vi (w32 (x2 + 1))]) dX3_reckon_48 rfl rfl rfl ?_
      refine a_goto (pc := 51) (tgt := 26) dX3_reckon_51 (by decide) ?_
      exact H
set_option maxRecDepth 20000 in
theorem v_X3_reckonOne {E : zE} {d : Nat} {h : zS} {Q : zS → Prop} {k1 : Nat} {x2 : Int} (hk1 : isCity k1) (H : zCv E d m_X4_clear [vo 28, vo k1] h (fun h1 => zCi E d m_X4_seize [vo 28, vo k1, vo (k1 + 9), vi (z_shl 1 x2), vi 0] h1 (fun y3 h2 => zWv E (d + 1) m_X3_reckonOne 30 [vo 24, vo k1, vi x2, vi 0, vi 1, vn] h2 Q))) : zCv E (d + 1) m_X3_reckonOne [vo 24, vo k1, vi x2] h Q := by
  show zAt E (d + 1) 0 0 m_X3_reckonOne 0 [vo 24, vo k1, vi x2, vn, vn, vn] [] g0 h (zPv Q)
  refine a_aload_n (pc := 0) dX3_reckonOne_0 rfl ?_
  refine a_getF (pc := 1) dX3_reckonOne_1 fl_X3_24 (go_24) (gf_24_3) ?_
  refine a_aload_n (pc := 4) dX3_reckonOne_4 rfl ?_
  refine a_callV (pc := 5) (kc := 0) (ks := 0) (kc' := 0) (ks' := 0) (st := []) [vo k1] dX3_reckonOne_5 ml_X3_48 (goFate isFate_28) rfl (Nat.le_of_ble_eq_true rfl) (Nat.le_of_ble_eq_true rfl) (z_post H (fun r G1 h1 q => ?_))
  obtain ⟨rfl, rfl, H⟩ := q
  show zAt E (d + 1) 0 0 m_X3_reckonOne 8 [vo 24, vo k1, vi x2, vn, vn, vn] [] g0 h1 (zPv Q)
  refine a_aload_n (pc := 8) dX3_reckonOne_8 rfl ?_
  refine a_getF (pc := 9) dX3_reckonOne_9 fl_X3_24 (go_24) (gf_24_3) ?_
  refine a_aload_n (pc := 12) dX3_reckonOne_12 rfl ?_
  refine a_aload_n (pc := 13) dX3_reckonOne_13 rfl ?_
  refine a_getG (pc := 14) dX3_reckonOne_14 fl_X3_52 rfl (goCity hk1) (gfCity_13 hk1) ?_
  refine a_iconst (pc := 17) dX3_reckonOne_17 (by decide) ?_
  refine a_iload_n (pc := 18) dX3_reckonOne_18 rfl ?_
  refine a_ishl (pc := 19) dX3_reckonOne_19 ?_
  refine a_iconst (pc := 20) dX3_reckonOne_20 (by decide) ?_
  refine a_callV (pc := 21) (kc := 0) (ks := 0) (kc' := 0) (ks' := 0) (st := []) [vo k1, vo (k1 + 9), vi (z_shl 1 x2), vi 0] dX3_reckonOne_21 ml_X3_55 (goFate isFate_28) rfl (Nat.le_of_ble_eq_true rfl) (Nat.le_of_ble_eq_true rfl) (z_post H (fun r G1 h2 q => ?_))
  obtain ⟨y3, rfl, rfl, H⟩ := q
  show zAt E (d + 1) 0 0 m_X3_reckonOne 24 [vo 24, vo k1, vi x2, vn, vn, vn] [vi y3] g0 h2 (zPv Q)
  refine a_pop (pc := 24) dX3_reckonOne_24 rfl ?_
  refine a_iconst (pc := 25) dX3_reckonOne_25 (by decide) ?_
  refine a_istore_n (pc := 26) (ls' := [vo 24, vo k1, vi x2, vi 0, vn, vn]) dX3_reckonOne_26 rfl rfl ?_
  refine a_iconst (pc := 27) dX3_reckonOne_27 (by decide) ?_
  refine a_istore (pc := 28) (ls' := [vo 24, vo k1, vi x2, vi 0, vi 1, vn]) dX3_reckonOne_28 rfl rfl ?_
  exact H
set_option maxRecDepth 20000 in
theorem r_X3_reckonOne_30 {E : zE} {d : Nat} {h : zS} {Q : zS → Prop} {k1 : Nat} {x2 : Int} {x3 : Int} {x4 : Int} (hk1 : isCity k1) (H : ((120 < x4 → (zCi E d m_J6_bitCount_0f7a4 [vi (hI h 28 1)] h (fun y2 h1 => (0 ≤ x2 ∧ x2 < 12) ∧ ∀ h4, h4 = stI h1 27 x2.toNat y2 → zWv E (d + 1) m_X3_reckonOne 127 [vo 24, vo k1, vi x2, vn, vi 0, vn] h4 Q))) ∧ (x4 ≤ 120 → (((w32 (x3 + 10)) < x4 → (zCi E d m_J6_bitCount_0f7a4 [vi (hI h 28 1)] h (fun y6 h5 => (0 ≤ x2 ∧ x2 < 12) ∧ ∀ h8, h8 = stI h5 27 x2.toNat y6 → zWv E (d + 1) m_X3_reckonOne 127 [vo 24, vo k1, vi x2, vn, vi 0, vn] h8 Q))) ∧ (x4 ≤ (w32 (x3 + 10)) → (zCv E d m_X4_tellOn [vo 28, vo k1, vo (k1 + 9), vi x4] h (fun h9 => zCv E d m_X4_fleeOn [vo 28, vo k1, vo (k1 + 9), vi x4] h9 (fun h10 => (∀ y12 : Int, y12 = (if (hI h10 28 1) ≠ (hI h 28 1) then x4 else x3) → zWv E (d + 1) m_X3_reckonOne 30 [vo 24, vo k1, vi x2, vi y12, vi (w32 (x4 + 1)), vn] h10 Q))))))))) : zWv E (d + 1) m_X3_reckonOne 30 [vo 24, vo k1, vi x2, vi x3, vi x4, vn] h Q := by
  refine a_iload (pc := 30) dX3_reckonOne_30 rfl ?_
  refine a_bipush (pc := 32) dX3_reckonOne_32 (by decide) ?_
  refine a_icmp_gt (pc := 34) (tgt := 108) dX3_reckonOne_34 (by decide) (fun c => ?_) (fun c => ?_)
  · have H := H.1 c
    refine a_aload_n (pc := 108) dX3_reckonOne_108 rfl ?_
    refine a_getF (pc := 109) dX3_reckonOne_109 fl_X3_18 (go_24) (gf_24_2) ?_
    refine a_iload_n (pc := 112) dX3_reckonOne_112 rfl ?_
    refine a_aload_n (pc := 113) dX3_reckonOne_113 rfl ?_
    refine a_getF (pc := 114) dX3_reckonOne_114 fl_X3_24 (go_24) (gf_24_3) ?_
    refine a_getI (pc := 117) dX3_reckonOne_117 fl_X3_59 (goFate isFate_28) ?_
    refine a_callS (pc := 120) (kc := 0) (ks := 0) (kc' := 0) (ks' := 0) (st := [vi x2, vo 27]) [vi (hI h 28 1)] dX3_reckonOne_120 ml_X3_69 rfl (Nat.le_of_ble_eq_true rfl) (Nat.le_of_ble_eq_true rfl) (z_post H (fun r G1 h1 q => ?_))
    obtain ⟨y2, rfl, rfl, H⟩ := q
    show zAt E (d + 1) 0 0 m_X3_reckonOne 123 [vo 24, vo k1, vi x2, vi x3, vi x4, vn] [vi y2, vi x2, vo 27] g0 h1 (zPv Q)
    obtain ⟨hb3, H⟩ := H
    refine a_iastore (pc := 123) dX3_reckonOne_123 (ga_27) hb3 ?_
    have H := H _ rfl
    generalize stI h1 27 x2.toNat y2 = h4 at H ⊢
    refine a_iconst (pc := 124) dX3_reckonOne_124 (by decide) ?_
    refine a_istore (pc := 125) (ls' := [vo 24, vo k1, vi x2, vi x3, vi 0, vn]) dX3_reckonOne_125 rfl rfl ?_
    exact z_forget (ls' := [vo 24, vo k1, vi x2, vn, vi 0, vn]) ⟨.inr rfl, .inr rfl, .inr rfl, .inl rfl, .inr rfl, .inr rfl, trivial⟩ H
  · have H := H.2 c
    refine a_iload (pc := 37) dX3_reckonOne_37 rfl ?_
    refine a_iload_n (pc := 39) dX3_reckonOne_39 rfl ?_
    refine a_bipush (pc := 40) dX3_reckonOne_40 (by decide) ?_
    refine a_iadd (pc := 42) dX3_reckonOne_42 ?_
    refine a_icmp_gt (pc := 43) (tgt := 108) dX3_reckonOne_43 (by decide) (fun c => ?_) (fun c => ?_)
    · have H := H.1 c
      refine a_aload_n (pc := 108) dX3_reckonOne_108 rfl ?_
      refine a_getF (pc := 109) dX3_reckonOne_109 fl_X3_18 (go_24) (gf_24_2) ?_
      refine a_iload_n (pc := 112) dX3_reckonOne_112 rfl ?_
      refine a_aload_n (pc := 113) dX3_reckonOne_113 rfl ?_
      refine a_getF (pc := 114) dX3_reckonOne_114 fl_X3_24 (go_24) (gf_24_3) ?_
      refine a_getI (pc := 117) dX3_reckonOne_117 fl_X3_59 (goFate isFate_28) ?_
      refine a_callS (pc := 120) (kc := 0) (ks := 0) (kc' := 0) (ks' := 0) (st := [vi x2, vo 27]) [vi (hI h 28 1)] dX3_reckonOne_120 ml_X3_69 rfl (Nat.le_of_ble_eq_true rfl) (Nat.le_of_ble_eq_true rfl) (z_post H (fun r G1 h5 q => ?_))
      obtain ⟨y6, rfl, rfl, H⟩ := q
      show zAt E (d + 1) 0 0 m_X3_reckonOne 123 [vo 24, vo k1, vi x2, vi x3, vi x4, vn] [vi y6, vi x2, vo 27] g0 h5 (zPv Q)
      obtain ⟨hb7, H⟩ := H
      refine a_iastore (pc := 123) dX3_reckonOne_123 (ga_27) hb7 ?_
      have H := H _ rfl
      generalize stI h5 27 x2.toNat y6 = h8 at H ⊢
      refine a_iconst (pc := 124) dX3_reckonOne_124 (by decide) ?_
      refine a_istore (pc := 125) (ls' := [vo 24, vo k1, vi x2, vi x3, vi 0, vn]) dX3_reckonOne_125 rfl rfl ?_
      exact z_forget (ls' := [vo 24, vo k1, vi x2, vn, vi 0, vn]) ⟨.inr rfl, .inr rfl, .inr rfl, .inl rfl, .inr rfl, .inr rfl, trivial⟩ H
    · have H := H.2 c
      refine a_aload_n (pc := 46) dX3_reckonOne_46 rfl ?_
      refine a_getF (pc := 47) dX3_reckonOne_47 fl_X3_24 (go_24) (gf_24_3) ?_
      refine a_getI (pc := 50) dX3_reckonOne_50 fl_X3_59 (goFate isFate_28) ?_
      refine a_istore (pc := 53) (ls' := [vo 24, vo k1, vi x2, vi x3, vi x4, vi (hI h 28 1)]) dX3_reckonOne_53 rfl rfl ?_
      refine a_aload_n (pc := 55) dX3_reckonOne_55 rfl ?_
      refine a_getF (pc := 56) dX3_reckonOne_56 fl_X3_24 (go_24) (gf_24_3) ?_
      refine a_aload_n (pc := 59) dX3_reckonOne_59 rfl ?_
      refine a_aload_n (pc := 60) dX3_reckonOne_60 rfl ?_
      refine a_getG (pc := 61) dX3_reckonOne_61 fl_X3_52 rfl (goCity hk1) (gfCity_13 hk1) ?_
      refine a_iload (pc := 64) dX3_reckonOne_64 rfl ?_
      refine a_callV (pc := 66) (kc := 0) (ks := 0) (kc' := 0) (ks' := 0) (st := []) [vo k1, vo (k1 + 9), vi x4] dX3_reckonOne_66 ml_X3_62 (goFate isFate_28) rfl (Nat.le_of_ble_eq_true rfl) (Nat.le_of_ble_eq_true rfl) (z_post H (fun r G1 h9 q => ?_))
      obtain ⟨rfl, rfl, H⟩ := q
      show zAt E (d + 1) 0 0 m_X3_reckonOne 69 [vo 24, vo k1, vi x2, vi x3, vi x4, vi (hI h 28 1)] [] g0 h9 (zPv Q)
      refine a_aload_n (pc := 69) dX3_reckonOne_69 rfl ?_
      refine a_getF (pc := 70) dX3_reckonOne_70 fl_X3_24 (go_24) (gf_24_3) ?_
      refine a_aload_n (pc := 73) dX3_reckonOne_73 rfl ?_
      refine a_aload_n (pc := 74) dX3_reckonOne_74 rfl ?_
      refine a_getG (pc := 75) dX3_reckonOne_75 fl_X3_52 rfl (goCity hk1) (gfCity_13 hk1) ?_
      refine a_iload (pc := 78) dX3_reckonOne_78 rfl ?_
      refine a_callV (pc := 80) (kc := 0) (ks := 0) (kc' := 0) (ks' := 0) (st := []) [vo k1, vo (k1 + 9), vi x4] dX3_reckonOne_80 ml_X3_66 (goFate isFate_28) rfl (Nat.le_of_ble_eq_true rfl) (Nat.le_of_ble_eq_true rfl) (z_post H (fun r G1 h10 q => ?_))
      obtain ⟨rfl, rfl, H⟩ := q
      show zAt E (d + 1) 0 0 m_X3_reckonOne 83 [vo 24, vo k1, vi x2, vi x3, vi x4, vi (hI h 28 1)] [] g0 h10 (zPv Q)
      refine a_aload_n (pc := 83) dX3_reckonOne_83 rfl ?_
      refine a_getF (pc := 84) dX3_reckonOne_84 fl_X3_24 (go_24) (gf_24_3) ?_
      refine a_getI (pc := 87) dX3_reckonOne_87 fl_X3_59 (goFate isFate_28) ?_
      refine a_iload (pc := 90) dX3_reckonOne_90 rfl ?_
      have J : zAt E (d + 1) 0 0 m_X3_reckonOne 101 [vo 24, vo k1, vi x2, vi x3, vi x4, vi (hI h 28 1)] [vi (if (hI h10 28 1) ≠ (hI h 28 1) then x4 else x3)] g0 h10 (zPv Q) := by
        have H := H _ rfl
        generalize ((if (hI h10 28 1) ≠ (hI h 28 1) then x4 else x3) : Int) = y12 at H ⊢
        refine a_istore_n (pc := 101) (ls' := [vo 24, vo k1, vi x2, vi y12, vi x4, vi (hI h 28 1)]) dX3_reckonOne_101 rfl rfl ?_
        refine a_iinc (pc := 102) (ls' := [vo 24, vo k1, vi x2, vi y12, vi (w32 (x4 + 1)), vi (hI h 28 1)]) dX3_reckonOne_102 rfl rfl rfl ?_
        refine a_goto (pc := 105) (tgt := 30) dX3_reckonOne_105 (by decide) ?_
        exact z_forget (ls' := [vo 24, vo k1, vi x2, vi y12, vi (w32 (x4 + 1)), vn]) ⟨.inr rfl, .inr rfl, .inr rfl, .inr rfl, .inr rfl, .inl rfl, trivial⟩ H
      refine a_icmp_ne (pc := 92) (tgt := 99) dX3_reckonOne_92 (by decide) (fun c11 => ?_) (fun c11 => ?_)
      · skip
        refine a_iload (pc := 99) dX3_reckonOne_99 rfl ?_
        exact (z_mergeT c11 J)
      · skip
        refine a_iload_n (pc := 95) dX3_reckonOne_95 rfl ?_
        refine a_goto (pc := 96) (tgt := 101) dX3_reckonOne_96 (by decide) ?_
        exact (z_mergeF (fun n => n c11) J)
set_option maxRecDepth 20000 in
theorem r_X3_reckonOne_127 {E : zE} {d : Nat} {h : zS} {Q : zS → Prop} {k1 : Nat} {x2 : Int} {x4 : Int} (hk1 : isCity k1) (H : (((hI h k1 0) ≤ x4 → (Q h)) ∧ (x4 < (hI h k1 0) → (zCi E d m_X4_stateOf [vo 28, vi x4] h (fun y2 h1 => zCi E d m_X9_pair [vi x2, vi x4] h1 (fun y4 h3 => ((y2 = 1 → (0 ≤ x4 ∧ x4 < 12))) ∧ ((0 ≤ y4 ∧ y4 < 144) ∧ ∀ h7, h7 = stI h3 25 y4.toNat (if y2 ≠ 1 then (-1) else (hI h3 29 x4.toNat)) → zCi E d m_X9_pair [vi x2, vi x4] h7 (fun y9 h8 => ((y2 = 2 → (0 ≤ x4 ∧ x4 < 12))) ∧ ((0 ≤ y9 ∧ y9 < 144) ∧ ∀ h12, h12 = stI h8 26 y9.toNat (if y2 ≠ 2 then (-1) else (hI h8 29 x4.toNat)) → zWv E (d + 1) m_X3_reckonOne 127 [vo 24, vo k1, vi x2, vn, vi (w32 (x4 + 1)), vn] h12 Q))))))))) : zWv E (d + 1) m_X3_reckonOne 127 [vo 24, vo k1, vi x2, vn, vi x4, vn] h Q := by
  refine a_iload (pc := 127) dX3_reckonOne_127 rfl ?_
  refine a_aload_n (pc := 129) dX3_reckonOne_129 rfl ?_
  refine a_getI (pc := 130) dX3_reckonOne_130 fl_X3_34 (goCity hk1) ?_
  refine a_icmp_ge (pc := 133) (tgt := 215) dX3_reckonOne_133 (by decide) (fun c => ?_) (fun c => ?_)
  · have H := H.1 c
    exact a_return (pc := 215) dX3_reckonOne_215 trivial ⟨rfl, rfl, H⟩
  · have H := H.2 c
    refine a_aload_n (pc := 136) dX3_reckonOne_136 rfl ?_
    refine a_getF (pc := 137) dX3_reckonOne_137 fl_X3_24 (go_24) (gf_24_3) ?_
    refine a_iload (pc := 140) dX3_reckonOne_140 rfl ?_
    refine a_callV (pc := 142) (kc := 0) (ks := 0) (kc' := 0) (ks' := 0) (st := []) [vi x4] dX3_reckonOne_142 ml_X3_75 (goFate isFate_28) rfl (Nat.le_of_ble_eq_true rfl) (Nat.le_of_ble_eq_true rfl) (z_post H (fun r G1 h1 q => ?_))
    obtain ⟨y2, rfl, rfl, H⟩ := q
    show zAt E (d + 1) 0 0 m_X3_reckonOne 145 [vo 24, vo k1, vi x2, vn, vi x4, vn] [vi y2] g0 h1 (zPv Q)
    refine a_istore (pc := 145) (ls' := [vo 24, vo k1, vi x2, vn, vi x4, vi y2]) dX3_reckonOne_145 rfl rfl ?_
    refine a_aload_n (pc := 147) dX3_reckonOne_147 rfl ?_
    refine a_getF (pc := 148) dX3_reckonOne_148 fl_X3_9 (go_24) (gf_24_0) ?_
    refine a_iload_n (pc := 151) dX3_reckonOne_151 rfl ?_
    refine a_iload (pc := 152) dX3_reckonOne_152 rfl ?_
    refine a_callSN (pc := 154) (kc := 0) (ks := 0) (kc' := 0) (ks' := 0) (st := [vo 25]) [vi x2, vi x4] dX3_reckonOne_154 ml_X3_78 rfl (Nat.le_of_ble_eq_true rfl) (Nat.le_of_ble_eq_true rfl) (z_post H (fun r G1 h3 q => ?_))
    obtain ⟨y4, rfl, rfl, H⟩ := q
    show zAt E (d + 1) 0 0 m_X3_reckonOne 157 [vo 24, vo k1, vi x2, vn, vi x4, vi y2] [vi y4, vo 25] g0 h3 (zPv Q)
    refine a_iload (pc := 157) dX3_reckonOne_157 rfl ?_
    refine a_iconst (pc := 159) dX3_reckonOne_159 (by decide) ?_
    obtain ⟨HS, H⟩ := H
    have J : zAt E (d + 1) 0 0 m_X3_reckonOne 177 [vo 24, vo k1, vi x2, vn, vi x4, vi y2] [vi (if y2 ≠ 1 then (-1) else (hI h3 29 x4.toNat)), vi y4, vo 25] g0 h3 (zPv Q) := by
      obtain ⟨hb6, H⟩ := H
      refine a_iastore (pc := 177) dX3_reckonOne_177 (ga_25) hb6 ?_
      have H := H _ rfl
      generalize stI h3 25 y4.toNat (if y2 ≠ 1 then (-1) else (hI h3 29 x4.toNat)) = h7 at H ⊢
      refine a_aload_n (pc := 178) dX3_reckonOne_178 rfl ?_
      refine a_getF (pc := 179) dX3_reckonOne_179 fl_X3_15 (go_24) (gf_24_1) ?_
      refine a_iload_n (pc := 182) dX3_reckonOne_182 rfl ?_
      refine a_iload (pc := 183) dX3_reckonOne_183 rfl ?_
      refine a_callSN (pc := 185) (kc := 0) (ks := 0) (kc' := 0) (ks' := 0) (st := [vo 26]) [vi x2, vi x4] dX3_reckonOne_185 ml_X3_78 rfl (Nat.le_of_ble_eq_true rfl) (Nat.le_of_ble_eq_true rfl) (z_post H (fun r G1 h8 q => ?_))
      obtain ⟨y9, rfl, rfl, H⟩ := q
      show zAt E (d + 1) 0 0 m_X3_reckonOne 188 [vo 24, vo k1, vi x2, vn, vi x4, vi y2] [vi y9, vo 26] g0 h8 (zPv Q)
      refine a_iload (pc := 188) dX3_reckonOne_188 rfl ?_
      refine a_iconst (pc := 190) dX3_reckonOne_190 (by decide) ?_
      obtain ⟨HS, H⟩ := H
      have J : zAt E (d + 1) 0 0 m_X3_reckonOne 208 [vo 24, vo k1, vi x2, vn, vi x4, vi y2] [vi (if y2 ≠ 2 then (-1) else (hI h8 29 x4.toNat)), vi y9, vo 26] g0 h8 (zPv Q) := by
        obtain ⟨hb11, H⟩ := H
        refine a_iastore (pc := 208) dX3_reckonOne_208 (ga_26) hb11 ?_
        have H := H _ rfl
        generalize stI h8 26 y9.toNat (if y2 ≠ 2 then (-1) else (hI h8 29 x4.toNat)) = h12 at H ⊢
        refine a_iinc (pc := 209) (ls' := [vo 24, vo k1, vi x2, vn, vi (w32 (x4 + 1)), vi y2]) dX3_reckonOne_209 rfl rfl rfl ?_
        refine a_goto (pc := 212) (tgt := 127) dX3_reckonOne_212 (by decide) ?_
        exact z_forget (ls' := [vo 24, vo k1, vi x2, vn, vi (w32 (x4 + 1)), vn]) ⟨.inr rfl, .inr rfl, .inr rfl, .inr rfl, .inr rfl, .inl rfl, trivial⟩ H
      refine a_icmp_ne (pc := 191) (tgt := 207) dX3_reckonOne_191 (by decide) (fun c10 => ?_) (fun c10 => ?_)
      · skip
        refine a_iconst (pc := 207) dX3_reckonOne_207 (by decide) ?_
        exact (z_mergeT c10 J)
      · have HS := HS c10
        refine a_aload_n (pc := 194) dX3_reckonOne_194 rfl ?_
        refine a_getF (pc := 195) dX3_reckonOne_195 fl_X3_24 (go_24) (gf_24_3) ?_
        refine a_getG (pc := 198) dX3_reckonOne_198 fl_X3_82 rfl (goFate isFate_28) (gfFate_2 isFate_28) ?_
        refine a_iload (pc := 201) dX3_reckonOne_201 rfl ?_
        have HB0 := HS
        refine a_iaload (pc := 203) dX3_reckonOne_203 (gaFate_2 isFate_28) HB0 ?_
        refine a_goto (pc := 204) (tgt := 208) dX3_reckonOne_204 (by decide) ?_
        exact (z_mergeF (fun n => n c10) J)
    refine a_icmp_ne (pc := 160) (tgt := 176) dX3_reckonOne_160 (by decide) (fun c5 => ?_) (fun c5 => ?_)
    · skip
      refine a_iconst (pc := 176) dX3_reckonOne_176 (by decide) ?_
      exact (z_mergeT c5 J)
    · have HS := HS c5
      refine a_aload_n (pc := 163) dX3_reckonOne_163 rfl ?_
      refine a_getF (pc := 164) dX3_reckonOne_164 fl_X3_24 (go_24) (gf_24_3) ?_
      refine a_getG (pc := 167) dX3_reckonOne_167 fl_X3_82 rfl (goFate isFate_28) (gfFate_2 isFate_28) ?_
      refine a_iload (pc := 170) dX3_reckonOne_170 rfl ?_
      have HB0 := HS
      refine a_iaload (pc := 172) dX3_reckonOne_172 (gaFate_2 isFate_28) HB0 ?_
      refine a_goto (pc := 173) (tgt := 177) dX3_reckonOne_173 (by decide) ?_
      exact (z_mergeF (fun n => n c5) J)
set_option maxRecDepth 20000 in
theorem v_X2_forget {E : zE} {d : Nat} {h : zS} {Q : zS → Prop}   (H : ∀ h1, h1 = stI h 83 1 0 → Q h1) : zCv E d m_X2_forget [vo 83] h Q := by
  show zAt E d 0 0 m_X2_forget 0 [vo 83] [] g0 h (zPv Q)
  refine a_aload_n (pc := 0) dX2_forget_0 rfl ?_
  refine a_iconst (pc := 1) dX2_forget_1 (by decide) ?_
  refine a_putI (pc := 2) dX2_forget_2 fl_X2_27 (go_83) ?_
  have H := H _ rfl
  generalize stI h 83 1 0 = h1 at H ⊢
  exact a_return (pc := 5) dX2_forget_5 trivial ⟨rfl, rfl, H⟩
set_option maxRecDepth 20000 in
theorem v_X2_tell {E : zE} {d : Nat} {h : zS} {Q : Int → zS → Prop} {x1 : Int} {x2 : Int} {x3 : Int}  (H : ((x3 < 0 → (Q (-1) h)) ∧ (0 ≤ x3 → ((99 < x3 → (Q (-1) h)) ∧ (x3 ≤ 99 → (((hI h 83 1) < 40 → (∀ h1, h1 = stI h 83 1 (w32 ((hI h 83 1) + 1)) → (0 ≤ hI h 83 1 ∧ hI h 83 1 < 40) ∧ ∀ h3, h3 = stI h1 84 (hI h 83 1).toNat x1 → ∀ h4, h4 = stI h3 85 (hI h 83 1).toNat x2 → ∀ h5, h5 = stI h4 86 (hI h 83 1).toNat x3 → ∀ h6, h6 = stI h5 87 (hI h 83 1).toNat (hI h5 83 0) → ∀ h7, h7 = stI h6 88 (hI h 83 1).toNat (-1) → Q (hI h 83 1) h7)) ∧ (40 ≤ (hI h 83 1) → (Q (-1) h)))))))) : zCi E d m_X2_tell [vo 83, vi x1, vi x2, vi x3] h Q := by
  show zAt E d 0 0 m_X2_tell 0 [vo 83, vi x1, vi x2, vi x3, vn] [] g0 h (zPi Q)
  refine a_iload_n (pc := 0) dX2_tell_0 rfl ?_
  refine a_if_lt (pc := 1) (tgt := 19) dX2_tell_1 (by decide) (fun c => ?_) (fun c => ?_)
  · have H := H.1 c
    refine a_iconst (pc := 19) dX2_tell_19 (by decide) ?_
    exact a_ireturn (pc := 20) dX2_tell_20 trivial ⟨_, rfl, rfl, H⟩
  · have H := H.2 c
    refine a_iload_n (pc := 4) dX2_tell_4 rfl ?_
    refine a_bipush (pc := 5) dX2_tell_5 (by decide) ?_
    refine a_icmp_gt (pc := 7) (tgt := 19) dX2_tell_7 (by decide) (fun c => ?_) (fun c => ?_)
    · have H := H.1 c
      refine a_iconst (pc := 19) dX2_tell_19 (by decide) ?_
      exact a_ireturn (pc := 20) dX2_tell_20 trivial ⟨_, rfl, rfl, H⟩
    · have H := H.2 c
      refine a_aload_n (pc := 10) dX2_tell_10 rfl ?_
      refine a_getI (pc := 11) dX2_tell_11 fl_X2_27 (go_83) ?_
      refine a_bipush (pc := 14) dX2_tell_14 (by decide) ?_
      refine a_icmp_lt (pc := 16) (tgt := 21) dX2_tell_16 (by decide) (fun c => ?_) (fun c => ?_)
      · have H := H.1 c
        refine a_aload_n (pc := 21) dX2_tell_21 rfl ?_
        refine a_getI (pc := 22) dX2_tell_22 fl_X2_27 (go_83) ?_
        refine a_istore (pc := 25) (ls' := [vo 83, vi x1, vi x2, vi x3, vi (hI h 83 1)]) dX2_tell_25 rfl rfl ?_
        refine a_aload_n (pc := 27) dX2_tell_27 rfl ?_
        refine a_dup (pc := 28) dX2_tell_28 rfl ?_
        refine a_getI (pc := 29) dX2_tell_29 fl_X2_27 (go_83) ?_
        refine a_iconst (pc := 32) dX2_tell_32 (by decide) ?_
        refine a_iadd (pc := 33) dX2_tell_33 ?_
        refine a_putI (pc := 34) dX2_tell_34 fl_X2_27 (go_83) ?_
        have H := H _ rfl
        generalize stI h 83 1 (w32 ((hI h 83 1) + 1)) = h1 at H ⊢
        refine a_aload_n (pc := 37) dX2_tell_37 rfl ?_
        refine a_getF (pc := 38) dX2_tell_38 fl_X2_9 (go_83) (gf_83_2) ?_
        refine a_iload (pc := 41) dX2_tell_41 rfl ?_
        refine a_iload_n (pc := 43) dX2_tell_43 rfl ?_
        obtain ⟨hb2, H⟩ := H
        refine a_iastore (pc := 44) dX2_tell_44 (ga_84) hb2 ?_
        have H := H _ rfl
        generalize stI h1 84 (hI h 83 1).toNat x1 = h3 at H ⊢
        refine a_aload_n (pc := 45) dX2_tell_45 rfl ?_
        refine a_getF (pc := 46) dX2_tell_46 fl_X2_15 (go_83) (gf_83_3) ?_
        refine a_iload (pc := 49) dX2_tell_49 rfl ?_
        refine a_iload_n (pc := 51) dX2_tell_51 rfl ?_
        refine a_iastore (pc := 52) dX2_tell_52 (ga_85) hb2 ?_
        have H := H _ rfl
        generalize stI h3 85 (hI h 83 1).toNat x2 = h4 at H ⊢
        refine a_aload_n (pc := 53) dX2_tell_53 rfl ?_
        refine a_getF (pc := 54) dX2_tell_54 fl_X2_18 (go_83) (gf_83_4) ?_
        refine a_iload (pc := 57) dX2_tell_57 rfl ?_
        refine a_iload_n (pc := 59) dX2_tell_59 rfl ?_
        refine a_iastore (pc := 60) dX2_tell_60 (ga_86) hb2 ?_
        have H := H _ rfl
        generalize stI h4 86 (hI h 83 1).toNat x3 = h5 at H ⊢
        refine a_aload_n (pc := 61) dX2_tell_61 rfl ?_
        refine a_getF (pc := 62) dX2_tell_62 fl_X2_21 (go_83) (gf_83_5) ?_
        refine a_iload (pc := 65) dX2_tell_65 rfl ?_
        refine a_aload_n (pc := 67) dX2_tell_67 rfl ?_
        refine a_getI (pc := 68) dX2_tell_68 fl_X2_31 (go_83) ?_
        refine a_iastore (pc := 71) dX2_tell_71 (ga_87) hb2 ?_
        have H := H _ rfl
        generalize stI h5 87 (hI h 83 1).toNat (hI h5 83 0) = h6 at H ⊢
        refine a_aload_n (pc := 72) dX2_tell_72 rfl ?_
        refine a_getF (pc := 73) dX2_tell_73 fl_X2_24 (go_83) (gf_83_6) ?_
        refine a_iload (pc := 76) dX2_tell_76 rfl ?_
        refine a_iconst (pc := 78) dX2_tell_78 (by decide) ?_
        refine a_iastore (pc := 79) dX2_tell_79 (ga_88) hb2 ?_
        have H := H _ rfl
        generalize stI h6 88 (hI h 83 1).toNat (-1) = h7 at H ⊢
        refine a_iload (pc := 80) dX2_tell_80 rfl ?_
        exact a_ireturn (pc := 82) dX2_tell_82 trivial ⟨_, rfl, rfl, H⟩
      · have H := H.2 c
        refine a_iconst (pc := 19) dX2_tell_19 (by decide) ?_
        exact a_ireturn (pc := 20) dX2_tell_20 trivial ⟨_, rfl, rfl, H⟩
set_option maxRecDepth 20000 in
theorem v_X2_withdraw {E : zE} {d : Nat} {h : zS} {Q : Int → zS → Prop} {x1 : Int}  (H : ((x1 < 0 → (Q 0 h)) ∧ (0 ≤ x1 → (((hI h 83 1) ≤ x1 → (Q 0 h)) ∧ (x1 < (hI h 83 1) → ((0 ≤ x1 ∧ x1 < 40) ∧ (((hI h 88 x1.toNat) = (-1) → (∀ h2, h2 = stI h 88 x1.toNat (hI h 83 0) → Q 1 h2)) ∧ ((hI h 88 x1.toNat) ≠ (-1) → (Q 0 h))))))))) : zCi E d m_X2_withdraw [vo 83, vi x1] h Q := by
  show zAt E d 0 0 m_X2_withdraw 0 [vo 83, vi x1] [] g0 h (zPi Q)
  refine a_iload_n (pc := 0) dX2_withdraw_0 rfl ?_
  refine a_if_lt (pc := 1) (tgt := 22) dX2_withdraw_1 (by decide) (fun c => ?_) (fun c => ?_)
  · have H := H.1 c
    refine a_iconst (pc := 22) dX2_withdraw_22 (by decide) ?_
    exact a_ireturn (pc := 23) dX2_withdraw_23 (.inl rfl) ⟨_, rfl, rfl, H⟩
  · have H := H.2 c
    refine a_iload_n (pc := 4) dX2_withdraw_4 rfl ?_
    refine a_aload_n (pc := 5) dX2_withdraw_5 rfl ?_
    refine a_getI (pc := 6) dX2_withdraw_6 fl_X2_27 (go_83) ?_
    refine a_icmp_ge (pc := 9) (tgt := 22) dX2_withdraw_9 (by decide) (fun c => ?_) (fun c => ?_)
    · have H := H.1 c
      refine a_iconst (pc := 22) dX2_withdraw_22 (by decide) ?_
      exact a_ireturn (pc := 23) dX2_withdraw_23 (.inl rfl) ⟨_, rfl, rfl, H⟩
    · have H := H.2 c
      refine a_aload_n (pc := 12) dX2_withdraw_12 rfl ?_
      refine a_getF (pc := 13) dX2_withdraw_13 fl_X2_24 (go_83) (gf_83_6) ?_
      refine a_iload_n (pc := 16) dX2_withdraw_16 rfl ?_
      obtain ⟨hb1, H⟩ := H
      refine a_iaload (pc := 17) dX2_withdraw_17 (ga_88) hb1 ?_
      refine a_iconst (pc := 18) dX2_withdraw_18 (by decide) ?_
      refine a_icmp_eq (pc := 19) (tgt := 24) dX2_withdraw_19 (by decide) (fun c => ?_) (fun c => ?_)
      · have H := H.1 c
        refine a_aload_n (pc := 24) dX2_withdraw_24 rfl ?_
        refine a_getF (pc := 25) dX2_withdraw_25 fl_X2_24 (go_83) (gf_83_6) ?_
        refine a_iload_n (pc := 28) dX2_withdraw_28 rfl ?_
        refine a_aload_n (pc := 29) dX2_withdraw_29 rfl ?_
        refine a_getI (pc := 30) dX2_withdraw_30 fl_X2_31 (go_83) ?_
        refine a_iastore (pc := 33) dX2_withdraw_33 (ga_88) hb1 ?_
        have H := H _ rfl
        generalize stI h 88 x1.toNat (hI h 83 0) = h2 at H ⊢
        refine a_iconst (pc := 34) dX2_withdraw_34 (by decide) ?_
        exact a_ireturn (pc := 35) dX2_withdraw_35 (.inr rfl) ⟨_, rfl, rfl, H⟩
      · have H := H.2 c
        refine a_iconst (pc := 22) dX2_withdraw_22 (by decide) ?_
        exact a_ireturn (pc := 23) dX2_withdraw_23 (.inl rfl) ⟨_, rfl, rfl, H⟩
set_option maxRecDepth 20000 in
theorem v_X2_counts {E : zE} {d : Nat} {h : zS} {Q : Int → zS → Prop} {x1 : Int} {x2 : Int}  (H : (0 ≤ x1 ∧ x1 < 40) ∧ ((x2 < (hI h 87 x1.toNat) → (Q 0 h)) ∧ ((hI h 87 x1.toNat) ≤ x2 → (((hI h 88 x1.toNat) = (-1) → (Q 1 h)) ∧ ((hI h 88 x1.toNat) ≠ (-1) → (((hI h 88 x1.toNat) ≤ x2 → (Q 0 h)) ∧ (x2 < (hI h 88 x1.toNat) → (Q 1 h)))))))) : zCi E d m_X2_counts [vo 83, vi x1, vi x2] h Q := by
  show zAt E d 0 0 m_X2_counts 0 [vo 83, vi x1, vi x2] [] g0 h (zPi Q)
  refine a_aload_n (pc := 0) dX2_counts_0 rfl ?_
  refine a_getF (pc := 1) dX2_counts_1 fl_X2_21 (go_83) (gf_83_5) ?_
  refine a_iload_n (pc := 4) dX2_counts_4 rfl ?_
  obtain ⟨hb1, H⟩ := H
  refine a_iaload (pc := 5) dX2_counts_5 (ga_87) hb1 ?_
  refine a_iload_n (pc := 6) dX2_counts_6 rfl ?_
  refine a_icmp_gt (pc := 7) (tgt := 34) dX2_counts_7 (by decide) (fun c => ?_) (fun c => ?_)
  · have H := H.1 c
    refine a_iconst (pc := 34) dX2_counts_34 (by decide) ?_
    exact a_ireturn (pc := 35) dX2_counts_35 (.inl rfl) ⟨_, rfl, rfl, H⟩
  · have H := H.2 c
    refine a_aload_n (pc := 10) dX2_counts_10 rfl ?_
    refine a_getF (pc := 11) dX2_counts_11 fl_X2_24 (go_83) (gf_83_6) ?_
    refine a_iload_n (pc := 14) dX2_counts_14 rfl ?_
    refine a_iaload (pc := 15) dX2_counts_15 (ga_88) hb1 ?_
    refine a_iconst (pc := 16) dX2_counts_16 (by decide) ?_
    refine a_icmp_eq (pc := 17) (tgt := 30) dX2_counts_17 (by decide) (fun c => ?_) (fun c => ?_)
    · have H := H.1 c
      refine a_iconst (pc := 30) dX2_counts_30 (by decide) ?_
      refine a_goto (pc := 31) (tgt := 35) dX2_counts_31 (by decide) ?_
      exact a_ireturn (pc := 35) dX2_counts_35 (.inr rfl) ⟨_, rfl, rfl, H⟩
    · have H := H.2 c
      refine a_aload_n (pc := 20) dX2_counts_20 rfl ?_
      refine a_getF (pc := 21) dX2_counts_21 fl_X2_24 (go_83) (gf_83_6) ?_
      refine a_iload_n (pc := 24) dX2_counts_24 rfl ?_
      refine a_iaload (pc := 25) dX2_counts_25 (ga_88) hb1 ?_
      refine a_iload_n (pc := 26) dX2_counts_26 rfl ?_
      refine a_icmp_le (pc := 27) (tgt := 34) dX2_counts_27 (by decide) (fun c => ?_) (fun c => ?_)
      · have H := H.1 c
        refine a_iconst (pc := 34) dX2_counts_34 (by decide) ?_
        exact a_ireturn (pc := 35) dX2_counts_35 (.inl rfl) ⟨_, rfl, rfl, H⟩
      · have H := H.2 c
        refine a_iconst (pc := 30) dX2_counts_30 (by decide) ?_
        refine a_goto (pc := 31) (tgt := 35) dX2_counts_31 (by decide) ?_
        exact a_ireturn (pc := 35) dX2_counts_35 (.inr rfl) ⟨_, rfl, rfl, H⟩
set_option maxRecDepth 20000 in
theorem v_X2_explainedBy {E : zE} {d : Nat} {h : zS} {Q : Int → zS → Prop} {x1 : Int} {x2 : Int} {x3 : Int}  (H : zWi E (d + 1) m_X2_explainedBy 3 [vo 83, vi x1, vi x2, vi x3, vi 0, vn] h Q) : zCi E (d + 1) m_X2_explainedBy [vo 83, vi x1, vi x2, vi x3] h Q := by
  show zAt E (d + 1) 0 0 m_X2_explainedBy 0 [vo 83, vi x1, vi x2, vi x3, vn, vn] [] g0 h (zPi Q)
  refine a_iconst (pc := 0) dX2_explainedBy_0 (by decide) ?_
  refine a_istore (pc := 1) (ls' := [vo 83, vi x1, vi x2, vi x3, vi 0, vn]) dX2_explainedBy_1 rfl rfl ?_
  exact H
set_option maxRecDepth 20000 in
theorem r_X2_explainedBy_3 {E : zE} {d : Nat} {h : zS} {Q : Int → zS → Prop} {x1 : Int} {x2 : Int} {x3 : Int} {x4 : Int}  (H : (((hI h 83 1) ≤ x4 → (Q 1 h)) ∧ (x4 < (hI h 83 1) → ((0 ≤ x4 ∧ x4 < 40) ∧ (((hI h 84 x4.toNat) ≠ (-1) → (zWi E (d + 1) m_X2_explainedBy 3 [vo 83, vi x1, vi x2, vi x3, vi (w32 (x4 + 1)), vn] h Q)) ∧ ((hI h 84 x4.toNat) = (-1) → (zCi E d m_X2_counts [vo 83, vi x4, vi x3] h (fun y3 h2 => ((y3 = 0 → (zWi E (d + 1) m_X2_explainedBy 3 [vo 83, vi x1, vi x2, vi x3, vi (w32 (x4 + 1)), vn] h2 Q)) ∧ (y3 ≠ 0 → (zCi E d m_J6_bitCount_0f7a4 [vi (z_and (hI h2 85 x4.toNat) x1)] h2 (fun y5 h4 => ∀ y6 : Int, y6 = w32 ((hI h2 86 x4.toNat) - y5) → ((y6 < 0 → (Q 0 h4)) ∧ (0 ≤ y6 → ((y6 ≤ x2 → (zWi E (d + 1) m_X2_explainedBy 3 [vo 83, vi x1, vi x2, vi x3, vi (w32 (x4 + 1)), vn] h4 Q)) ∧ (x2 < y6 → (Q 0 h4))))))))))))))))) : zWi E (d + 1) m_X2_explainedBy 3 [vo 83, vi x1, vi x2, vi x3, vi x4, vn] h Q := by
  refine a_iload (pc := 3) dX2_explainedBy_3 rfl ?_
  refine a_aload_n (pc := 5) dX2_explainedBy_5 rfl ?_
  refine a_getI (pc := 6) dX2_explainedBy_6 fl_X2_27 (go_83) ?_
  refine a_icmp_ge (pc := 9) (tgt := 74) dX2_explainedBy_9 (by decide) (fun c => ?_) (fun c => ?_)
  · have H := H.1 c
    refine a_iconst (pc := 74) dX2_explainedBy_74 (by decide) ?_
    exact a_ireturn (pc := 75) dX2_explainedBy_75 (.inr rfl) ⟨_, rfl, rfl, H⟩
  · have H := H.2 c
    refine a_aload_n (pc := 12) dX2_explainedBy_12 rfl ?_
    refine a_getF (pc := 13) dX2_explainedBy_13 fl_X2_9 (go_83) (gf_83_2) ?_
    refine a_iload (pc := 16) dX2_explainedBy_16 rfl ?_
    obtain ⟨hb1, H⟩ := H
    refine a_iaload (pc := 18) dX2_explainedBy_18 (ga_84) hb1 ?_
    refine a_iconst (pc := 19) dX2_explainedBy_19 (by decide) ?_
    refine a_icmp_ne (pc := 20) (tgt := 68) dX2_explainedBy_20 (by decide) (fun c => ?_) (fun c => ?_)
    · have H := H.1 c
      refine a_iinc (pc := 68) (ls' := [vo 83, vi x1, vi x2, vi x3, vi (w32 (x4 + 1)), vn]) dX2_explainedBy_68 rfl rfl rfl ?_
      refine a_goto (pc := 71) (tgt := 3) dX2_explainedBy_71 (by decide) ?_
      exact H
    · have H := H.2 c
      refine a_aload_n (pc := 23) dX2_explainedBy_23 rfl ?_
      refine a_iload (pc := 24) dX2_explainedBy_24 rfl ?_
      refine a_iload_n (pc := 26) dX2_explainedBy_26 rfl ?_
      refine a_callV (pc := 27) (kc := 0) (ks := 0) (kc' := 0) (ks' := 0) (st := []) [vi x4, vi x3] dX2_explainedBy_27 ml_X2_34 (go_83) rfl (Nat.le_of_ble_eq_true rfl) (Nat.le_of_ble_eq_true rfl) (z_post H (fun r G1 h2 q => ?_))
      obtain ⟨y3, rfl, rfl, H⟩ := q
      show zAt E (d + 1) 0 0 m_X2_explainedBy 30 [vo 83, vi x1, vi x2, vi x3, vi x4, vn] [vi y3] g0 h2 (zPi Q)
      refine a_if_eq (pc := 30) (tgt := 68) dX2_explainedBy_30 (by decide) (fun c => ?_) (fun c => ?_)
      · have H := H.1 c
        refine a_iinc (pc := 68) (ls' := [vo 83, vi x1, vi x2, vi x3, vi (w32 (x4 + 1)), vn]) dX2_explainedBy_68 rfl rfl rfl ?_
        refine a_goto (pc := 71) (tgt := 3) dX2_explainedBy_71 (by decide) ?_
        exact H
      · have H := H.2 c
        refine a_aload_n (pc := 33) dX2_explainedBy_33 rfl ?_
        refine a_getF (pc := 34) dX2_explainedBy_34 fl_X2_18 (go_83) (gf_83_4) ?_
        refine a_iload (pc := 37) dX2_explainedBy_37 rfl ?_
        refine a_iaload (pc := 39) dX2_explainedBy_39 (ga_86) hb1 ?_
        refine a_aload_n (pc := 40) dX2_explainedBy_40 rfl ?_
        refine a_getF (pc := 41) dX2_explainedBy_41 fl_X2_15 (go_83) (gf_83_3) ?_
        refine a_iload (pc := 44) dX2_explainedBy_44 rfl ?_
        refine a_iaload (pc := 46) dX2_explainedBy_46 (ga_85) hb1 ?_
        refine a_iload_n (pc := 47) dX2_explainedBy_47 rfl ?_
        refine a_iand (pc := 48) dX2_explainedBy_48 ?_
        refine a_callS (pc := 49) (kc := 0) (ks := 0) (kc' := 0) (ks' := 0) (st := [vi (hI h2 86 x4.toNat)]) [vi (z_and (hI h2 85 x4.toNat) x1)] dX2_explainedBy_49 ml_X2_38 rfl (Nat.le_of_ble_eq_true rfl) (Nat.le_of_ble_eq_true rfl) (z_post H (fun r G1 h4 q => ?_))
        obtain ⟨y5, rfl, rfl, H⟩ := q
        show zAt E (d + 1) 0 0 m_X2_explainedBy 52 [vo 83, vi x1, vi x2, vi x3, vi x4, vn] [vi y5, vi (hI h2 86 x4.toNat)] g0 h4 (zPi Q)
        refine a_isub (pc := 52) dX2_explainedBy_52 ?_
        have H := H _ rfl
        generalize (w32 ((hI h2 86 x4.toNat) - y5) : Int) = y6 at H ⊢
        refine a_istore (pc := 53) (ls' := [vo 83, vi x1, vi x2, vi x3, vi x4, vi y6]) dX2_explainedBy_53 rfl rfl ?_
        refine a_iload (pc := 55) dX2_explainedBy_55 rfl ?_
        refine a_if_lt (pc := 57) (tgt := 66) dX2_explainedBy_57 (by decide) (fun c => ?_) (fun c => ?_)
        · have H := H.1 c
          refine a_iconst (pc := 66) dX2_explainedBy_66 (by decide) ?_
          exact a_ireturn (pc := 67) dX2_explainedBy_67 (.inl rfl) ⟨_, rfl, rfl, H⟩
        · have H := H.2 c
          refine a_iload (pc := 60) dX2_explainedBy_60 rfl ?_
          refine a_iload_n (pc := 62) dX2_explainedBy_62 rfl ?_
          refine a_icmp_le (pc := 63) (tgt := 68) dX2_explainedBy_63 (by decide) (fun c => ?_) (fun c => ?_)
          · have H := H.1 c
            refine a_iinc (pc := 68) (ls' := [vo 83, vi x1, vi x2, vi x3, vi (w32 (x4 + 1)), vi y6]) dX2_explainedBy_68 rfl rfl rfl ?_
            refine a_goto (pc := 71) (tgt := 3) dX2_explainedBy_71 (by decide) ?_
            exact z_forget (ls' := [vo 83, vi x1, vi x2, vi x3, vi (w32 (x4 + 1)), vn]) ⟨.inr rfl, .inr rfl, .inr rfl, .inr rfl, .inr rfl, .inl rfl, trivial⟩ H
          · have H := H.2 c
            refine a_iconst (pc := 66) dX2_explainedBy_66 (by decide) ?_
            exact a_ireturn (pc := 67) dX2_explainedBy_67 (.inl rfl) ⟨_, rfl, rfl, H⟩
set_option maxRecDepth 20000 in
theorem v_X2_startOf {E : zE} {d : Nat} {h : zS} {Q : Int → zS → Prop} {x2 : Int} {x3 : Int}  (H : zWi E (d + 1) m_X2_startOf 7 [vo 83, vo 24, vi x2, vi x3, vi 100, vi 0, vn, vn] h Q) : zCi E (d + 1) m_X2_startOf [vo 83, vo 24, vi x2, vi x3] h Q := by
  show zAt E (d + 1) 0 0 m_X2_startOf 0 [vo 83, vo 24, vi x2, vi x3, vn, vn, vn, vn] [] g0 h (zPi Q)
  refine a_bipush (pc := 0) dX2_startOf_0 (by decide) ?_
  refine a_istore (pc := 2) (ls' := [vo 83, vo 24, vi x2, vi x3, vi 100, vn, vn, vn]) dX2_startOf_2 rfl rfl ?_
  refine a_iconst (pc := 4) dX2_startOf_4 (by decide) ?_
  refine a_istore (pc := 5) (ls' := [vo 83, vo 24, vi x2, vi x3, vi 100, vi 0, vn, vn]) dX2_startOf_5 rfl rfl ?_
  exact H
set_option maxRecDepth 20000 in
theorem r_X2_startOf_7 {E : zE} {d : Nat} {h : zS} {Q : Int → zS → Prop} {x2 : Int} {x3 : Int} {x4 : Int} {x5 : Int}  (H : (((hI h 83 1) ≤ x5 → (Q x4 h)) ∧ (x5 < (hI h 83 1) → ((0 ≤ x5 ∧ x5 < 40) ∧ (((hI h 84 x5.toNat) = (-1) → (zWi E (d + 1) m_X2_startOf 7 [vo 83, vo 24, vi x2, vi x3, vi x4, vi (w32 (x5 + 1)), vn, vn] h Q)) ∧ ((hI h 84 x5.toNat) ≠ (-1) → (zCi E d m_X2_counts [vo 83, vi x5, vi x3] h (fun y3 h2 => ((y3 = 0 → (zWi E (d + 1) m_X2_startOf 7 [vo 83, vo 24, vi x2, vi x3, vi x4, vi (w32 (x5 + 1)), vn, vn] h2 Q)) ∧ (y3 ≠ 0 → (zCi E d m_X9_pair [vi x2, vi (hI h2 84 x5.toNat)] h2 (fun y5 h4 => (0 ≤ y5 ∧ y5 < 144) ∧ ∀ y7 : Int, y7 = w32 ((hI h4 86 x5.toNat) - (hI h4 25 y5.toNat)) → (((hI h4 25 y5.toNat) = (-1) → (Q (-1) h4)) ∧ ((hI h4 25 y5.toNat) ≠ (-1) → ((y7 < 0 → (Q (-1) h4)) ∧ (0 ≤ y7 → ((x4 = 100 → (zWi E (d + 1) m_X2_startOf 7 [vo 83, vo 24, vi x2, vi x3, vi y7, vi (w32 (x5 + 1)), vn, vn] h4 Q)) ∧ (x4 ≠ 100 → ((x4 = y7 → (zWi E (d + 1) m_X2_startOf 7 [vo 83, vo 24, vi x2, vi x3, vi y7, vi (w32 (x5 + 1)), vn, vn] h4 Q)) ∧ (x4 ≠ y7 → (Q (-1) h4))))))))))))))))))))) : zWi E (d + 1) m_X2_startOf 7 [vo 83, vo 24, vi x2, vi x3, vi x4, vi x5, vn, vn] h Q := by
  refine a_iload (pc := 7) dX2_startOf_7 rfl ?_
  refine a_aload_n (pc := 9) dX2_startOf_9 rfl ?_
  refine a_getI (pc := 10) dX2_startOf_10 fl_X2_27 (go_83) ?_
  refine a_icmp_ge (pc := 13) (tgt := 104) dX2_startOf_13 (by decide) (fun c => ?_) (fun c => ?_)
  · have H := H.1 c
    refine a_iload (pc := 104) dX2_startOf_104 rfl ?_
    exact a_ireturn (pc := 106) dX2_startOf_106 trivial ⟨_, rfl, rfl, H⟩
  · have H := H.2 c
    refine a_aload_n (pc := 16) dX2_startOf_16 rfl ?_
    refine a_getF (pc := 17) dX2_startOf_17 fl_X2_9 (go_83) (gf_83_2) ?_
    refine a_iload (pc := 20) dX2_startOf_20 rfl ?_
    obtain ⟨hb1, H⟩ := H
    refine a_iaload (pc := 22) dX2_startOf_22 (ga_84) hb1 ?_
    refine a_iconst (pc := 23) dX2_startOf_23 (by decide) ?_
    refine a_icmp_eq (pc := 24) (tgt := 98) dX2_startOf_24 (by decide) (fun c => ?_) (fun c => ?_)
    · have H := H.1 c
      refine a_iinc (pc := 98) (ls' := [vo 83, vo 24, vi x2, vi x3, vi x4, vi (w32 (x5 + 1)), vn, vn]) dX2_startOf_98 rfl rfl rfl ?_
      refine a_goto (pc := 101) (tgt := 7) dX2_startOf_101 (by decide) ?_
      exact H
    · have H := H.2 c
      refine a_aload_n (pc := 27) dX2_startOf_27 rfl ?_
      refine a_iload (pc := 28) dX2_startOf_28 rfl ?_
      refine a_iload_n (pc := 30) dX2_startOf_30 rfl ?_
      refine a_callV (pc := 31) (kc := 0) (ks := 0) (kc' := 0) (ks' := 0) (st := []) [vi x5, vi x3] dX2_startOf_31 ml_X2_34 (go_83) rfl (Nat.le_of_ble_eq_true rfl) (Nat.le_of_ble_eq_true rfl) (z_post H (fun r G1 h2 q => ?_))
      obtain ⟨y3, rfl, rfl, H⟩ := q
      show zAt E (d + 1) 0 0 m_X2_startOf 34 [vo 83, vo 24, vi x2, vi x3, vi x4, vi x5, vn, vn] [vi y3] g0 h2 (zPi Q)
      refine a_if_eq (pc := 34) (tgt := 98) dX2_startOf_34 (by decide) (fun c => ?_) (fun c => ?_)
      · have H := H.1 c
        refine a_iinc (pc := 98) (ls' := [vo 83, vo 24, vi x2, vi x3, vi x4, vi (w32 (x5 + 1)), vn, vn]) dX2_startOf_98 rfl rfl rfl ?_
        refine a_goto (pc := 101) (tgt := 7) dX2_startOf_101 (by decide) ?_
        exact H
      · have H := H.2 c
        refine a_aload_n (pc := 37) dX2_startOf_37 rfl ?_
        refine a_getG (pc := 38) dX2_startOf_38 fl_X2_44 rfl (go_24) (gf_24_0) ?_
        refine a_iload_n (pc := 41) dX2_startOf_41 rfl ?_
        refine a_aload_n (pc := 42) dX2_startOf_42 rfl ?_
        refine a_getF (pc := 43) dX2_startOf_43 fl_X2_9 (go_83) (gf_83_2) ?_
        refine a_iload (pc := 46) dX2_startOf_46 rfl ?_
        refine a_iaload (pc := 48) dX2_startOf_48 (ga_84) hb1 ?_
        refine a_callSN (pc := 49) (kc := 0) (ks := 0) (kc' := 0) (ks' := 0) (st := [vo 25]) [vi x2, vi (hI h2 84 x5.toNat)] dX2_startOf_49 ml_X2_49 rfl (Nat.le_of_ble_eq_true rfl) (Nat.le_of_ble_eq_true rfl) (z_post H (fun r G1 h4 q => ?_))
        obtain ⟨y5, rfl, rfl, H⟩ := q
        show zAt E (d + 1) 0 0 m_X2_startOf 52 [vo 83, vo 24, vi x2, vi x3, vi x4, vi x5, vn, vn] [vi y5, vo 25] g0 h4 (zPi Q)
        obtain ⟨hb6, H⟩ := H
        refine a_iaload (pc := 52) dX2_startOf_52 (ga_25) hb6 ?_
        refine a_istore (pc := 53) (ls' := [vo 83, vo 24, vi x2, vi x3, vi x4, vi x5, vi (hI h4 25 y5.toNat), vn]) dX2_startOf_53 rfl rfl ?_
        refine a_aload_n (pc := 55) dX2_startOf_55 rfl ?_
        refine a_getF (pc := 56) dX2_startOf_56 fl_X2_18 (go_83) (gf_83_4) ?_
        refine a_iload (pc := 59) dX2_startOf_59 rfl ?_
        refine a_iaload (pc := 61) dX2_startOf_61 (ga_86) hb1 ?_
        refine a_iload (pc := 62) dX2_startOf_62 rfl ?_
        refine a_isub (pc := 64) dX2_startOf_64 ?_
        have H := H _ rfl
        generalize (w32 ((hI h4 86 x5.toNat) - (hI h4 25 y5.toNat)) : Int) = y7 at H ⊢
        refine a_istore (pc := 65) (ls' := [vo 83, vo 24, vi x2, vi x3, vi x4, vi x5, vi (hI h4 25 y5.toNat), vi y7]) dX2_startOf_65 rfl rfl ?_
        refine a_iload (pc := 67) dX2_startOf_67 rfl ?_
        refine a_iconst (pc := 69) dX2_startOf_69 (by decide) ?_
        refine a_icmp_eq (pc := 70) (tgt := 92) dX2_startOf_70 (by decide) (fun c => ?_) (fun c => ?_)
        · have H := H.1 c
          refine a_iconst (pc := 92) dX2_startOf_92 (by decide) ?_
          exact a_ireturn (pc := 93) dX2_startOf_93 trivial ⟨_, rfl, rfl, H⟩
        · have H := H.2 c
          refine a_iload (pc := 73) dX2_startOf_73 rfl ?_
          refine a_if_lt (pc := 75) (tgt := 92) dX2_startOf_75 (by decide) (fun c => ?_) (fun c => ?_)
          · have H := H.1 c
            refine a_iconst (pc := 92) dX2_startOf_92 (by decide) ?_
            exact a_ireturn (pc := 93) dX2_startOf_93 trivial ⟨_, rfl, rfl, H⟩
          · have H := H.2 c
            refine a_iload (pc := 78) dX2_startOf_78 rfl ?_
            refine a_bipush (pc := 80) dX2_startOf_80 (by decide) ?_
            refine a_icmp_eq (pc := 82) (tgt := 94) dX2_startOf_82 (by decide) (fun c => ?_) (fun c => ?_)
            · have H := H.1 c
              refine a_iload (pc := 94) dX2_startOf_94 rfl ?_
              refine a_istore (pc := 96) (ls' := [vo 83, vo 24, vi x2, vi x3, vi y7, vi x5, vi (hI h4 25 y5.toNat), vi y7]) dX2_startOf_96 rfl rfl ?_
              refine a_iinc (pc := 98) (ls' := [vo 83, vo 24, vi x2, vi x3, vi y7, vi (w32 (x5 + 1)), vi (hI h4 25 y5.toNat), vi y7]) dX2_startOf_98 rfl rfl rfl ?_
              refine a_goto (pc := 101) (tgt := 7) dX2_startOf_101 (by decide) ?_
              exact z_forget (ls' := [vo 83, vo 24, vi x2, vi x3, vi y7, vi (w32 (x5 + 1)), vn, vn]) ⟨.inr rfl, .inr rfl, .inr rfl, .inr rfl, .inr rfl, .inr rfl, .inl rfl, .inl rfl, trivial⟩ H
            · have H := H.2 c
              refine a_iload (pc := 85) dX2_startOf_85 rfl ?_
              refine a_iload (pc := 87) dX2_startOf_87 rfl ?_
              refine a_icmp_eq (pc := 89) (tgt := 94) dX2_startOf_89 (by decide) (fun c => ?_) (fun c => ?_)
              · have H := H.1 c
                refine a_iload (pc := 94) dX2_startOf_94 rfl ?_
                refine a_istore (pc := 96) (ls' := [vo 83, vo 24, vi x2, vi x3, vi y7, vi x5, vi (hI h4 25 y5.toNat), vi y7]) dX2_startOf_96 rfl rfl ?_
                refine a_iinc (pc := 98) (ls' := [vo 83, vo 24, vi x2, vi x3, vi y7, vi (w32 (x5 + 1)), vi (hI h4 25 y5.toNat), vi y7]) dX2_startOf_98 rfl rfl rfl ?_
                refine a_goto (pc := 101) (tgt := 7) dX2_startOf_101 (by decide) ?_
                exact z_forget (ls' := [vo 83, vo 24, vi x2, vi x3, vi y7, vi (w32 (x5 + 1)), vn, vn]) ⟨.inr rfl, .inr rfl, .inr rfl, .inr rfl, .inr rfl, .inr rfl, .inl rfl, .inl rfl, trivial⟩ H
              · have H := H.2 c
                refine a_iconst (pc := 92) dX2_startOf_92 (by decide) ?_
                exact a_ireturn (pc := 93) dX2_startOf_93 trivial ⟨_, rfl, rfl, H⟩
set_option maxRecDepth 20000 in
theorem v_X8_copy {E : zE} {d : Nat} {h : zS} {Q : zS → Prop} {k0 : Nat} {k1 : Nat} (hk0 : isThings k0) (hk1 : isThings k1) (H : ∀ h1, h1 = stI h k0 0 (hI h k1 0) → ∀ h2, h2 = stRow h1 (k0 + 1) (fun i => if i < Int.toNat 12 then hI h1 (k1 + 1) i else hI h1 (k0 + 1) i) → ∀ h3, h3 = stRow h2 (k0 + 2) (fun i => if i < Int.toNat 12 then hI h2 (k1 + 2) i else hI h2 (k0 + 2) i) → ∀ h4, h4 = stRow h3 (k0 + 3) (fun i => if i < Int.toNat 12 then hI h3 (k1 + 3) i else hI h3 (k0 + 3) i) → ∀ h5, h5 = stRow h4 (k0 + 4) (fun i => if i < Int.toNat 12 then hI h4 (k1 + 4) i else hI h4 (k0 + 4) i) → ∀ h6, h6 = stRow h5 (k0 + 5) (fun i => if i < Int.toNat 12 then hI h5 (k1 + 5) i else hI h5 (k0 + 5) i) → Q h6) : zCv E (d + 1) m_X8_copy [vo k0, vo k1] h Q := by
  show zAt E (d + 1) 0 0 m_X8_copy 0 [vo k0, vo k1] [] g0 h (zPv Q)
  refine a_aload_n (pc := 0) dX8_copy_0 rfl ?_
  refine a_aload_n (pc := 1) dX8_copy_1 rfl ?_
  refine a_getI (pc := 2) dX8_copy_2 fl_X8_27 (goThings hk1) ?_
  refine a_putI (pc := 5) dX8_copy_5 fl_X8_27 (goThings hk0) ?_
  have H := H _ rfl
  generalize stI h k0 0 (hI h k1 0) = h1 at H ⊢
  refine a_aload_n (pc := 8) dX8_copy_8 rfl ?_
  refine a_getF (pc := 9) dX8_copy_9 fl_X8_9 (goThings hk1) (gfThings_1 hk1) ?_
  refine a_iconst (pc := 12) dX8_copy_12 (by decide) ?_
  refine a_aload_n (pc := 13) dX8_copy_13 rfl ?_
  refine a_getF (pc := 14) dX8_copy_14 fl_X8_9 (goThings hk0) (gfThings_1 hk0) ?_
  refine a_iconst (pc := 17) dX8_copy_17 (by decide) ?_
  refine a_bipush (pc := 18) dX8_copy_18 (by decide) ?_
  refine a_copy (pc := 20) dX8_copy_20 ml_X8_31 (by omega) (gaThings_1 hk1) (gaThings_1 hk0) (by decide) ?_
  have H := H _ rfl
  generalize stRow h1 (k0 + 1) (fun i => if i < Int.toNat 12 then hI h1 (k1 + 1) i else hI h1 (k0 + 1) i) = h2 at H ⊢
  refine a_aload_n (pc := 23) dX8_copy_23 rfl ?_
  refine a_getF (pc := 24) dX8_copy_24 fl_X8_15 (goThings hk1) (gfThings_2 hk1) ?_
  refine a_iconst (pc := 27) dX8_copy_27 (by decide) ?_
  refine a_aload_n (pc := 28) dX8_copy_28 rfl ?_
  refine a_getF (pc := 29) dX8_copy_29 fl_X8_15 (goThings hk0) (gfThings_2 hk0) ?_
  refine a_iconst (pc := 32) dX8_copy_32 (by decide) ?_
  refine a_bipush (pc := 33) dX8_copy_33 (by decide) ?_
  refine a_copy (pc := 35) dX8_copy_35 ml_X8_31 (by omega) (gaThings_2 hk1) (gaThings_2 hk0) (by decide) ?_
  have H := H _ rfl
  generalize stRow h2 (k0 + 2) (fun i => if i < Int.toNat 12 then hI h2 (k1 + 2) i else hI h2 (k0 + 2) i) = h3 at H ⊢
  refine a_aload_n (pc := 38) dX8_copy_38 rfl ?_
  refine a_getF (pc := 39) dX8_copy_39 fl_X8_18 (goThings hk1) (gfThings_3 hk1) ?_
  refine a_iconst (pc := 42) dX8_copy_42 (by decide) ?_
  refine a_aload_n (pc := 43) dX8_copy_43 rfl ?_
  refine a_getF (pc := 44) dX8_copy_44 fl_X8_18 (goThings hk0) (gfThings_3 hk0) ?_
  refine a_iconst (pc := 47) dX8_copy_47 (by decide) ?_
  refine a_bipush (pc := 48) dX8_copy_48 (by decide) ?_
  refine a_copy (pc := 50) dX8_copy_50 ml_X8_31 (by omega) (gaThings_3 hk1) (gaThings_3 hk0) (by decide) ?_
  have H := H _ rfl
  generalize stRow h3 (k0 + 3) (fun i => if i < Int.toNat 12 then hI h3 (k1 + 3) i else hI h3 (k0 + 3) i) = h4 at H ⊢
  refine a_aload_n (pc := 53) dX8_copy_53 rfl ?_
  refine a_getF (pc := 54) dX8_copy_54 fl_X8_21 (goThings hk1) (gfThings_4 hk1) ?_
  refine a_iconst (pc := 57) dX8_copy_57 (by decide) ?_
  refine a_aload_n (pc := 58) dX8_copy_58 rfl ?_
  refine a_getF (pc := 59) dX8_copy_59 fl_X8_21 (goThings hk0) (gfThings_4 hk0) ?_
  refine a_iconst (pc := 62) dX8_copy_62 (by decide) ?_
  refine a_bipush (pc := 63) dX8_copy_63 (by decide) ?_
  refine a_copy (pc := 65) dX8_copy_65 ml_X8_31 (by omega) (gaThings_4 hk1) (gaThings_4 hk0) (by decide) ?_
  have H := H _ rfl
  generalize stRow h4 (k0 + 4) (fun i => if i < Int.toNat 12 then hI h4 (k1 + 4) i else hI h4 (k0 + 4) i) = h5 at H ⊢
  refine a_aload_n (pc := 68) dX8_copy_68 rfl ?_
  refine a_getF (pc := 69) dX8_copy_69 fl_X8_24 (goThings hk1) (gfThings_5 hk1) ?_
  refine a_iconst (pc := 72) dX8_copy_72 (by decide) ?_
  refine a_aload_n (pc := 73) dX8_copy_73 rfl ?_
  refine a_getF (pc := 74) dX8_copy_74 fl_X8_24 (goThings hk0) (gfThings_5 hk0) ?_
  refine a_iconst (pc := 77) dX8_copy_77 (by decide) ?_
  refine a_bipush (pc := 78) dX8_copy_78 (by decide) ?_
  refine a_copy (pc := 80) dX8_copy_80 ml_X8_31 (by omega) (gaThings_5 hk1) (gaThings_5 hk0) (by decide) ?_
  have H := H _ rfl
  generalize stRow h5 (k0 + 5) (fun i => if i < Int.toNat 12 then hI h5 (k1 + 5) i else hI h5 (k0 + 5) i) = h6 at H ⊢
  exact a_return (pc := 83) dX8_copy_83 trivial ⟨rfl, rfl, H⟩
set_option maxRecDepth 20000 in
theorem v_X8_add {E : zE} {d : Nat} {h : zS} {Q : Int → zS → Prop} {k0 : Nat} {x1 : Int} (hk0 : isThings k0) (H : ∀ h1, h1 = stI h k0 0 (w32 ((hI h k0 0) + 1)) → (0 ≤ hI h k0 0 ∧ hI h k0 0 < 12) ∧ ∀ h3, h3 = stI h1 (k0 + 2) (hI h k0 0).toNat x1 → ∀ h4, h4 = stI h3 (k0 + 3) (hI h k0 0).toNat (-1) → Q (hI h k0 0) h4) : zCi E d m_X8_add [vo k0, vi x1] h Q := by
  show zAt E d 0 0 m_X8_add 0 [vo k0, vi x1, vn] [] g0 h (zPi Q)
  refine a_aload_n (pc := 0) dX8_add_0 rfl ?_
  refine a_getI (pc := 1) dX8_add_1 fl_X8_27 (goThings hk0) ?_
  refine a_istore_n (pc := 4) (ls' := [vo k0, vi x1, vi (hI h k0 0)]) dX8_add_4 rfl rfl ?_
  refine a_aload_n (pc := 5) dX8_add_5 rfl ?_
  refine a_dup (pc := 6) dX8_add_6 rfl ?_
  refine a_getI (pc := 7) dX8_add_7 fl_X8_27 (goThings hk0) ?_
  refine a_iconst (pc := 10) dX8_add_10 (by decide) ?_
  refine a_iadd (pc := 11) dX8_add_11 ?_
  refine a_putI (pc := 12) dX8_add_12 fl_X8_27 (goThings hk0) ?_
  have H := H _ rfl
  generalize stI h k0 0 (w32 ((hI h k0 0) + 1)) = h1 at H ⊢
  refine a_aload_n (pc := 15) dX8_add_15 rfl ?_
  refine a_getF (pc := 16) dX8_add_16 fl_X8_15 (goThings hk0) (gfThings_2 hk0) ?_
  refine a_iload_n (pc := 19) dX8_add_19 rfl ?_
  refine a_iload_n (pc := 20) dX8_add_20 rfl ?_
  obtain ⟨hb2, H⟩ := H
  refine a_iastore (pc := 21) dX8_add_21 (gaThings_2 hk0) hb2 ?_
  have H := H _ rfl
  generalize stI h1 (k0 + 2) (hI h k0 0).toNat x1 = h3 at H ⊢
  refine a_aload_n (pc := 22) dX8_add_22 rfl ?_
  refine a_getF (pc := 23) dX8_add_23 fl_X8_18 (goThings hk0) (gfThings_3 hk0) ?_
  refine a_iload_n (pc := 26) dX8_add_26 rfl ?_
  refine a_iconst (pc := 27) dX8_add_27 (by decide) ?_
  refine a_iastore (pc := 28) dX8_add_28 (gaThings_3 hk0) hb2 ?_
  have H := H _ rfl
  generalize stI h3 (k0 + 3) (hI h k0 0).toNat (-1) = h4 at H ⊢
  refine a_iload_n (pc := 29) dX8_add_29 rfl ?_
  exact a_ireturn (pc := 30) dX8_add_30 trivial ⟨_, rfl, rfl, H⟩
set_option maxRecDepth 20000 in
theorem v_X8_isHeld {E : zE} {d : Nat} {h : zS} {Q : Int → zS → Prop} {k0 : Nat} {x1 : Int} (hk0 : isThings k0) (H : (0 ≤ x1 ∧ x1 < 12) ∧ (((hI h (k0 + 1) x1.toNat) < 0 → (Q 0 h)) ∧ (0 ≤ (hI h (k0 + 1) x1.toNat) → (Q 1 h)))) : zCi E d m_X8_isHeld [vo k0, vi x1] h Q := by
  show zAt E d 0 0 m_X8_isHeld 0 [vo k0, vi x1] [] g0 h (zPi Q)
  refine a_aload_n (pc := 0) dX8_isHeld_0 rfl ?_
  refine a_getF (pc := 1) dX8_isHeld_1 fl_X8_9 (goThings hk0) (gfThings_1 hk0) ?_
  refine a_iload_n (pc := 4) dX8_isHeld_4 rfl ?_
  obtain ⟨hb1, H⟩ := H
  refine a_iaload (pc := 5) dX8_isHeld_5 (gaThings_1 hk0) hb1 ?_
  refine a_if_lt (pc := 6) (tgt := 13) dX8_isHeld_6 (by decide) (fun c => ?_) (fun c => ?_)
  · have H := H.1 c
    refine a_iconst (pc := 13) dX8_isHeld_13 (by decide) ?_
    exact a_ireturn (pc := 14) dX8_isHeld_14 (.inl rfl) ⟨_, rfl, rfl, H⟩
  · have H := H.2 c
    refine a_iconst (pc := 9) dX8_isHeld_9 (by decide) ?_
    refine a_goto (pc := 10) (tgt := 14) dX8_isHeld_10 (by decide) ?_
    exact a_ireturn (pc := 14) dX8_isHeld_14 (.inr rfl) ⟨_, rfl, rfl, H⟩
set_option maxRecDepth 20000 in
theorem v_X8_giveTo {E : zE} {d : Nat} {h : zS} {Q : zS → Prop} {k0 : Nat} {x1 : Int} {x2 : Int} {k3 : Nat} {x4 : Int} (hk0 : isThings k0) (hk3 : isCity k3) (H : (0 ≤ x1 ∧ x1 < 12) ∧ ∀ h2, h2 = stI h (k0 + 1) x1.toNat x2 → ∀ h3, h3 = stI h2 (k0 + 4) x1.toNat (-1) → ∀ h4, h4 = stI h3 (k0 + 5) x1.toNat (-1) → ((x2 ≠ (hI h4 k3 3) → (Q h4)) ∧ (x2 = (hI h4 k3 3) → (zCv E d m_X8_finish [vo k0, vi x1, vi (-3), vi x4] h4 (fun h5 => Q h5))))) : zCv E (d + 1) m_X8_giveTo [vo k0, vi x1, vi x2, vo k3, vi x4] h Q := by
  show zAt E (d + 1) 0 0 m_X8_giveTo 0 [vo k0, vi x1, vi x2, vo k3, vi x4] [] g0 h (zPv Q)
  refine a_aload_n (pc := 0) dX8_giveTo_0 rfl ?_
  refine a_getF (pc := 1) dX8_giveTo_1 fl_X8_9 (goThings hk0) (gfThings_1 hk0) ?_
  refine a_iload_n (pc := 4) dX8_giveTo_4 rfl ?_
  refine a_iload_n (pc := 5) dX8_giveTo_5 rfl ?_
  obtain ⟨hb1, H⟩ := H
  refine a_iastore (pc := 6) dX8_giveTo_6 (gaThings_1 hk0) hb1 ?_
  have H := H _ rfl
  generalize stI h (k0 + 1) x1.toNat x2 = h2 at H ⊢
  refine a_aload_n (pc := 7) dX8_giveTo_7 rfl ?_
  refine a_getF (pc := 8) dX8_giveTo_8 fl_X8_21 (goThings hk0) (gfThings_4 hk0) ?_
  refine a_iload_n (pc := 11) dX8_giveTo_11 rfl ?_
  refine a_iconst (pc := 12) dX8_giveTo_12 (by decide) ?_
  refine a_iastore (pc := 13) dX8_giveTo_13 (gaThings_4 hk0) hb1 ?_
  have H := H _ rfl
  generalize stI h2 (k0 + 4) x1.toNat (-1) = h3 at H ⊢
  refine a_aload_n (pc := 14) dX8_giveTo_14 rfl ?_
  refine a_getF (pc := 15) dX8_giveTo_15 fl_X8_24 (goThings hk0) (gfThings_5 hk0) ?_
  refine a_iload_n (pc := 18) dX8_giveTo_18 rfl ?_
  refine a_iconst (pc := 19) dX8_giveTo_19 (by decide) ?_
  refine a_iastore (pc := 20) dX8_giveTo_20 (gaThings_5 hk0) hb1 ?_
  have H := H _ rfl
  generalize stI h3 (k0 + 5) x1.toNat (-1) = h4 at H ⊢
  refine a_iload_n (pc := 21) dX8_giveTo_21 rfl ?_
  refine a_aload_n (pc := 22) dX8_giveTo_22 rfl ?_
  refine a_getI (pc := 23) dX8_giveTo_23 fl_X8_37 (goCity hk3) ?_
  refine a_icmp_ne (pc := 26) (tgt := 38) dX8_giveTo_26 (by decide) (fun c => ?_) (fun c => ?_)
  · have H := H.1 c
    exact a_return (pc := 38) dX8_giveTo_38 trivial ⟨rfl, rfl, H⟩
  · have H := H.2 c
    refine a_aload_n (pc := 29) dX8_giveTo_29 rfl ?_
    refine a_iload_n (pc := 30) dX8_giveTo_30 rfl ?_
    refine a_bipush (pc := 31) dX8_giveTo_31 (by decide) ?_
    refine a_iload (pc := 33) dX8_giveTo_33 rfl ?_
    refine a_callV (pc := 35) (kc := 0) (ks := 0) (kc' := 0) (ks' := 0) (st := []) [vi x1, vi (-3), vi x4] dX8_giveTo_35 ml_X8_42 (goThings hk0) rfl (Nat.le_of_ble_eq_true rfl) (Nat.le_of_ble_eq_true rfl) (z_post H (fun r G1 h5 q => ?_))
    obtain ⟨rfl, rfl, H⟩ := q
    show zAt E (d + 1) 0 0 m_X8_giveTo 38 [vo k0, vi x1, vi x2, vo k3, vi x4] [] g0 h5 (zPv Q)
    exact a_return (pc := 38) dX8_giveTo_38 trivial ⟨rfl, rfl, H⟩
set_option maxRecDepth 20000 in
theorem v_X8_finish {E : zE} {d : Nat} {h : zS} {Q : zS → Prop} {k0 : Nat} {x1 : Int} {x2 : Int} {x3 : Int} (hk0 : isThings k0) (H : (0 ≤ x1 ∧ x1 < 12) ∧ ∀ h2, h2 = stI h (k0 + 1) x1.toNat x2 → ∀ h3, h3 = stI h2 (k0 + 3) x1.toNat x3 → ∀ h4, h4 = stI h3 (k0 + 4) x1.toNat (-1) → ∀ h5, h5 = stI h4 (k0 + 5) x1.toNat (-1) → Q h5) : zCv E d m_X8_finish [vo k0, vi x1, vi x2, vi x3] h Q := by
  show zAt E d 0 0 m_X8_finish 0 [vo k0, vi x1, vi x2, vi x3] [] g0 h (zPv Q)
  refine a_aload_n (pc := 0) dX8_finish_0 rfl ?_
  refine a_getF (pc := 1) dX8_finish_1 fl_X8_9 (goThings hk0) (gfThings_1 hk0) ?_
  refine a_iload_n (pc := 4) dX8_finish_4 rfl ?_
  refine a_iload_n (pc := 5) dX8_finish_5 rfl ?_
  obtain ⟨hb1, H⟩ := H
  refine a_iastore (pc := 6) dX8_finish_6 (gaThings_1 hk0) hb1 ?_
  have H := H _ rfl
  generalize stI h (k0 + 1) x1.toNat x2 = h2 at H ⊢
  refine a_aload_n (pc := 7) dX8_finish_7 rfl ?_
  refine a_getF (pc := 8) dX8_finish_8 fl_X8_18 (goThings hk0) (gfThings_3 hk0) ?_
  refine a_iload_n (pc := 11) dX8_finish_11 rfl ?_
  refine a_iload_n (pc := 12) dX8_finish_12 rfl ?_
  refine a_iastore (pc := 13) dX8_finish_13 (gaThings_3 hk0) hb1 ?_
  have H := H _ rfl
  generalize stI h2 (k0 + 3) x1.toNat x3 = h3 at H ⊢
  refine a_aload_n (pc := 14) dX8_finish_14 rfl ?_
  refine a_getF (pc := 15) dX8_finish_15 fl_X8_21 (goThings hk0) (gfThings_4 hk0) ?_
  refine a_iload_n (pc := 18) dX8_finish_18 rfl ?_
  refine a_iconst (pc := 19) dX8_finish_19 (by decide) ?_
  refine a_iastore (pc := 20) dX8_finish_20 (gaThings_4 hk0) hb1 ?_
  have H := H _ rfl
  generalize stI h3 (k0 + 4) x1.toNat (-1) = h4 at H ⊢
  refine a_aload_n (pc := 21) dX8_finish_21 rfl ?_
  refine a_getF (pc := 22) dX8_finish_22 fl_X8_24 (goThings hk0) (gfThings_5 hk0) ?_
  refine a_iload_n (pc := 25) dX8_finish_25 rfl ?_
  refine a_iconst (pc := 26) dX8_finish_26 (by decide) ?_
  refine a_iastore (pc := 27) dX8_finish_27 (gaThings_5 hk0) hb1 ?_
  have H := H _ rfl
  generalize stI h4 (k0 + 5) x1.toNat (-1) = h5 at H ⊢
  exact a_return (pc := 28) dX8_finish_28 trivial ⟨rfl, rfl, H⟩
set_option maxRecDepth 20000 in
theorem v_X8_howMany {E : zE} {d : Nat} {h : zS} {Q : Int → zS → Prop} {k0 : Nat} {x1 : Int} (hk0 : isThings k0) (H : zWi E d m_X8_howMany 4 [vo k0, vi x1, vi 0, vi 0] h Q) : zCi E d m_X8_howMany [vo k0, vi x1] h Q := by
  show zAt E d 0 0 m_X8_howMany 0 [vo k0, vi x1, vn, vn] [] g0 h (zPi Q)
  refine a_iconst (pc := 0) dX8_howMany_0 (by decide) ?_
  refine a_istore_n (pc := 1) (ls' := [vo k0, vi x1, vi 0, vn]) dX8_howMany_1 rfl rfl ?_
  refine a_iconst (pc := 2) dX8_howMany_2 (by decide) ?_
  refine a_istore_n (pc := 3) (ls' := [vo k0, vi x1, vi 0, vi 0]) dX8_howMany_3 rfl rfl ?_
  exact H
set_option maxRecDepth 20000 in
theorem r_X8_howMany_4 {E : zE} {d : Nat} {h : zS} {Q : Int → zS → Prop} {k0 : Nat} {x1 : Int} {x2 : Int} {x3 : Int} (hk0 : isThings k0) (H : (((hI h k0 0) ≤ x3 → (Q x2 h)) ∧ (x3 < (hI h k0 0) → ((0 ≤ x3 ∧ x3 < 12) ∧ (∀ y3 : Int, y3 = w32 (x2 + (if (hI h (k0 + 1) x3.toNat) ≠ x1 then 0 else 1)) → zWi E d m_X8_howMany 4 [vo k0, vi x1, vi y3, vi (w32 (x3 + 1))] h Q))))) : zWi E d m_X8_howMany 4 [vo k0, vi x1, vi x2, vi x3] h Q := by
  refine a_iload_n (pc := 4) dX8_howMany_4 rfl ?_
  refine a_aload_n (pc := 5) dX8_howMany_5 rfl ?_
  refine a_getI (pc := 6) dX8_howMany_6 fl_X8_27 (goThings hk0) ?_
  refine a_icmp_ge (pc := 9) (tgt := 36) dX8_howMany_9 (by decide) (fun c => ?_) (fun c => ?_)
  · have H := H.1 c
    refine a_iload_n (pc := 36) dX8_howMany_36 rfl ?_
    exact a_ireturn (pc := 37) dX8_howMany_37 trivial ⟨_, rfl, rfl, H⟩
  · have H := H.2 c
    refine a_iload_n (pc := 12) dX8_howMany_12 rfl ?_
    refine a_aload_n (pc := 13) dX8_howMany_13 rfl ?_
    refine a_getF (pc := 14) dX8_howMany_14 fl_X8_9 (goThings hk0) (gfThings_1 hk0) ?_
    refine a_iload_n (pc := 17) dX8_howMany_17 rfl ?_
    obtain ⟨hb1, H⟩ := H
    refine a_iaload (pc := 18) dX8_howMany_18 (gaThings_1 hk0) hb1 ?_
    refine a_iload_n (pc := 19) dX8_howMany_19 rfl ?_
    have J : zAt E d 0 0 m_X8_howMany 28 [vo k0, vi x1, vi x2, vi x3] [vi (if (hI h (k0 + 1) x3.toNat) ≠ x1 then 0 else 1), vi x2] g0 h (zPi Q) := by
      refine a_iadd (pc := 28) dX8_howMany_28 ?_
      have H := H _ rfl
      generalize (w32 (x2 + (if (hI h (k0 + 1) x3.toNat) ≠ x1 then 0 else 1)) : Int) = y3 at H ⊢
      refine a_istore_n (pc := 29) (ls' := [vo k0, vi x1, vi y3, vi x3]) dX8_howMany_29 rfl rfl ?_
      refine a_iinc (pc := 30) (ls' := [vo k0, vi x1, vi y3, vi (w32 (x3 + 1))]) dX8_howMany_30 rfl rfl rfl ?_
      refine a_goto (pc := 33) (tgt := 4) dX8_howMany_33 (by decide) ?_
      exact H
    refine a_icmp_ne (pc := 20) (tgt := 27) dX8_howMany_20 (by decide) (fun c2 => ?_) (fun c2 => ?_)
    · skip
      refine a_iconst (pc := 27) dX8_howMany_27 (by decide) ?_
      exact (z_mergeT c2 J)
    · skip
      refine a_iconst (pc := 23) dX8_howMany_23 (by decide) ?_
      refine a_goto (pc := 24) (tgt := 28) dX8_howMany_24 (by decide) ?_
      exact (z_mergeF (fun n => n c2) J)
