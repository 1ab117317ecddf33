/-! by program: the conditions of each method, Face -/
set_option maxRecDepth 20000 in
theorem v_X9_feed {E : zE} {d : Nat} {h : zS} {Q : Int → zS → Prop} {x1 : Int} {x2 : Int} {x3 : Int} {x4 : Int} {x5 : Int}  (H : (((w32 ((hI h 0 1) + 20)) ≤ 1600 → (zCv E d m_X9_put [vo 0, vi x1] h (fun h1 => zCv E d m_X9_put [vo 0, vi x2] h1 (fun h2 => zCv E d m_X9_put [vo 0, vi x3] h2 (fun h3 => zCv E d m_X9_put [vo 0, vi x4] h3 (fun h4 => zCv E d m_X9_put [vo 0, vi x5] h4 (fun h5 => Q (hI h5 0 1) h5))))))) ∧ (1600 < (w32 ((hI h 0 1) + 20)) → (Q (-1) h)))) : zCi E (d + 1) m_X9_feed [vo 0, vi x1, vi x2, vi x3, vi x4, vi x5] h Q := by
  show zAt E (d + 1) 0 0 m_X9_feed 0 [vo 0, vi x1, vi x2, vi x3, vi x4, vi x5] [] g0 h (zPi Q)
  refine a_aload_n (pc := 0) dX9_feed_0 rfl ?_
  refine a_getI (pc := 1) dX9_feed_1 fl_X9_62 (go_0) ?_
  refine a_bipush (pc := 4) dX9_feed_4 (by decide) ?_
  refine a_iadd (pc := 6) dX9_feed_6 ?_
  refine a_sipush (pc := 7) dX9_feed_7 (by decide) ?_
  refine a_icmp_le (pc := 10) (tgt := 15) dX9_feed_10 (by decide) (fun c => ?_) (fun c => ?_)
  · have H := H.1 c
    refine a_aload_n (pc := 15) dX9_feed_15 rfl ?_
    refine a_iload_n (pc := 16) dX9_feed_16 rfl ?_
    refine a_callV (pc := 17) (kc := 0) (ks := 0) (kc' := 0) (ks' := 0) (st := []) [vi x1] dX9_feed_17 ml_X9_66 (go_0) rfl (Nat.le_of_ble_eq_true rfl) (Nat.le_of_ble_eq_true rfl) (z_post H (fun r G1 h1 q => ?_))
    obtain ⟨rfl, rfl, H⟩ := q
    show zAt E (d + 1) 0 0 m_X9_feed 20 [vo 0, vi x1, vi x2, vi x3, vi x4, vi x5] [] g0 h1 (zPi Q)
    refine a_aload_n (pc := 20) dX9_feed_20 rfl ?_
    refine a_iload_n (pc := 21) dX9_feed_21 rfl ?_
    refine a_callV (pc := 22) (kc := 0) (ks := 0) (kc' := 0) (ks' := 0) (st := []) [vi x2] dX9_feed_22 ml_X9_66 (go_0) rfl (Nat.le_of_ble_eq_true rfl) (Nat.le_of_ble_eq_true rfl) (z_post H (fun r G1 h2 q => ?_))
    obtain ⟨rfl, rfl, H⟩ := q
    show zAt E (d + 1) 0 0 m_X9_feed 25 [vo 0, vi x1, vi x2, vi x3, vi x4, vi x5] [] g0 h2 (zPi Q)
    refine a_aload_n (pc := 25) dX9_feed_25 rfl ?_
    refine a_iload_n (pc := 26) dX9_feed_26 rfl ?_
    refine a_callV (pc := 27) (kc := 0) (ks := 0) (kc' := 0) (ks' := 0) (st := []) [vi x3] dX9_feed_27 ml_X9_66 (go_0) rfl (Nat.le_of_ble_eq_true rfl) (Nat.le_of_ble_eq_true rfl) (z_post H (fun r G1 h3 q => ?_))
    obtain ⟨rfl, rfl, H⟩ := q
    show zAt E (d + 1) 0 0 m_X9_feed 30 [vo 0, vi x1, vi x2, vi x3, vi x4, vi x5] [] g0 h3 (zPi Q)
    refine a_aload_n (pc := 30) dX9_feed_30 rfl ?_
    refine a_iload (pc := 31) dX9_feed_31 rfl ?_
    refine a_callV (pc := 33) (kc := 0) (ks := 0) (kc' := 0) (ks' := 0) (st := []) [vi x4] dX9_feed_33 ml_X9_66 (go_0) rfl (Nat.le_of_ble_eq_true rfl) (Nat.le_of_ble_eq_true rfl) (z_post H (fun r G1 h4 q => ?_))
    obtain ⟨rfl, rfl, H⟩ := q
    show zAt E (d + 1) 0 0 m_X9_feed 36 [vo 0, vi x1, vi x2, vi x3, vi x4, vi x5] [] g0 h4 (zPi Q)
    refine a_aload_n (pc := 36) dX9_feed_36 rfl ?_
    refine a_iload (pc := 37) dX9_feed_37 rfl ?_
    refine a_callV (pc := 39) (kc := 0) (ks := 0) (kc' := 0) (ks' := 0) (st := []) [vi x5] dX9_feed_39 ml_X9_66 (go_0) rfl (Nat.le_of_ble_eq_true rfl) (Nat.le_of_ble_eq_true rfl) (z_post H (fun r G1 h5 q => ?_))
    obtain ⟨rfl, rfl, H⟩ := q
    show zAt E (d + 1) 0 0 m_X9_feed 42 [vo 0, vi x1, vi x2, vi x3, vi x4, vi x5] [] g0 h5 (zPi Q)
    refine a_aload_n (pc := 42) dX9_feed_42 rfl ?_
    refine a_getI (pc := 43) dX9_feed_43 fl_X9_62 (go_0) ?_
    exact a_ireturn (pc := 46) dX9_feed_46 trivial ⟨_, rfl, rfl, H⟩
  · have H := H.2 c
    refine a_iconst (pc := 13) dX9_feed_13 (by decide) ?_
    exact a_ireturn (pc := 14) dX9_feed_14 trivial ⟨_, rfl, rfl, H⟩
set_option maxRecDepth 20000 in
theorem v_X9_end {E : zE} {d : Nat} {h : zS} {Q : Int → zS → Prop} {x1 : Int}  (H : ((x1 < 0 → (Q (-1) h)) ∧ (0 ≤ x1 → ((x1 ≤ (hI h 0 1) → (∀ h1, h1 = stI h 0 1 x1 → Q x1 h1)) ∧ ((hI h 0 1) < x1 → (Q (-1) h)))))) : zCi E d m_X9_end [vo 0, vi x1] h Q := by
  show zAt E d 0 0 m_X9_end 0 [vo 0, vi x1] [] g0 h (zPi Q)
  refine a_iload_n (pc := 0) dX9_end_0 rfl ?_
  refine a_if_lt (pc := 1) (tgt := 12) dX9_end_1 (by decide) (fun c => ?_) (fun c => ?_)
  · have H := H.1 c
    refine a_iconst (pc := 12) dX9_end_12 (by decide) ?_
    exact a_ireturn (pc := 13) dX9_end_13 trivial ⟨_, rfl, rfl, H⟩
  · have H := H.2 c
    refine a_iload_n (pc := 4) dX9_end_4 rfl ?_
    refine a_aload_n (pc := 5) dX9_end_5 rfl ?_
    refine a_getI (pc := 6) dX9_end_6 fl_X9_62 (go_0) ?_
    refine a_icmp_le (pc := 9) (tgt := 14) dX9_end_9 (by decide) (fun c => ?_) (fun c => ?_)
    · have H := H.1 c
      refine a_aload_n (pc := 14) dX9_end_14 rfl ?_
      refine a_iload_n (pc := 15) dX9_end_15 rfl ?_
      refine a_putI (pc := 16) dX9_end_16 fl_X9_62 (go_0) ?_
      have H := H _ rfl
      generalize stI h 0 1 x1 = h1 at H ⊢
      refine a_iload_n (pc := 19) dX9_end_19 rfl ?_
      exact a_ireturn (pc := 20) dX9_end_20 trivial ⟨_, rfl, rfl, H⟩
    · have H := H.2 c
      refine a_iconst (pc := 12) dX9_end_12 (by decide) ?_
      exact a_ireturn (pc := 13) dX9_end_13 trivial ⟨_, rfl, rfl, H⟩
set_option maxRecDepth 20000 in
theorem v_X9_city {E : zE} {d : Nat} {h : zS} {Q : Int → zS → Prop}   (H : ∃ t1, hR h 0 4 = some t1 ∧ isCity t1 ∧ zCi E d m_X6_read [vo 2, vo 1, vi (hI h 0 1), vo t1] h (fun y3 h2 => ∀ h4, h4 = stI h2 0 1 0 → ((y3 ≠ 0 → (∃ t5, hR h4 0 3 = some t5 ∧ isCity t5 ∧ ∃ t6, hR h4 0 4 = some t6 ∧ isCity t6 ∧ ∀ h7, h7 = stR h4 0 3 (some t6) → ∀ h8, h8 = stR h7 0 4 (some t5) → ∃ t9, hR h8 0 3 = some t9 ∧ isCity t9 ∧ zCv E d m_X3_reckon [vo 24, vo t9] h8 (fun h10 => zCv E d m_X7_forget [vo 30] h10 (fun h11 => ∃ t12, hR h11 0 3 = some t12 ∧ isCity t12 ∧ zCv E d m_X1_begin [vo 34, vo t12] h11 (fun h13 => ∀ h14, h14 = stI h13 0 9 0 → zCv E d m_X2_forget [vo 83] h14 (fun h15 => ∃ t16, hR h15 0 3 = some t16 ∧ isCity t16 ∧ Q (hI h15 t16 0) h15)))))) ∧ (y3 = 0 → (Q (-1) h4))))) : zCi E (d + 1) m_X9_city [vo 0] h Q := by
  show zAt E (d + 1) 0 0 m_X9_city 0 [vo 0, vn, vn] [] g0 h (zPi Q)
  refine a_aload_n (pc := 0) dX9_city_0 rfl ?_
  refine a_getF (pc := 1) dX9_city_1 fl_X9_16 (go_0) (gf_0_2) ?_
  refine a_aload_n (pc := 4) dX9_city_4 rfl ?_
  refine a_getF (pc := 5) dX9_city_5 fl_X9_9 (go_0) (gf_0_0) ?_
  refine a_aload_n (pc := 8) dX9_city_8 rfl ?_
  refine a_getI (pc := 9) dX9_city_9 fl_X9_62 (go_0) ?_
  refine a_aload_n (pc := 12) dX9_city_12 rfl ?_
  obtain ⟨t1, het1, hct1, H⟩ := H
  refine a_getR (pc := 13) dX9_city_13 fl_X9_27 (go_0) het1 ?_
  refine a_callV (pc := 16) (kc := 0) (ks := 0) (kc' := 0) (ks' := 0) (st := []) [vo 1, vi (hI h 0 1), vo t1] dX9_city_16 ml_X9_70 (go_2) rfl (Nat.le_of_ble_eq_true rfl) (Nat.le_of_ble_eq_true rfl) (z_post H (fun r G1 h2 q => ?_))
  obtain ⟨y3, rfl, rfl, H⟩ := q
  show zAt E (d + 1) 0 0 m_X9_city 19 [vo 0, vn, vn] [vi y3] g0 h2 (zPi Q)
  refine a_istore_n (pc := 19) (ls' := [vo 0, vi y3, vn]) dX9_city_19 rfl rfl ?_
  refine a_aload_n (pc := 20) dX9_city_20 rfl ?_
  refine a_iconst (pc := 21) dX9_city_21 (by decide) ?_
  refine a_putI (pc := 22) dX9_city_22 fl_X9_62 (go_0) ?_
  have H := H _ rfl
  generalize stI h2 0 1 0 = h4 at H ⊢
  refine a_iload_n (pc := 25) dX9_city_25 rfl ?_
  refine a_if_ne (pc := 26) (tgt := 31) dX9_city_26 (by decide) (fun c => ?_) (fun c => ?_)
  · have H := H.1 c
    refine a_aload_n (pc := 31) dX9_city_31 rfl ?_
    obtain ⟨t5, het5, hct5, H⟩ := H
    refine a_getR (pc := 32) dX9_city_32 fl_X9_23 (go_0) het5 ?_
    refine a_astore_n (pc := 35) (ls' := [vo 0, vi y3, vo t5]) dX9_city_35 rfl rfl ?_
    refine a_aload_n (pc := 36) dX9_city_36 rfl ?_
    refine a_aload_n (pc := 37) dX9_city_37 rfl ?_
    obtain ⟨t6, het6, hct6, H⟩ := H
    refine a_getR (pc := 38) dX9_city_38 fl_X9_27 (go_0) het6 ?_
    refine a_putR (pc := 41) dX9_city_41 fl_X9_23 (go_0) ?_
    have H := H _ rfl
    generalize stR h4 0 3 (some t6) = h7 at H ⊢
    refine a_aload_n (pc := 44) dX9_city_44 rfl ?_
    refine a_aload_n (pc := 45) dX9_city_45 rfl ?_
    refine a_putR (pc := 46) dX9_city_46 fl_X9_27 (go_0) ?_
    have H := H _ rfl
    generalize stR h7 0 4 (some t5) = h8 at H ⊢
    refine a_aload_n (pc := 49) dX9_city_49 rfl ?_
    refine a_getF (pc := 50) dX9_city_50 fl_X9_33 (go_0) (gf_0_5) ?_
    refine a_aload_n (pc := 53) dX9_city_53 rfl ?_
    obtain ⟨t9, het9, hct9, H⟩ := H
    refine a_getR (pc := 54) dX9_city_54 fl_X9_23 (go_0) het9 ?_
    refine a_callV (pc := 57) (kc := 0) (ks := 0) (kc' := 0) (ks' := 0) (st := []) [vo t9] dX9_city_57 ml_X9_74 (go_24) rfl (Nat.le_of_ble_eq_true rfl) (Nat.le_of_ble_eq_true rfl) (z_post H (fun r G1 h10 q => ?_))
    obtain ⟨rfl, rfl, H⟩ := q
    show zAt E (d + 1) 0 0 m_X9_city 60 [vo 0, vi y3, vo t5] [] g0 h10 (zPi Q)
    refine a_aload_n (pc := 60) dX9_city_60 rfl ?_
    refine a_getF (pc := 61) dX9_city_61 fl_X9_40 (go_0) (gf_0_6) ?_
    refine a_callV (pc := 64) (kc := 0) (ks := 0) (kc' := 0) (ks' := 0) (st := []) [] dX9_city_64 ml_X9_78 (go_30) rfl (Nat.le_of_ble_eq_true rfl) (Nat.le_of_ble_eq_true rfl) (z_post H (fun r G1 h11 q => ?_))
    obtain ⟨rfl, rfl, H⟩ := q
    show zAt E (d + 1) 0 0 m_X9_city 67 [vo 0, vi y3, vo t5] [] g0 h11 (zPi Q)
    refine a_aload_n (pc := 67) dX9_city_67 rfl ?_
    refine a_getF (pc := 68) dX9_city_68 fl_X9_47 (go_0) (gf_0_7) ?_
    refine a_aload_n (pc := 71) dX9_city_71 rfl ?_
    obtain ⟨t12, het12, hct12, H⟩ := H
    refine a_getR (pc := 72) dX9_city_72 fl_X9_23 (go_0) het12 ?_
    refine a_callV (pc := 75) (kc := 0) (ks := 0) (kc' := 0) (ks' := 0) (st := []) [vo t12] dX9_city_75 ml_X9_81 (goEarnest isEarnest_34) rfl (Nat.le_of_ble_eq_true rfl) (Nat.le_of_ble_eq_true rfl) (z_post H (fun r G1 h13 q => ?_))
    obtain ⟨rfl, rfl, H⟩ := q
    show zAt E (d + 1) 0 0 m_X9_city 78 [vo 0, vi y3, vo t5] [] g0 h13 (zPi Q)
    refine a_aload_n (pc := 78) dX9_city_78 rfl ?_
    refine a_iconst (pc := 79) dX9_city_79 (by decide) ?_
    refine a_putI (pc := 80) dX9_city_80 fl_X9_84 (go_0) ?_
    have H := H _ rfl
    generalize stI h13 0 9 0 = h14 at H ⊢
    refine a_aload_n (pc := 83) dX9_city_83 rfl ?_
    refine a_getF (pc := 84) dX9_city_84 fl_X9_58 (go_0) (gf_0_10) ?_
    refine a_callV (pc := 87) (kc := 0) (ks := 0) (kc' := 0) (ks' := 0) (st := []) [] dX9_city_87 ml_X9_87 (go_83) rfl (Nat.le_of_ble_eq_true rfl) (Nat.le_of_ble_eq_true rfl) (z_post H (fun r G1 h15 q => ?_))
    obtain ⟨rfl, rfl, H⟩ := q
    show zAt E (d + 1) 0 0 m_X9_city 90 [vo 0, vi y3, vo t5] [] g0 h15 (zPi Q)
    refine a_aload_n (pc := 90) dX9_city_90 rfl ?_
    obtain ⟨t16, het16, hct16, H⟩ := H
    refine a_getR (pc := 91) dX9_city_91 fl_X9_23 (go_0) het16 ?_
    refine a_getI (pc := 94) dX9_city_94 fl_X9_88 (goCity hct16) ?_
    exact a_ireturn (pc := 97) dX9_city_97 trivial ⟨_, rfl, rfl, H⟩
  · have H := H.2 c
    refine a_iconst (pc := 29) dX9_city_29 (by decide) ?_
    exact a_ireturn (pc := 30) dX9_city_30 trivial ⟨_, rfl, rfl, H⟩
set_option maxRecDepth 20000 in
theorem v_X9_fault {E : zE} {d : Nat} {h : zS} {Q : Int → zS → Prop} {x1 : Int}  (H : ((x1 ≠ 0 → ((x1 ≠ 1 → (Q (-1) h)) ∧ (x1 = 1 → (Q (hI h 2 4) h)))) ∧ (x1 = 0 → (Q (hI h 2 3) h)))) : zCi E d m_X9_fault [vo 0, vi x1] h Q := by
  show zAt E d 0 0 m_X9_fault 0 [vo 0, vi x1] [] g0 h (zPi Q)
  refine a_iload_n (pc := 0) dX9_fault_0 rfl ?_
  refine a_if_ne (pc := 1) (tgt := 12) dX9_fault_1 (by decide) (fun c => ?_) (fun c => ?_)
  · have H := H.1 c
    refine a_iload_n (pc := 12) dX9_fault_12 rfl ?_
    refine a_iconst (pc := 13) dX9_fault_13 (by decide) ?_
    refine a_icmp_ne (pc := 14) (tgt := 27) dX9_fault_14 (by decide) (fun c => ?_) (fun c => ?_)
    · have H := H.1 c
      refine a_iconst (pc := 27) dX9_fault_27 (by decide) ?_
      exact a_ireturn (pc := 28) dX9_fault_28 trivial ⟨_, rfl, rfl, H⟩
    · have H := H.2 c
      refine a_aload_n (pc := 17) dX9_fault_17 rfl ?_
      refine a_getF (pc := 18) dX9_fault_18 fl_X9_16 (go_0) (gf_0_2) ?_
      refine a_getI (pc := 21) dX9_fault_21 fl_X9_94 (go_2) ?_
      refine a_goto (pc := 24) (tgt := 28) dX9_fault_24 (by decide) ?_
      exact a_ireturn (pc := 28) dX9_fault_28 trivial ⟨_, rfl, rfl, H⟩
  · have H := H.2 c
    refine a_aload_n (pc := 4) dX9_fault_4 rfl ?_
    refine a_getF (pc := 5) dX9_fault_5 fl_X9_16 (go_0) (gf_0_2) ?_
    refine a_getI (pc := 8) dX9_fault_8 fl_X9_91 (go_2) ?_
    exact a_ireturn (pc := 11) dX9_fault_11 trivial ⟨_, rfl, rfl, H⟩
set_option maxRecDepth 20000 in
theorem v_X9_knows {E : zE} {d : Nat} {h : zS} {Q : Int → zS → Prop} {x1 : Int}  (H : ∃ t1, hR h 0 3 = some t1 ∧ isCity t1 ∧ zCi E d m_X0_has [vo t1, vi x1] h (fun y3 h2 => ((y3 = 0 → (Q (-1) h2)) ∧ (y3 ≠ 0 → (∃ t4, hR h2 0 3 = some t4 ∧ isCity t4 ∧ (0 ≤ x1 ∧ x1 < 12) ∧ Q (hI h2 (t4 + 9) x1.toNat) h2))))) : zCi E (d + 1) m_X9_knows [vo 0, vi x1] h Q := by
  show zAt E (d + 1) 0 0 m_X9_knows 0 [vo 0, vi x1] [] g0 h (zPi Q)
  refine a_aload_n (pc := 0) dX9_knows_0 rfl ?_
  obtain ⟨t1, het1, hct1, H⟩ := H
  refine a_getR (pc := 1) dX9_knows_1 fl_X9_23 (go_0) het1 ?_
  refine a_iload_n (pc := 4) dX9_knows_4 rfl ?_
  refine a_callV (pc := 5) (kc := 0) (ks := 0) (kc' := 0) (ks' := 0) (st := []) [vi x1] dX9_knows_5 ml_X9_97 (goCity hct1) rfl (Nat.le_of_ble_eq_true rfl) (Nat.le_of_ble_eq_true rfl) (z_post H (fun r G1 h2 q => ?_))
  obtain ⟨y3, rfl, rfl, H⟩ := q
  show zAt E (d + 1) 0 0 m_X9_knows 8 [vo 0, vi x1] [vi y3] g0 h2 (zPi Q)
  refine a_if_eq (pc := 8) (tgt := 23) dX9_knows_8 (by decide) (fun c => ?_) (fun c => ?_)
  · have H := H.1 c
    refine a_iconst (pc := 23) dX9_knows_23 (by decide) ?_
    exact a_ireturn (pc := 24) dX9_knows_24 trivial ⟨_, rfl, rfl, H⟩
  · have H := H.2 c
    refine a_aload_n (pc := 11) dX9_knows_11 rfl ?_
    obtain ⟨t4, het4, hct4, H⟩ := H
    refine a_getR (pc := 12) dX9_knows_12 fl_X9_23 (go_0) het4 ?_
    refine a_getG (pc := 15) dX9_knows_15 fl_X9_101 rfl (goCity hct4) (gfCity_13 hct4) ?_
    refine a_iload_n (pc := 18) dX9_knows_18 rfl ?_
    obtain ⟨hb5, H⟩ := H
    refine a_iaload (pc := 19) dX9_knows_19 (gaCity_13 hct4) hb5 ?_
    refine a_goto (pc := 20) (tgt := 24) dX9_knows_20 (by decide) ?_
    exact a_ireturn (pc := 24) dX9_knows_24 trivial ⟨_, rfl, rfl, H⟩
set_option maxRecDepth 20000 in
theorem v_X9_quick {E : zE} {d : Nat} {h : zS} {Q : Int → zS → Prop}   (H : ∃ t1, hR h 0 3 = some t1 ∧ isCity t1 ∧ zCv E d m_X7_stepByDays [vo 30, vo t1] h (fun h2 => ∃ t3, hR h2 0 3 = some t3 ∧ isCity t3 ∧ zCl E d m_X7_layLeast [vo 30, vo t3] h2 (fun y5 h4 => (((z_lcmp y5 4000000000000000000) ≠ 0 → (Q (w32 y5) h4)) ∧ ((z_lcmp y5 4000000000000000000) = 0 → (Q (-1) h4)))))) : zCi E (d + 1) m_X9_quick [vo 0] h Q := by
  show zAt E (d + 1) 0 0 m_X9_quick 0 [vo 0, vn, vn] [] g0 h (zPi Q)
  refine a_aload_n (pc := 0) dX9_quick_0 rfl ?_
  refine a_getF (pc := 1) dX9_quick_1 fl_X9_40 (go_0) (gf_0_6) ?_
  refine a_aload_n (pc := 4) dX9_quick_4 rfl ?_
  obtain ⟨t1, het1, hct1, H⟩ := H
  refine a_getR (pc := 5) dX9_quick_5 fl_X9_23 (go_0) het1 ?_
  refine a_callV (pc := 8) (kc := 0) (ks := 0) (kc' := 0) (ks' := 0) (st := []) [vo t1] dX9_quick_8 ml_X9_105 (go_30) rfl (Nat.le_of_ble_eq_true rfl) (Nat.le_of_ble_eq_true rfl) (z_post H (fun r G1 h2 q => ?_))
  obtain ⟨rfl, rfl, H⟩ := q
  show zAt E (d + 1) 0 0 m_X9_quick 11 [vo 0, vn, vn] [] g0 h2 (zPi Q)
  refine a_aload_n (pc := 11) dX9_quick_11 rfl ?_
  refine a_getF (pc := 12) dX9_quick_12 fl_X9_40 (go_0) (gf_0_6) ?_
  refine a_aload_n (pc := 15) dX9_quick_15 rfl ?_
  obtain ⟨t3, het3, hct3, H⟩ := H
  refine a_getR (pc := 16) dX9_quick_16 fl_X9_23 (go_0) het3 ?_
  refine a_callV (pc := 19) (kc := 0) (ks := 0) (kc' := 0) (ks' := 0) (st := []) [vo t3] dX9_quick_19 ml_X9_108 (go_30) rfl (Nat.le_of_ble_eq_true rfl) (Nat.le_of_ble_eq_true rfl) (z_post H (fun r G1 h4 q => ?_))
  obtain ⟨y5, rfl, rfl, H⟩ := q
  show zAt E (d + 1) 0 0 m_X9_quick 22 [vo 0, vn, vn] [vl y5] g0 h4 (zPi Q)
  refine a_lstore_n (pc := 22) (ls' := [vo 0, vl y5, vn]) dX9_quick_22 rfl rfl ?_
  refine a_lload_n (pc := 23) dX9_quick_23 rfl ?_
  refine a_ldc2 (pc := 24) dX9_quick_24 cl_X9_112 (by decide) ?_
  refine a_lcmp (pc := 27) dX9_quick_27 ?_
  refine a_if_ne (pc := 28) (tgt := 35) dX9_quick_28 (by decide) (fun c => ?_) (fun c => ?_)
  · have H := H.1 c
    refine a_lload_n (pc := 35) dX9_quick_35 rfl ?_
    refine a_l2i (pc := 36) dX9_quick_36 ?_
    exact a_ireturn (pc := 37) dX9_quick_37 trivial ⟨_, rfl, rfl, H⟩
  · have H := H.2 c
    refine a_iconst (pc := 31) dX9_quick_31 (by decide) ?_
    refine a_goto (pc := 32) (tgt := 37) dX9_quick_32 (by decide) ?_
    exact a_ireturn (pc := 37) dX9_quick_37 trivial ⟨_, rfl, rfl, H⟩
set_option maxRecDepth 20000 in
theorem v_X9_safe {E : zE} {d : Nat} {h : zS} {Q : Int → zS → Prop} {x1 : Int}  (H : ((x1 = 0 → (∃ t1, hR h 0 3 = some t1 ∧ isCity t1 ∧ zCv E d m_X7_stepByOdds [vo 30, vo t1] h (fun h2 => ∃ t3, hR h2 0 3 = some t3 ∧ isCity t3 ∧ zCl E d m_X7_layLikeliest [vo 30, vo t3] h2 (fun y5 h4 => (((z_lcmp y5 4000000000000000000) ≠ 0 → (zCl E d m_X9_commonDivisor [vl 1000000000000000000, vl y5] h4 (fun y7 h6 => ((0 ≤ (z_lcmp y7 1) → ((y7 ≠ 0) ∧ Q (z_ldiv (if x1 ≠ 0 then 1000000000000000000 else y5) y7) h6)) ∧ ((z_lcmp y7 1) < 0 → (Q (-1) h6)))))) ∧ ((z_lcmp y5 4000000000000000000) = 0 → (Q (-1) h4))))))) ∧ (x1 ≠ 0 → ((x1 = 1 → (∃ t9, hR h 0 3 = some t9 ∧ isCity t9 ∧ zCv E d m_X7_stepByOdds [vo 30, vo t9] h (fun h10 => ∃ t11, hR h10 0 3 = some t11 ∧ isCity t11 ∧ zCl E d m_X7_layLikeliest [vo 30, vo t11] h10 (fun y13 h12 => (((z_lcmp y13 4000000000000000000) ≠ 0 → (zCl E d m_X9_commonDivisor [vl 1000000000000000000, vl y13] h12 (fun y15 h14 => ((0 ≤ (z_lcmp y15 1) → ((y15 ≠ 0) ∧ Q (z_ldiv (if x1 ≠ 0 then 1000000000000000000 else y13) y15) h14)) ∧ ((z_lcmp y15 1) < 0 → (Q (-1) h14)))))) ∧ ((z_lcmp y13 4000000000000000000) = 0 → (Q (-1) h12))))))) ∧ (x1 ≠ 1 → (zCv E d m_X7_forget [vo 30] h (fun h17 => Q (-1) h17))))))) : zCl E (d + 1) m_X9_safe [vo 0, vi x1] h Q := by
  show zAt E (d + 1) 0 0 m_X9_safe 0 [vo 0, vi x1, vn, vn, vn, vn] [] g0 h (zPl Q)
  refine a_iload_n (pc := 0) dX9_safe_0 rfl ?_
  refine a_if_eq (pc := 1) (tgt := 20) dX9_safe_1 (by decide) (fun c => ?_) (fun c => ?_)
  · have H := H.1 c
    refine a_aload_n (pc := 20) dX9_safe_20 rfl ?_
    refine a_getF (pc := 21) dX9_safe_21 fl_X9_40 (go_0) (gf_0_6) ?_
    refine a_aload_n (pc := 24) dX9_safe_24 rfl ?_
    obtain ⟨t1, het1, hct1, H⟩ := H
    refine a_getR (pc := 25) dX9_safe_25 fl_X9_23 (go_0) het1 ?_
    refine a_callV (pc := 28) (kc := 0) (ks := 0) (kc' := 0) (ks' := 0) (st := []) [vo t1] dX9_safe_28 ml_X9_116 (go_30) rfl (Nat.le_of_ble_eq_true rfl) (Nat.le_of_ble_eq_true rfl) (z_post H (fun r G1 h2 q => ?_))
    obtain ⟨rfl, rfl, H⟩ := q
    show zAt E (d + 1) 0 0 m_X9_safe 31 [vo 0, vi x1, vn, vn, vn, vn] [] g0 h2 (zPl Q)
    refine a_aload_n (pc := 31) dX9_safe_31 rfl ?_
    refine a_getF (pc := 32) dX9_safe_32 fl_X9_40 (go_0) (gf_0_6) ?_
    refine a_aload_n (pc := 35) dX9_safe_35 rfl ?_
    obtain ⟨t3, het3, hct3, H⟩ := H
    refine a_getR (pc := 36) dX9_safe_36 fl_X9_23 (go_0) het3 ?_
    refine a_callV (pc := 39) (kc := 0) (ks := 0) (kc' := 0) (ks' := 0) (st := []) [vo t3] dX9_safe_39 ml_X9_119 (go_30) rfl (Nat.le_of_ble_eq_true rfl) (Nat.le_of_ble_eq_true rfl) (z_post H (fun r G1 h4 q => ?_))
    obtain ⟨y5, rfl, rfl, H⟩ := q
    show zAt E (d + 1) 0 0 m_X9_safe 42 [vo 0, vi x1, vn, vn, vn, vn] [vl y5] g0 h4 (zPl Q)
    refine a_lstore_n (pc := 42) (ls' := [vo 0, vi x1, vl y5, vn, vn, vn]) dX9_safe_42 rfl rfl ?_
    refine a_lload_n (pc := 43) dX9_safe_43 rfl ?_
    refine a_ldc2 (pc := 44) dX9_safe_44 cl_X9_112 (by decide) ?_
    refine a_lcmp (pc := 47) dX9_safe_47 ?_
    refine a_if_ne (pc := 48) (tgt := 55) dX9_safe_48 (by decide) (fun c => ?_) (fun c => ?_)
    · have H := H.1 c
      refine a_ldc2 (pc := 55) dX9_safe_55 cl_X9_122 (by decide) ?_
      refine a_lload_n (pc := 58) dX9_safe_58 rfl ?_
      refine a_callS (pc := 59) (kc := 0) (ks := 0) (kc' := 0) (ks' := 0) (st := []) [vl 1000000000000000000, vl y5] dX9_safe_59 ml_X9_124 rfl (Nat.le_of_ble_eq_true rfl) (Nat.le_of_ble_eq_true rfl) (z_post H (fun r G1 h6 q => ?_))
      obtain ⟨y7, rfl, rfl, H⟩ := q
      show zAt E (d + 1) 0 0 m_X9_safe 62 [vo 0, vi x1, vl y5, vn, vn, vn] [vl y7] g0 h6 (zPl Q)
      refine a_lstore (pc := 62) (ls' := [vo 0, vi x1, vl y5, vn, vl y7, vn]) dX9_safe_62 rfl rfl ?_
      refine a_lload (pc := 64) dX9_safe_64 rfl ?_
      refine a_lconst1 (pc := 66) dX9_safe_66 ?_
      refine a_lcmp (pc := 67) dX9_safe_67 ?_
      refine a_if_ge (pc := 68) (tgt := 75) dX9_safe_68 (by decide) (fun c => ?_) (fun c => ?_)
      · have H := H.1 c
        refine a_iload_n (pc := 75) dX9_safe_75 rfl ?_
        have J : zAt E (d + 1) 0 0 m_X9_safe 86 [vo 0, vi x1, vl y5, vn, vl y7, vn] [vl (if x1 ≠ 0 then 1000000000000000000 else y5)] g0 h6 (zPl Q) := by
          refine a_lload (pc := 86) dX9_safe_86 rfl ?_
          obtain ⟨hb, H⟩ := H
          refine a_ldiv (pc := 88) dX9_safe_88 hb ?_
          exact a_lreturn (pc := 89) dX9_safe_89 trivial ⟨_, rfl, rfl, H⟩
        refine a_if_ne (pc := 76) (tgt := 83) dX9_safe_76 (by decide) (fun c8 => ?_) (fun c8 => ?_)
        · skip
          refine a_ldc2 (pc := 83) dX9_safe_83 cl_X9_122 (by decide) ?_
          exact (z_mergeTL c8 J)
        · skip
          refine a_lload_n (pc := 79) dX9_safe_79 rfl ?_
          refine a_goto (pc := 80) (tgt := 86) dX9_safe_80 (by decide) ?_
          exact (z_mergeFL (fun n => n c8) J)
      · have H := H.2 c
        refine a_ldc2 (pc := 71) dX9_safe_71 cl_X9_114 (by decide) ?_
        exact a_lreturn (pc := 74) dX9_safe_74 trivial ⟨_, rfl, rfl, H⟩
    · have H := H.2 c
      refine a_ldc2 (pc := 51) dX9_safe_51 cl_X9_114 (by decide) ?_
      exact a_lreturn (pc := 54) dX9_safe_54 trivial ⟨_, rfl, rfl, H⟩
  · have H := H.2 c
    refine a_iload_n (pc := 4) dX9_safe_4 rfl ?_
    refine a_iconst (pc := 5) dX9_safe_5 (by decide) ?_
    refine a_icmp_eq (pc := 6) (tgt := 20) dX9_safe_6 (by decide) (fun c => ?_) (fun c => ?_)
    · have H := H.1 c
      refine a_aload_n (pc := 20) dX9_safe_20 rfl ?_
      refine a_getF (pc := 21) dX9_safe_21 fl_X9_40 (go_0) (gf_0_6) ?_
      refine a_aload_n (pc := 24) dX9_safe_24 rfl ?_
      obtain ⟨t9, het9, hct9, H⟩ := H
      refine a_getR (pc := 25) dX9_safe_25 fl_X9_23 (go_0) het9 ?_
      refine a_callV (pc := 28) (kc := 0) (ks := 0) (kc' := 0) (ks' := 0) (st := []) [vo t9] dX9_safe_28 ml_X9_116 (go_30) rfl (Nat.le_of_ble_eq_true rfl) (Nat.le_of_ble_eq_true rfl) (z_post H (fun r G1 h10 q => ?_))
      obtain ⟨rfl, rfl, H⟩ := q
      show zAt E (d + 1) 0 0 m_X9_safe 31 [vo 0, vi x1, vn, vn, vn, vn] [] g0 h10 (zPl Q)
      refine a_aload_n (pc := 31) dX9_safe_31 rfl ?_
      refine a_getF (pc := 32) dX9_safe_32 fl_X9_40 (go_0) (gf_0_6) ?_
      refine a_aload_n (pc := 35) dX9_safe_35 rfl ?_
      obtain ⟨t11, het11, hct11, H⟩ := H
      refine a_getR (pc := 36) dX9_safe_36 fl_X9_23 (go_0) het11 ?_
      refine a_callV (pc := 39) (kc := 0) (ks := 0) (kc' := 0) (ks' := 0) (st := []) [vo t11] dX9_safe_39 ml_X9_119 (go_30) rfl (Nat.le_of_ble_eq_true rfl) (Nat.le_of_ble_eq_true rfl) (z_post H (fun r G1 h12 q => ?_))
      obtain ⟨y13, rfl, rfl, H⟩ := q
      show zAt E (d + 1) 0 0 m_X9_safe 42 [vo 0, vi x1, vn, vn, vn, vn] [vl y13] g0 h12 (zPl Q)
      refine a_lstore_n (pc := 42) (ls' := [vo 0, vi x1, vl y13, vn, vn, vn]) dX9_safe_42 rfl rfl ?_
      refine a_lload_n (pc := 43) dX9_safe_43 rfl ?_
      refine a_ldc2 (pc := 44) dX9_safe_44 cl_X9_112 (by decide) ?_
      refine a_lcmp (pc := 47) dX9_safe_47 ?_
      refine a_if_ne (pc := 48) (tgt := 55) dX9_safe_48 (by decide) (fun c => ?_) (fun c => ?_)
      · have H := H.1 c
        refine a_ldc2 (pc := 55) dX9_safe_55 cl_X9_122 (by decide) ?_
        refine a_lload_n (pc := 58) dX9_safe_58 rfl ?_
        refine a_callS (pc := 59) (kc := 0) (ks := 0) (kc' := 0) (ks' := 0) (st := []) [vl 1000000000000000000, vl y13] dX9_safe_59 ml_X9_124 rfl (Nat.le_of_ble_eq_true rfl) (Nat.le_of_ble_eq_true rfl) (z_post H (fun r G1 h14 q => ?_))
        obtain ⟨y15, rfl, rfl, H⟩ := q
        show zAt E (d + 1) 0 0 m_X9_safe 62 [vo 0, vi x1, vl y13, vn, vn, vn] [vl y15] g0 h14 (zPl Q)
        refine a_lstore (pc := 62) (ls' := [vo 0, vi x1, vl y13, vn, vl y15, vn]) dX9_safe_62 rfl rfl ?_
        refine a_lload (pc := 64) dX9_safe_64 rfl ?_
        refine a_lconst1 (pc := 66) dX9_safe_66 ?_
        refine a_lcmp (pc := 67) dX9_safe_67 ?_
        refine a_if_ge (pc := 68) (tgt := 75) dX9_safe_68 (by decide) (fun c => ?_) (fun c => ?_)
        · have H := H.1 c
          refine a_iload_n (pc := 75) dX9_safe_75 rfl ?_
          have J : zAt E (d + 1) 0 0 m_X9_safe 86 [vo 0, vi x1, vl y13, vn, vl y15, vn] [vl (if x1 ≠ 0 then 1000000000000000000 else y13)] g0 h14 (zPl Q) := by
            refine a_lload (pc := 86) dX9_safe_86 rfl ?_
            obtain ⟨hb, H⟩ := H
            refine a_ldiv (pc := 88) dX9_safe_88 hb ?_
            exact a_lreturn (pc := 89) dX9_safe_89 trivial ⟨_, rfl, rfl, H⟩
          refine a_if_ne (pc := 76) (tgt := 83) dX9_safe_76 (by decide) (fun c16 => ?_) (fun c16 => ?_)
          · skip
            refine a_ldc2 (pc := 83) dX9_safe_83 cl_X9_122 (by decide) ?_
            exact (z_mergeTL c16 J)
          · skip
            refine a_lload_n (pc := 79) dX9_safe_79 rfl ?_
            refine a_goto (pc := 80) (tgt := 86) dX9_safe_80 (by decide) ?_
            exact (z_mergeFL (fun n => n c16) J)
        · have H := H.2 c
          refine a_ldc2 (pc := 71) dX9_safe_71 cl_X9_114 (by decide) ?_
          exact a_lreturn (pc := 74) dX9_safe_74 trivial ⟨_, rfl, rfl, H⟩
      · have H := H.2 c
        refine a_ldc2 (pc := 51) dX9_safe_51 cl_X9_114 (by decide) ?_
        exact a_lreturn (pc := 54) dX9_safe_54 trivial ⟨_, rfl, rfl, H⟩
    · have H := H.2 c
      refine a_aload_n (pc := 9) dX9_safe_9 rfl ?_
      refine a_getF (pc := 10) dX9_safe_10 fl_X9_40 (go_0) (gf_0_6) ?_
      refine a_callV (pc := 13) (kc := 0) (ks := 0) (kc' := 0) (ks' := 0) (st := []) [] dX9_safe_13 ml_X9_78 (go_30) rfl (Nat.le_of_ble_eq_true rfl) (Nat.le_of_ble_eq_true rfl) (z_post H (fun r G1 h17 q => ?_))
      obtain ⟨rfl, rfl, H⟩ := q
      show zAt E (d + 1) 0 0 m_X9_safe 16 [vo 0, vi x1, vn, vn, vn, vn] [] g0 h17 (zPl Q)
      refine a_ldc2 (pc := 16) dX9_safe_16 cl_X9_114 (by decide) ?_
      exact a_lreturn (pc := 19) dX9_safe_19 trivial ⟨_, rfl, rfl, H⟩
set_option maxRecDepth 20000 in
theorem v_X9_cheap {E : zE} {d : Nat} {h : zS} {Q : Int → zS → Prop}   (H : ∃ t1, hR h 0 3 = some t1 ∧ isCity t1 ∧ zCv E d m_X7_stepByKeeps [vo 30, vo t1] h (fun h2 => ∃ t3, hR h2 0 3 = some t3 ∧ isCity t3 ∧ zCl E d m_X7_layLeast [vo 30, vo t3] h2 (fun y5 h4 => (((z_lcmp y5 4000000000000000000) ≠ 0 → (Q (w32 y5) h4)) ∧ ((z_lcmp y5 4000000000000000000) = 0 → (Q (-1) h4)))))) : zCi E (d + 1) m_X9_cheap [vo 0] h Q := by
  show zAt E (d + 1) 0 0 m_X9_cheap 0 [vo 0, vn, vn] [] g0 h (zPi Q)
  refine a_aload_n (pc := 0) dX9_cheap_0 rfl ?_
  refine a_getF (pc := 1) dX9_cheap_1 fl_X9_40 (go_0) (gf_0_6) ?_
  refine a_aload_n (pc := 4) dX9_cheap_4 rfl ?_
  obtain ⟨t1, het1, hct1, H⟩ := H
  refine a_getR (pc := 5) dX9_cheap_5 fl_X9_23 (go_0) het1 ?_
  refine a_callV (pc := 8) (kc := 0) (ks := 0) (kc' := 0) (ks' := 0) (st := []) [vo t1] dX9_cheap_8 ml_X9_128 (go_30) rfl (Nat.le_of_ble_eq_true rfl) (Nat.le_of_ble_eq_true rfl) (z_post H (fun r G1 h2 q => ?_))
  obtain ⟨rfl, rfl, H⟩ := q
  show zAt E (d + 1) 0 0 m_X9_cheap 11 [vo 0, vn, vn] [] g0 h2 (zPi Q)
  refine a_aload_n (pc := 11) dX9_cheap_11 rfl ?_
  refine a_getF (pc := 12) dX9_cheap_12 fl_X9_40 (go_0) (gf_0_6) ?_
  refine a_aload_n (pc := 15) dX9_cheap_15 rfl ?_
  obtain ⟨t3, het3, hct3, H⟩ := H
  refine a_getR (pc := 16) dX9_cheap_16 fl_X9_23 (go_0) het3 ?_
  refine a_callV (pc := 19) (kc := 0) (ks := 0) (kc' := 0) (ks' := 0) (st := []) [vo t3] dX9_cheap_19 ml_X9_108 (go_30) rfl (Nat.le_of_ble_eq_true rfl) (Nat.le_of_ble_eq_true rfl) (z_post H (fun r G1 h4 q => ?_))
  obtain ⟨y5, rfl, rfl, H⟩ := q
  show zAt E (d + 1) 0 0 m_X9_cheap 22 [vo 0, vn, vn] [vl y5] g0 h4 (zPi Q)
  refine a_lstore_n (pc := 22) (ls' := [vo 0, vl y5, vn]) dX9_cheap_22 rfl rfl ?_
  refine a_lload_n (pc := 23) dX9_cheap_23 rfl ?_
  refine a_ldc2 (pc := 24) dX9_cheap_24 cl_X9_112 (by decide) ?_
  refine a_lcmp (pc := 27) dX9_cheap_27 ?_
  refine a_if_ne (pc := 28) (tgt := 35) dX9_cheap_28 (by decide) (fun c => ?_) (fun c => ?_)
  · have H := H.1 c
    refine a_lload_n (pc := 35) dX9_cheap_35 rfl ?_
    refine a_l2i (pc := 36) dX9_cheap_36 ?_
    exact a_ireturn (pc := 37) dX9_cheap_37 trivial ⟨_, rfl, rfl, H⟩
  · have H := H.2 c
    refine a_iconst (pc := 31) dX9_cheap_31 (by decide) ?_
    refine a_goto (pc := 32) (tgt := 37) dX9_cheap_32 (by decide) ?_
    exact a_ireturn (pc := 37) dX9_cheap_37 trivial ⟨_, rfl, rfl, H⟩
set_option maxRecDepth 20000 in
theorem v_X9_lies {E : zE} {d : Nat} {h : zS} {Q : Int → zS → Prop} {x1 : Int}  (H : ((x1 < 0 → (Q (-1) h)) ∧ (0 ≤ x1 → (((hI h 30 4) ≤ x1 → (Q (-1) h)) ∧ (x1 < (hI h 30 4) → ((0 ≤ x1 ∧ x1 < 12) ∧ Q (hI h 33 x1.toNat) h)))))) : zCi E d m_X9_lies [vo 0, vi x1] h Q := by
  show zAt E d 0 0 m_X9_lies 0 [vo 0, vi x1] [] g0 h (zPi Q)
  refine a_iload_n (pc := 0) dX9_lies_0 rfl ?_
  refine a_if_lt (pc := 1) (tgt := 27) dX9_lies_1 (by decide) (fun c => ?_) (fun c => ?_)
  · have H := H.1 c
    refine a_iconst (pc := 27) dX9_lies_27 (by decide) ?_
    exact a_ireturn (pc := 28) dX9_lies_28 trivial ⟨_, rfl, rfl, H⟩
  · have H := H.2 c
    refine a_iload_n (pc := 4) dX9_lies_4 rfl ?_
    refine a_aload_n (pc := 5) dX9_lies_5 rfl ?_
    refine a_getF (pc := 6) dX9_lies_6 fl_X9_40 (go_0) (gf_0_6) ?_
    refine a_getI (pc := 9) dX9_lies_9 fl_X9_131 (go_30) ?_
    refine a_icmp_ge (pc := 12) (tgt := 27) dX9_lies_12 (by decide) (fun c => ?_) (fun c => ?_)
    · have H := H.1 c
      refine a_iconst (pc := 27) dX9_lies_27 (by decide) ?_
      exact a_ireturn (pc := 28) dX9_lies_28 trivial ⟨_, rfl, rfl, H⟩
    · have H := H.2 c
      refine a_aload_n (pc := 15) dX9_lies_15 rfl ?_
      refine a_getF (pc := 16) dX9_lies_16 fl_X9_40 (go_0) (gf_0_6) ?_
      refine a_getG (pc := 19) dX9_lies_19 fl_X9_134 rfl (go_30) (gf_30_3) ?_
      refine a_iload_n (pc := 22) dX9_lies_22 rfl ?_
      obtain ⟨hb1, H⟩ := H
      refine a_iaload (pc := 23) dX9_lies_23 (ga_33) hb1 ?_
      refine a_goto (pc := 24) (tgt := 28) dX9_lies_24 (by decide) ?_
      exact a_ireturn (pc := 28) dX9_lies_28 trivial ⟨_, rfl, rfl, H⟩
set_option maxRecDepth 20000 in
theorem v_X9_apart {E : zE} {d : Nat} {h : zS} {Q : Int → zS → Prop}   (H : ∃ t1, hR h 0 3 = some t1 ∧ isCity t1 ∧ zCi E d m_X0_hasEnds [vo t1] h (fun y3 h2 => ((y3 ≠ 0 → (∃ t4, hR h2 0 3 = some t4 ∧ isCity t4 ∧ ∃ t5, hR h2 0 3 = some t5 ∧ isCity t5 ∧ (((hI h2 t4 2) ≠ (hI h2 t5 3) → (∃ t6, hR h2 0 3 = some t6 ∧ isCity t6 ∧ zCi E d m_X0_between [vo t6] h2 (fun y8 h7 => zCi E d m_X9_leastBar [vo 0, vi y8, vi 1] h7 (fun y10 h9 => ∃ t11, hR h9 0 3 = some t11 ∧ isCity t11 ∧ ∃ t12, hR h9 0 3 = some t12 ∧ isCity t12 ∧ ∃ t13, hR h9 0 3 = some t13 ∧ isCity t13 ∧ zCi E d m_X0_gives [vo t11, vi (hI h9 t12 2), vi (hI h9 t13 3)] h9 (fun y15 h14 => (∀ y17 : Int, y17 = (if y15 = 0 then 0 else 1) → ((y10 ≠ (-1) → (zCi E d m_J6_bitCount_0f7a4 [vi y10] h14 (fun y19 h18 => Q (w32 (y17 + y19)) h18))) ∧ (y10 = (-1) → (Q (w32 (y17 + 0)) h14))))))))) ∧ ((hI h2 t4 2) = (hI h2 t5 3) → (Q 1 h2))))) ∧ (y3 = 0 → (Q 0 h2))))) : zCi E (d + 1) m_X9_apart [vo 0] h Q := by
  show zAt E (d + 1) 0 0 m_X9_apart 0 [vo 0, vn, vn] [] g0 h (zPi Q)
  refine a_aload_n (pc := 0) dX9_apart_0 rfl ?_
  obtain ⟨t1, het1, hct1, H⟩ := H
  refine a_getR (pc := 1) dX9_apart_1 fl_X9_23 (go_0) het1 ?_
  refine a_callV (pc := 4) (kc := 0) (ks := 0) (kc' := 0) (ks' := 0) (st := []) [] dX9_apart_4 ml_X9_137 (goCity hct1) rfl (Nat.le_of_ble_eq_true rfl) (Nat.le_of_ble_eq_true rfl) (z_post H (fun r G1 h2 q => ?_))
  obtain ⟨y3, rfl, rfl, H⟩ := q
  show zAt E (d + 1) 0 0 m_X9_apart 7 [vo 0, vn, vn] [vi y3] g0 h2 (zPi Q)
  refine a_if_ne (pc := 7) (tgt := 12) dX9_apart_7 (by decide) (fun c => ?_) (fun c => ?_)
  · have H := H.1 c
    refine a_aload_n (pc := 12) dX9_apart_12 rfl ?_
    obtain ⟨t4, het4, hct4, H⟩ := H
    refine a_getR (pc := 13) dX9_apart_13 fl_X9_23 (go_0) het4 ?_
    refine a_getI (pc := 16) dX9_apart_16 fl_X9_141 (goCity hct4) ?_
    refine a_aload_n (pc := 19) dX9_apart_19 rfl ?_
    obtain ⟨t5, het5, hct5, H⟩ := H
    refine a_getR (pc := 20) dX9_apart_20 fl_X9_23 (go_0) het5 ?_
    refine a_getI (pc := 23) dX9_apart_23 fl_X9_144 (goCity hct5) ?_
    refine a_icmp_ne (pc := 26) (tgt := 31) dX9_apart_26 (by decide) (fun c => ?_) (fun c => ?_)
    · have H := H.1 c
      refine a_aload_n (pc := 31) dX9_apart_31 rfl ?_
      refine a_aload_n (pc := 32) dX9_apart_32 rfl ?_
      obtain ⟨t6, het6, hct6, H⟩ := H
      refine a_getR (pc := 33) dX9_apart_33 fl_X9_23 (go_0) het6 ?_
      refine a_callV (pc := 36) (kc := 0) (ks := 0) (kc' := 0) (ks' := 0) (st := [vo 0]) [] dX9_apart_36 ml_X9_147 (goCity hct6) rfl (Nat.le_of_ble_eq_true rfl) (Nat.le_of_ble_eq_true rfl) (z_post H (fun r G1 h7 q => ?_))
      obtain ⟨y8, rfl, rfl, H⟩ := q
      show zAt E (d + 1) 0 0 m_X9_apart 39 [vo 0, vn, vn] [vi y8, vo 0] g0 h7 (zPi Q)
      refine a_iconst (pc := 39) dX9_apart_39 (by decide) ?_
      refine a_callV (pc := 40) (kc := 0) (ks := 0) (kc' := 0) (ks' := 0) (st := []) [vi y8, vi 1] dX9_apart_40 ml_X9_151 (go_0) rfl (Nat.le_of_ble_eq_true rfl) (Nat.le_of_ble_eq_true rfl) (z_post H (fun r G1 h9 q => ?_))
      obtain ⟨y10, rfl, rfl, H⟩ := q
      show zAt E (d + 1) 0 0 m_X9_apart 43 [vo 0, vn, vn] [vi y10] g0 h9 (zPi Q)
      refine a_istore_n (pc := 43) (ls' := [vo 0, vi y10, vn]) dX9_apart_43 rfl rfl ?_
      refine a_aload_n (pc := 44) dX9_apart_44 rfl ?_
      obtain ⟨t11, het11, hct11, H⟩ := H
      refine a_getR (pc := 45) dX9_apart_45 fl_X9_23 (go_0) het11 ?_
      refine a_aload_n (pc := 48) dX9_apart_48 rfl ?_
      obtain ⟨t12, het12, hct12, H⟩ := H
      refine a_getR (pc := 49) dX9_apart_49 fl_X9_23 (go_0) het12 ?_
      refine a_getI (pc := 52) dX9_apart_52 fl_X9_141 (goCity hct12) ?_
      refine a_aload_n (pc := 55) dX9_apart_55 rfl ?_
      obtain ⟨t13, het13, hct13, H⟩ := H
      refine a_getR (pc := 56) dX9_apart_56 fl_X9_23 (go_0) het13 ?_
      refine a_getI (pc := 59) dX9_apart_59 fl_X9_144 (goCity hct13) ?_
      refine a_callV (pc := 62) (kc := 0) (ks := 0) (kc' := 0) (ks' := 0) (st := []) [vi (hI h9 t12 2), vi (hI h9 t13 3)] dX9_apart_62 ml_X9_155 (goCity hct11) rfl (Nat.le_of_ble_eq_true rfl) (Nat.le_of_ble_eq_true rfl) (z_post H (fun r G1 h14 q => ?_))
      obtain ⟨y15, rfl, rfl, H⟩ := q
      show zAt E (d + 1) 0 0 m_X9_apart 65 [vo 0, vi y10, vn] [vi y15] g0 h14 (zPi Q)
      have J : zAt E (d + 1) 0 0 m_X9_apart 73 [vo 0, vi y10, vn] [vi (if y15 = 0 then 0 else 1)] g0 h14 (zPi Q) := by
        have H := H _ rfl
        generalize ((if y15 = 0 then 0 else 1) : Int) = y17 at H ⊢
        refine a_istore_n (pc := 73) (ls' := [vo 0, vi y10, vi y17]) dX9_apart_73 rfl rfl ?_
        refine a_iload_n (pc := 74) dX9_apart_74 rfl ?_
        refine a_iload_n (pc := 75) dX9_apart_75 rfl ?_
        refine a_iconst (pc := 76) dX9_apart_76 (by decide) ?_
        refine a_icmp_ne (pc := 77) (tgt := 84) dX9_apart_77 (by decide) (fun c => ?_) (fun c => ?_)
        · have H := H.1 c
          refine a_iload_n (pc := 84) dX9_apart_84 rfl ?_
          refine a_callS (pc := 85) (kc := 0) (ks := 0) (kc' := 0) (ks' := 0) (st := [vi y17]) [vi y10] dX9_apart_85 ml_X9_159 rfl (Nat.le_of_ble_eq_true rfl) (Nat.le_of_ble_eq_true rfl) (z_post H (fun r G1 h18 q => ?_))
          obtain ⟨y19, rfl, rfl, H⟩ := q
          show zAt E (d + 1) 0 0 m_X9_apart 88 [vo 0, vi y10, vi y17] [vi y19, vi y17] g0 h18 (zPi Q)
          refine a_iadd (pc := 88) dX9_apart_88 ?_
          exact a_ireturn (pc := 89) dX9_apart_89 trivial ⟨_, rfl, rfl, H⟩
        · have H := H.2 c
          refine a_iconst (pc := 80) dX9_apart_80 (by decide) ?_
          refine a_goto (pc := 81) (tgt := 88) dX9_apart_81 (by decide) ?_
          refine a_iadd (pc := 88) dX9_apart_88 ?_
          exact a_ireturn (pc := 89) dX9_apart_89 trivial ⟨_, rfl, rfl, H⟩
      refine a_if_eq (pc := 65) (tgt := 72) dX9_apart_65 (by decide) (fun c16 => ?_) (fun c16 => ?_)
      · skip
        refine a_iconst (pc := 72) dX9_apart_72 (by decide) ?_
        exact (z_mergeT c16 J)
      · skip
        refine a_iconst (pc := 68) dX9_apart_68 (by decide) ?_
        refine a_goto (pc := 69) (tgt := 73) dX9_apart_69 (by decide) ?_
        exact (z_mergeF c16 J)
    · have H := H.2 c
      refine a_iconst (pc := 29) dX9_apart_29 (by decide) ?_
      exact a_ireturn (pc := 30) dX9_apart_30 trivial ⟨_, rfl, rfl, H⟩
  · have H := H.2 c
    refine a_iconst (pc := 10) dX9_apart_10 (by decide) ?_
    exact a_ireturn (pc := 11) dX9_apart_11 trivial ⟨_, rfl, rfl, H⟩
set_option maxRecDepth 20000 in
theorem v_X9_cut {E : zE} {d : Nat} {h : zS} {Q : Int → zS → Prop}   (H : ∃ t1, hR h 0 3 = some t1 ∧ isCity t1 ∧ zCi E d m_X0_hasEnds [vo t1] h (fun y3 h2 => ((y3 = 0 → (Q 0 h2)) ∧ (y3 ≠ 0 → (∃ t4, hR h2 0 3 = some t4 ∧ isCity t4 ∧ zCi E d m_X0_between [vo t4] h2 (fun y6 h5 => ∃ t7, hR h5 0 3 = some t7 ∧ isCity t7 ∧ zCi E d m_X9_leastBar [vo 0, vi (z_and y6 (z_xor (hI h5 t7 14) (-1))), vi 0] h5 (fun y9 h8 => Q y9 h8))))))) : zCi E (d + 1) m_X9_cut [vo 0] h Q := by
  show zAt E (d + 1) 0 0 m_X9_cut 0 [vo 0] [] g0 h (zPi Q)
  refine a_aload_n (pc := 0) dX9_cut_0 rfl ?_
  obtain ⟨t1, het1, hct1, H⟩ := H
  refine a_getR (pc := 1) dX9_cut_1 fl_X9_23 (go_0) het1 ?_
  refine a_callV (pc := 4) (kc := 0) (ks := 0) (kc' := 0) (ks' := 0) (st := []) [] dX9_cut_4 ml_X9_137 (goCity hct1) rfl (Nat.le_of_ble_eq_true rfl) (Nat.le_of_ble_eq_true rfl) (z_post H (fun r G1 h2 q => ?_))
  obtain ⟨y3, rfl, rfl, H⟩ := q
  show zAt E (d + 1) 0 0 m_X9_cut 7 [vo 0] [vi y3] g0 h2 (zPi Q)
  refine a_if_eq (pc := 7) (tgt := 35) dX9_cut_7 (by decide) (fun c => ?_) (fun c => ?_)
  · have H := H.1 c
    refine a_iconst (pc := 35) dX9_cut_35 (by decide) ?_
    exact a_ireturn (pc := 36) dX9_cut_36 trivial ⟨_, rfl, rfl, H⟩
  · have H := H.2 c
    refine a_aload_n (pc := 10) dX9_cut_10 rfl ?_
    refine a_aload_n (pc := 11) dX9_cut_11 rfl ?_
    obtain ⟨t4, het4, hct4, H⟩ := H
    refine a_getR (pc := 12) dX9_cut_12 fl_X9_23 (go_0) het4 ?_
    refine a_callV (pc := 15) (kc := 0) (ks := 0) (kc' := 0) (ks' := 0) (st := [vo 0]) [] dX9_cut_15 ml_X9_147 (goCity hct4) rfl (Nat.le_of_ble_eq_true rfl) (Nat.le_of_ble_eq_true rfl) (z_post H (fun r G1 h5 q => ?_))
    obtain ⟨y6, rfl, rfl, H⟩ := q
    show zAt E (d + 1) 0 0 m_X9_cut 18 [vo 0] [vi y6, vo 0] g0 h5 (zPi Q)
    refine a_aload_n (pc := 18) dX9_cut_18 rfl ?_
    obtain ⟨t7, het7, hct7, H⟩ := H
    refine a_getR (pc := 19) dX9_cut_19 fl_X9_23 (go_0) het7 ?_
    refine a_getI (pc := 22) dX9_cut_22 fl_X9_165 (goCity hct7) ?_
    refine a_iconst (pc := 25) dX9_cut_25 (by decide) ?_
    refine a_ixor (pc := 26) dX9_cut_26 ?_
    refine a_iand (pc := 27) dX9_cut_27 ?_
    refine a_iconst (pc := 28) dX9_cut_28 (by decide) ?_
    refine a_callV (pc := 29) (kc := 0) (ks := 0) (kc' := 0) (ks' := 0) (st := []) [vi (z_and y6 (z_xor (hI h5 t7 14) (-1))), vi 0] dX9_cut_29 ml_X9_151 (go_0) rfl (Nat.le_of_ble_eq_true rfl) (Nat.le_of_ble_eq_true rfl) (z_post H (fun r G1 h8 q => ?_))
    obtain ⟨y9, rfl, rfl, H⟩ := q
    show zAt E (d + 1) 0 0 m_X9_cut 32 [vo 0] [vi y9] g0 h8 (zPi Q)
    refine a_goto (pc := 32) (tgt := 36) dX9_cut_32 (by decide) ?_
    exact a_ireturn (pc := 36) dX9_cut_36 trivial ⟨_, rfl, rfl, H⟩
set_option maxRecDepth 20000 in
theorem v_X9_fall {E : zE} {d : Nat} {h : zS} {Q : Int → zS → Prop} {x1 : Int} {x2 : Int} {x3 : Int}  (H : ∃ t1, hR h 0 3 = some t1 ∧ isCity t1 ∧ zCi E d m_X0_has [vo t1, vi x1] h (fun y3 h2 => ((y3 = 0 → (Q (-2) h2)) ∧ (y3 ≠ 0 → (∃ t4, hR h2 0 3 = some t4 ∧ isCity t4 ∧ zCi E d m_X0_has [vo t4, vi x2] h2 (fun y6 h5 => ((y6 = 0 → (Q (-2) h5)) ∧ (y6 ≠ 0 → (∃ t7, hR h5 0 3 = some t7 ∧ isCity t7 ∧ zCi E d m_X0_isBox [vo t7, vi x1] h5 (fun y9 h8 => ((y9 = 0 → ((x3 ≠ 0 → ((x3 ≠ 1 → (Q (-2) h8)) ∧ (x3 = 1 → (zCi E d m_X9_pair [vi x1, vi x2] h8 (fun y11 h10 => (0 ≤ y11 ∧ y11 < 144) ∧ Q (hI h10 26 y11.toNat) h10))))) ∧ (x3 = 0 → (zCi E d m_X9_pair [vi x1, vi x2] h8 (fun y14 h13 => (0 ≤ y14 ∧ y14 < 144) ∧ Q (hI h13 25 y14.toNat) h13))))) ∧ (y9 ≠ 0 → (Q (-2) h8))))))))))))) : zCi E (d + 1) m_X9_fall [vo 0, vi x1, vi x2, vi x3] h Q := by
  show zAt E (d + 1) 0 0 m_X9_fall 0 [vo 0, vi x1, vi x2, vi x3] [] g0 h (zPi Q)
  refine a_aload_n (pc := 0) dX9_fall_0 rfl ?_
  obtain ⟨t1, het1, hct1, H⟩ := H
  refine a_getR (pc := 1) dX9_fall_1 fl_X9_23 (go_0) het1 ?_
  refine a_iload_n (pc := 4) dX9_fall_4 rfl ?_
  refine a_callV (pc := 5) (kc := 0) (ks := 0) (kc' := 0) (ks' := 0) (st := []) [vi x1] dX9_fall_5 ml_X9_97 (goCity hct1) rfl (Nat.le_of_ble_eq_true rfl) (Nat.le_of_ble_eq_true rfl) (z_post H (fun r G1 h2 q => ?_))
  obtain ⟨y3, rfl, rfl, H⟩ := q
  show zAt E (d + 1) 0 0 m_X9_fall 8 [vo 0, vi x1, vi x2, vi x3] [vi y3] g0 h2 (zPi Q)
  refine a_if_eq (pc := 8) (tgt := 33) dX9_fall_8 (by decide) (fun c => ?_) (fun c => ?_)
  · have H := H.1 c
    refine a_bipush (pc := 33) dX9_fall_33 (by decide) ?_
    exact a_ireturn (pc := 35) dX9_fall_35 trivial ⟨_, rfl, rfl, H⟩
  · have H := H.2 c
    refine a_aload_n (pc := 11) dX9_fall_11 rfl ?_
    obtain ⟨t4, het4, hct4, H⟩ := H
    refine a_getR (pc := 12) dX9_fall_12 fl_X9_23 (go_0) het4 ?_
    refine a_iload_n (pc := 15) dX9_fall_15 rfl ?_
    refine a_callV (pc := 16) (kc := 0) (ks := 0) (kc' := 0) (ks' := 0) (st := []) [vi x2] dX9_fall_16 ml_X9_97 (goCity hct4) rfl (Nat.le_of_ble_eq_true rfl) (Nat.le_of_ble_eq_true rfl) (z_post H (fun r G1 h5 q => ?_))
    obtain ⟨y6, rfl, rfl, H⟩ := q
    show zAt E (d + 1) 0 0 m_X9_fall 19 [vo 0, vi x1, vi x2, vi x3] [vi y6] g0 h5 (zPi Q)
    refine a_if_eq (pc := 19) (tgt := 33) dX9_fall_19 (by decide) (fun c => ?_) (fun c => ?_)
    · have H := H.1 c
      refine a_bipush (pc := 33) dX9_fall_33 (by decide) ?_
      exact a_ireturn (pc := 35) dX9_fall_35 trivial ⟨_, rfl, rfl, H⟩
    · have H := H.2 c
      refine a_aload_n (pc := 22) dX9_fall_22 rfl ?_
      obtain ⟨t7, het7, hct7, H⟩ := H
      refine a_getR (pc := 23) dX9_fall_23 fl_X9_23 (go_0) het7 ?_
      refine a_iload_n (pc := 26) dX9_fall_26 rfl ?_
      refine a_callV (pc := 27) (kc := 0) (ks := 0) (kc' := 0) (ks' := 0) (st := []) [vi x1] dX9_fall_27 ml_X9_168 (goCity hct7) rfl (Nat.le_of_ble_eq_true rfl) (Nat.le_of_ble_eq_true rfl) (z_post H (fun r G1 h8 q => ?_))
      obtain ⟨y9, rfl, rfl, H⟩ := q
      show zAt E (d + 1) 0 0 m_X9_fall 30 [vo 0, vi x1, vi x2, vi x3] [vi y9] g0 h8 (zPi Q)
      refine a_if_eq (pc := 30) (tgt := 36) dX9_fall_30 (by decide) (fun c => ?_) (fun c => ?_)
      · have H := H.1 c
        refine a_iload_n (pc := 36) dX9_fall_36 rfl ?_
        refine a_if_ne (pc := 37) (tgt := 54) dX9_fall_37 (by decide) (fun c => ?_) (fun c => ?_)
        · have H := H.1 c
          refine a_iload_n (pc := 54) dX9_fall_54 rfl ?_
          refine a_iconst (pc := 55) dX9_fall_55 (by decide) ?_
          refine a_icmp_ne (pc := 56) (tgt := 75) dX9_fall_56 (by decide) (fun c => ?_) (fun c => ?_)
          · have H := H.1 c
            refine a_bipush (pc := 75) dX9_fall_75 (by decide) ?_
            exact a_ireturn (pc := 77) dX9_fall_77 trivial ⟨_, rfl, rfl, H⟩
          · have H := H.2 c
            refine a_aload_n (pc := 59) dX9_fall_59 rfl ?_
            refine a_getF (pc := 60) dX9_fall_60 fl_X9_33 (go_0) (gf_0_5) ?_
            refine a_getG (pc := 63) dX9_fall_63 fl_X9_178 rfl (go_24) (gf_24_1) ?_
            refine a_iload_n (pc := 66) dX9_fall_66 rfl ?_
            refine a_iload_n (pc := 67) dX9_fall_67 rfl ?_
            refine a_callS (pc := 68) (kc := 0) (ks := 0) (kc' := 0) (ks' := 0) (st := [vo 26]) [vi x1, vi x2] dX9_fall_68 ml_X9_174 rfl (Nat.le_of_ble_eq_true rfl) (Nat.le_of_ble_eq_true rfl) (z_post H (fun r G1 h10 q => ?_))
            obtain ⟨y11, rfl, rfl, H⟩ := q
            show zAt E (d + 1) 0 0 m_X9_fall 71 [vo 0, vi x1, vi x2, vi x3] [vi y11, vo 26] g0 h10 (zPi Q)
            obtain ⟨hb12, H⟩ := H
            refine a_iaload (pc := 71) dX9_fall_71 (ga_26) hb12 ?_
            refine a_goto (pc := 72) (tgt := 77) dX9_fall_72 (by decide) ?_
            exact a_ireturn (pc := 77) dX9_fall_77 trivial ⟨_, rfl, rfl, H⟩
        · have H := H.2 c
          refine a_aload_n (pc := 40) dX9_fall_40 rfl ?_
          refine a_getF (pc := 41) dX9_fall_41 fl_X9_33 (go_0) (gf_0_5) ?_
          refine a_getG (pc := 44) dX9_fall_44 fl_X9_171 rfl (go_24) (gf_24_0) ?_
          refine a_iload_n (pc := 47) dX9_fall_47 rfl ?_
          refine a_iload_n (pc := 48) dX9_fall_48 rfl ?_
          refine a_callS (pc := 49) (kc := 0) (ks := 0) (kc' := 0) (ks' := 0) (st := [vo 25]) [vi x1, vi x2] dX9_fall_49 ml_X9_174 rfl (Nat.le_of_ble_eq_true rfl) (Nat.le_of_ble_eq_true rfl) (z_post H (fun r G1 h13 q => ?_))
          obtain ⟨y14, rfl, rfl, H⟩ := q
          show zAt E (d + 1) 0 0 m_X9_fall 52 [vo 0, vi x1, vi x2, vi x3] [vi y14, vo 25] g0 h13 (zPi Q)
          obtain ⟨hb15, H⟩ := H
          refine a_iaload (pc := 52) dX9_fall_52 (ga_25) hb15 ?_
          exact a_ireturn (pc := 53) dX9_fall_53 trivial ⟨_, rfl, rfl, H⟩
      · have H := H.2 c
        refine a_bipush (pc := 33) dX9_fall_33 (by decide) ?_
        exact a_ireturn (pc := 35) dX9_fall_35 trivial ⟨_, rfl, rfl, H⟩
set_option maxRecDepth 20000 in
theorem v_X9_worst {E : zE} {d : Nat} {h : zS} {Q : Int → zS → Prop} {x1 : Int}  (H : ((x1 = 0 → (zWi E (d + 1) m_X9_worst 18 [vo 0, vi x1, vi (-1), vi (-1), vi 0] h Q)) ∧ (x1 ≠ 0 → ((x1 = 1 → (zWi E (d + 1) m_X9_worst 18 [vo 0, vi x1, vi (-1), vi (-1), vi 0] h Q)) ∧ (x1 ≠ 1 → (Q (-1) h)))))) : zCi E (d + 1) m_X9_worst [vo 0, vi x1] h Q := by
  show zAt E (d + 1) 0 0 m_X9_worst 0 [vo 0, vi x1, vn, vn, vn] [] g0 h (zPi Q)
  refine a_iload_n (pc := 0) dX9_worst_0 rfl ?_
  refine a_if_eq (pc := 1) (tgt := 11) dX9_worst_1 (by decide) (fun c => ?_) (fun c => ?_)
  · have H := H.1 c
    refine a_iconst (pc := 11) dX9_worst_11 (by decide) ?_
    refine a_istore_n (pc := 12) (ls' := [vo 0, vi x1, vi (-1), vn, vn]) dX9_worst_12 rfl rfl ?_
    refine a_iconst (pc := 13) dX9_worst_13 (by decide) ?_
    refine a_istore_n (pc := 14) (ls' := [vo 0, vi x1, vi (-1), vi (-1), vn]) dX9_worst_14 rfl rfl ?_
    refine a_iconst (pc := 15) dX9_worst_15 (by decide) ?_
    refine a_istore (pc := 16) (ls' := [vo 0, vi x1, vi (-1), vi (-1), vi 0]) dX9_worst_16 rfl rfl ?_
    exact H
  · have H := H.2 c
    refine a_iload_n (pc := 4) dX9_worst_4 rfl ?_
    refine a_iconst (pc := 5) dX9_worst_5 (by decide) ?_
    refine a_icmp_eq (pc := 6) (tgt := 11) dX9_worst_6 (by decide) (fun c => ?_) (fun c => ?_)
    · have H := H.1 c
      refine a_iconst (pc := 11) dX9_worst_11 (by decide) ?_
      refine a_istore_n (pc := 12) (ls' := [vo 0, vi x1, vi (-1), vn, vn]) dX9_worst_12 rfl rfl ?_
      refine a_iconst (pc := 13) dX9_worst_13 (by decide) ?_
      refine a_istore_n (pc := 14) (ls' := [vo 0, vi x1, vi (-1), vi (-1), vn]) dX9_worst_14 rfl rfl ?_
      refine a_iconst (pc := 15) dX9_worst_15 (by decide) ?_
      refine a_istore (pc := 16) (ls' := [vo 0, vi x1, vi (-1), vi (-1), vi 0]) dX9_worst_16 rfl rfl ?_
      exact H
    · have H := H.2 c
      refine a_iconst (pc := 9) dX9_worst_9 (by decide) ?_
      exact a_ireturn (pc := 10) dX9_worst_10 trivial ⟨_, rfl, rfl, H⟩
set_option maxRecDepth 20000 in
theorem r_X9_worst_18 {E : zE} {d : Nat} {h : zS} {Q : Int → zS → Prop} {x1 : Int} {x2 : Int} {x3 : Int} {x4 : Int}  (H : ∃ t1, hR h 0 3 = some t1 ∧ isCity t1 ∧ (((hI h t1 0) ≤ x4 → ((x1 ≠ 0 → (Q x3 h)) ∧ (x1 = 0 → (Q x2 h)))) ∧ (x4 < (hI h t1 0) → (∃ t2, hR h 0 3 = some t2 ∧ isCity t2 ∧ zCi E d m_X0_isBox [vo t2, vi x4] h (fun y4 h3 => ((y4 ≠ 0 → (zWi E (d + 1) m_X9_worst 18 [vo 0, vi x1, vi x2, vi x3, vi (w32 (x4 + 1))] h3 Q)) ∧ (y4 = 0 → ((0 ≤ x4 ∧ x4 < 12) ∧ (((hI h3 27 x4.toNat) ≤ x3 → (zWi E (d + 1) m_X9_worst 18 [vo 0, vi x1, vi x2, vi x3, vi (w32 (x4 + 1))] h3 Q)) ∧ (x3 < (hI h3 27 x4.toNat) → (zWi E (d + 1) m_X9_worst 18 [vo 0, vi x1, vi x4, vi (hI h3 27 x4.toNat), vi (w32 (x4 + 1))] h3 Q))))))))))) : zWi E (d + 1) m_X9_worst 18 [vo 0, vi x1, vi x2, vi x3, vi x4] h Q := by
  refine a_iload (pc := 18) dX9_worst_18 rfl ?_
  refine a_aload_n (pc := 20) dX9_worst_20 rfl ?_
  obtain ⟨t1, het1, hct1, H⟩ := H
  refine a_getR (pc := 21) dX9_worst_21 fl_X9_23 (go_0) het1 ?_
  refine a_getI (pc := 24) dX9_worst_24 fl_X9_88 (goCity hct1) ?_
  refine a_icmp_ge (pc := 27) (tgt := 76) dX9_worst_27 (by decide) (fun c => ?_) (fun c => ?_)
  · have H := H.1 c
    refine a_iload_n (pc := 76) dX9_worst_76 rfl ?_
    refine a_if_ne (pc := 77) (tgt := 84) dX9_worst_77 (by decide) (fun c => ?_) (fun c => ?_)
    · have H := H.1 c
      refine a_iload_n (pc := 84) dX9_worst_84 rfl ?_
      exact a_ireturn (pc := 85) dX9_worst_85 trivial ⟨_, rfl, rfl, H⟩
    · have H := H.2 c
      refine a_iload_n (pc := 80) dX9_worst_80 rfl ?_
      refine a_goto (pc := 81) (tgt := 85) dX9_worst_81 (by decide) ?_
      exact a_ireturn (pc := 85) dX9_worst_85 trivial ⟨_, rfl, rfl, H⟩
  · have H := H.2 c
    refine a_aload_n (pc := 30) dX9_worst_30 rfl ?_
    obtain ⟨t2, het2, hct2, H⟩ := H
    refine a_getR (pc := 31) dX9_worst_31 fl_X9_23 (go_0) het2 ?_
    refine a_iload (pc := 34) dX9_worst_34 rfl ?_
    refine a_callV (pc := 36) (kc := 0) (ks := 0) (kc' := 0) (ks' := 0) (st := []) [vi x4] dX9_worst_36 ml_X9_168 (goCity hct2) rfl (Nat.le_of_ble_eq_true rfl) (Nat.le_of_ble_eq_true rfl) (z_post H (fun r G1 h3 q => ?_))
    obtain ⟨y4, rfl, rfl, H⟩ := q
    show zAt E (d + 1) 0 0 m_X9_worst 39 [vo 0, vi x1, vi x2, vi x3, vi x4] [vi y4] g0 h3 (zPi Q)
    refine a_if_ne (pc := 39) (tgt := 70) dX9_worst_39 (by decide) (fun c => ?_) (fun c => ?_)
    · have H := H.1 c
      refine a_iinc (pc := 70) (ls' := [vo 0, vi x1, vi x2, vi x3, vi (w32 (x4 + 1))]) dX9_worst_70 rfl rfl rfl ?_
      refine a_goto (pc := 73) (tgt := 18) dX9_worst_73 (by decide) ?_
      exact H
    · have H := H.2 c
      refine a_aload_n (pc := 42) dX9_worst_42 rfl ?_
      refine a_getF (pc := 43) dX9_worst_43 fl_X9_33 (go_0) (gf_0_5) ?_
      refine a_getG (pc := 46) dX9_worst_46 fl_X9_181 rfl (go_24) (gf_24_2) ?_
      refine a_iload (pc := 49) dX9_worst_49 rfl ?_
      obtain ⟨hb5, H⟩ := H
      refine a_iaload (pc := 51) dX9_worst_51 (ga_27) hb5 ?_
      refine a_iload_n (pc := 52) dX9_worst_52 rfl ?_
      refine a_icmp_le (pc := 53) (tgt := 70) dX9_worst_53 (by decide) (fun c => ?_) (fun c => ?_)
      · have H := H.1 c
        refine a_iinc (pc := 70) (ls' := [vo 0, vi x1, vi x2, vi x3, vi (w32 (x4 + 1))]) dX9_worst_70 rfl rfl rfl ?_
        refine a_goto (pc := 73) (tgt := 18) dX9_worst_73 (by decide) ?_
        exact H
      · have H := H.2 c
        refine a_aload_n (pc := 56) dX9_worst_56 rfl ?_
        refine a_getF (pc := 57) dX9_worst_57 fl_X9_33 (go_0) (gf_0_5) ?_
        refine a_getG (pc := 60) dX9_worst_60 fl_X9_181 rfl (go_24) (gf_24_2) ?_
        refine a_iload (pc := 63) dX9_worst_63 rfl ?_
        refine a_iaload (pc := 65) dX9_worst_65 (ga_27) hb5 ?_
        refine a_istore_n (pc := 66) (ls' := [vo 0, vi x1, vi x2, vi (hI h3 27 x4.toNat), vi x4]) dX9_worst_66 rfl rfl ?_
        refine a_iload (pc := 67) dX9_worst_67 rfl ?_
        refine a_istore_n (pc := 69) (ls' := [vo 0, vi x1, vi x4, vi (hI h3 27 x4.toNat), vi x4]) dX9_worst_69 rfl rfl ?_
        refine a_iinc (pc := 70) (ls' := [vo 0, vi x1, vi x4, vi (hI h3 27 x4.toNat), vi (w32 (x4 + 1))]) dX9_worst_70 rfl rfl rfl ?_
        refine a_goto (pc := 73) (tgt := 18) dX9_worst_73 (by decide) ?_
        exact H
set_option maxRecDepth 20000 in
theorem v_X9_send {E : zE} {d : Nat} {h : zS} {Q : Int → zS → Prop}   (H : ∃ t1, hR h 0 3 = some t1 ∧ isCity t1 ∧ zCi E d m_X1_dispatch [vo 34, vo t1] h (fun y3 h2 => Q y3 h2)) : zCi E (d + 1) m_X9_send [vo 0] h Q := by
  show zAt E (d + 1) 0 0 m_X9_send 0 [vo 0] [] g0 h (zPi Q)
  refine a_aload_n (pc := 0) dX9_send_0 rfl ?_
  refine a_getF (pc := 1) dX9_send_1 fl_X9_47 (go_0) (gf_0_7) ?_
  refine a_aload_n (pc := 4) dX9_send_4 rfl ?_
  obtain ⟨t1, het1, hct1, H⟩ := H
  refine a_getR (pc := 5) dX9_send_5 fl_X9_23 (go_0) het1 ?_
  refine a_callV (pc := 8) (kc := 0) (ks := 0) (kc' := 0) (ks' := 0) (st := []) [vo t1] dX9_send_8 ml_X9_184 (goEarnest isEarnest_34) rfl (Nat.le_of_ble_eq_true rfl) (Nat.le_of_ble_eq_true rfl) (z_post H (fun r G1 h2 q => ?_))
  obtain ⟨y3, rfl, rfl, H⟩ := q
  show zAt E (d + 1) 0 0 m_X9_send 11 [vo 0] [vi y3] g0 h2 (zPi Q)
  exact a_ireturn (pc := 11) dX9_send_11 trivial ⟨_, rfl, rfl, H⟩
set_option maxRecDepth 20000 in
theorem v_X9_day {E : zE} {d : Nat} {h : zS} {Q : Int → zS → Prop} {x1 : Int}  (H : ((x1 < 0 → (Q (-1) h)) ∧ (0 ≤ x1 → ((99 < x1 → (Q (-1) h)) ∧ (x1 ≤ 99 → (((w32 ((hI h 34 0) + x1)) ≤ 1000 → (zWi E (d + 1) m_X9_day 29 [vo 0, vi x1, vi 0] h Q)) ∧ (1000 < (w32 ((hI h 34 0) + x1)) → (Q (-1) h)))))))) : zCi E (d + 1) m_X9_day [vo 0, vi x1] h Q := by
  show zAt E (d + 1) 0 0 m_X9_day 0 [vo 0, vi x1, vn] [] g0 h (zPi Q)
  refine a_iload_n (pc := 0) dX9_day_0 rfl ?_
  refine a_if_lt (pc := 1) (tgt := 25) dX9_day_1 (by decide) (fun c => ?_) (fun c => ?_)
  · have H := H.1 c
    refine a_iconst (pc := 25) dX9_day_25 (by decide) ?_
    exact a_ireturn (pc := 26) dX9_day_26 trivial ⟨_, rfl, rfl, H⟩
  · have H := H.2 c
    refine a_iload_n (pc := 4) dX9_day_4 rfl ?_
    refine a_bipush (pc := 5) dX9_day_5 (by decide) ?_
    refine a_icmp_gt (pc := 7) (tgt := 25) dX9_day_7 (by decide) (fun c => ?_) (fun c => ?_)
    · have H := H.1 c
      refine a_iconst (pc := 25) dX9_day_25 (by decide) ?_
      exact a_ireturn (pc := 26) dX9_day_26 trivial ⟨_, rfl, rfl, H⟩
    · have H := H.2 c
      refine a_aload_n (pc := 10) dX9_day_10 rfl ?_
      refine a_getF (pc := 11) dX9_day_11 fl_X9_47 (go_0) (gf_0_7) ?_
      refine a_getI (pc := 14) dX9_day_14 fl_X9_188 (goEarnest isEarnest_34) ?_
      refine a_iload_n (pc := 17) dX9_day_17 rfl ?_
      refine a_iadd (pc := 18) dX9_day_18 ?_
      refine a_sipush (pc := 19) dX9_day_19 (by decide) ?_
      refine a_icmp_le (pc := 22) (tgt := 27) dX9_day_22 (by decide) (fun c => ?_) (fun c => ?_)
      · have H := H.1 c
        refine a_iconst (pc := 27) dX9_day_27 (by decide) ?_
        refine a_istore_n (pc := 28) (ls' := [vo 0, vi x1, vi 0]) dX9_day_28 rfl rfl ?_
        exact H
      · have H := H.2 c
        refine a_iconst (pc := 25) dX9_day_25 (by decide) ?_
        exact a_ireturn (pc := 26) dX9_day_26 trivial ⟨_, rfl, rfl, H⟩
set_option maxRecDepth 20000 in
theorem r_X9_day_29 {E : zE} {d : Nat} {h : zS} {Q : Int → zS → Prop} {x1 : Int} {x2 : Int}  (H : ((x1 ≤ x2 → (Q (hI h 34 0) h)) ∧ (x2 < x1 → (∃ t1, hR h 0 3 = some t1 ∧ isCity t1 ∧ zCv E d m_X1_pass [vo 34, vo t1] h (fun h2 => zWi E (d + 1) m_X9_day 29 [vo 0, vi x1, vi (w32 (x2 + 1))] h2 Q))))) : zWi E (d + 1) m_X9_day 29 [vo 0, vi x1, vi x2] h Q := by
  refine a_iload_n (pc := 29) dX9_day_29 rfl ?_
  refine a_iload_n (pc := 30) dX9_day_30 rfl ?_
  refine a_icmp_ge (pc := 31) (tgt := 51) dX9_day_31 (by decide) (fun c => ?_) (fun c => ?_)
  · have H := H.1 c
    refine a_aload_n (pc := 51) dX9_day_51 rfl ?_
    refine a_getF (pc := 52) dX9_day_52 fl_X9_47 (go_0) (gf_0_7) ?_
    refine a_getI (pc := 55) dX9_day_55 fl_X9_188 (goEarnest isEarnest_34) ?_
    exact a_ireturn (pc := 58) dX9_day_58 trivial ⟨_, rfl, rfl, H⟩
  · have H := H.2 c
    refine a_aload_n (pc := 34) dX9_day_34 rfl ?_
    refine a_getF (pc := 35) dX9_day_35 fl_X9_47 (go_0) (gf_0_7) ?_
    refine a_aload_n (pc := 38) dX9_day_38 rfl ?_
    obtain ⟨t1, het1, hct1, H⟩ := H
    refine a_getR (pc := 39) dX9_day_39 fl_X9_23 (go_0) het1 ?_
    refine a_callV (pc := 42) (kc := 0) (ks := 0) (kc' := 0) (ks' := 0) (st := []) [vo t1] dX9_day_42 ml_X9_191 (goEarnest isEarnest_34) rfl (Nat.le_of_ble_eq_true rfl) (Nat.le_of_ble_eq_true rfl) (z_post H (fun r G1 h2 q => ?_))
    obtain ⟨rfl, rfl, H⟩ := q
    show zAt E (d + 1) 0 0 m_X9_day 45 [vo 0, vi x1, vi x2] [] g0 h2 (zPi Q)
    refine a_iinc (pc := 45) (ls' := [vo 0, vi x1, vi (w32 (x2 + 1))]) dX9_day_45 rfl rfl rfl ?_
    refine a_goto (pc := 48) (tgt := 29) dX9_day_48 (by decide) ?_
    exact H
set_option maxRecDepth 20000 in
theorem v_X9_take {E : zE} {d : Nat} {h : zS} {Q : Int → zS → Prop} {x1 : Int}  (H : ∃ t1, hR h 0 3 = some t1 ∧ isCity t1 ∧ zCi E d m_X0_has [vo t1, vi x1] h (fun y3 h2 => ((y3 = 0 → (Q (-1) h2)) ∧ (y3 ≠ 0 → (∃ t4, hR h2 0 3 = some t4 ∧ isCity t4 ∧ zCi E d m_X0_isBox [vo t4, vi x1] h2 (fun y6 h5 => ((y6 ≠ 0 → (Q (-1) h5)) ∧ (y6 = 0 → (zCi E d m_X4_isThere [vo 35, vi x1] h5 (fun y8 h7 => ((y8 ≠ 0 → (∃ t9, hR h7 0 3 = some t9 ∧ isCity t9 ∧ zCi E d m_X4_seize [vo 35, vo t9, vo 44, vi (z_shl 1 x1), vi (hI h7 34 0)] h7 (fun y11 h10 => Q y11 h10))) ∧ (y8 = 0 → (Q (-1) h7))))))))))))) : zCi E (d + 1) m_X9_take [vo 0, vi x1] h Q := by
  show zAt E (d + 1) 0 0 m_X9_take 0 [vo 0, vi x1] [] g0 h (zPi Q)
  refine a_aload_n (pc := 0) dX9_take_0 rfl ?_
  obtain ⟨t1, het1, hct1, H⟩ := H
  refine a_getR (pc := 1) dX9_take_1 fl_X9_23 (go_0) het1 ?_
  refine a_iload_n (pc := 4) dX9_take_4 rfl ?_
  refine a_callV (pc := 5) (kc := 0) (ks := 0) (kc' := 0) (ks' := 0) (st := []) [vi x1] dX9_take_5 ml_X9_97 (goCity hct1) rfl (Nat.le_of_ble_eq_true rfl) (Nat.le_of_ble_eq_true rfl) (z_post H (fun r G1 h2 q => ?_))
  obtain ⟨y3, rfl, rfl, H⟩ := q
  show zAt E (d + 1) 0 0 m_X9_take 8 [vo 0, vi x1] [vi y3] g0 h2 (zPi Q)
  refine a_if_eq (pc := 8) (tgt := 36) dX9_take_8 (by decide) (fun c => ?_) (fun c => ?_)
  · have H := H.1 c
    refine a_iconst (pc := 36) dX9_take_36 (by decide) ?_
    exact a_ireturn (pc := 37) dX9_take_37 trivial ⟨_, rfl, rfl, H⟩
  · have H := H.2 c
    refine a_aload_n (pc := 11) dX9_take_11 rfl ?_
    obtain ⟨t4, het4, hct4, H⟩ := H
    refine a_getR (pc := 12) dX9_take_12 fl_X9_23 (go_0) het4 ?_
    refine a_iload_n (pc := 15) dX9_take_15 rfl ?_
    refine a_callV (pc := 16) (kc := 0) (ks := 0) (kc' := 0) (ks' := 0) (st := []) [vi x1] dX9_take_16 ml_X9_168 (goCity hct4) rfl (Nat.le_of_ble_eq_true rfl) (Nat.le_of_ble_eq_true rfl) (z_post H (fun r G1 h5 q => ?_))
    obtain ⟨y6, rfl, rfl, H⟩ := q
    show zAt E (d + 1) 0 0 m_X9_take 19 [vo 0, vi x1] [vi y6] g0 h5 (zPi Q)
    refine a_if_ne (pc := 19) (tgt := 36) dX9_take_19 (by decide) (fun c => ?_) (fun c => ?_)
    · have H := H.1 c
      refine a_iconst (pc := 36) dX9_take_36 (by decide) ?_
      exact a_ireturn (pc := 37) dX9_take_37 trivial ⟨_, rfl, rfl, H⟩
    · have H := H.2 c
      refine a_aload_n (pc := 22) dX9_take_22 rfl ?_
      refine a_getF (pc := 23) dX9_take_23 fl_X9_47 (go_0) (gf_0_7) ?_
      refine a_getG (pc := 26) dX9_take_26 fl_X9_194 rfl (goEarnest isEarnest_34) (gfEarnest_1 isEarnest_34) ?_
      refine a_iload_n (pc := 29) dX9_take_29 rfl ?_
      refine a_callV (pc := 30) (kc := 0) (ks := 0) (kc' := 0) (ks' := 0) (st := []) [vi x1] dX9_take_30 ml_X9_198 (goFate (giEarnest_1 isEarnest_34)) rfl (Nat.le_of_ble_eq_true rfl) (Nat.le_of_ble_eq_true rfl) (z_post H (fun r G1 h7 q => ?_))
      obtain ⟨y8, rfl, rfl, H⟩ := q
      show zAt E (d + 1) 0 0 m_X9_take 33 [vo 0, vi x1] [vi y8] g0 h7 (zPi Q)
      refine a_if_ne (pc := 33) (tgt := 38) dX9_take_33 (by decide) (fun c => ?_) (fun c => ?_)
      · have H := H.1 c
        refine a_aload_n (pc := 38) dX9_take_38 rfl ?_
        refine a_getF (pc := 39) dX9_take_39 fl_X9_47 (go_0) (gf_0_7) ?_
        refine a_getG (pc := 42) dX9_take_42 fl_X9_194 rfl (goEarnest isEarnest_34) (gfEarnest_1 isEarnest_34) ?_
        refine a_aload_n (pc := 45) dX9_take_45 rfl ?_
        obtain ⟨t9, het9, hct9, H⟩ := H
        refine a_getR (pc := 46) dX9_take_46 fl_X9_23 (go_0) het9 ?_
        refine a_aload_n (pc := 49) dX9_take_49 rfl ?_
        refine a_getF (pc := 50) dX9_take_50 fl_X9_47 (go_0) (gf_0_7) ?_
        refine a_getG (pc := 53) dX9_take_53 fl_X9_203 rfl (goEarnest isEarnest_34) (gfEarnest_4 isEarnest_34) ?_
        refine a_iconst (pc := 56) dX9_take_56 (by decide) ?_
        refine a_iload_n (pc := 57) dX9_take_57 rfl ?_
        refine a_ishl (pc := 58) dX9_take_58 ?_
        refine a_aload_n (pc := 59) dX9_take_59 rfl ?_
        refine a_getF (pc := 60) dX9_take_60 fl_X9_47 (go_0) (gf_0_7) ?_
        refine a_getI (pc := 63) dX9_take_63 fl_X9_188 (goEarnest isEarnest_34) ?_
        refine a_callV (pc := 66) (kc := 0) (ks := 0) (kc' := 0) (ks' := 0) (st := []) [vo t9, vo 44, vi (z_shl 1 x1), vi (hI h7 34 0)] dX9_take_66 ml_X9_204 (goFate (giEarnest_1 isEarnest_34)) rfl (Nat.le_of_ble_eq_true rfl) (Nat.le_of_ble_eq_true rfl) (z_post H (fun r G1 h10 q => ?_))
        obtain ⟨y11, rfl, rfl, H⟩ := q
        show zAt E (d + 1) 0 0 m_X9_take 69 [vo 0, vi x1] [vi y11] g0 h10 (zPi Q)
        exact a_ireturn (pc := 69) dX9_take_69 trivial ⟨_, rfl, rfl, H⟩
      · have H := H.2 c
        refine a_iconst (pc := 36) dX9_take_36 (by decide) ?_
        exact a_ireturn (pc := 37) dX9_take_37 trivial ⟨_, rfl, rfl, H⟩
set_option maxRecDepth 20000 in
theorem v_X9_meet {E : zE} {d : Nat} {h : zS} {Q : Int → zS → Prop} {x1 : Int} {x2 : Int} {x3 : Int}  (H : ∃ t1, hR h 0 3 = some t1 ∧ isCity t1 ∧ zCi E d m_X0_has [vo t1, vi x1] h (fun y3 h2 => ((y3 = 0 → (Q 0 h2)) ∧ (y3 ≠ 0 → (∃ t4, hR h2 0 3 = some t4 ∧ isCity t4 ∧ zCi E d m_X0_has [vo t4, vi x2] h2 (fun y6 h5 => ((y6 = 0 → (Q 0 h5)) ∧ (y6 ≠ 0 → (∃ t7, hR h5 0 3 = some t7 ∧ isCity t7 ∧ zCi E d m_X0_has [vo t7, vi x3] h5 (fun y9 h8 => ((y9 ≠ 0 → (zCi E d m_X1_canMeet [vo 34, vi x1, vi x2, vi x3] h8 (fun y11 h10 => ((y11 ≠ 0 → (zCv E d m_X1_acquaint [vo 34, vi x1, vi x2] h10 (fun h12 => Q 1 h12))) ∧ (y11 = 0 → (Q 0 h10)))))) ∧ (y9 = 0 → (Q 0 h8))))))))))))) : zCi E (d + 1) m_X9_meet [vo 0, vi x1, vi x2, vi x3] h Q := by
  show zAt E (d + 1) 0 0 m_X9_meet 0 [vo 0, vi x1, vi x2, vi x3] [] g0 h (zPi Q)
  refine a_aload_n (pc := 0) dX9_meet_0 rfl ?_
  obtain ⟨t1, het1, hct1, H⟩ := H
  refine a_getR (pc := 1) dX9_meet_1 fl_X9_23 (go_0) het1 ?_
  refine a_iload_n (pc := 4) dX9_meet_4 rfl ?_
  refine a_callV (pc := 5) (kc := 0) (ks := 0) (kc' := 0) (ks' := 0) (st := []) [vi x1] dX9_meet_5 ml_X9_97 (goCity hct1) rfl (Nat.le_of_ble_eq_true rfl) (Nat.le_of_ble_eq_true rfl) (z_post H (fun r G1 h2 q => ?_))
  obtain ⟨y3, rfl, rfl, H⟩ := q
  show zAt E (d + 1) 0 0 m_X9_meet 8 [vo 0, vi x1, vi x2, vi x3] [vi y3] g0 h2 (zPi Q)
  refine a_if_eq (pc := 8) (tgt := 33) dX9_meet_8 (by decide) (fun c => ?_) (fun c => ?_)
  · have H := H.1 c
    refine a_iconst (pc := 33) dX9_meet_33 (by decide) ?_
    exact a_ireturn (pc := 34) dX9_meet_34 (.inl rfl) ⟨_, rfl, rfl, H⟩
  · have H := H.2 c
    refine a_aload_n (pc := 11) dX9_meet_11 rfl ?_
    obtain ⟨t4, het4, hct4, H⟩ := H
    refine a_getR (pc := 12) dX9_meet_12 fl_X9_23 (go_0) het4 ?_
    refine a_iload_n (pc := 15) dX9_meet_15 rfl ?_
    refine a_callV (pc := 16) (kc := 0) (ks := 0) (kc' := 0) (ks' := 0) (st := []) [vi x2] dX9_meet_16 ml_X9_97 (goCity hct4) rfl (Nat.le_of_ble_eq_true rfl) (Nat.le_of_ble_eq_true rfl) (z_post H (fun r G1 h5 q => ?_))
    obtain ⟨y6, rfl, rfl, H⟩ := q
    show zAt E (d + 1) 0 0 m_X9_meet 19 [vo 0, vi x1, vi x2, vi x3] [vi y6] g0 h5 (zPi Q)
    refine a_if_eq (pc := 19) (tgt := 33) dX9_meet_19 (by decide) (fun c => ?_) (fun c => ?_)
    · have H := H.1 c
      refine a_iconst (pc := 33) dX9_meet_33 (by decide) ?_
      exact a_ireturn (pc := 34) dX9_meet_34 (.inl rfl) ⟨_, rfl, rfl, H⟩
    · have H := H.2 c
      refine a_aload_n (pc := 22) dX9_meet_22 rfl ?_
      obtain ⟨t7, het7, hct7, H⟩ := H
      refine a_getR (pc := 23) dX9_meet_23 fl_X9_23 (go_0) het7 ?_
      refine a_iload_n (pc := 26) dX9_meet_26 rfl ?_
      refine a_callV (pc := 27) (kc := 0) (ks := 0) (kc' := 0) (ks' := 0) (st := []) [vi x3] dX9_meet_27 ml_X9_97 (goCity hct7) rfl (Nat.le_of_ble_eq_true rfl) (Nat.le_of_ble_eq_true rfl) (z_post H (fun r G1 h8 q => ?_))
      obtain ⟨y9, rfl, rfl, H⟩ := q
      show zAt E (d + 1) 0 0 m_X9_meet 30 [vo 0, vi x1, vi x2, vi x3] [vi y9] g0 h8 (zPi Q)
      refine a_if_ne (pc := 30) (tgt := 35) dX9_meet_30 (by decide) (fun c => ?_) (fun c => ?_)
      · have H := H.1 c
        refine a_aload_n (pc := 35) dX9_meet_35 rfl ?_
        refine a_getF (pc := 36) dX9_meet_36 fl_X9_47 (go_0) (gf_0_7) ?_
        refine a_iload_n (pc := 39) dX9_meet_39 rfl ?_
        refine a_iload_n (pc := 40) dX9_meet_40 rfl ?_
        refine a_iload_n (pc := 41) dX9_meet_41 rfl ?_
        refine a_callV (pc := 42) (kc := 0) (ks := 0) (kc' := 0) (ks' := 0) (st := []) [vi x1, vi x2, vi x3] dX9_meet_42 ml_X9_208 (goEarnest isEarnest_34) rfl (Nat.le_of_ble_eq_true rfl) (Nat.le_of_ble_eq_true rfl) (z_post H (fun r G1 h10 q => ?_))
        obtain ⟨y11, rfl, rfl, H⟩ := q
        show zAt E (d + 1) 0 0 m_X9_meet 45 [vo 0, vi x1, vi x2, vi x3] [vi y11] g0 h10 (zPi Q)
        refine a_if_ne (pc := 45) (tgt := 50) dX9_meet_45 (by decide) (fun c => ?_) (fun c => ?_)
        · have H := H.1 c
          refine a_aload_n (pc := 50) dX9_meet_50 rfl ?_
          refine a_getF (pc := 51) dX9_meet_51 fl_X9_47 (go_0) (gf_0_7) ?_
          refine a_iload_n (pc := 54) dX9_meet_54 rfl ?_
          refine a_iload_n (pc := 55) dX9_meet_55 rfl ?_
          refine a_callV (pc := 56) (kc := 0) (ks := 0) (kc' := 0) (ks' := 0) (st := []) [vi x1, vi x2] dX9_meet_56 ml_X9_212 (goEarnest isEarnest_34) rfl (Nat.le_of_ble_eq_true rfl) (Nat.le_of_ble_eq_true rfl) (z_post H (fun r G1 h12 q => ?_))
          obtain ⟨rfl, rfl, H⟩ := q
          show zAt E (d + 1) 0 0 m_X9_meet 59 [vo 0, vi x1, vi x2, vi x3] [] g0 h12 (zPi Q)
          refine a_iconst (pc := 59) dX9_meet_59 (by decide) ?_
          exact a_ireturn (pc := 60) dX9_meet_60 (.inr rfl) ⟨_, rfl, rfl, H⟩
        · have H := H.2 c
          refine a_iconst (pc := 48) dX9_meet_48 (by decide) ?_
          exact a_ireturn (pc := 49) dX9_meet_49 (.inl rfl) ⟨_, rfl, rfl, H⟩
      · have H := H.2 c
        refine a_iconst (pc := 33) dX9_meet_33 (by decide) ?_
        exact a_ireturn (pc := 34) dX9_meet_34 (.inl rfl) ⟨_, rfl, rfl, H⟩
set_option maxRecDepth 20000 in
theorem v_X9_one {E : zE} {d : Nat} {h : zS} {Q : Int → zS → Prop} {x1 : Int} {x2 : Int}  (H : ∃ t1, hR h 0 3 = some t1 ∧ isCity t1 ∧ zCi E d m_X0_has [vo t1, vi x1] h (fun y3 h2 => ((y3 ≠ 0 → ((x2 = 0 → (zCi E d m_X4_stateOf [vo 35, vi x1] h2 (fun y5 h4 => Q y5 h4))) ∧ (x2 = 1 → ((0 ≤ x1 ∧ x1 < 12) ∧ Q (hI h2 36 x1.toNat) h2)) ∧ (x2 = 2 → ((0 ≤ x1 ∧ x1 < 12) ∧ Q (hI h2 44 x1.toNat) h2)) ∧ (x2 < 0 ∨ 2 < x2 → (Q (-1) h2)))) ∧ (y3 = 0 → (Q (-1) h2))))) : zCi E (d + 1) m_X9_one [vo 0, vi x1, vi x2] h Q := by
  show zAt E (d + 1) 0 0 m_X9_one 0 [vo 0, vi x1, vi x2] [] g0 h (zPi Q)
  refine a_aload_n (pc := 0) dX9_one_0 rfl ?_
  obtain ⟨t1, het1, hct1, H⟩ := H
  refine a_getR (pc := 1) dX9_one_1 fl_X9_23 (go_0) het1 ?_
  refine a_iload_n (pc := 4) dX9_one_4 rfl ?_
  refine a_callV (pc := 5) (kc := 0) (ks := 0) (kc' := 0) (ks' := 0) (st := []) [vi x1] dX9_one_5 ml_X9_97 (goCity hct1) rfl (Nat.le_of_ble_eq_true rfl) (Nat.le_of_ble_eq_true rfl) (z_post H (fun r G1 h2 q => ?_))
  obtain ⟨y3, rfl, rfl, H⟩ := q
  show zAt E (d + 1) 0 0 m_X9_one 8 [vo 0, vi x1, vi x2] [vi y3] g0 h2 (zPi Q)
  refine a_if_ne (pc := 8) (tgt := 13) dX9_one_8 (by decide) (fun c => ?_) (fun c => ?_)
  · have H := H.1 c
    refine a_iload_n (pc := 13) dX9_one_13 rfl ?_
    refine a_tsw (pc := 14) (tg := [40, 52, 65]) (td := 75) dX9_one_14 (by decide) (by decide) (by decide) ⟨(fun c => ?_), (fun c => ?_), (fun c => ?_), trivial⟩ (fun c => ?_)
    · have H := H.1 c
      refine a_aload_n (pc := 40) dX9_one_40 rfl ?_
      refine a_getF (pc := 41) dX9_one_41 fl_X9_47 (go_0) (gf_0_7) ?_
      refine a_getG (pc := 44) dX9_one_44 fl_X9_194 rfl (goEarnest isEarnest_34) (gfEarnest_1 isEarnest_34) ?_
      refine a_iload_n (pc := 47) dX9_one_47 rfl ?_
      refine a_callV (pc := 48) (kc := 0) (ks := 0) (kc' := 0) (ks' := 0) (st := []) [vi x1] dX9_one_48 ml_X9_216 (goFate (giEarnest_1 isEarnest_34)) rfl (Nat.le_of_ble_eq_true rfl) (Nat.le_of_ble_eq_true rfl) (z_post H (fun r G1 h4 q => ?_))
      obtain ⟨y5, rfl, rfl, H⟩ := q
      show zAt E (d + 1) 0 0 m_X9_one 51 [vo 0, vi x1, vi x2] [vi y5] g0 h4 (zPi Q)
      exact a_ireturn (pc := 51) dX9_one_51 trivial ⟨_, rfl, rfl, H⟩
    · have H := H.2.1 c
      refine a_aload_n (pc := 52) dX9_one_52 rfl ?_
      refine a_getF (pc := 53) dX9_one_53 fl_X9_47 (go_0) (gf_0_7) ?_
      refine a_getG (pc := 56) dX9_one_56 fl_X9_194 rfl (goEarnest isEarnest_34) (gfEarnest_1 isEarnest_34) ?_
      refine a_getG (pc := 59) dX9_one_59 fl_X9_219 rfl (goFate (giEarnest_1 isEarnest_34)) (gfFate_2 (giEarnest_1 isEarnest_34)) ?_
      refine a_iload_n (pc := 62) dX9_one_62 rfl ?_
      obtain ⟨hb6, H⟩ := H
      refine a_iaload (pc := 63) dX9_one_63 (gaFate_2 (giEarnest_1 isEarnest_34)) hb6 ?_
      exact a_ireturn (pc := 64) dX9_one_64 trivial ⟨_, rfl, rfl, H⟩
    · have H := H.2.2.1 c
      refine a_aload_n (pc := 65) dX9_one_65 rfl ?_
      refine a_getF (pc := 66) dX9_one_66 fl_X9_47 (go_0) (gf_0_7) ?_
      refine a_getG (pc := 69) dX9_one_69 fl_X9_203 rfl (goEarnest isEarnest_34) (gfEarnest_4 isEarnest_34) ?_
      refine a_iload_n (pc := 72) dX9_one_72 rfl ?_
      obtain ⟨hb7, H⟩ := H
      refine a_iaload (pc := 73) dX9_one_73 (gaEarnest_4 isEarnest_34) hb7 ?_
      exact a_ireturn (pc := 74) dX9_one_74 trivial ⟨_, rfl, rfl, H⟩
    · have H := H.2.2.2 c
      refine a_iconst (pc := 75) dX9_one_75 (by decide) ?_
      exact a_ireturn (pc := 76) dX9_one_76 trivial ⟨_, rfl, rfl, H⟩
  · have H := H.2 c
    refine a_iconst (pc := 11) dX9_one_11 (by decide) ?_
    exact a_ireturn (pc := 12) dX9_one_12 trivial ⟨_, rfl, rfl, H⟩
set_option maxRecDepth 20000 in
theorem v_X9_thing {E : zE} {d : Nat} {h : zS} {Q : Int → zS → Prop} {x1 : Int} {x2 : Int}  (H : ((x1 < 0 → (Q (-4) h)) ∧ (0 ≤ x1 → ((x1 < (hI h 37 0) → ((x2 = 0 → ((0 ≤ x1 ∧ x1 < 12) ∧ Q (hI h 38 x1.toNat) h)) ∧ (x2 = 1 → ((0 ≤ x1 ∧ x1 < 12) ∧ Q (hI h 39 x1.toNat) h)) ∧ (x2 = 2 → ((0 ≤ x1 ∧ x1 < 12) ∧ Q (hI h 40 x1.toNat) h)) ∧ (x2 = 3 → ((0 ≤ x1 ∧ x1 < 12) ∧ Q (hI h 41 x1.toNat) h)) ∧ (x2 = 4 → ((0 ≤ x1 ∧ x1 < 12) ∧ Q (hI h 42 x1.toNat) h)) ∧ (x2 < 0 ∨ 4 < x2 → (Q (-4) h)))) ∧ ((hI h 37 0) ≤ x1 → (Q (-4) h)))))) : zCi E d m_X9_thing [vo 0, vi x1, vi x2] h Q := by
  show zAt E d 0 0 m_X9_thing 0 [vo 0, vi x1, vi x2] [] g0 h (zPi Q)
  refine a_iload_n (pc := 0) dX9_thing_0 rfl ?_
  refine a_if_lt (pc := 1) (tgt := 18) dX9_thing_1 (by decide) (fun c => ?_) (fun c => ?_)
  · have H := H.1 c
    refine a_bipush (pc := 18) dX9_thing_18 (by decide) ?_
    exact a_ireturn (pc := 20) dX9_thing_20 trivial ⟨_, rfl, rfl, H⟩
  · have H := H.2 c
    refine a_iload_n (pc := 4) dX9_thing_4 rfl ?_
    refine a_aload_n (pc := 5) dX9_thing_5 rfl ?_
    refine a_getF (pc := 6) dX9_thing_6 fl_X9_47 (go_0) (gf_0_7) ?_
    refine a_getG (pc := 9) dX9_thing_9 fl_X9_222 rfl (goEarnest isEarnest_34) (gfEarnest_2 isEarnest_34) ?_
    refine a_getI (pc := 12) dX9_thing_12 fl_X9_226 (goThings (giEarnest_2 isEarnest_34)) ?_
    refine a_icmp_lt (pc := 15) (tgt := 21) dX9_thing_15 (by decide) (fun c => ?_) (fun c => ?_)
    · have H := H.1 c
      refine a_iload_n (pc := 21) dX9_thing_21 rfl ?_
      refine a_tsw (pc := 22) (tg := [56, 69, 82, 95, 108]) (td := 121) dX9_thing_22 (by decide) (by decide) (by decide) ⟨(fun c => ?_), (fun c => ?_), (fun c => ?_), (fun c => ?_), (fun c => ?_), trivial⟩ (fun c => ?_)
      · have H := H.1 c
        refine a_aload_n (pc := 56) dX9_thing_56 rfl ?_
        refine a_getF (pc := 57) dX9_thing_57 fl_X9_47 (go_0) (gf_0_7) ?_
        refine a_getG (pc := 60) dX9_thing_60 fl_X9_222 rfl (goEarnest isEarnest_34) (gfEarnest_2 isEarnest_34) ?_
        refine a_getG (pc := 63) dX9_thing_63 fl_X9_231 rfl (goThings (giEarnest_2 isEarnest_34)) (gfThings_1 (giEarnest_2 isEarnest_34)) ?_
        refine a_iload_n (pc := 66) dX9_thing_66 rfl ?_
        obtain ⟨hb1, H⟩ := H
        refine a_iaload (pc := 67) dX9_thing_67 (gaThings_1 (giEarnest_2 isEarnest_34)) hb1 ?_
        exact a_ireturn (pc := 68) dX9_thing_68 trivial ⟨_, rfl, rfl, H⟩
      · have H := H.2.1 c
        refine a_aload_n (pc := 69) dX9_thing_69 rfl ?_
        refine a_getF (pc := 70) dX9_thing_70 fl_X9_47 (go_0) (gf_0_7) ?_
        refine a_getG (pc := 73) dX9_thing_73 fl_X9_222 rfl (goEarnest isEarnest_34) (gfEarnest_2 isEarnest_34) ?_
        refine a_getG (pc := 76) dX9_thing_76 fl_X9_234 rfl (goThings (giEarnest_2 isEarnest_34)) (gfThings_2 (giEarnest_2 isEarnest_34)) ?_
        refine a_iload_n (pc := 79) dX9_thing_79 rfl ?_
        obtain ⟨hb2, H⟩ := H
        refine a_iaload (pc := 80) dX9_thing_80 (gaThings_2 (giEarnest_2 isEarnest_34)) hb2 ?_
        exact a_ireturn (pc := 81) dX9_thing_81 trivial ⟨_, rfl, rfl, H⟩
      · have H := H.2.2.1 c
        refine a_aload_n (pc := 82) dX9_thing_82 rfl ?_
        refine a_getF (pc := 83) dX9_thing_83 fl_X9_47 (go_0) (gf_0_7) ?_
        refine a_getG (pc := 86) dX9_thing_86 fl_X9_222 rfl (goEarnest isEarnest_34) (gfEarnest_2 isEarnest_34) ?_
        refine a_getG (pc := 89) dX9_thing_89 fl_X9_237 rfl (goThings (giEarnest_2 isEarnest_34)) (gfThings_3 (giEarnest_2 isEarnest_34)) ?_
        refine a_iload_n (pc := 92) dX9_thing_92 rfl ?_
        obtain ⟨hb3, H⟩ := H
        refine a_iaload (pc := 93) dX9_thing_93 (gaThings_3 (giEarnest_2 isEarnest_34)) hb3 ?_
        exact a_ireturn (pc := 94) dX9_thing_94 trivial ⟨_, rfl, rfl, H⟩
      · have H := H.2.2.2.1 c
        refine a_aload_n (pc := 95) dX9_thing_95 rfl ?_
        refine a_getF (pc := 96) dX9_thing_96 fl_X9_47 (go_0) (gf_0_7) ?_
        refine a_getG (pc := 99) dX9_thing_99 fl_X9_222 rfl (goEarnest isEarnest_34) (gfEarnest_2 isEarnest_34) ?_
        refine a_getG (pc := 102) dX9_thing_102 fl_X9_240 rfl (goThings (giEarnest_2 isEarnest_34)) (gfThings_4 (giEarnest_2 isEarnest_34)) ?_
        refine a_iload_n (pc := 105) dX9_thing_105 rfl ?_
        obtain ⟨hb4, H⟩ := H
        refine a_iaload (pc := 106) dX9_thing_106 (gaThings_4 (giEarnest_2 isEarnest_34)) hb4 ?_
        exact a_ireturn (pc := 107) dX9_thing_107 trivial ⟨_, rfl, rfl, H⟩
      · have H := H.2.2.2.2.1 c
        refine a_aload_n (pc := 108) dX9_thing_108 rfl ?_
        refine a_getF (pc := 109) dX9_thing_109 fl_X9_47 (go_0) (gf_0_7) ?_
        refine a_getG (pc := 112) dX9_thing_112 fl_X9_222 rfl (goEarnest isEarnest_34) (gfEarnest_2 isEarnest_34) ?_
        refine a_getG (pc := 115) dX9_thing_115 fl_X9_243 rfl (goThings (giEarnest_2 isEarnest_34)) (gfThings_5 (giEarnest_2 isEarnest_34)) ?_
        refine a_iload_n (pc := 118) dX9_thing_118 rfl ?_
        obtain ⟨hb5, H⟩ := H
        refine a_iaload (pc := 119) dX9_thing_119 (gaThings_5 (giEarnest_2 isEarnest_34)) hb5 ?_
        exact a_ireturn (pc := 120) dX9_thing_120 trivial ⟨_, rfl, rfl, H⟩
      · have H := H.2.2.2.2.2 c
        refine a_bipush (pc := 121) dX9_thing_121 (by decide) ?_
        exact a_ireturn (pc := 123) dX9_thing_123 trivial ⟨_, rfl, rfl, H⟩
    · have H := H.2 c
      refine a_bipush (pc := 18) dX9_thing_18 (by decide) ?_
      exact a_ireturn (pc := 20) dX9_thing_20 trivial ⟨_, rfl, rfl, H⟩
set_option maxRecDepth 20000 in
theorem v_X9_gap {E : zE} {d : Nat} {h : zS} {Q : Int → zS → Prop}   (H : ∃ t1, hR h 0 3 = some t1 ∧ isCity t1 ∧ zCi E d m_X0_hasEnds [vo t1] h (fun y3 h2 => ((y3 = 0 → (zCv E d m_X7_forget [vo 30] h2 (fun h4 => Q (-1) h4))) ∧ (y3 ≠ 0 → (∃ t5, hR h2 0 3 = some t5 ∧ isCity t5 ∧ zCi E d m_X4_isThere [vo 35, vi (hI h2 t5 2)] h2 (fun y7 h6 => ((y7 = 0 → (zCv E d m_X7_forget [vo 30] h6 (fun h8 => Q (-1) h8))) ∧ (y7 ≠ 0 → (∃ t9, hR h6 0 3 = some t9 ∧ isCity t9 ∧ zCi E d m_X4_isThere [vo 35, vi (hI h6 t9 3)] h6 (fun y11 h10 => ((y11 ≠ 0 → (∃ t12, hR h10 0 3 = some t12 ∧ isCity t12 ∧ zCv E d m_X7_stepByAcquaintances [vo 30, vo t12, vo 34] h10 (fun h13 => ∃ t14, hR h13 0 3 = some t14 ∧ isCity t14 ∧ zCl E d m_X7_layLeast [vo 30, vo t14] h13 (fun y16 h15 => (((z_lcmp y16 4000000000000000000) ≠ 0 → (Q (w32 y16) h15)) ∧ ((z_lcmp y16 4000000000000000000) = 0 → (Q (-1) h15))))))) ∧ (y11 = 0 → (zCv E d m_X7_forget [vo 30] h10 (fun h17 => Q (-1) h17)))))))))))))) : zCi E (d + 1) m_X9_gap [vo 0] h Q := by
  show zAt E (d + 1) 0 0 m_X9_gap 0 [vo 0, vn, vn] [] g0 h (zPi Q)
  refine a_aload_n (pc := 0) dX9_gap_0 rfl ?_
  obtain ⟨t1, het1, hct1, H⟩ := H
  refine a_getR (pc := 1) dX9_gap_1 fl_X9_23 (go_0) het1 ?_
  refine a_callV (pc := 4) (kc := 0) (ks := 0) (kc' := 0) (ks' := 0) (st := []) [] dX9_gap_4 ml_X9_137 (goCity hct1) rfl (Nat.le_of_ble_eq_true rfl) (Nat.le_of_ble_eq_true rfl) (z_post H (fun r G1 h2 q => ?_))
  obtain ⟨y3, rfl, rfl, H⟩ := q
  show zAt E (d + 1) 0 0 m_X9_gap 7 [vo 0, vn, vn] [vi y3] g0 h2 (zPi Q)
  refine a_if_eq (pc := 7) (tgt := 50) dX9_gap_7 (by decide) (fun c => ?_) (fun c => ?_)
  · have H := H.1 c
    refine a_aload_n (pc := 50) dX9_gap_50 rfl ?_
    refine a_getF (pc := 51) dX9_gap_51 fl_X9_40 (go_0) (gf_0_6) ?_
    refine a_callV (pc := 54) (kc := 0) (ks := 0) (kc' := 0) (ks' := 0) (st := []) [] dX9_gap_54 ml_X9_78 (go_30) rfl (Nat.le_of_ble_eq_true rfl) (Nat.le_of_ble_eq_true rfl) (z_post H (fun r G1 h4 q => ?_))
    obtain ⟨rfl, rfl, H⟩ := q
    show zAt E (d + 1) 0 0 m_X9_gap 57 [vo 0, vn, vn] [] g0 h4 (zPi Q)
    refine a_iconst (pc := 57) dX9_gap_57 (by decide) ?_
    exact a_ireturn (pc := 58) dX9_gap_58 trivial ⟨_, rfl, rfl, H⟩
  · have H := H.2 c
    refine a_aload_n (pc := 10) dX9_gap_10 rfl ?_
    refine a_getF (pc := 11) dX9_gap_11 fl_X9_47 (go_0) (gf_0_7) ?_
    refine a_getG (pc := 14) dX9_gap_14 fl_X9_194 rfl (goEarnest isEarnest_34) (gfEarnest_1 isEarnest_34) ?_
    refine a_aload_n (pc := 17) dX9_gap_17 rfl ?_
    obtain ⟨t5, het5, hct5, H⟩ := H
    refine a_getR (pc := 18) dX9_gap_18 fl_X9_23 (go_0) het5 ?_
    refine a_getI (pc := 21) dX9_gap_21 fl_X9_141 (goCity hct5) ?_
    refine a_callV (pc := 24) (kc := 0) (ks := 0) (kc' := 0) (ks' := 0) (st := []) [vi (hI h2 t5 2)] dX9_gap_24 ml_X9_198 (goFate (giEarnest_1 isEarnest_34)) rfl (Nat.le_of_ble_eq_true rfl) (Nat.le_of_ble_eq_true rfl) (z_post H (fun r G1 h6 q => ?_))
    obtain ⟨y7, rfl, rfl, H⟩ := q
    show zAt E (d + 1) 0 0 m_X9_gap 27 [vo 0, vn, vn] [vi y7] g0 h6 (zPi Q)
    refine a_if_eq (pc := 27) (tgt := 50) dX9_gap_27 (by decide) (fun c => ?_) (fun c => ?_)
    · have H := H.1 c
      refine a_aload_n (pc := 50) dX9_gap_50 rfl ?_
      refine a_getF (pc := 51) dX9_gap_51 fl_X9_40 (go_0) (gf_0_6) ?_
      refine a_callV (pc := 54) (kc := 0) (ks := 0) (kc' := 0) (ks' := 0) (st := []) [] dX9_gap_54 ml_X9_78 (go_30) rfl (Nat.le_of_ble_eq_true rfl) (Nat.le_of_ble_eq_true rfl) (z_post H (fun r G1 h8 q => ?_))
      obtain ⟨rfl, rfl, H⟩ := q
      show zAt E (d + 1) 0 0 m_X9_gap 57 [vo 0, vn, vn] [] g0 h8 (zPi Q)
      refine a_iconst (pc := 57) dX9_gap_57 (by decide) ?_
      exact a_ireturn (pc := 58) dX9_gap_58 trivial ⟨_, rfl, rfl, H⟩
    · have H := H.2 c
      refine a_aload_n (pc := 30) dX9_gap_30 rfl ?_
      refine a_getF (pc := 31) dX9_gap_31 fl_X9_47 (go_0) (gf_0_7) ?_
      refine a_getG (pc := 34) dX9_gap_34 fl_X9_194 rfl (goEarnest isEarnest_34) (gfEarnest_1 isEarnest_34) ?_
      refine a_aload_n (pc := 37) dX9_gap_37 rfl ?_
      obtain ⟨t9, het9, hct9, H⟩ := H
      refine a_getR (pc := 38) dX9_gap_38 fl_X9_23 (go_0) het9 ?_
      refine a_getI (pc := 41) dX9_gap_41 fl_X9_144 (goCity hct9) ?_
      refine a_callV (pc := 44) (kc := 0) (ks := 0) (kc' := 0) (ks' := 0) (st := []) [vi (hI h6 t9 3)] dX9_gap_44 ml_X9_198 (goFate (giEarnest_1 isEarnest_34)) rfl (Nat.le_of_ble_eq_true rfl) (Nat.le_of_ble_eq_true rfl) (z_post H (fun r G1 h10 q => ?_))
      obtain ⟨y11, rfl, rfl, H⟩ := q
      show zAt E (d + 1) 0 0 m_X9_gap 47 [vo 0, vn, vn] [vi y11] g0 h10 (zPi Q)
      refine a_if_ne (pc := 47) (tgt := 59) dX9_gap_47 (by decide) (fun c => ?_) (fun c => ?_)
      · have H := H.1 c
        refine a_aload_n (pc := 59) dX9_gap_59 rfl ?_
        refine a_getF (pc := 60) dX9_gap_60 fl_X9_40 (go_0) (gf_0_6) ?_
        refine a_aload_n (pc := 63) dX9_gap_63 rfl ?_
        obtain ⟨t12, het12, hct12, H⟩ := H
        refine a_getR (pc := 64) dX9_gap_64 fl_X9_23 (go_0) het12 ?_
        refine a_aload_n (pc := 67) dX9_gap_67 rfl ?_
        refine a_getF (pc := 68) dX9_gap_68 fl_X9_47 (go_0) (gf_0_7) ?_
        refine a_callV (pc := 71) (kc := 0) (ks := 0) (kc' := 0) (ks' := 0) (st := []) [vo t12, vo 34] dX9_gap_71 ml_X9_246 (go_30) rfl (Nat.le_of_ble_eq_true rfl) (Nat.le_of_ble_eq_true rfl) (z_post H (fun r G1 h13 q => ?_))
        obtain ⟨rfl, rfl, H⟩ := q
        show zAt E (d + 1) 0 0 m_X9_gap 74 [vo 0, vn, vn] [] g0 h13 (zPi Q)
        refine a_aload_n (pc := 74) dX9_gap_74 rfl ?_
        refine a_getF (pc := 75) dX9_gap_75 fl_X9_40 (go_0) (gf_0_6) ?_
        refine a_aload_n (pc := 78) dX9_gap_78 rfl ?_
        obtain ⟨t14, het14, hct14, H⟩ := H
        refine a_getR (pc := 79) dX9_gap_79 fl_X9_23 (go_0) het14 ?_
        refine a_callV (pc := 82) (kc := 0) (ks := 0) (kc' := 0) (ks' := 0) (st := []) [vo t14] dX9_gap_82 ml_X9_108 (go_30) rfl (Nat.le_of_ble_eq_true rfl) (Nat.le_of_ble_eq_true rfl) (z_post H (fun r G1 h15 q => ?_))
        obtain ⟨y16, rfl, rfl, H⟩ := q
        show zAt E (d + 1) 0 0 m_X9_gap 85 [vo 0, vn, vn] [vl y16] g0 h15 (zPi Q)
        refine a_lstore_n (pc := 85) (ls' := [vo 0, vl y16, vn]) dX9_gap_85 rfl rfl ?_
        refine a_lload_n (pc := 86) dX9_gap_86 rfl ?_
        refine a_ldc2 (pc := 87) dX9_gap_87 cl_X9_112 (by decide) ?_
        refine a_lcmp (pc := 90) dX9_gap_90 ?_
        refine a_if_ne (pc := 91) (tgt := 98) dX9_gap_91 (by decide) (fun c => ?_) (fun c => ?_)
        · have H := H.1 c
          refine a_lload_n (pc := 98) dX9_gap_98 rfl ?_
          refine a_l2i (pc := 99) dX9_gap_99 ?_
          exact a_ireturn (pc := 100) dX9_gap_100 trivial ⟨_, rfl, rfl, H⟩
        · have H := H.2 c
          refine a_iconst (pc := 94) dX9_gap_94 (by decide) ?_
          refine a_goto (pc := 95) (tgt := 100) dX9_gap_95 (by decide) ?_
          exact a_ireturn (pc := 100) dX9_gap_100 trivial ⟨_, rfl, rfl, H⟩
      · have H := H.2 c
        refine a_aload_n (pc := 50) dX9_gap_50 rfl ?_
        refine a_getF (pc := 51) dX9_gap_51 fl_X9_40 (go_0) (gf_0_6) ?_
        refine a_callV (pc := 54) (kc := 0) (ks := 0) (kc' := 0) (ks' := 0) (st := []) [] dX9_gap_54 ml_X9_78 (go_30) rfl (Nat.le_of_ble_eq_true rfl) (Nat.le_of_ble_eq_true rfl) (z_post H (fun r G1 h17 q => ?_))
        obtain ⟨rfl, rfl, H⟩ := q
        show zAt E (d + 1) 0 0 m_X9_gap 57 [vo 0, vn, vn] [] g0 h17 (zPi Q)
        refine a_iconst (pc := 57) dX9_gap_57 (by decide) ?_
        exact a_ireturn (pc := 58) dX9_gap_58 trivial ⟨_, rfl, rfl, H⟩
set_option maxRecDepth 20000 in
theorem v_X9_late {E : zE} {d : Nat} {h : zS} {Q : Int → zS → Prop} {x1 : Int} {x2 : Int}  (H : ∃ t1, hR h 0 3 = some t1 ∧ isCity t1 ∧ zCi E d m_X0_everybody [vo t1] h (fun y3 h2 => (((z_and x1 (z_xor y3 (-1))) = 0 → (zCi E d m_X2_tell [vo 83, vi (-1), vi x1, vi x2] h2 (fun y5 h4 => Q y5 h4))) ∧ ((z_and x1 (z_xor y3 (-1))) ≠ 0 → (Q (-1) h2))))) : zCi E (d + 1) m_X9_late [vo 0, vi x1, vi x2] h Q := by
  show zAt E (d + 1) 0 0 m_X9_late 0 [vo 0, vi x1, vi x2] [] g0 h (zPi Q)
  refine a_iload_n (pc := 0) dX9_late_0 rfl ?_
  refine a_aload_n (pc := 1) dX9_late_1 rfl ?_
  obtain ⟨t1, het1, hct1, H⟩ := H
  refine a_getR (pc := 2) dX9_late_2 fl_X9_23 (go_0) het1 ?_
  refine a_callV (pc := 5) (kc := 0) (ks := 0) (kc' := 0) (ks' := 0) (st := [vi x1]) [] dX9_late_5 ml_X9_250 (goCity hct1) rfl (Nat.le_of_ble_eq_true rfl) (Nat.le_of_ble_eq_true rfl) (z_post H (fun r G1 h2 q => ?_))
  obtain ⟨y3, rfl, rfl, H⟩ := q
  show zAt E (d + 1) 0 0 m_X9_late 8 [vo 0, vi x1, vi x2] [vi y3, vi x1] g0 h2 (zPi Q)
  refine a_iconst (pc := 8) dX9_late_8 (by decide) ?_
  refine a_ixor (pc := 9) dX9_late_9 ?_
  refine a_iand (pc := 10) dX9_late_10 ?_
  refine a_if_eq (pc := 11) (tgt := 16) dX9_late_11 (by decide) (fun c => ?_) (fun c => ?_)
  · have H := H.1 c
    refine a_aload_n (pc := 16) dX9_late_16 rfl ?_
    refine a_getF (pc := 17) dX9_late_17 fl_X9_58 (go_0) (gf_0_10) ?_
    refine a_iconst (pc := 20) dX9_late_20 (by decide) ?_
    refine a_iload_n (pc := 21) dX9_late_21 rfl ?_
    refine a_iload_n (pc := 22) dX9_late_22 rfl ?_
    refine a_callV (pc := 23) (kc := 0) (ks := 0) (kc' := 0) (ks' := 0) (st := []) [vi (-1), vi x1, vi x2] dX9_late_23 ml_X9_253 (go_83) rfl (Nat.le_of_ble_eq_true rfl) (Nat.le_of_ble_eq_true rfl) (z_post H (fun r G1 h4 q => ?_))
    obtain ⟨y5, rfl, rfl, H⟩ := q
    show zAt E (d + 1) 0 0 m_X9_late 26 [vo 0, vi x1, vi x2] [vi y5] g0 h4 (zPi Q)
    exact a_ireturn (pc := 26) dX9_late_26 trivial ⟨_, rfl, rfl, H⟩
  · have H := H.2 c
    refine a_iconst (pc := 14) dX9_late_14 (by decide) ?_
    exact a_ireturn (pc := 15) dX9_late_15 trivial ⟨_, rfl, rfl, H⟩
set_option maxRecDepth 20000 in
theorem v_X9_taken {E : zE} {d : Nat} {h : zS} {Q : Int → zS → Prop} {x1 : Int} {x2 : Int}  (H : ∃ t1, hR h 0 3 = some t1 ∧ isCity t1 ∧ zCi E d m_X0_has [vo t1, vi x1] h (fun y3 h2 => ((y3 = 0 → (Q (-1) h2)) ∧ (y3 ≠ 0 → (∃ t4, hR h2 0 3 = some t4 ∧ isCity t4 ∧ zCi E d m_X0_isBox [vo t4, vi x1] h2 (fun y6 h5 => ((y6 = 0 → (zCi E d m_X2_tell [vo 83, vi x1, vi 0, vi x2] h5 (fun y8 h7 => Q y8 h7))) ∧ (y6 ≠ 0 → (Q (-1) h5))))))))) : zCi E (d + 1) m_X9_taken [vo 0, vi x1, vi x2] h Q := by
  show zAt E (d + 1) 0 0 m_X9_taken 0 [vo 0, vi x1, vi x2] [] g0 h (zPi Q)
  refine a_aload_n (pc := 0) dX9_taken_0 rfl ?_
  obtain ⟨t1, het1, hct1, H⟩ := H
  refine a_getR (pc := 1) dX9_taken_1 fl_X9_23 (go_0) het1 ?_
  refine a_iload_n (pc := 4) dX9_taken_4 rfl ?_
  refine a_callV (pc := 5) (kc := 0) (ks := 0) (kc' := 0) (ks' := 0) (st := []) [vi x1] dX9_taken_5 ml_X9_97 (goCity hct1) rfl (Nat.le_of_ble_eq_true rfl) (Nat.le_of_ble_eq_true rfl) (z_post H (fun r G1 h2 q => ?_))
  obtain ⟨y3, rfl, rfl, H⟩ := q
  show zAt E (d + 1) 0 0 m_X9_taken 8 [vo 0, vi x1, vi x2] [vi y3] g0 h2 (zPi Q)
  refine a_if_eq (pc := 8) (tgt := 22) dX9_taken_8 (by decide) (fun c => ?_) (fun c => ?_)
  · have H := H.1 c
    refine a_iconst (pc := 22) dX9_taken_22 (by decide) ?_
    exact a_ireturn (pc := 23) dX9_taken_23 trivial ⟨_, rfl, rfl, H⟩
  · have H := H.2 c
    refine a_aload_n (pc := 11) dX9_taken_11 rfl ?_
    obtain ⟨t4, het4, hct4, H⟩ := H
    refine a_getR (pc := 12) dX9_taken_12 fl_X9_23 (go_0) het4 ?_
    refine a_iload_n (pc := 15) dX9_taken_15 rfl ?_
    refine a_callV (pc := 16) (kc := 0) (ks := 0) (kc' := 0) (ks' := 0) (st := []) [vi x1] dX9_taken_16 ml_X9_168 (goCity hct4) rfl (Nat.le_of_ble_eq_true rfl) (Nat.le_of_ble_eq_true rfl) (z_post H (fun r G1 h5 q => ?_))
    obtain ⟨y6, rfl, rfl, H⟩ := q
    show zAt E (d + 1) 0 0 m_X9_taken 19 [vo 0, vi x1, vi x2] [vi y6] g0 h5 (zPi Q)
    refine a_if_eq (pc := 19) (tgt := 24) dX9_taken_19 (by decide) (fun c => ?_) (fun c => ?_)
    · have H := H.1 c
      refine a_aload_n (pc := 24) dX9_taken_24 rfl ?_
      refine a_getF (pc := 25) dX9_taken_25 fl_X9_58 (go_0) (gf_0_10) ?_
      refine a_iload_n (pc := 28) dX9_taken_28 rfl ?_
      refine a_iconst (pc := 29) dX9_taken_29 (by decide) ?_
      refine a_iload_n (pc := 30) dX9_taken_30 rfl ?_
      refine a_callV (pc := 31) (kc := 0) (ks := 0) (kc' := 0) (ks' := 0) (st := []) [vi x1, vi 0, vi x2] dX9_taken_31 ml_X9_253 (go_83) rfl (Nat.le_of_ble_eq_true rfl) (Nat.le_of_ble_eq_true rfl) (z_post H (fun r G1 h7 q => ?_))
      obtain ⟨y8, rfl, rfl, H⟩ := q
      show zAt E (d + 1) 0 0 m_X9_taken 34 [vo 0, vi x1, vi x2] [vi y8] g0 h7 (zPi Q)
      exact a_ireturn (pc := 34) dX9_taken_34 trivial ⟨_, rfl, rfl, H⟩
    · have H := H.2 c
      refine a_iconst (pc := 22) dX9_taken_22 (by decide) ?_
      exact a_ireturn (pc := 23) dX9_taken_23 trivial ⟨_, rfl, rfl, H⟩
set_option maxRecDepth 20000 in
theorem v_X9_untell {E : zE} {d : Nat} {h : zS} {Q : Int → zS → Prop} {x1 : Int}  (H : zCi E d m_X2_withdraw [vo 83, vi x1] h (fun y2 h1 => (y2 = 0 ∨ y2 = 1) ∧ Q y2 h1)) : zCi E (d + 1) m_X9_untell [vo 0, vi x1] h Q := by
  show zAt E (d + 1) 0 0 m_X9_untell 0 [vo 0, vi x1] [] g0 h (zPi Q)
  refine a_aload_n (pc := 0) dX9_untell_0 rfl ?_
  refine a_getF (pc := 1) dX9_untell_1 fl_X9_58 (go_0) (gf_0_10) ?_
  refine a_iload_n (pc := 4) dX9_untell_4 rfl ?_
  refine a_callV (pc := 5) (kc := 0) (ks := 0) (kc' := 0) (ks' := 0) (st := []) [vi x1] dX9_untell_5 ml_X9_257 (go_83) rfl (Nat.le_of_ble_eq_true rfl) (Nat.le_of_ble_eq_true rfl) (z_post H (fun r G1 h1 q => ?_))
  obtain ⟨y2, rfl, rfl, H⟩ := q
  show zAt E (d + 1) 0 0 m_X9_untell 8 [vo 0, vi x1] [vi y2] g0 h1 (zPi Q)
  obtain ⟨hz, H⟩ := H
  exact a_ireturn (pc := 8) dX9_untell_8 hz ⟨_, rfl, rfl, H⟩
set_option maxRecDepth 20000 in
theorem v_X9_later {E : zE} {d : Nat} {h : zS} {Q : Int → zS → Prop} {x1 : Int}  (H : ((x1 < 0 → (Q (-1) h)) ∧ (0 ≤ x1 → ((1000 < x1 → (Q (-1) h)) ∧ (x1 ≤ 1000 → (((w32 ((hI h 83 0) + x1)) ≤ 100000 → (∀ h1, h1 = stI h 83 0 (w32 ((hI h 83 0) + x1)) → Q (hI h1 83 0) h1)) ∧ (100000 < (w32 ((hI h 83 0) + x1)) → (Q (-1) h)))))))) : zCi E d m_X9_later [vo 0, vi x1] h Q := by
  show zAt E d 0 0 m_X9_later 0 [vo 0, vi x1] [] g0 h (zPi Q)
  refine a_iload_n (pc := 0) dX9_later_0 rfl ?_
  refine a_if_lt (pc := 1) (tgt := 26) dX9_later_1 (by decide) (fun c => ?_) (fun c => ?_)
  · have H := H.1 c
    refine a_iconst (pc := 26) dX9_later_26 (by decide) ?_
    exact a_ireturn (pc := 27) dX9_later_27 trivial ⟨_, rfl, rfl, H⟩
  · have H := H.2 c
    refine a_iload_n (pc := 4) dX9_later_4 rfl ?_
    refine a_sipush (pc := 5) dX9_later_5 (by decide) ?_
    refine a_icmp_gt (pc := 8) (tgt := 26) dX9_later_8 (by decide) (fun c => ?_) (fun c => ?_)
    · have H := H.1 c
      refine a_iconst (pc := 26) dX9_later_26 (by decide) ?_
      exact a_ireturn (pc := 27) dX9_later_27 trivial ⟨_, rfl, rfl, H⟩
    · have H := H.2 c
      refine a_aload_n (pc := 11) dX9_later_11 rfl ?_
      refine a_getF (pc := 12) dX9_later_12 fl_X9_58 (go_0) (gf_0_10) ?_
      refine a_getI (pc := 15) dX9_later_15 fl_X9_260 (go_83) ?_
      refine a_iload_n (pc := 18) dX9_later_18 rfl ?_
      refine a_iadd (pc := 19) dX9_later_19 ?_
      refine a_ldcw (pc := 20) dX9_later_20 cl_X9_263 (by decide) ?_
      refine a_icmp_le (pc := 23) (tgt := 28) dX9_later_23 (by decide) (fun c => ?_) (fun c => ?_)
      · have H := H.1 c
        refine a_aload_n (pc := 28) dX9_later_28 rfl ?_
        refine a_getF (pc := 29) dX9_later_29 fl_X9_58 (go_0) (gf_0_10) ?_
        refine a_dup (pc := 32) dX9_later_32 rfl ?_
        refine a_getI (pc := 33) dX9_later_33 fl_X9_260 (go_83) ?_
        refine a_iload_n (pc := 36) dX9_later_36 rfl ?_
        refine a_iadd (pc := 37) dX9_later_37 ?_
        refine a_putI (pc := 38) dX9_later_38 fl_X9_260 (go_83) ?_
        have H := H _ rfl
        generalize stI h 83 0 (w32 ((hI h 83 0) + x1)) = h1 at H ⊢
        refine a_aload_n (pc := 41) dX9_later_41 rfl ?_
        refine a_getF (pc := 42) dX9_later_42 fl_X9_58 (go_0) (gf_0_10) ?_
        refine a_getI (pc := 45) dX9_later_45 fl_X9_260 (go_83) ?_
        exact a_ireturn (pc := 48) dX9_later_48 trivial ⟨_, rfl, rfl, H⟩
      · have H := H.2 c
        refine a_iconst (pc := 26) dX9_later_26 (by decide) ?_
        exact a_ireturn (pc := 27) dX9_later_27 trivial ⟨_, rfl, rfl, H⟩
set_option maxRecDepth 20000 in
theorem v_X9_spies {E : zE} {d : Nat} {h : zS} {Q : Int → zS → Prop} {x1 : Int} {x2 : Int}  (H : ((x1 < 0 → (Q (-1) h)) ∧ (0 ≤ x1 → ((x1 ≤ 2 → (∃ t1, hR h 0 3 = some t1 ∧ isCity t1 ∧ zCi E d m_X0_everybody [vo t1] h (fun y3 h2 => zWi E (d + 1) m_X9_spies 28 [vo 0, vi x1, vi x2, vi 0, vi y3, vi 0, vi 0] h2 Q))) ∧ (2 < x1 → (Q (-1) h)))))) : zCi E (d + 1) m_X9_spies [vo 0, vi x1, vi x2] h Q := by
  show zAt E (d + 1) 0 0 m_X9_spies 0 [vo 0, vi x1, vi x2, vn, vn, vn, vn] [] g0 h (zPi Q)
  refine a_iload_n (pc := 0) dX9_spies_0 rfl ?_
  refine a_if_lt (pc := 1) (tgt := 9) dX9_spies_1 (by decide) (fun c => ?_) (fun c => ?_)
  · have H := H.1 c
    refine a_iconst (pc := 9) dX9_spies_9 (by decide) ?_
    exact a_ireturn (pc := 10) dX9_spies_10 trivial ⟨_, rfl, rfl, H⟩
  · have H := H.2 c
    refine a_iload_n (pc := 4) dX9_spies_4 rfl ?_
    refine a_iconst (pc := 5) dX9_spies_5 (by decide) ?_
    refine a_icmp_le (pc := 6) (tgt := 11) dX9_spies_6 (by decide) (fun c => ?_) (fun c => ?_)
    · have H := H.1 c
      refine a_iconst (pc := 11) dX9_spies_11 (by decide) ?_
      refine a_istore_n (pc := 12) (ls' := [vo 0, vi x1, vi x2, vi 0, vn, vn, vn]) dX9_spies_12 rfl rfl ?_
      refine a_aload_n (pc := 13) dX9_spies_13 rfl ?_
      obtain ⟨t1, het1, hct1, H⟩ := H
      refine a_getR (pc := 14) dX9_spies_14 fl_X9_23 (go_0) het1 ?_
      refine a_callV (pc := 17) (kc := 0) (ks := 0) (kc' := 0) (ks' := 0) (st := []) [] dX9_spies_17 ml_X9_250 (goCity hct1) rfl (Nat.le_of_ble_eq_true rfl) (Nat.le_of_ble_eq_true rfl) (z_post H (fun r G1 h2 q => ?_))
      obtain ⟨y3, rfl, rfl, H⟩ := q
      show zAt E (d + 1) 0 0 m_X9_spies 20 [vo 0, vi x1, vi x2, vi 0, vn, vn, vn] [vi y3] g0 h2 (zPi Q)
      refine a_istore (pc := 20) (ls' := [vo 0, vi x1, vi x2, vi 0, vi y3, vn, vn]) dX9_spies_20 rfl rfl ?_
      refine a_iconst (pc := 22) dX9_spies_22 (by decide) ?_
      refine a_istore (pc := 23) (ls' := [vo 0, vi x1, vi x2, vi 0, vi y3, vi 0, vn]) dX9_spies_23 rfl rfl ?_
      refine a_iconst (pc := 25) dX9_spies_25 (by decide) ?_
      refine a_istore (pc := 26) (ls' := [vo 0, vi x1, vi x2, vi 0, vi y3, vi 0, vi 0]) dX9_spies_26 rfl rfl ?_
      exact H
    · have H := H.2 c
      refine a_iconst (pc := 9) dX9_spies_9 (by decide) ?_
      exact a_ireturn (pc := 10) dX9_spies_10 trivial ⟨_, rfl, rfl, H⟩
set_option maxRecDepth 20000 in
theorem r_X9_spies_28 {E : zE} {d : Nat} {h : zS} {Q : Int → zS → Prop} {x1 : Int} {x2 : Int} {x3 : Int} {x4 : Int} {x5 : Int} {x6 : Int}  (H : ∃ t1, hR h 0 3 = some t1 ∧ isCity t1 ∧ zCi E d m_X0_everybody [vo t1] h (fun y3 h2 => ((y3 < x6 → ((x1 = 0 → (Q x3 h2)) ∧ (x1 ≠ 0 → ((x3 ≠ 0 → ((x1 ≠ 1 → (Q x5 h2)) ∧ (x1 = 1 → (Q x4 h2)))) ∧ (x3 = 0 → (Q x3 h2)))))) ∧ (x6 ≤ y3 → (∃ t4, hR h2 0 3 = some t4 ∧ isCity t4 ∧ (((z_and x6 (hI h2 t4 14)) ≠ 0 → (zWi E (d + 1) m_X9_spies 28 [vo 0, vi x1, vi x2, vi x3, vi x4, vi x5, vi (w32 (x6 + 1))] h2 Q)) ∧ ((z_and x6 (hI h2 t4 14)) = 0 → (zCi E d m_J6_bitCount_0f7a4 [vi x6] h2 (fun y6 h5 => ((3 < y6 → (zWi E (d + 1) m_X9_spies 28 [vo 0, vi x1, vi x2, vi x3, vi x4, vi x5, vi (w32 (x6 + 1))] h5 Q)) ∧ (y6 ≤ 3 → (∃ t7, hR h5 0 3 = some t7 ∧ isCity t7 ∧ zCi E d m_X2_explainedBy [vo 83, vi x6, vi (hI h5 t7 4), vi x2] h5 (fun y9 h8 => ((y9 = 0 → (zWi E (d + 1) m_X9_spies 28 [vo 0, vi x1, vi x2, vi x3, vi x4, vi x5, vi (w32 (x6 + 1))] h8 Q)) ∧ (y9 ≠ 0 → (zWi E (d + 1) m_X9_spies 28 [vo 0, vi x1, vi x2, vi (w32 (x3 + 1)), vi (z_and x4 x6), vi (z_or x5 x6), vi (w32 (x6 + 1))] h8 Q)))))))))))))))) : zWi E (d + 1) m_X9_spies 28 [vo 0, vi x1, vi x2, vi x3, vi x4, vi x5, vi x6] h Q := by
  refine a_iload (pc := 28) dX9_spies_28 rfl ?_
  refine a_aload_n (pc := 30) dX9_spies_30 rfl ?_
  obtain ⟨t1, het1, hct1, H⟩ := H
  refine a_getR (pc := 31) dX9_spies_31 fl_X9_23 (go_0) het1 ?_
  refine a_callV (pc := 34) (kc := 0) (ks := 0) (kc' := 0) (ks' := 0) (st := [vi x6]) [] dX9_spies_34 ml_X9_250 (goCity hct1) rfl (Nat.le_of_ble_eq_true rfl) (Nat.le_of_ble_eq_true rfl) (z_post H (fun r G1 h2 q => ?_))
  obtain ⟨y3, rfl, rfl, H⟩ := q
  show zAt E (d + 1) 0 0 m_X9_spies 37 [vo 0, vi x1, vi x2, vi x3, vi x4, vi x5, vi x6] [vi y3, vi x6] g0 h2 (zPi Q)
  refine a_icmp_gt (pc := 37) (tgt := 105) dX9_spies_37 (by decide) (fun c => ?_) (fun c => ?_)
  · have H := H.1 c
    refine a_iload_n (pc := 105) dX9_spies_105 rfl ?_
    refine a_if_eq (pc := 106) (tgt := 113) dX9_spies_106 (by decide) (fun c => ?_) (fun c => ?_)
    · have H := H.1 c
      refine a_iload_n (pc := 113) dX9_spies_113 rfl ?_
      exact a_ireturn (pc := 114) dX9_spies_114 trivial ⟨_, rfl, rfl, H⟩
    · have H := H.2 c
      refine a_iload_n (pc := 109) dX9_spies_109 rfl ?_
      refine a_if_ne (pc := 110) (tgt := 115) dX9_spies_110 (by decide) (fun c => ?_) (fun c => ?_)
      · have H := H.1 c
        refine a_iload_n (pc := 115) dX9_spies_115 rfl ?_
        refine a_iconst (pc := 116) dX9_spies_116 (by decide) ?_
        refine a_icmp_ne (pc := 117) (tgt := 125) dX9_spies_117 (by decide) (fun c => ?_) (fun c => ?_)
        · have H := H.1 c
          refine a_iload (pc := 125) dX9_spies_125 rfl ?_
          exact a_ireturn (pc := 127) dX9_spies_127 trivial ⟨_, rfl, rfl, H⟩
        · have H := H.2 c
          refine a_iload (pc := 120) dX9_spies_120 rfl ?_
          refine a_goto (pc := 122) (tgt := 127) dX9_spies_122 (by decide) ?_
          exact a_ireturn (pc := 127) dX9_spies_127 trivial ⟨_, rfl, rfl, H⟩
      · have H := H.2 c
        refine a_iload_n (pc := 113) dX9_spies_113 rfl ?_
        exact a_ireturn (pc := 114) dX9_spies_114 trivial ⟨_, rfl, rfl, H⟩
  · have H := H.2 c
    refine a_iload (pc := 40) dX9_spies_40 rfl ?_
    refine a_aload_n (pc := 42) dX9_spies_42 rfl ?_
    obtain ⟨t4, het4, hct4, H⟩ := H
    refine a_getR (pc := 43) dX9_spies_43 fl_X9_23 (go_0) het4 ?_
    refine a_getI (pc := 46) dX9_spies_46 fl_X9_165 (goCity hct4) ?_
    refine a_iand (pc := 49) dX9_spies_49 ?_
    refine a_if_ne (pc := 50) (tgt := 99) dX9_spies_50 (by decide) (fun c => ?_) (fun c => ?_)
    · have H := H.1 c
      refine a_iinc (pc := 99) (ls' := [vo 0, vi x1, vi x2, vi x3, vi x4, vi x5, vi (w32 (x6 + 1))]) dX9_spies_99 rfl rfl rfl ?_
      refine a_goto (pc := 102) (tgt := 28) dX9_spies_102 (by decide) ?_
      exact H
    · have H := H.2 c
      refine a_iload (pc := 53) dX9_spies_53 rfl ?_
      refine a_callS (pc := 55) (kc := 0) (ks := 0) (kc' := 0) (ks' := 0) (st := []) [vi x6] dX9_spies_55 ml_X9_159 rfl (Nat.le_of_ble_eq_true rfl) (Nat.le_of_ble_eq_true rfl) (z_post H (fun r G1 h5 q => ?_))
      obtain ⟨y6, rfl, rfl, H⟩ := q
      show zAt E (d + 1) 0 0 m_X9_spies 58 [vo 0, vi x1, vi x2, vi x3, vi x4, vi x5, vi x6] [vi y6] g0 h5 (zPi Q)
      refine a_iconst (pc := 58) dX9_spies_58 (by decide) ?_
      refine a_icmp_gt (pc := 59) (tgt := 99) dX9_spies_59 (by decide) (fun c => ?_) (fun c => ?_)
      · have H := H.1 c
        refine a_iinc (pc := 99) (ls' := [vo 0, vi x1, vi x2, vi x3, vi x4, vi x5, vi (w32 (x6 + 1))]) dX9_spies_99 rfl rfl rfl ?_
        refine a_goto (pc := 102) (tgt := 28) dX9_spies_102 (by decide) ?_
        exact H
      · have H := H.2 c
        refine a_aload_n (pc := 62) dX9_spies_62 rfl ?_
        refine a_getF (pc := 63) dX9_spies_63 fl_X9_58 (go_0) (gf_0_10) ?_
        refine a_iload (pc := 66) dX9_spies_66 rfl ?_
        refine a_aload_n (pc := 68) dX9_spies_68 rfl ?_
        obtain ⟨t7, het7, hct7, H⟩ := H
        refine a_getR (pc := 69) dX9_spies_69 fl_X9_23 (go_0) het7 ?_
        refine a_getI (pc := 72) dX9_spies_72 fl_X9_264 (goCity hct7) ?_
        refine a_iload_n (pc := 75) dX9_spies_75 rfl ?_
        refine a_callV (pc := 76) (kc := 0) (ks := 0) (kc' := 0) (ks' := 0) (st := []) [vi x6, vi (hI h5 t7 4), vi x2] dX9_spies_76 ml_X9_267 (go_83) rfl (Nat.le_of_ble_eq_true rfl) (Nat.le_of_ble_eq_true rfl) (z_post H (fun r G1 h8 q => ?_))
        obtain ⟨y9, rfl, rfl, H⟩ := q
        show zAt E (d + 1) 0 0 m_X9_spies 79 [vo 0, vi x1, vi x2, vi x3, vi x4, vi x5, vi x6] [vi y9] g0 h8 (zPi Q)
        refine a_if_eq (pc := 79) (tgt := 99) dX9_spies_79 (by decide) (fun c => ?_) (fun c => ?_)
        · have H := H.1 c
          refine a_iinc (pc := 99) (ls' := [vo 0, vi x1, vi x2, vi x3, vi x4, vi x5, vi (w32 (x6 + 1))]) dX9_spies_99 rfl rfl rfl ?_
          refine a_goto (pc := 102) (tgt := 28) dX9_spies_102 (by decide) ?_
          exact H
        · have H := H.2 c
          refine a_iinc (pc := 82) (ls' := [vo 0, vi x1, vi x2, vi (w32 (x3 + 1)), vi x4, vi x5, vi x6]) dX9_spies_82 rfl rfl rfl ?_
          refine a_iload (pc := 85) dX9_spies_85 rfl ?_
          refine a_iload (pc := 87) dX9_spies_87 rfl ?_
          refine a_iand (pc := 89) dX9_spies_89 ?_
          refine a_istore (pc := 90) (ls' := [vo 0, vi x1, vi x2, vi (w32 (x3 + 1)), vi (z_and x4 x6), vi x5, vi x6]) dX9_spies_90 rfl rfl ?_
          refine a_iload (pc := 92) dX9_spies_92 rfl ?_
          refine a_iload (pc := 94) dX9_spies_94 rfl ?_
          refine a_ior (pc := 96) dX9_spies_96 ?_
          refine a_istore (pc := 97) (ls' := [vo 0, vi x1, vi x2, vi (w32 (x3 + 1)), vi (z_and x4 x6), vi (z_or x5 x6), vi x6]) dX9_spies_97 rfl rfl ?_
          refine a_iinc (pc := 99) (ls' := [vo 0, vi x1, vi x2, vi (w32 (x3 + 1)), vi (z_and x4 x6), vi (z_or x5 x6), vi (w32 (x6 + 1))]) dX9_spies_99 rfl rfl rfl ?_
          refine a_goto (pc := 102) (tgt := 28) dX9_spies_102 (by decide) ?_
          exact H
set_option maxRecDepth 20000 in
theorem v_X9_origins {E : zE} {d : Nat} {h : zS} {Q : Int → zS → Prop} {x1 : Int} {x2 : Int}  (H : ((x1 < 0 → (Q (-1) h)) ∧ (0 ≤ x1 → ((x1 ≤ 2 → (zWi E (d + 1) m_X9_origins 22 [vo 0, vi x1, vi x2, vi 0, vi 0, vi (-1), vi 0, vn, vn] h Q)) ∧ (2 < x1 → (Q (-1) h)))))) : zCi E (d + 1) m_X9_origins [vo 0, vi x1, vi x2] h Q := by
  show zAt E (d + 1) 0 0 m_X9_origins 0 [vo 0, vi x1, vi x2, vn, vn, vn, vn, vn, vn] [] g0 h (zPi Q)
  refine a_iload_n (pc := 0) dX9_origins_0 rfl ?_
  refine a_if_lt (pc := 1) (tgt := 9) dX9_origins_1 (by decide) (fun c => ?_) (fun c => ?_)
  · have H := H.1 c
    refine a_iconst (pc := 9) dX9_origins_9 (by decide) ?_
    exact a_ireturn (pc := 10) dX9_origins_10 trivial ⟨_, rfl, rfl, H⟩
  · have H := H.2 c
    refine a_iload_n (pc := 4) dX9_origins_4 rfl ?_
    refine a_iconst (pc := 5) dX9_origins_5 (by decide) ?_
    refine a_icmp_le (pc := 6) (tgt := 11) dX9_origins_6 (by decide) (fun c => ?_) (fun c => ?_)
    · have H := H.1 c
      refine a_iconst (pc := 11) dX9_origins_11 (by decide) ?_
      refine a_istore_n (pc := 12) (ls' := [vo 0, vi x1, vi x2, vi 0, vn, vn, vn, vn, vn]) dX9_origins_12 rfl rfl ?_
      refine a_iconst (pc := 13) dX9_origins_13 (by decide) ?_
      refine a_istore (pc := 14) (ls' := [vo 0, vi x1, vi x2, vi 0, vi 0, vn, vn, vn, vn]) dX9_origins_14 rfl rfl ?_
      refine a_iconst (pc := 16) dX9_origins_16 (by decide) ?_
      refine a_istore (pc := 17) (ls' := [vo 0, vi x1, vi x2, vi 0, vi 0, vi (-1), vn, vn, vn]) dX9_origins_17 rfl rfl ?_
      refine a_iconst (pc := 19) dX9_origins_19 (by decide) ?_
      refine a_istore (pc := 20) (ls' := [vo 0, vi x1, vi x2, vi 0, vi 0, vi (-1), vi 0, vn, vn]) dX9_origins_20 rfl rfl ?_
      exact H
    · have H := H.2 c
      refine a_iconst (pc := 9) dX9_origins_9 (by decide) ?_
      exact a_ireturn (pc := 10) dX9_origins_10 trivial ⟨_, rfl, rfl, H⟩
set_option maxRecDepth 20000 in
theorem r_X9_origins_22 {E : zE} {d : Nat} {h : zS} {Q : Int → zS → Prop} {x1 : Int} {x2 : Int} {x3 : Int} {x4 : Int} {x5 : Int} {x6 : Int}  (H : ∃ t1, hR h 0 3 = some t1 ∧ isCity t1 ∧ (((hI h t1 0) ≤ x6 → ((x1 ≠ 0 → ((x1 ≠ 1 → (Q x5 h)) ∧ (x1 = 1 → (Q x4 h)))) ∧ (x1 = 0 → (Q x3 h)))) ∧ (x6 < (hI h t1 0) → (∃ t2, hR h 0 3 = some t2 ∧ isCity t2 ∧ zCi E d m_X0_isBox [vo t2, vi x6] h (fun y4 h3 => ((y4 = 0 → (zCi E d m_X2_startOf [vo 83, vo 24, vi x6, vi x2] h3 (fun y6 h5 => ((y6 = (-1) → (zWi E (d + 1) m_X9_origins 22 [vo 0, vi x1, vi x2, vi x3, vi x4, vi x5, vi (w32 (x6 + 1)), vn, vn] h5 Q)) ∧ (y6 ≠ (-1) → (∀ y8 : Int, y8 = w32 (x3 + (if y6 ≠ 100 then 1 else 100)) → (∀ y10 : Int, y10 = (if y6 ≠ 100 then y6 else 0) → (∀ y12 : Int, y12 = (if x5 ≠ (-1) then x5 else (w32 ((w32 (100 * x6)) + y10))) → zWi E (d + 1) m_X9_origins 22 [vo 0, vi x1, vi x2, vi y8, vi (z_or x4 (z_shl 1 x6)), vi y12, vi (w32 (x6 + 1)), vn, vn] h5 Q)))))))) ∧ (y4 ≠ 0 → (((-1) = (-1) → (zWi E (d + 1) m_X9_origins 22 [vo 0, vi x1, vi x2, vi x3, vi x4, vi x5, vi (w32 (x6 + 1)), vn, vn] h3 Q)) ∧ ((-1) ≠ (-1) → (∀ y14 : Int, y14 = w32 (x3 + (if (-1) ≠ 100 then 1 else 100)) → (∀ y16 : Int, y16 = (if (-1) ≠ 100 then (-1) else 0) → (∀ y18 : Int, y18 = (if x5 ≠ (-1) then x5 else (w32 ((w32 (100 * x6)) + y16))) → zWi E (d + 1) m_X9_origins 22 [vo 0, vi x1, vi x2, vi y14, vi (z_or x4 (z_shl 1 x6)), vi y18, vi (w32 (x6 + 1)), vn, vn] h3 Q)))))))))))) : zWi E (d + 1) m_X9_origins 22 [vo 0, vi x1, vi x2, vi x3, vi x4, vi x5, vi x6, vn, vn] h Q := by
  refine a_iload (pc := 22) dX9_origins_22 rfl ?_
  refine a_aload_n (pc := 24) dX9_origins_24 rfl ?_
  obtain ⟨t1, het1, hct1, H⟩ := H
  refine a_getR (pc := 25) dX9_origins_25 fl_X9_23 (go_0) het1 ?_
  refine a_getI (pc := 28) dX9_origins_28 fl_X9_88 (goCity hct1) ?_
  refine a_icmp_ge (pc := 31) (tgt := 139) dX9_origins_31 (by decide) (fun c => ?_) (fun c => ?_)
  · have H := H.1 c
    refine a_iload_n (pc := 139) dX9_origins_139 rfl ?_
    refine a_if_ne (pc := 140) (tgt := 145) dX9_origins_140 (by decide) (fun c => ?_) (fun c => ?_)
    · have H := H.1 c
      refine a_iload_n (pc := 145) dX9_origins_145 rfl ?_
      refine a_iconst (pc := 146) dX9_origins_146 (by decide) ?_
      refine a_icmp_ne (pc := 147) (tgt := 155) dX9_origins_147 (by decide) (fun c => ?_) (fun c => ?_)
      · have H := H.1 c
        refine a_iload (pc := 155) dX9_origins_155 rfl ?_
        exact a_ireturn (pc := 157) dX9_origins_157 trivial ⟨_, rfl, rfl, H⟩
      · have H := H.2 c
        refine a_iload (pc := 150) dX9_origins_150 rfl ?_
        refine a_goto (pc := 152) (tgt := 157) dX9_origins_152 (by decide) ?_
        exact a_ireturn (pc := 157) dX9_origins_157 trivial ⟨_, rfl, rfl, H⟩
    · have H := H.2 c
      refine a_iload_n (pc := 143) dX9_origins_143 rfl ?_
      exact a_ireturn (pc := 144) dX9_origins_144 trivial ⟨_, rfl, rfl, H⟩
  · have H := H.2 c
    refine a_aload_n (pc := 34) dX9_origins_34 rfl ?_
    obtain ⟨t2, het2, hct2, H⟩ := H
    refine a_getR (pc := 35) dX9_origins_35 fl_X9_23 (go_0) het2 ?_
    refine a_iload (pc := 38) dX9_origins_38 rfl ?_
    refine a_callV (pc := 40) (kc := 0) (ks := 0) (kc' := 0) (ks' := 0) (st := []) [vi x6] dX9_origins_40 ml_X9_168 (goCity hct2) rfl (Nat.le_of_ble_eq_true rfl) (Nat.le_of_ble_eq_true rfl) (z_post H (fun r G1 h3 q => ?_))
    obtain ⟨y4, rfl, rfl, H⟩ := q
    show zAt E (d + 1) 0 0 m_X9_origins 43 [vo 0, vi x1, vi x2, vi x3, vi x4, vi x5, vi x6, vn, vn] [vi y4] g0 h3 (zPi Q)
    refine a_if_eq (pc := 43) (tgt := 50) dX9_origins_43 (by decide) (fun c => ?_) (fun c => ?_)
    · have H := H.1 c
      refine a_aload_n (pc := 50) dX9_origins_50 rfl ?_
      refine a_getF (pc := 51) dX9_origins_51 fl_X9_58 (go_0) (gf_0_10) ?_
      refine a_aload_n (pc := 54) dX9_origins_54 rfl ?_
      refine a_getF (pc := 55) dX9_origins_55 fl_X9_33 (go_0) (gf_0_5) ?_
      refine a_iload (pc := 58) dX9_origins_58 rfl ?_
      refine a_iload_n (pc := 60) dX9_origins_60 rfl ?_
      refine a_callV (pc := 61) (kc := 0) (ks := 0) (kc' := 0) (ks' := 0) (st := []) [vo 24, vi x6, vi x2] dX9_origins_61 ml_X9_270 (go_83) rfl (Nat.le_of_ble_eq_true rfl) (Nat.le_of_ble_eq_true rfl) (z_post H (fun r G1 h5 q => ?_))
      obtain ⟨y6, rfl, rfl, H⟩ := q
      show zAt E (d + 1) 0 0 m_X9_origins 64 [vo 0, vi x1, vi x2, vi x3, vi x4, vi x5, vi x6, vn, vn] [vi y6] g0 h5 (zPi Q)
      refine a_istore (pc := 64) (ls' := [vo 0, vi x1, vi x2, vi x3, vi x4, vi x5, vi x6, vi y6, vn]) dX9_origins_64 rfl rfl ?_
      refine a_iload (pc := 66) dX9_origins_66 rfl ?_
      refine a_iconst (pc := 68) dX9_origins_68 (by decide) ?_
      refine a_icmp_eq (pc := 69) (tgt := 133) dX9_origins_69 (by decide) (fun c => ?_) (fun c => ?_)
      · have H := H.1 c
        refine a_iinc (pc := 133) (ls' := [vo 0, vi x1, vi x2, vi x3, vi x4, vi x5, vi (w32 (x6 + 1)), vi y6, vn]) dX9_origins_133 rfl rfl rfl ?_
        refine a_goto (pc := 136) (tgt := 22) dX9_origins_136 (by decide) ?_
        exact z_forget (ls' := [vo 0, vi x1, vi x2, vi x3, vi x4, vi x5, vi (w32 (x6 + 1)), vn, vn]) ⟨.inr rfl, .inr rfl, .inr rfl, .inr rfl, .inr rfl, .inr rfl, .inr rfl, .inl rfl, .inr rfl, trivial⟩ H
      · have H := H.2 c
        refine a_iload_n (pc := 72) dX9_origins_72 rfl ?_
        refine a_iload (pc := 73) dX9_origins_73 rfl ?_
        refine a_bipush (pc := 75) dX9_origins_75 (by decide) ?_
        have J : zAt E (d + 1) 0 0 m_X9_origins 86 [vo 0, vi x1, vi x2, vi x3, vi x4, vi x5, vi x6, vi y6, vn] [vi (if y6 ≠ 100 then 1 else 100), vi x3] g0 h5 (zPi Q) := by
          refine a_iadd (pc := 86) dX9_origins_86 ?_
          have H := H _ rfl
          generalize (w32 (x3 + (if y6 ≠ 100 then 1 else 100)) : Int) = y8 at H ⊢
          refine a_istore_n (pc := 87) (ls' := [vo 0, vi x1, vi x2, vi y8, vi x4, vi x5, vi x6, vi y6, vn]) dX9_origins_87 rfl rfl ?_
          refine a_iload (pc := 88) dX9_origins_88 rfl ?_
          refine a_iconst (pc := 90) dX9_origins_90 (by decide) ?_
          refine a_iload (pc := 91) dX9_origins_91 rfl ?_
          refine a_ishl (pc := 93) dX9_origins_93 ?_
          refine a_ior (pc := 94) dX9_origins_94 ?_
          refine a_istore (pc := 95) (ls' := [vo 0, vi x1, vi x2, vi y8, vi (z_or x4 (z_shl 1 x6)), vi x5, vi x6, vi y6, vn]) dX9_origins_95 rfl rfl ?_
          refine a_iload (pc := 97) dX9_origins_97 rfl ?_
          refine a_bipush (pc := 99) dX9_origins_99 (by decide) ?_
          have J : zAt E (d + 1) 0 0 m_X9_origins 110 [vo 0, vi x1, vi x2, vi y8, vi (z_or x4 (z_shl 1 x6)), vi x5, vi x6, vi y6, vn] [vi (if y6 ≠ 100 then y6 else 0)] g0 h5 (zPi Q) := by
            have H := H _ rfl
            generalize ((if y6 ≠ 100 then y6 else 0) : Int) = y10 at H ⊢
            refine a_istore (pc := 110) (ls' := [vo 0, vi x1, vi x2, vi y8, vi (z_or x4 (z_shl 1 x6)), vi x5, vi x6, vi y6, vi y10]) dX9_origins_110 rfl rfl ?_
            refine a_iload (pc := 112) dX9_origins_112 rfl ?_
            refine a_iconst (pc := 114) dX9_origins_114 (by decide) ?_
            have J : zAt E (d + 1) 0 0 m_X9_origins 131 [vo 0, vi x1, vi x2, vi y8, vi (z_or x4 (z_shl 1 x6)), vi x5, vi x6, vi y6, vi y10] [vi (if x5 ≠ (-1) then x5 else (w32 ((w32 (100 * x6)) + y10)))] g0 h5 (zPi Q) := by
              have H := H _ rfl
              generalize ((if x5 ≠ (-1) then x5 else (w32 ((w32 (100 * x6)) + y10))) : Int) = y12 at H ⊢
              refine a_istore (pc := 131) (ls' := [vo 0, vi x1, vi x2, vi y8, vi (z_or x4 (z_shl 1 x6)), vi y12, vi x6, vi y6, vi y10]) dX9_origins_131 rfl rfl ?_
              refine a_iinc (pc := 133) (ls' := [vo 0, vi x1, vi x2, vi y8, vi (z_or x4 (z_shl 1 x6)), vi y12, vi (w32 (x6 + 1)), vi y6, vi y10]) dX9_origins_133 rfl rfl rfl ?_
              refine a_goto (pc := 136) (tgt := 22) dX9_origins_136 (by decide) ?_
              exact z_forget (ls' := [vo 0, vi x1, vi x2, vi y8, vi (z_or x4 (z_shl 1 x6)), vi y12, vi (w32 (x6 + 1)), vn, vn]) ⟨.inr rfl, .inr rfl, .inr rfl, .inr rfl, .inr rfl, .inr rfl, .inr rfl, .inl rfl, .inl rfl, trivial⟩ H
            refine a_icmp_ne (pc := 115) (tgt := 129) dX9_origins_115 (by decide) (fun c11 => ?_) (fun c11 => ?_)
            · skip
              refine a_iload (pc := 129) dX9_origins_129 rfl ?_
              exact (z_mergeT c11 J)
            · skip
              refine a_bipush (pc := 118) dX9_origins_118 (by decide) ?_
              refine a_iload (pc := 120) dX9_origins_120 rfl ?_
              refine a_imul (pc := 122) dX9_origins_122 ?_
              refine a_iload (pc := 123) dX9_origins_123 rfl ?_
              refine a_iadd (pc := 125) dX9_origins_125 ?_
              refine a_goto (pc := 126) (tgt := 131) dX9_origins_126 (by decide) ?_
              exact (z_mergeF (fun n => n c11) J)
          refine a_icmp_ne (pc := 101) (tgt := 108) dX9_origins_101 (by decide) (fun c9 => ?_) (fun c9 => ?_)
          · skip
            refine a_iload (pc := 108) dX9_origins_108 rfl ?_
            exact (z_mergeT c9 J)
          · skip
            refine a_iconst (pc := 104) dX9_origins_104 (by decide) ?_
            refine a_goto (pc := 105) (tgt := 110) dX9_origins_105 (by decide) ?_
            exact (z_mergeF (fun n => n c9) J)
        refine a_icmp_ne (pc := 77) (tgt := 85) dX9_origins_77 (by decide) (fun c7 => ?_) (fun c7 => ?_)
        · skip
          refine a_iconst (pc := 85) dX9_origins_85 (by decide) ?_
          exact (z_mergeT c7 J)
        · skip
          refine a_bipush (pc := 80) dX9_origins_80 (by decide) ?_
          refine a_goto (pc := 82) (tgt := 86) dX9_origins_82 (by decide) ?_
          exact (z_mergeF (fun n => n c7) J)
    · have H := H.2 c
      refine a_iconst (pc := 46) dX9_origins_46 (by decide) ?_
      refine a_goto (pc := 47) (tgt := 64) dX9_origins_47 (by decide) ?_
      refine a_istore (pc := 64) (ls' := [vo 0, vi x1, vi x2, vi x3, vi x4, vi x5, vi x6, vi (-1), vn]) dX9_origins_64 rfl rfl ?_
      refine a_iload (pc := 66) dX9_origins_66 rfl ?_
      refine a_iconst (pc := 68) dX9_origins_68 (by decide) ?_
      refine a_icmp_eq (pc := 69) (tgt := 133) dX9_origins_69 (by decide) (fun c => ?_) (fun c => ?_)
      · have H := H.1 c
        refine a_iinc (pc := 133) (ls' := [vo 0, vi x1, vi x2, vi x3, vi x4, vi x5, vi (w32 (x6 + 1)), vi (-1), vn]) dX9_origins_133 rfl rfl rfl ?_
        refine a_goto (pc := 136) (tgt := 22) dX9_origins_136 (by decide) ?_
        exact z_forget (ls' := [vo 0, vi x1, vi x2, vi x3, vi x4, vi x5, vi (w32 (x6 + 1)), vn, vn]) ⟨.inr rfl, .inr rfl, .inr rfl, .inr rfl, .inr rfl, .inr rfl, .inr rfl, .inl rfl, .inr rfl, trivial⟩ H
      · have H := H.2 c
        refine a_iload_n (pc := 72) dX9_origins_72 rfl ?_
        refine a_iload (pc := 73) dX9_origins_73 rfl ?_
        refine a_bipush (pc := 75) dX9_origins_75 (by decide) ?_
        have J : zAt E (d + 1) 0 0 m_X9_origins 86 [vo 0, vi x1, vi x2, vi x3, vi x4, vi x5, vi x6, vi (-1), vn] [vi (if (-1) ≠ 100 then 1 else 100), vi x3] g0 h3 (zPi Q) := by
          refine a_iadd (pc := 86) dX9_origins_86 ?_
          have H := H _ rfl
          generalize (w32 (x3 + (if (-1) ≠ 100 then 1 else 100)) : Int) = y14 at H ⊢
          refine a_istore_n (pc := 87) (ls' := [vo 0, vi x1, vi x2, vi y14, vi x4, vi x5, vi x6, vi (-1), vn]) dX9_origins_87 rfl rfl ?_
          refine a_iload (pc := 88) dX9_origins_88 rfl ?_
          refine a_iconst (pc := 90) dX9_origins_90 (by decide) ?_
          refine a_iload (pc := 91) dX9_origins_91 rfl ?_
          refine a_ishl (pc := 93) dX9_origins_93 ?_
          refine a_ior (pc := 94) dX9_origins_94 ?_
          refine a_istore (pc := 95) (ls' := [vo 0, vi x1, vi x2, vi y14, vi (z_or x4 (z_shl 1 x6)), vi x5, vi x6, vi (-1), vn]) dX9_origins_95 rfl rfl ?_
          refine a_iload (pc := 97) dX9_origins_97 rfl ?_
          refine a_bipush (pc := 99) dX9_origins_99 (by decide) ?_
          have J : zAt E (d + 1) 0 0 m_X9_origins 110 [vo 0, vi x1, vi x2, vi y14, vi (z_or x4 (z_shl 1 x6)), vi x5, vi x6, vi (-1), vn] [vi (if (-1) ≠ 100 then (-1) else 0)] g0 h3 (zPi Q) := by
            have H := H _ rfl
            generalize ((if (-1) ≠ 100 then (-1) else 0) : Int) = y16 at H ⊢
            refine a_istore (pc := 110) (ls' := [vo 0, vi x1, vi x2, vi y14, vi (z_or x4 (z_shl 1 x6)), vi x5, vi x6, vi (-1), vi y16]) dX9_origins_110 rfl rfl ?_
            refine a_iload (pc := 112) dX9_origins_112 rfl ?_
            refine a_iconst (pc := 114) dX9_origins_114 (by decide) ?_
            have J : zAt E (d + 1) 0 0 m_X9_origins 131 [vo 0, vi x1, vi x2, vi y14, vi (z_or x4 (z_shl 1 x6)), vi x5, vi x6, vi (-1), vi y16] [vi (if x5 ≠ (-1) then x5 else (w32 ((w32 (100 * x6)) + y16)))] g0 h3 (zPi Q) := by
              have H := H _ rfl
              generalize ((if x5 ≠ (-1) then x5 else (w32 ((w32 (100 * x6)) + y16))) : Int) = y18 at H ⊢
              refine a_istore (pc := 131) (ls' := [vo 0, vi x1, vi x2, vi y14, vi (z_or x4 (z_shl 1 x6)), vi y18, vi x6, vi (-1), vi y16]) dX9_origins_131 rfl rfl ?_
              refine a_iinc (pc := 133) (ls' := [vo 0, vi x1, vi x2, vi y14, vi (z_or x4 (z_shl 1 x6)), vi y18, vi (w32 (x6 + 1)), vi (-1), vi y16]) dX9_origins_133 rfl rfl rfl ?_
              refine a_goto (pc := 136) (tgt := 22) dX9_origins_136 (by decide) ?_
              exact z_forget (ls' := [vo 0, vi x1, vi x2, vi y14, vi (z_or x4 (z_shl 1 x6)), vi y18, vi (w32 (x6 + 1)), vn, vn]) ⟨.inr rfl, .inr rfl, .inr rfl, .inr rfl, .inr rfl, .inr rfl, .inr rfl, .inl rfl, .inl rfl, trivial⟩ H
            refine a_icmp_ne (pc := 115) (tgt := 129) dX9_origins_115 (by decide) (fun c17 => ?_) (fun c17 => ?_)
            · skip
              refine a_iload (pc := 129) dX9_origins_129 rfl ?_
              exact (z_mergeT c17 J)
            · skip
              refine a_bipush (pc := 118) dX9_origins_118 (by decide) ?_
              refine a_iload (pc := 120) dX9_origins_120 rfl ?_
              refine a_imul (pc := 122) dX9_origins_122 ?_
              refine a_iload (pc := 123) dX9_origins_123 rfl ?_
              refine a_iadd (pc := 125) dX9_origins_125 ?_
              refine a_goto (pc := 126) (tgt := 131) dX9_origins_126 (by decide) ?_
              exact (z_mergeF (fun n => n c17) J)
          refine a_icmp_ne (pc := 101) (tgt := 108) dX9_origins_101 (by decide) (fun c15 => ?_) (fun c15 => ?_)
          · skip
            refine a_iload (pc := 108) dX9_origins_108 rfl ?_
            exact (z_mergeT c15 J)
          · skip
            refine a_iconst (pc := 104) dX9_origins_104 (by decide) ?_
            refine a_goto (pc := 105) (tgt := 110) dX9_origins_105 (by decide) ?_
            exact (z_mergeF (fun n => n c15) J)
        refine a_icmp_ne (pc := 77) (tgt := 85) dX9_origins_77 (by decide) (fun c13 => ?_) (fun c13 => ?_)
        · skip
          refine a_iconst (pc := 85) dX9_origins_85 (by decide) ?_
          exact (z_mergeT c13 J)
        · skip
          refine a_bipush (pc := 80) dX9_origins_80 (by decide) ?_
          refine a_goto (pc := 82) (tgt := 86) dX9_origins_82 (by decide) ?_
          exact (z_mergeF (fun n => n c13) J)
set_option maxRecDepth 20000 in
theorem v_X9_image {E : zE} {d : Nat} {h : zS} {Q : Int → zS → Prop} {x1 : Int}  (H : ((x1 < 0 → (Q (-1) h)) ∧ (0 ≤ x1 → ((x1 < 3 → ((0 ≤ x1 ∧ x1 < 3) ∧ ∃ t2, hR h 46 x1.toNat = some t2 ∧ isEarnest t2 ∧ zCv E d m_X1_copy [vo t2, vo 34] h (fun h3 => ∀ h4, h4 = stI h3 0 9 (z_or (hI h3 0 9) (z_shl 1 x1)) → Q (hI h4 34 0) h4))) ∧ (3 ≤ x1 → (Q (-1) h)))))) : zCi E (d + 1) m_X9_image [vo 0, vi x1] h Q := by
  show zAt E (d + 1) 0 0 m_X9_image 0 [vo 0, vi x1] [] g0 h (zPi Q)
  refine a_iload_n (pc := 0) dX9_image_0 rfl ?_
  refine a_if_lt (pc := 1) (tgt := 9) dX9_image_1 (by decide) (fun c => ?_) (fun c => ?_)
  · have H := H.1 c
    refine a_iconst (pc := 9) dX9_image_9 (by decide) ?_
    exact a_ireturn (pc := 10) dX9_image_10 trivial ⟨_, rfl, rfl, H⟩
  · have H := H.2 c
    refine a_iload_n (pc := 4) dX9_image_4 rfl ?_
    refine a_iconst (pc := 5) dX9_image_5 (by decide) ?_
    refine a_icmp_lt (pc := 6) (tgt := 11) dX9_image_6 (by decide) (fun c => ?_) (fun c => ?_)
    · have H := H.1 c
      refine a_aload_n (pc := 11) dX9_image_11 rfl ?_
      refine a_getF (pc := 12) dX9_image_12 fl_X9_51 (go_0) (gf_0_8) ?_
      refine a_iload_n (pc := 15) dX9_image_15 rfl ?_
      obtain ⟨hb1, H⟩ := H
      obtain ⟨t2, het2, hct2, H⟩ := H
      refine a_aaload (pc := 16) dX9_image_16 (ga_46) hb1 het2 ?_
      refine a_aload_n (pc := 17) dX9_image_17 rfl ?_
      refine a_getF (pc := 18) dX9_image_18 fl_X9_47 (go_0) (gf_0_7) ?_
      refine a_callV (pc := 21) (kc := 0) (ks := 0) (kc' := 0) (ks' := 0) (st := []) [vo 34] dX9_image_21 ml_X9_274 (goEarnest hct2) rfl (Nat.le_of_ble_eq_true rfl) (Nat.le_of_ble_eq_true rfl) (z_post H (fun r G1 h3 q => ?_))
      obtain ⟨rfl, rfl, H⟩ := q
      show zAt E (d + 1) 0 0 m_X9_image 24 [vo 0, vi x1] [] g0 h3 (zPi Q)
      refine a_aload_n (pc := 24) dX9_image_24 rfl ?_
      refine a_dup (pc := 25) dX9_image_25 rfl ?_
      refine a_getI (pc := 26) dX9_image_26 fl_X9_84 (go_0) ?_
      refine a_iconst (pc := 29) dX9_image_29 (by decide) ?_
      refine a_iload_n (pc := 30) dX9_image_30 rfl ?_
      refine a_ishl (pc := 31) dX9_image_31 ?_
      refine a_ior (pc := 32) dX9_image_32 ?_
      refine a_putI (pc := 33) dX9_image_33 fl_X9_84 (go_0) ?_
      have H := H _ rfl
      generalize stI h3 0 9 (z_or (hI h3 0 9) (z_shl 1 x1)) = h4 at H ⊢
      refine a_aload_n (pc := 36) dX9_image_36 rfl ?_
      refine a_getF (pc := 37) dX9_image_37 fl_X9_47 (go_0) (gf_0_7) ?_
      refine a_getI (pc := 40) dX9_image_40 fl_X9_188 (goEarnest isEarnest_34) ?_
      exact a_ireturn (pc := 43) dX9_image_43 trivial ⟨_, rfl, rfl, H⟩
    · have H := H.2 c
      refine a_iconst (pc := 9) dX9_image_9 (by decide) ?_
      exact a_ireturn (pc := 10) dX9_image_10 trivial ⟨_, rfl, rfl, H⟩
set_option maxRecDepth 20000 in
theorem v_X9_back {E : zE} {d : Nat} {h : zS} {Q : Int → zS → Prop} {x1 : Int}  (H : ((x1 < 0 → (Q (-1) h)) ∧ (0 ≤ x1 → ((3 ≤ x1 → (Q (-1) h)) ∧ (x1 < 3 → (zCi E d m_X9_isIn [vi (hI h 0 9), vi x1] h (fun y2 h1 => ((y2 ≠ 0 → ((0 ≤ x1 ∧ x1 < 3) ∧ ∃ t4, hR h1 46 x1.toNat = some t4 ∧ isEarnest t4 ∧ zCv E d m_X1_copy [vo 34, vo t4] h1 (fun h5 => Q (hI h5 34 0) h5))) ∧ (y2 = 0 → (Q (-1) h1)))))))))) : zCi E (d + 1) m_X9_back [vo 0, vi x1] h Q := by
  show zAt E (d + 1) 0 0 m_X9_back 0 [vo 0, vi x1] [] g0 h (zPi Q)
  refine a_iload_n (pc := 0) dX9_back_0 rfl ?_
  refine a_if_lt (pc := 1) (tgt := 20) dX9_back_1 (by decide) (fun c => ?_) (fun c => ?_)
  · have H := H.1 c
    refine a_iconst (pc := 20) dX9_back_20 (by decide) ?_
    exact a_ireturn (pc := 21) dX9_back_21 trivial ⟨_, rfl, rfl, H⟩
  · have H := H.2 c
    refine a_iload_n (pc := 4) dX9_back_4 rfl ?_
    refine a_iconst (pc := 5) dX9_back_5 (by decide) ?_
    refine a_icmp_ge (pc := 6) (tgt := 20) dX9_back_6 (by decide) (fun c => ?_) (fun c => ?_)
    · have H := H.1 c
      refine a_iconst (pc := 20) dX9_back_20 (by decide) ?_
      exact a_ireturn (pc := 21) dX9_back_21 trivial ⟨_, rfl, rfl, H⟩
    · have H := H.2 c
      refine a_aload_n (pc := 9) dX9_back_9 rfl ?_
      refine a_getI (pc := 10) dX9_back_10 fl_X9_84 (go_0) ?_
      refine a_iload_n (pc := 13) dX9_back_13 rfl ?_
      refine a_callS (pc := 14) (kc := 0) (ks := 0) (kc' := 0) (ks' := 0) (st := []) [vi (hI h 0 9), vi x1] dX9_back_14 ml_X9_278 rfl (Nat.le_of_ble_eq_true rfl) (Nat.le_of_ble_eq_true rfl) (z_post H (fun r G1 h1 q => ?_))
      obtain ⟨y2, rfl, rfl, H⟩ := q
      show zAt E (d + 1) 0 0 m_X9_back 17 [vo 0, vi x1] [vi y2] g0 h1 (zPi Q)
      refine a_if_ne (pc := 17) (tgt := 22) dX9_back_17 (by decide) (fun c => ?_) (fun c => ?_)
      · have H := H.1 c
        refine a_aload_n (pc := 22) dX9_back_22 rfl ?_
        refine a_getF (pc := 23) dX9_back_23 fl_X9_47 (go_0) (gf_0_7) ?_
        refine a_aload_n (pc := 26) dX9_back_26 rfl ?_
        refine a_getF (pc := 27) dX9_back_27 fl_X9_51 (go_0) (gf_0_8) ?_
        refine a_iload_n (pc := 30) dX9_back_30 rfl ?_
        obtain ⟨hb3, H⟩ := H
        obtain ⟨t4, het4, hct4, H⟩ := H
        refine a_aaload (pc := 31) dX9_back_31 (ga_46) hb3 het4 ?_
        refine a_callV (pc := 32) (kc := 0) (ks := 0) (kc' := 0) (ks' := 0) (st := []) [vo t4] dX9_back_32 ml_X9_274 (goEarnest isEarnest_34) rfl (Nat.le_of_ble_eq_true rfl) (Nat.le_of_ble_eq_true rfl) (z_post H (fun r G1 h5 q => ?_))
        obtain ⟨rfl, rfl, H⟩ := q
        show zAt E (d + 1) 0 0 m_X9_back 35 [vo 0, vi x1] [] g0 h5 (zPi Q)
        refine a_aload_n (pc := 35) dX9_back_35 rfl ?_
        refine a_getF (pc := 36) dX9_back_36 fl_X9_47 (go_0) (gf_0_7) ?_
        refine a_getI (pc := 39) dX9_back_39 fl_X9_188 (goEarnest isEarnest_34) ?_
        exact a_ireturn (pc := 42) dX9_back_42 trivial ⟨_, rfl, rfl, H⟩
      · have H := H.2 c
        refine a_iconst (pc := 20) dX9_back_20 (by decide) ?_
        exact a_ireturn (pc := 21) dX9_back_21 trivial ⟨_, rfl, rfl, H⟩
set_option maxRecDepth 20000 in
theorem v_X9_about {E : zE} {d : Nat} {h : zS} {Q : Int → zS → Prop} {x1 : Int}  (H : ((x1 = 0 → (∃ t1, hR h 0 3 = some t1 ∧ isCity t1 ∧ Q (hI h t1 0) h)) ∧ (x1 = 1 → (∃ t2, hR h 0 3 = some t2 ∧ isCity t2 ∧ Q (hI h t2 1) h)) ∧ (x1 = 2 → (∃ t3, hR h 0 3 = some t3 ∧ isCity t3 ∧ Q (hI h t3 2) h)) ∧ (x1 = 3 → (∃ t4, hR h 0 3 = some t4 ∧ isCity t4 ∧ Q (hI h t4 3) h)) ∧ (x1 = 4 → (Q (hI h 34 0) h)) ∧ (x1 = 5 → (Q (hI h 37 0) h)) ∧ (x1 = 6 → (Q (hI h 83 1) h)) ∧ (x1 = 7 → (Q (hI h 83 0) h)) ∧ (x1 = 8 → (Q (hI h 0 1) h)) ∧ (x1 = 9 → (Q (hI h 30 4) h)) ∧ (x1 = 10 → (zCi E d m_X8_howMany [vo 37, vi (-3)] h (fun y6 h5 => Q y6 h5))) ∧ (x1 = 11 → (zCi E d m_X8_howMany [vo 37, vi (-2)] h (fun y8 h7 => Q y8 h7))) ∧ (x1 < 0 ∨ 11 < x1 → (Q (-1) h)))) : zCi E (d + 1) m_X9_about [vo 0, vi x1] h Q := by
  show zAt E (d + 1) 0 0 m_X9_about 0 [vo 0, vi x1] [] g0 h (zPi Q)
  refine a_iload_n (pc := 0) dX9_about_0 rfl ?_
  refine a_tsw (pc := 1) (tg := [64, 72, 80, 88, 96, 104, 115, 123, 131, 136, 144, 157]) (td := 170) dX9_about_1 (by decide) (by decide) (by decide) ⟨(fun c => ?_), (fun c => ?_), (fun c => ?_), (fun c => ?_), (fun c => ?_), (fun c => ?_), (fun c => ?_), (fun c => ?_), (fun c => ?_), (fun c => ?_), (fun c => ?_), (fun c => ?_), trivial⟩ (fun c => ?_)
  · have H := H.1 c
    refine a_aload_n (pc := 64) dX9_about_64 rfl ?_
    obtain ⟨t1, het1, hct1, H⟩ := H
    refine a_getR (pc := 65) dX9_about_65 fl_X9_23 (go_0) het1 ?_
    refine a_getI (pc := 68) dX9_about_68 fl_X9_88 (goCity hct1) ?_
    exact a_ireturn (pc := 71) dX9_about_71 trivial ⟨_, rfl, rfl, H⟩
  · have H := H.2.1 c
    refine a_aload_n (pc := 72) dX9_about_72 rfl ?_
    obtain ⟨t2, het2, hct2, H⟩ := H
    refine a_getR (pc := 73) dX9_about_73 fl_X9_23 (go_0) het2 ?_
    refine a_getI (pc := 76) dX9_about_76 fl_X9_281 (goCity hct2) ?_
    exact a_ireturn (pc := 79) dX9_about_79 trivial ⟨_, rfl, rfl, H⟩
  · have H := H.2.2.1 c
    refine a_aload_n (pc := 80) dX9_about_80 rfl ?_
    obtain ⟨t3, het3, hct3, H⟩ := H
    refine a_getR (pc := 81) dX9_about_81 fl_X9_23 (go_0) het3 ?_
    refine a_getI (pc := 84) dX9_about_84 fl_X9_141 (goCity hct3) ?_
    exact a_ireturn (pc := 87) dX9_about_87 trivial ⟨_, rfl, rfl, H⟩
  · have H := H.2.2.2.1 c
    refine a_aload_n (pc := 88) dX9_about_88 rfl ?_
    obtain ⟨t4, het4, hct4, H⟩ := H
    refine a_getR (pc := 89) dX9_about_89 fl_X9_23 (go_0) het4 ?_
    refine a_getI (pc := 92) dX9_about_92 fl_X9_144 (goCity hct4) ?_
    exact a_ireturn (pc := 95) dX9_about_95 trivial ⟨_, rfl, rfl, H⟩
  · have H := H.2.2.2.2.1 c
    refine a_aload_n (pc := 96) dX9_about_96 rfl ?_
    refine a_getF (pc := 97) dX9_about_97 fl_X9_47 (go_0) (gf_0_7) ?_
    refine a_getI (pc := 100) dX9_about_100 fl_X9_188 (goEarnest isEarnest_34) ?_
    exact a_ireturn (pc := 103) dX9_about_103 trivial ⟨_, rfl, rfl, H⟩
  · have H := H.2.2.2.2.2.1 c
    refine a_aload_n (pc := 104) dX9_about_104 rfl ?_
    refine a_getF (pc := 105) dX9_about_105 fl_X9_47 (go_0) (gf_0_7) ?_
    refine a_getG (pc := 108) dX9_about_108 fl_X9_222 rfl (goEarnest isEarnest_34) (gfEarnest_2 isEarnest_34) ?_
    refine a_getI (pc := 111) dX9_about_111 fl_X9_226 (goThings (giEarnest_2 isEarnest_34)) ?_
    exact a_ireturn (pc := 114) dX9_about_114 trivial ⟨_, rfl, rfl, H⟩
  · have H := H.2.2.2.2.2.2.1 c
    refine a_aload_n (pc := 115) dX9_about_115 rfl ?_
    refine a_getF (pc := 116) dX9_about_116 fl_X9_58 (go_0) (gf_0_10) ?_
    refine a_getI (pc := 119) dX9_about_119 fl_X9_284 (go_83) ?_
    exact a_ireturn (pc := 122) dX9_about_122 trivial ⟨_, rfl, rfl, H⟩
  · have H := H.2.2.2.2.2.2.2.1 c
    refine a_aload_n (pc := 123) dX9_about_123 rfl ?_
    refine a_getF (pc := 124) dX9_about_124 fl_X9_58 (go_0) (gf_0_10) ?_
    refine a_getI (pc := 127) dX9_about_127 fl_X9_260 (go_83) ?_
    exact a_ireturn (pc := 130) dX9_about_130 trivial ⟨_, rfl, rfl, H⟩
  · have H := H.2.2.2.2.2.2.2.2.1 c
    refine a_aload_n (pc := 131) dX9_about_131 rfl ?_
    refine a_getI (pc := 132) dX9_about_132 fl_X9_62 (go_0) ?_
    exact a_ireturn (pc := 135) dX9_about_135 trivial ⟨_, rfl, rfl, H⟩
  · have H := H.2.2.2.2.2.2.2.2.2.1 c
    refine a_aload_n (pc := 136) dX9_about_136 rfl ?_
    refine a_getF (pc := 137) dX9_about_137 fl_X9_40 (go_0) (gf_0_6) ?_
    refine a_getI (pc := 140) dX9_about_140 fl_X9_131 (go_30) ?_
    exact a_ireturn (pc := 143) dX9_about_143 trivial ⟨_, rfl, rfl, H⟩
  · have H := H.2.2.2.2.2.2.2.2.2.2.1 c
    refine a_aload_n (pc := 144) dX9_about_144 rfl ?_
    refine a_getF (pc := 145) dX9_about_145 fl_X9_47 (go_0) (gf_0_7) ?_
    refine a_getG (pc := 148) dX9_about_148 fl_X9_222 rfl (goEarnest isEarnest_34) (gfEarnest_2 isEarnest_34) ?_
    refine a_bipush (pc := 151) dX9_about_151 (by decide) ?_
    refine a_callV (pc := 153) (kc := 0) (ks := 0) (kc' := 0) (ks' := 0) (st := []) [vi (-3)] dX9_about_153 ml_X9_285 (goThings (giEarnest_2 isEarnest_34)) rfl (Nat.le_of_ble_eq_true rfl) (Nat.le_of_ble_eq_true rfl) (z_post H (fun r G1 h5 q => ?_))
    obtain ⟨y6, rfl, rfl, H⟩ := q
    show zAt E (d + 1) 0 0 m_X9_about 156 [vo 0, vi x1] [vi y6] g0 h5 (zPi Q)
    exact a_ireturn (pc := 156) dX9_about_156 trivial ⟨_, rfl, rfl, H⟩
  · have H := H.2.2.2.2.2.2.2.2.2.2.2.1 c
    refine a_aload_n (pc := 157) dX9_about_157 rfl ?_
    refine a_getF (pc := 158) dX9_about_158 fl_X9_47 (go_0) (gf_0_7) ?_
    refine a_getG (pc := 161) dX9_about_161 fl_X9_222 rfl (goEarnest isEarnest_34) (gfEarnest_2 isEarnest_34) ?_
    refine a_bipush (pc := 164) dX9_about_164 (by decide) ?_
    refine a_callV (pc := 166) (kc := 0) (ks := 0) (kc' := 0) (ks' := 0) (st := []) [vi (-2)] dX9_about_166 ml_X9_285 (goThings (giEarnest_2 isEarnest_34)) rfl (Nat.le_of_ble_eq_true rfl) (Nat.le_of_ble_eq_true rfl) (z_post H (fun r G1 h7 q => ?_))
    obtain ⟨y8, rfl, rfl, H⟩ := q
    show zAt E (d + 1) 0 0 m_X9_about 169 [vo 0, vi x1] [vi y8] g0 h7 (zPi Q)
    exact a_ireturn (pc := 169) dX9_about_169 trivial ⟨_, rfl, rfl, H⟩
  · have H := H.2.2.2.2.2.2.2.2.2.2.2.2 c
    refine a_iconst (pc := 170) dX9_about_170 (by decide) ?_
    exact a_ireturn (pc := 171) dX9_about_171 trivial ⟨_, rfl, rfl, H⟩
set_option maxRecDepth 20000 in
theorem v_X9_put {E : zE} {d : Nat} {h : zS} {Q : zS → Prop} {x1 : Int}  (H : zWv E d m_X9_put 3 [vo 0, vi x1, vi 24] h Q) : zCv E d m_X9_put [vo 0, vi x1] h Q := by
  show zAt E d 0 0 m_X9_put 0 [vo 0, vi x1, vn] [] g0 h (zPv Q)
  refine a_bipush (pc := 0) dX9_put_0 (by decide) ?_
  refine a_istore_n (pc := 2) (ls' := [vo 0, vi x1, vi 24]) dX9_put_2 rfl rfl ?_
  exact H
set_option maxRecDepth 20000 in
theorem r_X9_put_3 {E : zE} {d : Nat} {h : zS} {Q : zS → Prop} {x1 : Int} {x2 : Int}  (H : ((x2 < 0 → (Q h)) ∧ (0 ≤ x2 → ((1600 ≤ (hI h 0 1) → (Q h)) ∧ ((hI h 0 1) < 1600 → ((0 ≤ hI h 0 1 ∧ hI h 0 1 < 1600) ∧ ∀ h2, h2 = stI h 1 (hI h 0 1).toNat (w8 (w8 (z_shr x1 x2))) → ∀ h3, h3 = stI h2 0 1 (w32 ((hI h2 0 1) + 1)) → zWv E d m_X9_put 3 [vo 0, vi x1, vi (w32 (x2 + (-8)))] h3 Q)))))) : zWv E d m_X9_put 3 [vo 0, vi x1, vi x2] h Q := by
  refine a_iload_n (pc := 3) dX9_put_3 rfl ?_
  refine a_if_lt (pc := 4) (tgt := 46) dX9_put_4 (by decide) (fun c => ?_) (fun c => ?_)
  · have H := H.1 c
    exact a_return (pc := 46) dX9_put_46 trivial ⟨rfl, rfl, H⟩
  · have H := H.2 c
    refine a_aload_n (pc := 7) dX9_put_7 rfl ?_
    refine a_getI (pc := 8) dX9_put_8 fl_X9_62 (go_0) ?_
    refine a_sipush (pc := 11) dX9_put_11 (by decide) ?_
    refine a_icmp_ge (pc := 14) (tgt := 46) dX9_put_14 (by decide) (fun c => ?_) (fun c => ?_)
    · have H := H.1 c
      exact a_return (pc := 46) dX9_put_46 trivial ⟨rfl, rfl, H⟩
    · have H := H.2 c
      refine a_aload_n (pc := 17) dX9_put_17 rfl ?_
      refine a_getF (pc := 18) dX9_put_18 fl_X9_9 (go_0) (gf_0_0) ?_
      refine a_aload_n (pc := 21) dX9_put_21 rfl ?_
      refine a_getI (pc := 22) dX9_put_22 fl_X9_62 (go_0) ?_
      refine a_iload_n (pc := 25) dX9_put_25 rfl ?_
      refine a_iload_n (pc := 26) dX9_put_26 rfl ?_
      refine a_ishr (pc := 27) dX9_put_27 ?_
      refine a_i2b (pc := 28) dX9_put_28 ?_
      obtain ⟨hb1, H⟩ := H
      refine a_bastore (pc := 29) dX9_put_29 (ga_1) hb1 ?_
      have H := H _ rfl
      generalize stI h 1 (hI h 0 1).toNat (w8 (w8 (z_shr x1 x2))) = h2 at H ⊢
      refine a_aload_n (pc := 30) dX9_put_30 rfl ?_
      refine a_dup (pc := 31) dX9_put_31 rfl ?_
      refine a_getI (pc := 32) dX9_put_32 fl_X9_62 (go_0) ?_
      refine a_iconst (pc := 35) dX9_put_35 (by decide) ?_
      refine a_iadd (pc := 36) dX9_put_36 ?_
      refine a_putI (pc := 37) dX9_put_37 fl_X9_62 (go_0) ?_
      have H := H _ rfl
      generalize stI h2 0 1 (w32 ((hI h2 0 1) + 1)) = h3 at H ⊢
      refine a_iinc (pc := 40) (ls' := [vo 0, vi x1, vi (w32 (x2 + (-8)))]) dX9_put_40 rfl rfl rfl ?_
      refine a_goto (pc := 43) (tgt := 3) dX9_put_43 (by decide) ?_
      exact H
set_option maxRecDepth 20000 in
theorem v_X9_leastBar {E : zE} {d : Nat} {h : zS} {Q : Int → zS → Prop} {x1 : Int} {x2 : Int}  (H : ∃ t1, hR h 0 3 = some t1 ∧ isCity t1 ∧ zCi E d m_X0_hasWay [vo t1, vi x1, vi x2] h (fun y3 h2 => ((y3 = 0 → (zWi E (d + 1) m_X9_leastBar 16 [vo 0, vi x1, vi x2, vi 0, vn] h2 Q)) ∧ (y3 ≠ 0 → (Q (-1) h2))))) : zCi E (d + 1) m_X9_leastBar [vo 0, vi x1, vi x2] h Q := by
  show zAt E (d + 1) 0 0 m_X9_leastBar 0 [vo 0, vi x1, vi x2, vn, vn] [] g0 h (zPi Q)
  refine a_aload_n (pc := 0) dX9_leastBar_0 rfl ?_
  obtain ⟨t1, het1, hct1, H⟩ := H
  refine a_getR (pc := 1) dX9_leastBar_1 fl_X9_23 (go_0) het1 ?_
  refine a_iload_n (pc := 4) dX9_leastBar_4 rfl ?_
  refine a_iload_n (pc := 5) dX9_leastBar_5 rfl ?_
  refine a_callV (pc := 6) (kc := 0) (ks := 0) (kc' := 0) (ks' := 0) (st := []) [vi x1, vi x2] dX9_leastBar_6 ml_X9_287 (goCity hct1) rfl (Nat.le_of_ble_eq_true rfl) (Nat.le_of_ble_eq_true rfl) (z_post H (fun r G1 h2 q => ?_))
  obtain ⟨y3, rfl, rfl, H⟩ := q
  show zAt E (d + 1) 0 0 m_X9_leastBar 9 [vo 0, vi x1, vi x2, vn, vn] [vi y3] g0 h2 (zPi Q)
  refine a_if_eq (pc := 9) (tgt := 14) dX9_leastBar_9 (by decide) (fun c => ?_) (fun c => ?_)
  · have H := H.1 c
    refine a_iconst (pc := 14) dX9_leastBar_14 (by decide) ?_
    refine a_istore_n (pc := 15) (ls' := [vo 0, vi x1, vi x2, vi 0, vn]) dX9_leastBar_15 rfl rfl ?_
    exact H
  · have H := H.2 c
    refine a_iconst (pc := 12) dX9_leastBar_12 (by decide) ?_
    exact a_ireturn (pc := 13) dX9_leastBar_13 trivial ⟨_, rfl, rfl, H⟩
set_option maxRecDepth 20000 in
theorem r_X9_leastBar_16 {E : zE} {d : Nat} {h : zS} {Q : Int → zS → Prop} {x1 : Int} {x2 : Int} {x3 : Int}  (H : ((12 ≤ x3 → (Q (-1) h)) ∧ (x3 < 12 → (zWi E (d + 1) m_X9_leastBar 25 [vo 0, vi x1, vi x2, vi x3, vi 0] h Q)))) : zWi E (d + 1) m_X9_leastBar 16 [vo 0, vi x1, vi x2, vi x3, vn] h Q := by
  refine a_iload_n (pc := 16) dX9_leastBar_16 rfl ?_
  refine a_bipush (pc := 17) dX9_leastBar_17 (by decide) ?_
  refine a_icmp_ge (pc := 19) (tgt := 77) dX9_leastBar_19 (by decide) (fun c => ?_) (fun c => ?_)
  · have H := H.1 c
    refine a_iconst (pc := 77) dX9_leastBar_77 (by decide) ?_
    exact a_ireturn (pc := 78) dX9_leastBar_78 trivial ⟨_, rfl, rfl, H⟩
  · have H := H.2 c
    refine a_iconst (pc := 22) dX9_leastBar_22 (by decide) ?_
    refine a_istore (pc := 23) (ls' := [vo 0, vi x1, vi x2, vi x3, vi 0]) dX9_leastBar_23 rfl rfl ?_
    exact H
set_option maxRecDepth 20000 in
theorem r_X9_leastBar_25 {E : zE} {d : Nat} {h : zS} {Q : Int → zS → Prop} {x1 : Int} {x2 : Int} {x3 : Int} {x4 : Int}  (H : ((x1 < x4 → (zWi E (d + 1) m_X9_leastBar 16 [vo 0, vi x1, vi x2, vi (w32 (x3 + 1)), vn] h Q)) ∧ (x4 ≤ x1 → (((z_and x4 (z_xor x1 (-1))) ≠ 0 → (zWi E (d + 1) m_X9_leastBar 25 [vo 0, vi x1, vi x2, vi x3, vi (w32 (x4 + 1))] h Q)) ∧ ((z_and x4 (z_xor x1 (-1))) = 0 → (zCi E d m_J6_bitCount_0f7a4 [vi x4] h (fun y2 h1 => ((y2 ≠ x3 → (zWi E (d + 1) m_X9_leastBar 25 [vo 0, vi x1, vi x2, vi x3, vi (w32 (x4 + 1))] h1 Q)) ∧ (y2 = x3 → (∃ t3, hR h1 0 3 = some t3 ∧ isCity t3 ∧ zCi E d m_X0_hasWay [vo t3, vi x4, vi x2] h1 (fun y5 h4 => ((y5 ≠ 0 → (zWi E (d + 1) m_X9_leastBar 25 [vo 0, vi x1, vi x2, vi x3, vi (w32 (x4 + 1))] h4 Q)) ∧ (y5 = 0 → (Q x4 h4)))))))))))))) : zWi E (d + 1) m_X9_leastBar 25 [vo 0, vi x1, vi x2, vi x3, vi x4] h Q := by
  refine a_iload (pc := 25) dX9_leastBar_25 rfl ?_
  refine a_iload_n (pc := 27) dX9_leastBar_27 rfl ?_
  refine a_icmp_gt (pc := 28) (tgt := 71) dX9_leastBar_28 (by decide) (fun c => ?_) (fun c => ?_)
  · have H := H.1 c
    refine a_iinc (pc := 71) (ls' := [vo 0, vi x1, vi x2, vi (w32 (x3 + 1)), vi x4]) dX9_leastBar_71 rfl rfl rfl ?_
    refine a_goto (pc := 74) (tgt := 16) dX9_leastBar_74 (by decide) ?_
    exact z_forget (ls' := [vo 0, vi x1, vi x2, vi (w32 (x3 + 1)), vn]) ⟨.inr rfl, .inr rfl, .inr rfl, .inr rfl, .inl rfl, trivial⟩ H
  · have H := H.2 c
    refine a_iload (pc := 31) dX9_leastBar_31 rfl ?_
    refine a_iload_n (pc := 33) dX9_leastBar_33 rfl ?_
    refine a_iconst (pc := 34) dX9_leastBar_34 (by decide) ?_
    refine a_ixor (pc := 35) dX9_leastBar_35 ?_
    refine a_iand (pc := 36) dX9_leastBar_36 ?_
    refine a_if_ne (pc := 37) (tgt := 65) dX9_leastBar_37 (by decide) (fun c => ?_) (fun c => ?_)
    · have H := H.1 c
      refine a_iinc (pc := 65) (ls' := [vo 0, vi x1, vi x2, vi x3, vi (w32 (x4 + 1))]) dX9_leastBar_65 rfl rfl rfl ?_
      refine a_goto (pc := 68) (tgt := 25) dX9_leastBar_68 (by decide) ?_
      exact H
    · have H := H.2 c
      refine a_iload (pc := 40) dX9_leastBar_40 rfl ?_
      refine a_callS (pc := 42) (kc := 0) (ks := 0) (kc' := 0) (ks' := 0) (st := []) [vi x4] dX9_leastBar_42 ml_X9_159 rfl (Nat.le_of_ble_eq_true rfl) (Nat.le_of_ble_eq_true rfl) (z_post H (fun r G1 h1 q => ?_))
      obtain ⟨y2, rfl, rfl, H⟩ := q
      show zAt E (d + 1) 0 0 m_X9_leastBar 45 [vo 0, vi x1, vi x2, vi x3, vi x4] [vi y2] g0 h1 (zPi Q)
      refine a_iload_n (pc := 45) dX9_leastBar_45 rfl ?_
      refine a_icmp_ne (pc := 46) (tgt := 65) dX9_leastBar_46 (by decide) (fun c => ?_) (fun c => ?_)
      · have H := H.1 c
        refine a_iinc (pc := 65) (ls' := [vo 0, vi x1, vi x2, vi x3, vi (w32 (x4 + 1))]) dX9_leastBar_65 rfl rfl rfl ?_
        refine a_goto (pc := 68) (tgt := 25) dX9_leastBar_68 (by decide) ?_
        exact H
      · have H := H.2 c
        refine a_aload_n (pc := 49) dX9_leastBar_49 rfl ?_
        obtain ⟨t3, het3, hct3, H⟩ := H
        refine a_getR (pc := 50) dX9_leastBar_50 fl_X9_23 (go_0) het3 ?_
        refine a_iload (pc := 53) dX9_leastBar_53 rfl ?_
        refine a_iload_n (pc := 55) dX9_leastBar_55 rfl ?_
        refine a_callV (pc := 56) (kc := 0) (ks := 0) (kc' := 0) (ks' := 0) (st := []) [vi x4, vi x2] dX9_leastBar_56 ml_X9_287 (goCity hct3) rfl (Nat.le_of_ble_eq_true rfl) (Nat.le_of_ble_eq_true rfl) (z_post H (fun r G1 h4 q => ?_))
        obtain ⟨y5, rfl, rfl, H⟩ := q
        show zAt E (d + 1) 0 0 m_X9_leastBar 59 [vo 0, vi x1, vi x2, vi x3, vi x4] [vi y5] g0 h4 (zPi Q)
        refine a_if_ne (pc := 59) (tgt := 65) dX9_leastBar_59 (by decide) (fun c => ?_) (fun c => ?_)
        · have H := H.1 c
          refine a_iinc (pc := 65) (ls' := [vo 0, vi x1, vi x2, vi x3, vi (w32 (x4 + 1))]) dX9_leastBar_65 rfl rfl rfl ?_
          refine a_goto (pc := 68) (tgt := 25) dX9_leastBar_68 (by decide) ?_
          exact H
        · have H := H.2 c
          refine a_iload (pc := 62) dX9_leastBar_62 rfl ?_
          exact a_ireturn (pc := 64) dX9_leastBar_64 trivial ⟨_, rfl, rfl, H⟩
set_option maxRecDepth 20000 in
theorem v_X9_commonDivisor {E : zE} {d : Nat} {h : zS} {Q : Int → zS → Prop} {x0 : Int} {x2 : Int}  (H : zWl E d m_X9_commonDivisor 3 [vl x0, vn, vl x2, vn, vi 0, vn, vn] h Q) : zCl E d m_X9_commonDivisor [vl x0, vl x2] h Q := by
  show zAt E d 0 0 m_X9_commonDivisor 0 [vl x0, vn, vl x2, vn, vn, vn, vn] [] g0 h (zPl Q)
  refine a_iconst (pc := 0) dX9_commonDivisor_0 (by decide) ?_
  refine a_istore (pc := 1) (ls' := [vl x0, vn, vl x2, vn, vi 0, vn, vn]) dX9_commonDivisor_1 rfl rfl ?_
  exact H
set_option maxRecDepth 20000 in
theorem r_X9_commonDivisor_3 {E : zE} {d : Nat} {h : zS} {Q : Int → zS → Prop} {x0 : Int} {x2 : Int} {x4 : Int}  (H : ((100 ≤ x4 → (Q x0 h)) ∧ (x4 < 100 → (((z_lcmp x2 0) = 0 → (Q x0 h)) ∧ ((z_lcmp x2 0) ≠ 0 → ((x2 ≠ 0) ∧ zWl E d m_X9_commonDivisor 3 [vl x2, vn, vl (z_lrem x0 x2), vn, vi (w32 (x4 + 1)), vn, vn] h Q)))))) : zWl E d m_X9_commonDivisor 3 [vl x0, vn, vl x2, vn, vi x4, vn, vn] h Q := by
  refine a_iload (pc := 3) dX9_commonDivisor_3 rfl ?_
  refine a_bipush (pc := 5) dX9_commonDivisor_5 (by decide) ?_
  refine a_icmp_ge (pc := 7) (tgt := 32) dX9_commonDivisor_7 (by decide) (fun c => ?_) (fun c => ?_)
  · have H := H.1 c
    refine a_lload_n (pc := 32) dX9_commonDivisor_32 rfl ?_
    exact a_lreturn (pc := 33) dX9_commonDivisor_33 trivial ⟨_, rfl, rfl, H⟩
  · have H := H.2 c
    refine a_lload_n (pc := 10) dX9_commonDivisor_10 rfl ?_
    refine a_lconst0 (pc := 11) dX9_commonDivisor_11 ?_
    refine a_lcmp (pc := 12) dX9_commonDivisor_12 ?_
    refine a_if_eq (pc := 13) (tgt := 32) dX9_commonDivisor_13 (by decide) (fun c => ?_) (fun c => ?_)
    · have H := H.1 c
      refine a_lload_n (pc := 32) dX9_commonDivisor_32 rfl ?_
      exact a_lreturn (pc := 33) dX9_commonDivisor_33 trivial ⟨_, rfl, rfl, H⟩
    · have H := H.2 c
      refine a_lload_n (pc := 16) dX9_commonDivisor_16 rfl ?_
      refine a_lload_n (pc := 17) dX9_commonDivisor_17 rfl ?_
      obtain ⟨hb, H⟩ := H
      refine a_lrem (pc := 18) dX9_commonDivisor_18 hb ?_
      refine a_lstore (pc := 19) (ls' := [vl x0, vn, vl x2, vn, vi x4, vl (z_lrem x0 x2), vn]) dX9_commonDivisor_19 rfl rfl ?_
      refine a_lload_n (pc := 21) dX9_commonDivisor_21 rfl ?_
      refine a_lstore_n (pc := 22) (ls' := [vl x2, vn, vl x2, vn, vi x4, vl (z_lrem x0 x2), vn]) dX9_commonDivisor_22 rfl rfl ?_
      refine a_lload (pc := 23) dX9_commonDivisor_23 rfl ?_
      refine a_lstore_n (pc := 25) (ls' := [vl x2, vn, vl (z_lrem x0 x2), vn, vi x4, vl (z_lrem x0 x2), vn]) dX9_commonDivisor_25 rfl rfl ?_
      refine a_iinc (pc := 26) (ls' := [vl x2, vn, vl (z_lrem x0 x2), vn, vi (w32 (x4 + 1)), vl (z_lrem x0 x2), vn]) dX9_commonDivisor_26 rfl rfl rfl ?_
      refine a_goto (pc := 29) (tgt := 3) dX9_commonDivisor_29 (by decide) ?_
      exact z_forget (ls' := [vl x2, vn, vl (z_lrem x0 x2), vn, vi (w32 (x4 + 1)), vn, vn]) ⟨.inr rfl, .inr rfl, .inr rfl, .inr rfl, .inr rfl, .inl rfl, .inr rfl, trivial⟩ H
set_option maxRecDepth 20000 in
theorem v_X9_pair {E : zE} {d : Nat} {h : zS} {Q : Int → zS → Prop} {x0 : Int} {x1 : Int}  (H : Q (w32 ((w32 (x0 * 12)) + x1)) h) : zCi E d m_X9_pair [vi x0, vi x1] h Q := by
  show zAt E d 0 0 m_X9_pair 0 [vi x0, vi x1] [] g0 h (zPi Q)
  refine a_iload_n (pc := 0) dX9_pair_0 rfl ?_
  refine a_bipush (pc := 1) dX9_pair_1 (by decide) ?_
  refine a_imul (pc := 3) dX9_pair_3 ?_
  refine a_iload_n (pc := 4) dX9_pair_4 rfl ?_
  refine a_iadd (pc := 5) dX9_pair_5 ?_
  exact a_ireturn (pc := 6) dX9_pair_6 trivial ⟨_, rfl, rfl, H⟩
set_option maxRecDepth 20000 in
theorem v_X9_isIn {E : zE} {d : Nat} {h : zS} {Q : Int → zS → Prop} {x0 : Int} {x1 : Int}  (H : (((z_and (z_shr x0 x1) 1) = 0 → (Q 0 h)) ∧ ((z_and (z_shr x0 x1) 1) ≠ 0 → (Q 1 h)))) : zCi E d m_X9_isIn [vi x0, vi x1] h Q := by
  show zAt E d 0 0 m_X9_isIn 0 [vi x0, vi x1] [] g0 h (zPi Q)
  refine a_iload_n (pc := 0) dX9_isIn_0 rfl ?_
  refine a_iload_n (pc := 1) dX9_isIn_1 rfl ?_
  refine a_ishr (pc := 2) dX9_isIn_2 ?_
  refine a_iconst (pc := 3) dX9_isIn_3 (by decide) ?_
  refine a_iand (pc := 4) dX9_isIn_4 ?_
  refine a_if_eq (pc := 5) (tgt := 12) dX9_isIn_5 (by decide) (fun c => ?_) (fun c => ?_)
  · have H := H.1 c
    refine a_iconst (pc := 12) dX9_isIn_12 (by decide) ?_
    exact a_ireturn (pc := 13) dX9_isIn_13 (.inl rfl) ⟨_, rfl, rfl, H⟩
  · have H := H.2 c
    refine a_iconst (pc := 8) dX9_isIn_8 (by decide) ?_
    refine a_goto (pc := 9) (tgt := 13) dX9_isIn_9 (by decide) ?_
    exact a_ireturn (pc := 13) dX9_isIn_13 (.inr rfl) ⟨_, rfl, rfl, H⟩
