/-! by program: the conditions of each method, Model2 -/
set_option maxRecDepth 20000 in
theorem v_X10_bring {E : zE} {d : Nat} {h : zS} {Q : zS → Prop}   (H : zWv E d m_X10_bring 2 [vo 89, vi 0] h Q) : zCv E d m_X10_bring [vo 89] h Q := by
  show zAt E d 0 0 m_X10_bring 0 [vo 89, vn] [] g0 h (zPv Q)
  refine a_iconst (pc := 0) dX10_bring_0 (by decide) ?_
  refine a_istore_n (pc := 1) (ls' := [vo 89, vi 0]) dX10_bring_1 rfl rfl ?_
  exact H
set_option maxRecDepth 20000 in
theorem r_X10_bring_2 {E : zE} {d : Nat} {h : zS} {Q : zS → Prop} {x1 : Int}  (H : ((12 ≤ x1 → (Q h)) ∧ (x1 < 12 → ((0 ≤ x1 ∧ x1 < 12) ∧ ∀ h2, h2 = stI h 112 x1.toNat (hI h 115 x1.toNat) → ∀ h3, h3 = stI h2 113 x1.toNat (hI h2 116 x1.toNat) → ∀ h4, h4 = stI h3 114 x1.toNat (hI h3 117 x1.toNat) → zWv E d m_X10_bring 2 [vo 89, vi (w32 (x1 + 1))] h4 Q)))) : zWv E d m_X10_bring 2 [vo 89, vi x1] h Q := by
  refine a_iload_n (pc := 2) dX10_bring_2 rfl ?_
  refine a_bipush (pc := 3) dX10_bring_3 (by decide) ?_
  refine a_icmp_ge (pc := 5) (tgt := 50) dX10_bring_5 (by decide) (fun c => ?_) (fun c => ?_)
  · have H := H.1 c
    exact a_return (pc := 50) dX10_bring_50 trivial ⟨rfl, rfl, H⟩
  · have H := H.2 c
    refine a_aload_n (pc := 8) dX10_bring_8 rfl ?_
    refine a_getF (pc := 9) dX10_bring_9 fl_X10_81 (go_89) (gf_89_42) ?_
    refine a_iload_n (pc := 12) dX10_bring_12 rfl ?_
    refine a_aload_n (pc := 13) dX10_bring_13 rfl ?_
    refine a_getF (pc := 14) dX10_bring_14 fl_X10_90 (go_89) (gf_89_45) ?_
    refine a_iload_n (pc := 17) dX10_bring_17 rfl ?_
    obtain ⟨hb1, H⟩ := H
    refine a_iaload (pc := 18) dX10_bring_18 (ga_115) hb1 ?_
    refine a_iastore (pc := 19) dX10_bring_19 (ga_112) hb1 ?_
    have H := H _ rfl
    generalize stI h 112 x1.toNat (hI h 115 x1.toNat) = h2 at H ⊢
    refine a_aload_n (pc := 20) dX10_bring_20 rfl ?_
    refine a_getF (pc := 21) dX10_bring_21 fl_X10_84 (go_89) (gf_89_43) ?_
    refine a_iload_n (pc := 24) dX10_bring_24 rfl ?_
    refine a_aload_n (pc := 25) dX10_bring_25 rfl ?_
    refine a_getF (pc := 26) dX10_bring_26 fl_X10_93 (go_89) (gf_89_46) ?_
    refine a_iload_n (pc := 29) dX10_bring_29 rfl ?_
    refine a_iaload (pc := 30) dX10_bring_30 (ga_116) hb1 ?_
    refine a_iastore (pc := 31) dX10_bring_31 (ga_113) hb1 ?_
    have H := H _ rfl
    generalize stI h2 113 x1.toNat (hI h2 116 x1.toNat) = h3 at H ⊢
    refine a_aload_n (pc := 32) dX10_bring_32 rfl ?_
    refine a_getF (pc := 33) dX10_bring_33 fl_X10_87 (go_89) (gf_89_44) ?_
    refine a_iload_n (pc := 36) dX10_bring_36 rfl ?_
    refine a_aload_n (pc := 37) dX10_bring_37 rfl ?_
    refine a_getF (pc := 38) dX10_bring_38 fl_X10_96 (go_89) (gf_89_47) ?_
    refine a_iload_n (pc := 41) dX10_bring_41 rfl ?_
    refine a_iaload (pc := 42) dX10_bring_42 (ga_117) hb1 ?_
    refine a_iastore (pc := 43) dX10_bring_43 (ga_114) hb1 ?_
    have H := H _ rfl
    generalize stI h3 114 x1.toNat (hI h3 117 x1.toNat) = h4 at H ⊢
    refine a_iinc (pc := 44) (ls' := [vo 89, vi (w32 (x1 + 1))]) dX10_bring_44 rfl rfl rfl ?_
    refine a_goto (pc := 47) (tgt := 2) dX10_bring_47 (by decide) ?_
    exact H
set_option maxRecDepth 20000 in
theorem v_X10_takeBack {E : zE} {d : Nat} {h : zS} {Q : zS → Prop}   (H : zWv E d m_X10_takeBack 2 [vo 89, vi 0] h Q) : zCv E d m_X10_takeBack [vo 89] h Q := by
  show zAt E d 0 0 m_X10_takeBack 0 [vo 89, vn] [] g0 h (zPv Q)
  refine a_iconst (pc := 0) dX10_takeBack_0 (by decide) ?_
  refine a_istore_n (pc := 1) (ls' := [vo 89, vi 0]) dX10_takeBack_1 rfl rfl ?_
  exact H
set_option maxRecDepth 20000 in
theorem r_X10_takeBack_2 {E : zE} {d : Nat} {h : zS} {Q : zS → Prop} {x1 : Int}  (H : ((12 ≤ x1 → (Q h)) ∧ (x1 < 12 → ((0 ≤ x1 ∧ x1 < 12) ∧ ∀ h2, h2 = stI h 115 x1.toNat (hI h 112 x1.toNat) → ∀ h3, h3 = stI h2 116 x1.toNat (hI h2 113 x1.toNat) → zWv E d m_X10_takeBack 2 [vo 89, vi (w32 (x1 + 1))] h3 Q)))) : zWv E d m_X10_takeBack 2 [vo 89, vi x1] h Q := by
  refine a_iload_n (pc := 2) dX10_takeBack_2 rfl ?_
  refine a_bipush (pc := 3) dX10_takeBack_3 (by decide) ?_
  refine a_icmp_ge (pc := 5) (tgt := 38) dX10_takeBack_5 (by decide) (fun c => ?_) (fun c => ?_)
  · have H := H.1 c
    exact a_return (pc := 38) dX10_takeBack_38 trivial ⟨rfl, rfl, H⟩
  · have H := H.2 c
    refine a_aload_n (pc := 8) dX10_takeBack_8 rfl ?_
    refine a_getF (pc := 9) dX10_takeBack_9 fl_X10_90 (go_89) (gf_89_45) ?_
    refine a_iload_n (pc := 12) dX10_takeBack_12 rfl ?_
    refine a_aload_n (pc := 13) dX10_takeBack_13 rfl ?_
    refine a_getF (pc := 14) dX10_takeBack_14 fl_X10_81 (go_89) (gf_89_42) ?_
    refine a_iload_n (pc := 17) dX10_takeBack_17 rfl ?_
    obtain ⟨hb1, H⟩ := H
    refine a_iaload (pc := 18) dX10_takeBack_18 (ga_112) hb1 ?_
    refine a_iastore (pc := 19) dX10_takeBack_19 (ga_115) hb1 ?_
    have H := H _ rfl
    generalize stI h 115 x1.toNat (hI h 112 x1.toNat) = h2 at H ⊢
    refine a_aload_n (pc := 20) dX10_takeBack_20 rfl ?_
    refine a_getF (pc := 21) dX10_takeBack_21 fl_X10_93 (go_89) (gf_89_46) ?_
    refine a_iload_n (pc := 24) dX10_takeBack_24 rfl ?_
    refine a_aload_n (pc := 25) dX10_takeBack_25 rfl ?_
    refine a_getF (pc := 26) dX10_takeBack_26 fl_X10_84 (go_89) (gf_89_43) ?_
    refine a_iload_n (pc := 29) dX10_takeBack_29 rfl ?_
    refine a_iaload (pc := 30) dX10_takeBack_30 (ga_113) hb1 ?_
    refine a_iastore (pc := 31) dX10_takeBack_31 (ga_116) hb1 ?_
    have H := H _ rfl
    generalize stI h2 116 x1.toNat (hI h2 113 x1.toNat) = h3 at H ⊢
    refine a_iinc (pc := 32) (ls' := [vo 89, vi (w32 (x1 + 1))]) dX10_takeBack_32 rfl rfl rfl ?_
    refine a_goto (pc := 35) (tgt := 2) dX10_takeBack_35 (by decide) ?_
    exact H
set_option maxRecDepth 20000 in
theorem v_X10_step {E : zE} {d : Nat} {h : zS} {Q : zS → Prop}   (H : ∀ h1, h1 = stI h 89 54 (w32 ((hI h 89 54) + 1)) → zWv E (d + 1) m_X10_step 12 [vo 89, vi 0] h1 Q) : zCv E (d + 1) m_X10_step [vo 89] h Q := by
  show zAt E (d + 1) 0 0 m_X10_step 0 [vo 89, vn] [] g0 h (zPv Q)
  refine a_aload_n (pc := 0) dX10_step_0 rfl ?_
  refine a_dup (pc := 1) dX10_step_1 rfl ?_
  refine a_getI (pc := 2) dX10_step_2 fl_X10_388 (go_89) ?_
  refine a_iconst (pc := 5) dX10_step_5 (by decide) ?_
  refine a_iadd (pc := 6) dX10_step_6 ?_
  refine a_putI (pc := 7) dX10_step_7 fl_X10_388 (go_89) ?_
  have H := H _ rfl
  generalize stI h 89 54 (w32 ((hI h 89 54) + 1)) = h1 at H ⊢
  refine a_iconst (pc := 10) dX10_step_10 (by decide) ?_
  refine a_istore_n (pc := 11) (ls' := [vo 89, vi 0]) dX10_step_11 rfl rfl ?_
  exact H
set_option maxRecDepth 20000 in
theorem r_X10_step_12 {E : zE} {d : Nat} {h : zS} {Q : zS → Prop} {x1 : Int}  (H : (((hI h 89 55) ≤ x1 → (zCv E d m_X10_bring [vo 89] h (fun h1 => zCi E d m_X10_tellOn [vo 89, vi (hI h1 89 54)] h1 (fun y3 h2 => zCv E d m_X10_goOn [vo 89, vi (hI h2 89 54)] h2 (fun h4 => zCv E d m_X10_takeBack [vo 89] h4 (fun h5 => zWv E (d + 1) m_X10_step 58 [vo 89, vi 0] h5 Q)))))) ∧ (x1 < (hI h 89 55) → (zCv E d m_X10_handOn [vo 89, vi x1] h (fun h6 => zWv E (d + 1) m_X10_step 12 [vo 89, vi (w32 (x1 + 1))] h6 Q))))) : zWv E (d + 1) m_X10_step 12 [vo 89, vi x1] h Q := by
  refine a_iload_n (pc := 12) dX10_step_12 rfl ?_
  refine a_aload_n (pc := 13) dX10_step_13 rfl ?_
  refine a_getI (pc := 14) dX10_step_14 fl_X10_391 (go_89) ?_
  refine a_icmp_ge (pc := 17) (tgt := 31) dX10_step_17 (by decide) (fun c => ?_) (fun c => ?_)
  · have H := H.1 c
    refine a_aload_n (pc := 31) dX10_step_31 rfl ?_
    refine a_callV (pc := 32) (kc := 0) (ks := 0) (kc' := 0) (ks' := 0) (st := []) [] dX10_step_32 ml_X10_406 (go_89) rfl (Nat.le_of_ble_eq_true rfl) (Nat.le_of_ble_eq_true rfl) (z_post H (fun r G1 h1 q => ?_))
    obtain ⟨rfl, rfl, H⟩ := q
    show zAt E (d + 1) 0 0 m_X10_step 35 [vo 89, vi x1] [] g0 h1 (zPv Q)
    refine a_aload_n (pc := 35) dX10_step_35 rfl ?_
    refine a_aload_n (pc := 36) dX10_step_36 rfl ?_
    refine a_getI (pc := 37) dX10_step_37 fl_X10_388 (go_89) ?_
    refine a_callV (pc := 40) (kc := 0) (ks := 0) (kc' := 0) (ks' := 0) (st := []) [vi (hI h1 89 54)] dX10_step_40 ml_X10_376 (go_89) rfl (Nat.le_of_ble_eq_true rfl) (Nat.le_of_ble_eq_true rfl) (z_post H (fun r G1 h2 q => ?_))
    obtain ⟨y3, rfl, rfl, H⟩ := q
    show zAt E (d + 1) 0 0 m_X10_step 43 [vo 89, vi x1] [vi y3] g0 h2 (zPv Q)
    refine a_pop (pc := 43) dX10_step_43 rfl ?_
    refine a_aload_n (pc := 44) dX10_step_44 rfl ?_
    refine a_aload_n (pc := 45) dX10_step_45 rfl ?_
    refine a_getI (pc := 46) dX10_step_46 fl_X10_388 (go_89) ?_
    refine a_callV (pc := 49) (kc := 0) (ks := 0) (kc' := 0) (ks' := 0) (st := []) [vi (hI h2 89 54)] dX10_step_49 ml_X10_379 (go_89) rfl (Nat.le_of_ble_eq_true rfl) (Nat.le_of_ble_eq_true rfl) (z_post H (fun r G1 h4 q => ?_))
    obtain ⟨rfl, rfl, H⟩ := q
    show zAt E (d + 1) 0 0 m_X10_step 52 [vo 89, vi x1] [] g0 h4 (zPv Q)
    refine a_aload_n (pc := 52) dX10_step_52 rfl ?_
    refine a_callV (pc := 53) (kc := 0) (ks := 0) (kc' := 0) (ks' := 0) (st := []) [] dX10_step_53 ml_X10_409 (go_89) rfl (Nat.le_of_ble_eq_true rfl) (Nat.le_of_ble_eq_true rfl) (z_post H (fun r G1 h5 q => ?_))
    obtain ⟨rfl, rfl, H⟩ := q
    show zAt E (d + 1) 0 0 m_X10_step 56 [vo 89, vi x1] [] g0 h5 (zPv Q)
    refine a_iconst (pc := 56) dX10_step_56 (by decide) ?_
    refine a_istore_n (pc := 57) (ls' := [vo 89, vi 0]) dX10_step_57 rfl rfl ?_
    exact H
  · have H := H.2 c
    refine a_aload_n (pc := 20) dX10_step_20 rfl ?_
    refine a_iload_n (pc := 21) dX10_step_21 rfl ?_
    refine a_callV (pc := 22) (kc := 0) (ks := 0) (kc' := 0) (ks' := 0) (st := []) [vi x1] dX10_step_22 ml_X10_403 (go_89) rfl (Nat.le_of_ble_eq_true rfl) (Nat.le_of_ble_eq_true rfl) (z_post H (fun r G1 h6 q => ?_))
    obtain ⟨rfl, rfl, H⟩ := q
    show zAt E (d + 1) 0 0 m_X10_step 25 [vo 89, vi x1] [] g0 h6 (zPv Q)
    refine a_iinc (pc := 25) (ls' := [vo 89, vi (w32 (x1 + 1))]) dX10_step_25 rfl rfl rfl ?_
    refine a_goto (pc := 28) (tgt := 12) dX10_step_28 (by decide) ?_
    exact H
set_option maxRecDepth 20000 in
theorem r_X10_step_58 {E : zE} {d : Nat} {h : zS} {Q : zS → Prop} {x1 : Int}  (H : (((hI h 89 55) ≤ x1 → (Q h)) ∧ (x1 < (hI h 89 55) → ((0 ≤ x1 ∧ x1 < 12) ∧ ((0 ≤ (hI h 119 x1.toNat) → (zCi E d m_X10_isThere [vo 89, vi (hI h 119 x1.toNat)] h (fun y3 h2 => ((y3 ≠ 0 → (((hI h2 122 x1.toNat) < 0 → (zCv E d m_X10_chooseFor [vo 89, vi x1] h2 (fun h4 => zWv E (d + 1) m_X10_step 58 [vo 89, vi (w32 (x1 + 1))] h4 Q))) ∧ (0 ≤ (hI h2 122 x1.toNat) → (zCi E d m_X10_isThere [vo 89, vi (hI h2 122 x1.toNat)] h2 (fun y6 h5 => ((y6 ≠ 0 → (zWv E (d + 1) m_X10_step 58 [vo 89, vi (w32 (x1 + 1))] h5 Q)) ∧ (y6 = 0 → (zCv E d m_X10_chooseFor [vo 89, vi x1] h5 (fun h7 => zWv E (d + 1) m_X10_step 58 [vo 89, vi (w32 (x1 + 1))] h7 Q))))))))) ∧ (y3 = 0 → (∀ h8, h8 = stI h2 119 x1.toNat (-2) → ∀ h9, h9 = stI h8 121 x1.toNat (hI h8 89 54) → ∀ h10, h10 = stI h9 122 x1.toNat (-1) → ∀ h11, h11 = stI h10 123 x1.toNat (-1) → zWv E (d + 1) m_X10_step 58 [vo 89, vi (w32 (x1 + 1))] h11 Q)))))) ∧ ((hI h 119 x1.toNat) < 0 → (zWv E (d + 1) m_X10_step 58 [vo 89, vi (w32 (x1 + 1))] h Q))))))) : zWv E (d + 1) m_X10_step 58 [vo 89, vi x1] h Q := by
  refine a_iload_n (pc := 58) dX10_step_58 rfl ?_
  refine a_aload_n (pc := 59) dX10_step_59 rfl ?_
  refine a_getI (pc := 60) dX10_step_60 fl_X10_391 (go_89) ?_
  refine a_icmp_ge (pc := 63) (tgt := 159) dX10_step_63 (by decide) (fun c => ?_) (fun c => ?_)
  · have H := H.1 c
    exact a_return (pc := 159) dX10_step_159 trivial ⟨rfl, rfl, H⟩
  · have H := H.2 c
    refine a_aload_n (pc := 66) dX10_step_66 rfl ?_
    refine a_getF (pc := 67) dX10_step_67 fl_X10_102 (go_89) (gf_89_49) ?_
    refine a_iload_n (pc := 70) dX10_step_70 rfl ?_
    obtain ⟨hb1, H⟩ := H
    refine a_iaload (pc := 71) dX10_step_71 (ga_119) hb1 ?_
    refine a_if_ge (pc := 72) (tgt := 78) dX10_step_72 (by decide) (fun c => ?_) (fun c => ?_)
    · have H := H.1 c
      refine a_aload_n (pc := 78) dX10_step_78 rfl ?_
      refine a_aload_n (pc := 79) dX10_step_79 rfl ?_
      refine a_getF (pc := 80) dX10_step_80 fl_X10_102 (go_89) (gf_89_49) ?_
      refine a_iload_n (pc := 83) dX10_step_83 rfl ?_
      refine a_iaload (pc := 84) dX10_step_84 (ga_119) hb1 ?_
      refine a_callV (pc := 85) (kc := 0) (ks := 0) (kc' := 0) (ks' := 0) (st := []) [vi (hI h 119 x1.toNat)] dX10_step_85 ml_X10_315 (go_89) rfl (Nat.le_of_ble_eq_true rfl) (Nat.le_of_ble_eq_true rfl) (z_post H (fun r G1 h2 q => ?_))
      obtain ⟨y3, rfl, rfl, H⟩ := q
      show zAt E (d + 1) 0 0 m_X10_step 88 [vo 89, vi x1] [vi y3] g0 h2 (zPv Q)
      refine a_if_ne (pc := 88) (tgt := 126) dX10_step_88 (by decide) (fun c => ?_) (fun c => ?_)
      · have H := H.1 c
        refine a_aload_n (pc := 126) dX10_step_126 rfl ?_
        refine a_getF (pc := 127) dX10_step_127 fl_X10_111 (go_89) (gf_89_52) ?_
        refine a_iload_n (pc := 130) dX10_step_130 rfl ?_
        refine a_iaload (pc := 131) dX10_step_131 (ga_122) hb1 ?_
        refine a_if_lt (pc := 132) (tgt := 148) dX10_step_132 (by decide) (fun c => ?_) (fun c => ?_)
        · have H := H.1 c
          refine a_aload_n (pc := 148) dX10_step_148 rfl ?_
          refine a_iload_n (pc := 149) dX10_step_149 rfl ?_
          refine a_callV (pc := 150) (kc := 0) (ks := 0) (kc' := 0) (ks' := 0) (st := []) [vi x1] dX10_step_150 ml_X10_400 (go_89) rfl (Nat.le_of_ble_eq_true rfl) (Nat.le_of_ble_eq_true rfl) (z_post H (fun r G1 h4 q => ?_))
          obtain ⟨rfl, rfl, H⟩ := q
          show zAt E (d + 1) 0 0 m_X10_step 153 [vo 89, vi x1] [] g0 h4 (zPv Q)
          refine a_iinc (pc := 153) (ls' := [vo 89, vi (w32 (x1 + 1))]) dX10_step_153 rfl rfl rfl ?_
          refine a_goto (pc := 156) (tgt := 58) dX10_step_156 (by decide) ?_
          exact H
        · have H := H.2 c
          refine a_aload_n (pc := 135) dX10_step_135 rfl ?_
          refine a_aload_n (pc := 136) dX10_step_136 rfl ?_
          refine a_getF (pc := 137) dX10_step_137 fl_X10_111 (go_89) (gf_89_52) ?_
          refine a_iload_n (pc := 140) dX10_step_140 rfl ?_
          refine a_iaload (pc := 141) dX10_step_141 (ga_122) hb1 ?_
          refine a_callV (pc := 142) (kc := 0) (ks := 0) (kc' := 0) (ks' := 0) (st := []) [vi (hI h2 122 x1.toNat)] dX10_step_142 ml_X10_315 (go_89) rfl (Nat.le_of_ble_eq_true rfl) (Nat.le_of_ble_eq_true rfl) (z_post H (fun r G1 h5 q => ?_))
          obtain ⟨y6, rfl, rfl, H⟩ := q
          show zAt E (d + 1) 0 0 m_X10_step 145 [vo 89, vi x1] [vi y6] g0 h5 (zPv Q)
          refine a_if_ne (pc := 145) (tgt := 153) dX10_step_145 (by decide) (fun c => ?_) (fun c => ?_)
          · have H := H.1 c
            refine a_iinc (pc := 153) (ls' := [vo 89, vi (w32 (x1 + 1))]) dX10_step_153 rfl rfl rfl ?_
            refine a_goto (pc := 156) (tgt := 58) dX10_step_156 (by decide) ?_
            exact H
          · have H := H.2 c
            refine a_aload_n (pc := 148) dX10_step_148 rfl ?_
            refine a_iload_n (pc := 149) dX10_step_149 rfl ?_
            refine a_callV (pc := 150) (kc := 0) (ks := 0) (kc' := 0) (ks' := 0) (st := []) [vi x1] dX10_step_150 ml_X10_400 (go_89) rfl (Nat.le_of_ble_eq_true rfl) (Nat.le_of_ble_eq_true rfl) (z_post H (fun r G1 h7 q => ?_))
            obtain ⟨rfl, rfl, H⟩ := q
            show zAt E (d + 1) 0 0 m_X10_step 153 [vo 89, vi x1] [] g0 h7 (zPv Q)
            refine a_iinc (pc := 153) (ls' := [vo 89, vi (w32 (x1 + 1))]) dX10_step_153 rfl rfl rfl ?_
            refine a_goto (pc := 156) (tgt := 58) dX10_step_156 (by decide) ?_
            exact H
      · have H := H.2 c
        refine a_aload_n (pc := 91) dX10_step_91 rfl ?_
        refine a_getF (pc := 92) dX10_step_92 fl_X10_102 (go_89) (gf_89_49) ?_
        refine a_iload_n (pc := 95) dX10_step_95 rfl ?_
        refine a_bipush (pc := 96) dX10_step_96 (by decide) ?_
        refine a_iastore (pc := 98) dX10_step_98 (ga_119) hb1 ?_
        have H := H _ rfl
        generalize stI h2 119 x1.toNat (-2) = h8 at H ⊢
        refine a_aload_n (pc := 99) dX10_step_99 rfl ?_
        refine a_getF (pc := 100) dX10_step_100 fl_X10_108 (go_89) (gf_89_51) ?_
        refine a_iload_n (pc := 103) dX10_step_103 rfl ?_
        refine a_aload_n (pc := 104) dX10_step_104 rfl ?_
        refine a_getI (pc := 105) dX10_step_105 fl_X10_388 (go_89) ?_
        refine a_iastore (pc := 108) dX10_step_108 (ga_121) hb1 ?_
        have H := H _ rfl
        generalize stI h8 121 x1.toNat (hI h8 89 54) = h9 at H ⊢
        refine a_aload_n (pc := 109) dX10_step_109 rfl ?_
        refine a_getF (pc := 110) dX10_step_110 fl_X10_111 (go_89) (gf_89_52) ?_
        refine a_iload_n (pc := 113) dX10_step_113 rfl ?_
        refine a_iconst (pc := 114) dX10_step_114 (by decide) ?_
        refine a_iastore (pc := 115) dX10_step_115 (ga_122) hb1 ?_
        have H := H _ rfl
        generalize stI h9 122 x1.toNat (-1) = h10 at H ⊢
        refine a_aload_n (pc := 116) dX10_step_116 rfl ?_
        refine a_getF (pc := 117) dX10_step_117 fl_X10_114 (go_89) (gf_89_53) ?_
        refine a_iload_n (pc := 120) dX10_step_120 rfl ?_
        refine a_iconst (pc := 121) dX10_step_121 (by decide) ?_
        refine a_iastore (pc := 122) dX10_step_122 (ga_123) hb1 ?_
        have H := H _ rfl
        generalize stI h10 123 x1.toNat (-1) = h11 at H ⊢
        refine a_goto (pc := 123) (tgt := 153) dX10_step_123 (by decide) ?_
        refine a_iinc (pc := 153) (ls' := [vo 89, vi (w32 (x1 + 1))]) dX10_step_153 rfl rfl rfl ?_
        refine a_goto (pc := 156) (tgt := 58) dX10_step_156 (by decide) ?_
        exact H
    · have H := H.2 c
      refine a_goto (pc := 75) (tgt := 153) dX10_step_75 (by decide) ?_
      refine a_iinc (pc := 153) (ls' := [vo 89, vi (w32 (x1 + 1))]) dX10_step_153 rfl rfl rfl ?_
      refine a_goto (pc := 156) (tgt := 58) dX10_step_156 (by decide) ?_
      exact H
set_option maxRecDepth 20000 in
theorem v_X10_day {E : zE} {d : Nat} {h : zS} {Q : Int → zS → Prop} {x1 : Int}  (H : ((x1 < 0 → (Q (-1) h)) ∧ (0 ≤ x1 → ((99 < x1 → (Q (-1) h)) ∧ (x1 ≤ 99 → (((w32 ((hI h 89 54) + x1)) ≤ 1000 → (zWi E (d + 1) m_X10_day 26 [vo 89, vi x1, vi 0] h Q)) ∧ (1000 < (w32 ((hI h 89 54) + x1)) → (Q (-1) h)))))))) : zCi E (d + 1) m_X10_day [vo 89, vi x1] h Q := by
  show zAt E (d + 1) 0 0 m_X10_day 0 [vo 89, vi x1, vn] [] g0 h (zPi Q)
  refine a_iload_n (pc := 0) dX10_day_0 rfl ?_
  refine a_if_lt (pc := 1) (tgt := 22) dX10_day_1 (by decide) (fun c => ?_) (fun c => ?_)
  · have H := H.1 c
    refine a_iconst (pc := 22) dX10_day_22 (by decide) ?_
    exact a_ireturn (pc := 23) dX10_day_23 trivial ⟨_, rfl, rfl, H⟩
  · have H := H.2 c
    refine a_iload_n (pc := 4) dX10_day_4 rfl ?_
    refine a_bipush (pc := 5) dX10_day_5 (by decide) ?_
    refine a_icmp_gt (pc := 7) (tgt := 22) dX10_day_7 (by decide) (fun c => ?_) (fun c => ?_)
    · have H := H.1 c
      refine a_iconst (pc := 22) dX10_day_22 (by decide) ?_
      exact a_ireturn (pc := 23) dX10_day_23 trivial ⟨_, rfl, rfl, H⟩
    · have H := H.2 c
      refine a_aload_n (pc := 10) dX10_day_10 rfl ?_
      refine a_getI (pc := 11) dX10_day_11 fl_X10_388 (go_89) ?_
      refine a_iload_n (pc := 14) dX10_day_14 rfl ?_
      refine a_iadd (pc := 15) dX10_day_15 ?_
      refine a_sipush (pc := 16) dX10_day_16 (by decide) ?_
      refine a_icmp_le (pc := 19) (tgt := 24) dX10_day_19 (by decide) (fun c => ?_) (fun c => ?_)
      · have H := H.1 c
        refine a_iconst (pc := 24) dX10_day_24 (by decide) ?_
        refine a_istore_n (pc := 25) (ls' := [vo 89, vi x1, vi 0]) dX10_day_25 rfl rfl ?_
        exact H
      · have H := H.2 c
        refine a_iconst (pc := 22) dX10_day_22 (by decide) ?_
        exact a_ireturn (pc := 23) dX10_day_23 trivial ⟨_, rfl, rfl, H⟩
set_option maxRecDepth 20000 in
theorem r_X10_day_26 {E : zE} {d : Nat} {h : zS} {Q : Int → zS → Prop} {x1 : Int} {x2 : Int}  (H : ((x1 ≤ x2 → (Q (hI h 89 54) h)) ∧ (x2 < x1 → (zCv E d m_X10_step [vo 89] h (fun h1 => zWi E (d + 1) m_X10_day 26 [vo 89, vi x1, vi (w32 (x2 + 1))] h1 Q))))) : zWi E (d + 1) m_X10_day 26 [vo 89, vi x1, vi x2] h Q := by
  refine a_iload_n (pc := 26) dX10_day_26 rfl ?_
  refine a_iload_n (pc := 27) dX10_day_27 rfl ?_
  refine a_icmp_ge (pc := 28) (tgt := 41) dX10_day_28 (by decide) (fun c => ?_) (fun c => ?_)
  · have H := H.1 c
    refine a_aload_n (pc := 41) dX10_day_41 rfl ?_
    refine a_getI (pc := 42) dX10_day_42 fl_X10_388 (go_89) ?_
    exact a_ireturn (pc := 45) dX10_day_45 trivial ⟨_, rfl, rfl, H⟩
  · have H := H.2 c
    refine a_aload_n (pc := 31) dX10_day_31 rfl ?_
    refine a_callV (pc := 32) (kc := 0) (ks := 0) (kc' := 0) (ks' := 0) (st := []) [] dX10_day_32 ml_X10_412 (go_89) rfl (Nat.le_of_ble_eq_true rfl) (Nat.le_of_ble_eq_true rfl) (z_post H (fun r G1 h1 q => ?_))
    obtain ⟨rfl, rfl, H⟩ := q
    show zAt E (d + 1) 0 0 m_X10_day 35 [vo 89, vi x1, vi x2] [] g0 h1 (zPi Q)
    refine a_iinc (pc := 35) (ls' := [vo 89, vi x1, vi (w32 (x2 + 1))]) dX10_day_35 rfl rfl rfl ?_
    refine a_goto (pc := 38) (tgt := 26) dX10_day_38 (by decide) ?_
    exact H
set_option maxRecDepth 20000 in
theorem v_X10_take {E : zE} {d : Nat} {h : zS} {Q : Int → zS → Prop} {x1 : Int}  (H : zCi E d m_X10_canFall [vo 89, vi x1] h (fun y2 h1 => ((y2 = 0 → (Q (-1) h1)) ∧ (y2 ≠ 0 → (zCi E d m_X10_isThere [vo 89, vi x1] h1 (fun y4 h3 => ((y4 ≠ 0 → (zCv E d m_X10_bring [vo 89] h3 (fun h5 => (0 ≤ x1 ∧ x1 < 12) ∧ ∀ h7, h7 = stI h5 112 x1.toNat (hI h5 89 54) → zWi E (d + 1) m_X10_take 36 [vo 89, vn, vi 1, vi 1, vn, vn] h7 Q))) ∧ (y4 = 0 → (Q (-1) h3))))))))) : zCi E (d + 1) m_X10_take [vo 89, vi x1] h Q := by
  show zAt E (d + 1) 0 0 m_X10_take 0 [vo 89, vi x1, vn, vn, vn, vn] [] g0 h (zPi Q)
  refine a_aload_n (pc := 0) dX10_take_0 rfl ?_
  refine a_iload_n (pc := 1) dX10_take_1 rfl ?_
  refine a_callV (pc := 2) (kc := 0) (ks := 0) (kc' := 0) (ks' := 0) (st := []) [vi x1] dX10_take_2 ml_X10_382 (go_89) rfl (Nat.le_of_ble_eq_true rfl) (Nat.le_of_ble_eq_true rfl) (z_post H (fun r G1 h1 q => ?_))
  obtain ⟨y2, rfl, rfl, H⟩ := q
  show zAt E (d + 1) 0 0 m_X10_take 5 [vo 89, vi x1, vn, vn, vn, vn] [vi y2] g0 h1 (zPi Q)
  refine a_if_eq (pc := 5) (tgt := 16) dX10_take_5 (by decide) (fun c => ?_) (fun c => ?_)
  · have H := H.1 c
    refine a_iconst (pc := 16) dX10_take_16 (by decide) ?_
    exact a_ireturn (pc := 17) dX10_take_17 trivial ⟨_, rfl, rfl, H⟩
  · have H := H.2 c
    refine a_aload_n (pc := 8) dX10_take_8 rfl ?_
    refine a_iload_n (pc := 9) dX10_take_9 rfl ?_
    refine a_callV (pc := 10) (kc := 0) (ks := 0) (kc' := 0) (ks' := 0) (st := []) [vi x1] dX10_take_10 ml_X10_315 (go_89) rfl (Nat.le_of_ble_eq_true rfl) (Nat.le_of_ble_eq_true rfl) (z_post H (fun r G1 h3 q => ?_))
    obtain ⟨y4, rfl, rfl, H⟩ := q
    show zAt E (d + 1) 0 0 m_X10_take 13 [vo 89, vi x1, vn, vn, vn, vn] [vi y4] g0 h3 (zPi Q)
    refine a_if_ne (pc := 13) (tgt := 18) dX10_take_13 (by decide) (fun c => ?_) (fun c => ?_)
    · have H := H.1 c
      refine a_aload_n (pc := 18) dX10_take_18 rfl ?_
      refine a_callV (pc := 19) (kc := 0) (ks := 0) (kc' := 0) (ks' := 0) (st := []) [] dX10_take_19 ml_X10_406 (go_89) rfl (Nat.le_of_ble_eq_true rfl) (Nat.le_of_ble_eq_true rfl) (z_post H (fun r G1 h5 q => ?_))
      obtain ⟨rfl, rfl, H⟩ := q
      show zAt E (d + 1) 0 0 m_X10_take 22 [vo 89, vi x1, vn, vn, vn, vn] [] g0 h5 (zPi Q)
      refine a_aload_n (pc := 22) dX10_take_22 rfl ?_
      refine a_getF (pc := 23) dX10_take_23 fl_X10_81 (go_89) (gf_89_42) ?_
      refine a_iload_n (pc := 26) dX10_take_26 rfl ?_
      refine a_aload_n (pc := 27) dX10_take_27 rfl ?_
      refine a_getI (pc := 28) dX10_take_28 fl_X10_388 (go_89) ?_
      obtain ⟨hb6, H⟩ := H
      refine a_iastore (pc := 31) dX10_take_31 (ga_112) hb6 ?_
      have H := H _ rfl
      generalize stI h5 112 x1.toNat (hI h5 89 54) = h7 at H ⊢
      refine a_iconst (pc := 32) dX10_take_32 (by decide) ?_
      refine a_istore_n (pc := 33) (ls' := [vo 89, vi x1, vi 1, vn, vn, vn]) dX10_take_33 rfl rfl ?_
      refine a_iconst (pc := 34) dX10_take_34 (by decide) ?_
      refine a_istore_n (pc := 35) (ls' := [vo 89, vi x1, vi 1, vi 1, vn, vn]) dX10_take_35 rfl rfl ?_
      exact z_forget (ls' := [vo 89, vn, vi 1, vi 1, vn, vn]) ⟨.inr rfl, .inl rfl, .inr rfl, .inr rfl, .inr rfl, .inr rfl, trivial⟩ H
    · have H := H.2 c
      refine a_iconst (pc := 16) dX10_take_16 (by decide) ?_
      exact a_ireturn (pc := 17) dX10_take_17 trivial ⟨_, rfl, rfl, H⟩
set_option maxRecDepth 20000 in
theorem r_X10_take_36 {E : zE} {d : Nat} {h : zS} {Q : Int → zS → Prop} {x2 : Int} {x3 : Int}  (H : ((x3 = 0 → (zCv E d m_X10_takeBack [vo 89] h (fun h1 => Q x2 h1))) ∧ (x3 ≠ 0 → (zWi E (d + 1) m_X10_take 45 [vo 89, vn, vi x2, vi 0, vi 0, vn] h Q)))) : zWi E (d + 1) m_X10_take 36 [vo 89, vn, vi x2, vi x3, vn, vn] h Q := by
  refine a_iload_n (pc := 36) dX10_take_36 rfl ?_
  refine a_if_eq (pc := 37) (tgt := 160) dX10_take_37 (by decide) (fun c => ?_) (fun c => ?_)
  · have H := H.1 c
    refine a_aload_n (pc := 160) dX10_take_160 rfl ?_
    refine a_callV (pc := 161) (kc := 0) (ks := 0) (kc' := 0) (ks' := 0) (st := []) [] dX10_take_161 ml_X10_409 (go_89) rfl (Nat.le_of_ble_eq_true rfl) (Nat.le_of_ble_eq_true rfl) (z_post H (fun r G1 h1 q => ?_))
    obtain ⟨rfl, rfl, H⟩ := q
    show zAt E (d + 1) 0 0 m_X10_take 164 [vo 89, vn, vi x2, vi x3, vn, vn] [] g0 h1 (zPi Q)
    refine a_iload_n (pc := 164) dX10_take_164 rfl ?_
    exact a_ireturn (pc := 165) dX10_take_165 trivial ⟨_, rfl, rfl, H⟩
  · have H := H.2 c
    refine a_iconst (pc := 40) dX10_take_40 (by decide) ?_
    refine a_istore_n (pc := 41) (ls' := [vo 89, vn, vi x2, vi 0, vn, vn]) dX10_take_41 rfl rfl ?_
    refine a_iconst (pc := 42) dX10_take_42 (by decide) ?_
    refine a_istore (pc := 43) (ls' := [vo 89, vn, vi x2, vi 0, vi 0, vn]) dX10_take_43 rfl rfl ?_
    exact H
set_option maxRecDepth 20000 in
theorem r_X10_take_45 {E : zE} {d : Nat} {h : zS} {Q : Int → zS → Prop} {x2 : Int} {x3 : Int} {x4 : Int}  (H : (((hI h 89 29) ≤ x4 → (zWi E (d + 1) m_X10_take 36 [vo 89, vn, vi x2, vi x3, vn, vn] h Q)) ∧ (x4 < (hI h 89 29) → ((0 ≤ x4 ∧ x4 < 12) ∧ (((hI h 112 x4.toNat) ≠ (hI h 89 54) → (zWi E (d + 1) m_X10_take 45 [vo 89, vn, vi x2, vi x3, vi (w32 (x4 + 1)), vn] h Q)) ∧ ((hI h 112 x4.toNat) = (hI h 89 54) → ((0 ≤ (hI h 115 x4.toNat) → (zWi E (d + 1) m_X10_take 45 [vo 89, vn, vi x2, vi x3, vi (w32 (x4 + 1)), vn] h Q)) ∧ ((hI h 115 x4.toNat) < 0 → (zCi E d m_X10_holdOf [vo 89, vi x4] h (fun y3 h2 => ((y3 ≤ 0 → (zWi E (d + 1) m_X10_take 93 [vo 89, vn, vi x2, vi x3, vi x4, vi 0] h2 Q)) ∧ (0 < y3 → (zWi E (d + 1) m_X10_take 45 [vo 89, vn, vi x2, vi x3, vi (w32 (x4 + 1)), vn] h2 Q))))))))))))) : zWi E (d + 1) m_X10_take 45 [vo 89, vn, vi x2, vi x3, vi x4, vn] h Q := by
  refine a_iload (pc := 45) dX10_take_45 rfl ?_
  refine a_aload_n (pc := 47) dX10_take_47 rfl ?_
  refine a_getI (pc := 48) dX10_take_48 fl_X10_289 (go_89) ?_
  refine a_icmp_ge (pc := 51) (tgt := 157) dX10_take_51 (by decide) (fun c => ?_) (fun c => ?_)
  · have H := H.1 c
    refine a_goto (pc := 157) (tgt := 36) dX10_take_157 (by decide) ?_
    exact z_forget (ls' := [vo 89, vn, vi x2, vi x3, vn, vn]) ⟨.inr rfl, .inr rfl, .inr rfl, .inr rfl, .inl rfl, .inr rfl, trivial⟩ H
  · have H := H.2 c
    refine a_aload_n (pc := 54) dX10_take_54 rfl ?_
    refine a_getF (pc := 55) dX10_take_55 fl_X10_81 (go_89) (gf_89_42) ?_
    refine a_iload (pc := 58) dX10_take_58 rfl ?_
    obtain ⟨hb1, H⟩ := H
    refine a_iaload (pc := 60) dX10_take_60 (ga_112) hb1 ?_
    refine a_aload_n (pc := 61) dX10_take_61 rfl ?_
    refine a_getI (pc := 62) dX10_take_62 fl_X10_388 (go_89) ?_
    refine a_icmp_ne (pc := 65) (tgt := 151) dX10_take_65 (by decide) (fun c => ?_) (fun c => ?_)
    · have H := H.1 c
      refine a_iinc (pc := 151) (ls' := [vo 89, vn, vi x2, vi x3, vi (w32 (x4 + 1)), vn]) dX10_take_151 rfl rfl rfl ?_
      refine a_goto (pc := 154) (tgt := 45) dX10_take_154 (by decide) ?_
      exact H
    · have H := H.2 c
      refine a_aload_n (pc := 68) dX10_take_68 rfl ?_
      refine a_getF (pc := 69) dX10_take_69 fl_X10_90 (go_89) (gf_89_45) ?_
      refine a_iload (pc := 72) dX10_take_72 rfl ?_
      refine a_iaload (pc := 74) dX10_take_74 (ga_115) hb1 ?_
      refine a_if_ge (pc := 75) (tgt := 151) dX10_take_75 (by decide) (fun c => ?_) (fun c => ?_)
      · have H := H.1 c
        refine a_iinc (pc := 151) (ls' := [vo 89, vn, vi x2, vi x3, vi (w32 (x4 + 1)), vn]) dX10_take_151 rfl rfl rfl ?_
        refine a_goto (pc := 154) (tgt := 45) dX10_take_154 (by decide) ?_
        exact H
      · have H := H.2 c
        refine a_aload_n (pc := 78) dX10_take_78 rfl ?_
        refine a_iload (pc := 79) dX10_take_79 rfl ?_
        refine a_callV (pc := 81) (kc := 0) (ks := 0) (kc' := 0) (ks' := 0) (st := []) [vi x4] dX10_take_81 ml_X10_370 (go_89) rfl (Nat.le_of_ble_eq_true rfl) (Nat.le_of_ble_eq_true rfl) (z_post H (fun r G1 h2 q => ?_))
        obtain ⟨y3, rfl, rfl, H⟩ := q
        show zAt E (d + 1) 0 0 m_X10_take 84 [vo 89, vn, vi x2, vi x3, vi x4, vn] [vi y3] g0 h2 (zPi Q)
        refine a_if_le (pc := 84) (tgt := 90) dX10_take_84 (by decide) (fun c => ?_) (fun c => ?_)
        · have H := H.1 c
          refine a_iconst (pc := 90) dX10_take_90 (by decide) ?_
          refine a_istore (pc := 91) (ls' := [vo 89, vn, vi x2, vi x3, vi x4, vi 0]) dX10_take_91 rfl rfl ?_
          exact H
        · have H := H.2 c
          refine a_goto (pc := 87) (tgt := 151) dX10_take_87 (by decide) ?_
          refine a_iinc (pc := 151) (ls' := [vo 89, vn, vi x2, vi x3, vi (w32 (x4 + 1)), vn]) dX10_take_151 rfl rfl rfl ?_
          refine a_goto (pc := 154) (tgt := 45) dX10_take_154 (by decide) ?_
          exact H
set_option maxRecDepth 20000 in
theorem r_X10_take_93 {E : zE} {d : Nat} {h : zS} {Q : Int → zS → Prop} {x2 : Int} {x3 : Int} {x4 : Int} {x5 : Int}  (H : (((hI h 89 29) ≤ x5 → (zWi E (d + 1) m_X10_take 45 [vo 89, vn, vi x2, vi x3, vi (w32 (x4 + 1)), vn] h Q)) ∧ (x5 < (hI h 89 29) → ((0 ≤ x4 ∧ x4 < 12) ∧ (((z_and (z_shr (hI h 114 x4.toNat) x5) 1) = 0 → (zWi E (d + 1) m_X10_take 93 [vo 89, vn, vi x2, vi x3, vi x4, vi (w32 (x5 + 1))] h Q)) ∧ ((z_and (z_shr (hI h 114 x4.toNat) x5) 1) ≠ 0 → (zCi E d m_X10_isFree [vo 89, vi x5] h (fun y3 h2 => ((y3 ≠ 0 → ((0 ≤ x5 ∧ x5 < 12) ∧ ∀ h5, h5 = stI h2 112 x5.toNat (hI h2 89 54) → zWi E (d + 1) m_X10_take 93 [vo 89, vn, vi (w32 (x2 + 1)), vi 1, vi x4, vi (w32 (x5 + 1))] h5 Q)) ∧ (y3 = 0 → (zWi E (d + 1) m_X10_take 93 [vo 89, vn, vi x2, vi x3, vi x4, vi (w32 (x5 + 1))] h2 Q))))))))))) : zWi E (d + 1) m_X10_take 93 [vo 89, vn, vi x2, vi x3, vi x4, vi x5] h Q := by
  refine a_iload (pc := 93) dX10_take_93 rfl ?_
  refine a_aload_n (pc := 95) dX10_take_95 rfl ?_
  refine a_getI (pc := 96) dX10_take_96 fl_X10_289 (go_89) ?_
  refine a_icmp_ge (pc := 99) (tgt := 151) dX10_take_99 (by decide) (fun c => ?_) (fun c => ?_)
  · have H := H.1 c
    refine a_iinc (pc := 151) (ls' := [vo 89, vn, vi x2, vi x3, vi (w32 (x4 + 1)), vi x5]) dX10_take_151 rfl rfl rfl ?_
    refine a_goto (pc := 154) (tgt := 45) dX10_take_154 (by decide) ?_
    exact z_forget (ls' := [vo 89, vn, vi x2, vi x3, vi (w32 (x4 + 1)), vn]) ⟨.inr rfl, .inr rfl, .inr rfl, .inr rfl, .inr rfl, .inl rfl, trivial⟩ H
  · have H := H.2 c
    refine a_aload_n (pc := 102) dX10_take_102 rfl ?_
    refine a_getF (pc := 103) dX10_take_103 fl_X10_87 (go_89) (gf_89_44) ?_
    refine a_iload (pc := 106) dX10_take_106 rfl ?_
    obtain ⟨hb1, H⟩ := H
    refine a_iaload (pc := 108) dX10_take_108 (ga_114) hb1 ?_
    refine a_iload (pc := 109) dX10_take_109 rfl ?_
    refine a_ishr (pc := 111) dX10_take_111 ?_
    refine a_iconst (pc := 112) dX10_take_112 (by decide) ?_
    refine a_iand (pc := 113) dX10_take_113 ?_
    refine a_if_eq (pc := 114) (tgt := 145) dX10_take_114 (by decide) (fun c => ?_) (fun c => ?_)
    · have H := H.1 c
      refine a_iinc (pc := 145) (ls' := [vo 89, vn, vi x2, vi x3, vi x4, vi (w32 (x5 + 1))]) dX10_take_145 rfl rfl rfl ?_
      refine a_goto (pc := 148) (tgt := 93) dX10_take_148 (by decide) ?_
      exact H
    · have H := H.2 c
      refine a_aload_n (pc := 117) dX10_take_117 rfl ?_
      refine a_iload (pc := 118) dX10_take_118 rfl ?_
      refine a_callV (pc := 120) (kc := 0) (ks := 0) (kc' := 0) (ks' := 0) (st := []) [vi x5] dX10_take_120 ml_X10_373 (go_89) rfl (Nat.le_of_ble_eq_true rfl) (Nat.le_of_ble_eq_true rfl) (z_post H (fun r G1 h2 q => ?_))
      obtain ⟨y3, rfl, rfl, H⟩ := q
      show zAt E (d + 1) 0 0 m_X10_take 123 [vo 89, vn, vi x2, vi x3, vi x4, vi x5] [vi y3] g0 h2 (zPi Q)
      refine a_if_ne (pc := 123) (tgt := 129) dX10_take_123 (by decide) (fun c => ?_) (fun c => ?_)
      · have H := H.1 c
        refine a_aload_n (pc := 129) dX10_take_129 rfl ?_
        refine a_getF (pc := 130) dX10_take_130 fl_X10_81 (go_89) (gf_89_42) ?_
        refine a_iload (pc := 133) dX10_take_133 rfl ?_
        refine a_aload_n (pc := 135) dX10_take_135 rfl ?_
        refine a_getI (pc := 136) dX10_take_136 fl_X10_388 (go_89) ?_
        obtain ⟨hb4, H⟩ := H
        refine a_iastore (pc := 139) dX10_take_139 (ga_112) hb4 ?_
        have H := H _ rfl
        generalize stI h2 112 x5.toNat (hI h2 89 54) = h5 at H ⊢
        refine a_iinc (pc := 140) (ls' := [vo 89, vn, vi (w32 (x2 + 1)), vi x3, vi x4, vi x5]) dX10_take_140 rfl rfl rfl ?_
        refine a_iconst (pc := 143) dX10_take_143 (by decide) ?_
        refine a_istore_n (pc := 144) (ls' := [vo 89, vn, vi (w32 (x2 + 1)), vi 1, vi x4, vi x5]) dX10_take_144 rfl rfl ?_
        refine a_iinc (pc := 145) (ls' := [vo 89, vn, vi (w32 (x2 + 1)), vi 1, vi x4, vi (w32 (x5 + 1))]) dX10_take_145 rfl rfl rfl ?_
        refine a_goto (pc := 148) (tgt := 93) dX10_take_148 (by decide) ?_
        exact H
      · have H := H.2 c
        refine a_goto (pc := 126) (tgt := 145) dX10_take_126 (by decide) ?_
        refine a_iinc (pc := 145) (ls' := [vo 89, vn, vi x2, vi x3, vi x4, vi (w32 (x5 + 1))]) dX10_take_145 rfl rfl rfl ?_
        refine a_goto (pc := 148) (tgt := 93) dX10_take_148 (by decide) ?_
        exact H
set_option maxRecDepth 20000 in
theorem v_X10_isPerson {E : zE} {d : Nat} {h : zS} {Q : Int → zS → Prop} {x1 : Int}  (H : zCi E d m_X10_isOne [vo 89, vi x1] h (fun y2 h1 => ((y2 = 0 → (Q 0 h1)) ∧ (y2 ≠ 0 → ((0 ≤ x1 ∧ x1 < 12) ∧ (((hI h1 98 x1.toNat) = 3 → (Q 0 h1)) ∧ ((hI h1 98 x1.toNat) ≠ 3 → (zCi E d m_X10_isThere [vo 89, vi x1] h1 (fun y5 h4 => ((y5 = 0 → (Q 0 h4)) ∧ (y5 ≠ 0 → (Q 1 h4)))))))))))) : zCi E (d + 1) m_X10_isPerson [vo 89, vi x1] h Q := by
  show zAt E (d + 1) 0 0 m_X10_isPerson 0 [vo 89, vi x1] [] g0 h (zPi Q)
  refine a_aload_n (pc := 0) dX10_isPerson_0 rfl ?_
  refine a_iload_n (pc := 1) dX10_isPerson_1 rfl ?_
  refine a_callV (pc := 2) (kc := 0) (ks := 0) (kc' := 0) (ks' := 0) (st := []) [vi x1] dX10_isPerson_2 ml_X10_311 (go_89) rfl (Nat.le_of_ble_eq_true rfl) (Nat.le_of_ble_eq_true rfl) (z_post H (fun r G1 h1 q => ?_))
  obtain ⟨y2, rfl, rfl, H⟩ := q
  show zAt E (d + 1) 0 0 m_X10_isPerson 5 [vo 89, vi x1] [vi y2] g0 h1 (zPi Q)
  refine a_if_eq (pc := 5) (tgt := 30) dX10_isPerson_5 (by decide) (fun c => ?_) (fun c => ?_)
  · have H := H.1 c
    refine a_iconst (pc := 30) dX10_isPerson_30 (by decide) ?_
    exact a_ireturn (pc := 31) dX10_isPerson_31 (.inl rfl) ⟨_, rfl, rfl, H⟩
  · have H := H.2 c
    refine a_aload_n (pc := 8) dX10_isPerson_8 rfl ?_
    refine a_getF (pc := 9) dX10_isPerson_9 fl_X10_39 (go_89) (gf_89_17) ?_
    refine a_iload_n (pc := 12) dX10_isPerson_12 rfl ?_
    obtain ⟨hb3, H⟩ := H
    refine a_iaload (pc := 13) dX10_isPerson_13 (ga_98) hb3 ?_
    refine a_iconst (pc := 14) dX10_isPerson_14 (by decide) ?_
    refine a_icmp_eq (pc := 15) (tgt := 30) dX10_isPerson_15 (by decide) (fun c => ?_) (fun c => ?_)
    · have H := H.1 c
      refine a_iconst (pc := 30) dX10_isPerson_30 (by decide) ?_
      exact a_ireturn (pc := 31) dX10_isPerson_31 (.inl rfl) ⟨_, rfl, rfl, H⟩
    · have H := H.2 c
      refine a_aload_n (pc := 18) dX10_isPerson_18 rfl ?_
      refine a_iload_n (pc := 19) dX10_isPerson_19 rfl ?_
      refine a_callV (pc := 20) (kc := 0) (ks := 0) (kc' := 0) (ks' := 0) (st := []) [vi x1] dX10_isPerson_20 ml_X10_315 (go_89) rfl (Nat.le_of_ble_eq_true rfl) (Nat.le_of_ble_eq_true rfl) (z_post H (fun r G1 h4 q => ?_))
      obtain ⟨y5, rfl, rfl, H⟩ := q
      show zAt E (d + 1) 0 0 m_X10_isPerson 23 [vo 89, vi x1] [vi y5] g0 h4 (zPi Q)
      refine a_if_eq (pc := 23) (tgt := 30) dX10_isPerson_23 (by decide) (fun c => ?_) (fun c => ?_)
      · have H := H.1 c
        refine a_iconst (pc := 30) dX10_isPerson_30 (by decide) ?_
        exact a_ireturn (pc := 31) dX10_isPerson_31 (.inl rfl) ⟨_, rfl, rfl, H⟩
      · have H := H.2 c
        refine a_iconst (pc := 26) dX10_isPerson_26 (by decide) ?_
        refine a_goto (pc := 27) (tgt := 31) dX10_isPerson_27 (by decide) ?_
        exact a_ireturn (pc := 31) dX10_isPerson_31 (.inr rfl) ⟨_, rfl, rfl, H⟩
set_option maxRecDepth 20000 in
theorem v_X10_canMeetBy {E : zE} {d : Nat} {h : zS} {Q : Int → zS → Prop} {x1 : Int} {x2 : Int} {x3 : Int}  (H : ((x3 = x1 → (Q 0 h)) ∧ (x3 ≠ x1 → ((x3 = x2 → (Q 0 h)) ∧ (x3 ≠ x2 → (zCi E d m_X10_isPerson [vo 89, vi x3] h (fun y2 h1 => ((y2 = 0 → (Q 0 h1)) ∧ (y2 ≠ 0 → ((0 ≤ x3 ∧ x3 < 12) ∧ (((z_and (z_shr (hI h1 117 x3.toNat) x1) 1) ≠ 1 → (Q 0 h1)) ∧ ((z_and (z_shr (hI h1 117 x3.toNat) x1) 1) = 1 → (((z_and (z_shr (hI h1 117 x3.toNat) x2) 1) ≠ 1 → (Q 0 h1)) ∧ ((z_and (z_shr (hI h1 117 x3.toNat) x2) 1) = 1 → (Q 1 h1))))))))))))))) : zCi E (d + 1) m_X10_canMeetBy [vo 89, vi x1, vi x2, vi x3] h Q := by
  show zAt E (d + 1) 0 0 m_X10_canMeetBy 0 [vo 89, vi x1, vi x2, vi x3] [] g0 h (zPi Q)
  refine a_iload_n (pc := 0) dX10_canMeetBy_0 rfl ?_
  refine a_iload_n (pc := 1) dX10_canMeetBy_1 rfl ?_
  refine a_icmp_eq (pc := 2) (tgt := 50) dX10_canMeetBy_2 (by decide) (fun c => ?_) (fun c => ?_)
  · have H := H.1 c
    refine a_iconst (pc := 50) dX10_canMeetBy_50 (by decide) ?_
    exact a_ireturn (pc := 51) dX10_canMeetBy_51 (.inl rfl) ⟨_, rfl, rfl, H⟩
  · have H := H.2 c
    refine a_iload_n (pc := 5) dX10_canMeetBy_5 rfl ?_
    refine a_iload_n (pc := 6) dX10_canMeetBy_6 rfl ?_
    refine a_icmp_eq (pc := 7) (tgt := 50) dX10_canMeetBy_7 (by decide) (fun c => ?_) (fun c => ?_)
    · have H := H.1 c
      refine a_iconst (pc := 50) dX10_canMeetBy_50 (by decide) ?_
      exact a_ireturn (pc := 51) dX10_canMeetBy_51 (.inl rfl) ⟨_, rfl, rfl, H⟩
    · have H := H.2 c
      refine a_aload_n (pc := 10) dX10_canMeetBy_10 rfl ?_
      refine a_iload_n (pc := 11) dX10_canMeetBy_11 rfl ?_
      refine a_callV (pc := 12) (kc := 0) (ks := 0) (kc' := 0) (ks' := 0) (st := []) [vi x3] dX10_canMeetBy_12 ml_X10_415 (go_89) rfl (Nat.le_of_ble_eq_true rfl) (Nat.le_of_ble_eq_true rfl) (z_post H (fun r G1 h1 q => ?_))
      obtain ⟨y2, rfl, rfl, H⟩ := q
      show zAt E (d + 1) 0 0 m_X10_canMeetBy 15 [vo 89, vi x1, vi x2, vi x3] [vi y2] g0 h1 (zPi Q)
      refine a_if_eq (pc := 15) (tgt := 50) dX10_canMeetBy_15 (by decide) (fun c => ?_) (fun c => ?_)
      · have H := H.1 c
        refine a_iconst (pc := 50) dX10_canMeetBy_50 (by decide) ?_
        exact a_ireturn (pc := 51) dX10_canMeetBy_51 (.inl rfl) ⟨_, rfl, rfl, H⟩
      · have H := H.2 c
        refine a_aload_n (pc := 18) dX10_canMeetBy_18 rfl ?_
        refine a_getF (pc := 19) dX10_canMeetBy_19 fl_X10_96 (go_89) (gf_89_47) ?_
        refine a_iload_n (pc := 22) dX10_canMeetBy_22 rfl ?_
        obtain ⟨hb3, H⟩ := H
        refine a_iaload (pc := 23) dX10_canMeetBy_23 (ga_117) hb3 ?_
        refine a_iload_n (pc := 24) dX10_canMeetBy_24 rfl ?_
        refine a_ishr (pc := 25) dX10_canMeetBy_25 ?_
        refine a_iconst (pc := 26) dX10_canMeetBy_26 (by decide) ?_
        refine a_iand (pc := 27) dX10_canMeetBy_27 ?_
        refine a_iconst (pc := 28) dX10_canMeetBy_28 (by decide) ?_
        refine a_icmp_ne (pc := 29) (tgt := 50) dX10_canMeetBy_29 (by decide) (fun c => ?_) (fun c => ?_)
        · have H := H.1 c
          refine a_iconst (pc := 50) dX10_canMeetBy_50 (by decide) ?_
          exact a_ireturn (pc := 51) dX10_canMeetBy_51 (.inl rfl) ⟨_, rfl, rfl, H⟩
        · have H := H.2 c
          refine a_aload_n (pc := 32) dX10_canMeetBy_32 rfl ?_
          refine a_getF (pc := 33) dX10_canMeetBy_33 fl_X10_96 (go_89) (gf_89_47) ?_
          refine a_iload_n (pc := 36) dX10_canMeetBy_36 rfl ?_
          refine a_iaload (pc := 37) dX10_canMeetBy_37 (ga_117) hb3 ?_
          refine a_iload_n (pc := 38) dX10_canMeetBy_38 rfl ?_
          refine a_ishr (pc := 39) dX10_canMeetBy_39 ?_
          refine a_iconst (pc := 40) dX10_canMeetBy_40 (by decide) ?_
          refine a_iand (pc := 41) dX10_canMeetBy_41 ?_
          refine a_iconst (pc := 42) dX10_canMeetBy_42 (by decide) ?_
          refine a_icmp_ne (pc := 43) (tgt := 50) dX10_canMeetBy_43 (by decide) (fun c => ?_) (fun c => ?_)
          · have H := H.1 c
            refine a_iconst (pc := 50) dX10_canMeetBy_50 (by decide) ?_
            exact a_ireturn (pc := 51) dX10_canMeetBy_51 (.inl rfl) ⟨_, rfl, rfl, H⟩
          · have H := H.2 c
            refine a_iconst (pc := 46) dX10_canMeetBy_46 (by decide) ?_
            refine a_goto (pc := 47) (tgt := 51) dX10_canMeetBy_47 (by decide) ?_
            exact a_ireturn (pc := 51) dX10_canMeetBy_51 (.inr rfl) ⟨_, rfl, rfl, H⟩
set_option maxRecDepth 20000 in
theorem v_X10_canMeet {E : zE} {d : Nat} {h : zS} {Q : Int → zS → Prop} {x1 : Int} {x2 : Int}  (H : zWi E (d + 1) m_X10_canMeet 5 [vo 89, vi x1, vi x2, vi 0, vi 0] h Q) : zCi E (d + 1) m_X10_canMeet [vo 89, vi x1, vi x2] h Q := by
  show zAt E (d + 1) 0 0 m_X10_canMeet 0 [vo 89, vi x1, vi x2, vn, vn] [] g0 h (zPi Q)
  refine a_iconst (pc := 0) dX10_canMeet_0 (by decide) ?_
  refine a_istore_n (pc := 1) (ls' := [vo 89, vi x1, vi x2, vi 0, vn]) dX10_canMeet_1 rfl rfl ?_
  refine a_iconst (pc := 2) dX10_canMeet_2 (by decide) ?_
  refine a_istore (pc := 3) (ls' := [vo 89, vi x1, vi x2, vi 0, vi 0]) dX10_canMeet_3 rfl rfl ?_
  exact H
set_option maxRecDepth 20000 in
theorem r_X10_canMeet_5 {E : zE} {d : Nat} {h : zS} {Q : Int → zS → Prop} {x1 : Int} {x2 : Int} {x3 : Int} {x4 : Int}  (H : (((hI h 89 29) ≤ x4 → ((x3 = 0 → (Q 0 h)) ∧ (x3 ≠ 0 → (zCi E d m_X10_isPerson [vo 89, vi x1] h (fun y2 h1 => ((y2 = 0 → (Q 0 h1)) ∧ (y2 ≠ 0 → (zCi E d m_X10_isPerson [vo 89, vi x2] h1 (fun y4 h3 => ((y4 = 0 → (Q 0 h3)) ∧ (y4 ≠ 0 → (Q 1 h3)))))))))))) ∧ (x4 < (hI h 89 29) → ((x3 ≠ 0 → (zWi E (d + 1) m_X10_canMeet 5 [vo 89, vi x1, vi x2, vi 1, vi (w32 (x4 + 1))] h Q)) ∧ (x3 = 0 → (zCi E d m_X10_canMeetBy [vo 89, vi x1, vi x2, vi x4] h (fun y6 h5 => (∀ y8 : Int, y8 = (if y6 = 0 then 0 else 1) → zWi E (d + 1) m_X10_canMeet 5 [vo 89, vi x1, vi x2, vi y8, vi (w32 (x4 + 1))] h5 Q)))))))) : zWi E (d + 1) m_X10_canMeet 5 [vo 89, vi x1, vi x2, vi x3, vi x4] h Q := by
  refine a_iload (pc := 5) dX10_canMeet_5 rfl ?_
  refine a_aload_n (pc := 7) dX10_canMeet_7 rfl ?_
  refine a_getI (pc := 8) dX10_canMeet_8 fl_X10_289 (go_89) ?_
  refine a_icmp_ge (pc := 11) (tgt := 41) dX10_canMeet_11 (by decide) (fun c => ?_) (fun c => ?_)
  · have H := H.1 c
    refine a_iload_n (pc := 41) dX10_canMeet_41 rfl ?_
    refine a_if_eq (pc := 42) (tgt := 65) dX10_canMeet_42 (by decide) (fun c => ?_) (fun c => ?_)
    · have H := H.1 c
      refine a_iconst (pc := 65) dX10_canMeet_65 (by decide) ?_
      exact a_ireturn (pc := 66) dX10_canMeet_66 (.inl rfl) ⟨_, rfl, rfl, H⟩
    · have H := H.2 c
      refine a_aload_n (pc := 45) dX10_canMeet_45 rfl ?_
      refine a_iload_n (pc := 46) dX10_canMeet_46 rfl ?_
      refine a_callV (pc := 47) (kc := 0) (ks := 0) (kc' := 0) (ks' := 0) (st := []) [vi x1] dX10_canMeet_47 ml_X10_415 (go_89) rfl (Nat.le_of_ble_eq_true rfl) (Nat.le_of_ble_eq_true rfl) (z_post H (fun r G1 h1 q => ?_))
      obtain ⟨y2, rfl, rfl, H⟩ := q
      show zAt E (d + 1) 0 0 m_X10_canMeet 50 [vo 89, vi x1, vi x2, vi x3, vi x4] [vi y2] g0 h1 (zPi Q)
      refine a_if_eq (pc := 50) (tgt := 65) dX10_canMeet_50 (by decide) (fun c => ?_) (fun c => ?_)
      · have H := H.1 c
        refine a_iconst (pc := 65) dX10_canMeet_65 (by decide) ?_
        exact a_ireturn (pc := 66) dX10_canMeet_66 (.inl rfl) ⟨_, rfl, rfl, H⟩
      · have H := H.2 c
        refine a_aload_n (pc := 53) dX10_canMeet_53 rfl ?_
        refine a_iload_n (pc := 54) dX10_canMeet_54 rfl ?_
        refine a_callV (pc := 55) (kc := 0) (ks := 0) (kc' := 0) (ks' := 0) (st := []) [vi x2] dX10_canMeet_55 ml_X10_415 (go_89) rfl (Nat.le_of_ble_eq_true rfl) (Nat.le_of_ble_eq_true rfl) (z_post H (fun r G1 h3 q => ?_))
        obtain ⟨y4, rfl, rfl, H⟩ := q
        show zAt E (d + 1) 0 0 m_X10_canMeet 58 [vo 89, vi x1, vi x2, vi x3, vi x4] [vi y4] g0 h3 (zPi Q)
        refine a_if_eq (pc := 58) (tgt := 65) dX10_canMeet_58 (by decide) (fun c => ?_) (fun c => ?_)
        · have H := H.1 c
          refine a_iconst (pc := 65) dX10_canMeet_65 (by decide) ?_
          exact a_ireturn (pc := 66) dX10_canMeet_66 (.inl rfl) ⟨_, rfl, rfl, H⟩
        · have H := H.2 c
          refine a_iconst (pc := 61) dX10_canMeet_61 (by decide) ?_
          refine a_goto (pc := 62) (tgt := 66) dX10_canMeet_62 (by decide) ?_
          exact a_ireturn (pc := 66) dX10_canMeet_66 (.inr rfl) ⟨_, rfl, rfl, H⟩
  · have H := H.2 c
    refine a_iload_n (pc := 14) dX10_canMeet_14 rfl ?_
    refine a_if_ne (pc := 15) (tgt := 29) dX10_canMeet_15 (by decide) (fun c => ?_) (fun c => ?_)
    · have H := H.1 c
      refine a_iconst (pc := 29) dX10_canMeet_29 (by decide) ?_
      refine a_goto (pc := 30) (tgt := 34) dX10_canMeet_30 (by decide) ?_
      refine a_istore_n (pc := 34) (ls' := [vo 89, vi x1, vi x2, vi 1, vi x4]) dX10_canMeet_34 rfl rfl ?_
      refine a_iinc (pc := 35) (ls' := [vo 89, vi x1, vi x2, vi 1, vi (w32 (x4 + 1))]) dX10_canMeet_35 rfl rfl rfl ?_
      refine a_goto (pc := 38) (tgt := 5) dX10_canMeet_38 (by decide) ?_
      exact H
    · have H := H.2 c
      refine a_aload_n (pc := 18) dX10_canMeet_18 rfl ?_
      refine a_iload_n (pc := 19) dX10_canMeet_19 rfl ?_
      refine a_iload_n (pc := 20) dX10_canMeet_20 rfl ?_
      refine a_iload (pc := 21) dX10_canMeet_21 rfl ?_
      refine a_callV (pc := 23) (kc := 0) (ks := 0) (kc' := 0) (ks' := 0) (st := []) [vi x1, vi x2, vi x4] dX10_canMeet_23 ml_X10_418 (go_89) rfl (Nat.le_of_ble_eq_true rfl) (Nat.le_of_ble_eq_true rfl) (z_post H (fun r G1 h5 q => ?_))
      obtain ⟨y6, rfl, rfl, H⟩ := q
      show zAt E (d + 1) 0 0 m_X10_canMeet 26 [vo 89, vi x1, vi x2, vi x3, vi x4] [vi y6] g0 h5 (zPi Q)
      have J : zAt E (d + 1) 0 0 m_X10_canMeet 34 [vo 89, vi x1, vi x2, vi x3, vi x4] [vi (if y6 = 0 then 0 else 1)] g0 h5 (zPi Q) := by
        have H := H _ rfl
        generalize ((if y6 = 0 then 0 else 1) : Int) = y8 at H ⊢
        refine a_istore_n (pc := 34) (ls' := [vo 89, vi x1, vi x2, vi y8, vi x4]) dX10_canMeet_34 rfl rfl ?_
        refine a_iinc (pc := 35) (ls' := [vo 89, vi x1, vi x2, vi y8, vi (w32 (x4 + 1))]) dX10_canMeet_35 rfl rfl rfl ?_
        refine a_goto (pc := 38) (tgt := 5) dX10_canMeet_38 (by decide) ?_
        exact H
      refine a_if_eq (pc := 26) (tgt := 33) dX10_canMeet_26 (by decide) (fun c7 => ?_) (fun c7 => ?_)
      · skip
        refine a_iconst (pc := 33) dX10_canMeet_33 (by decide) ?_
        exact (z_mergeT c7 J)
      · skip
        refine a_iconst (pc := 29) dX10_canMeet_29 (by decide) ?_
        refine a_goto (pc := 30) (tgt := 34) dX10_canMeet_30 (by decide) ?_
        exact (z_mergeF c7 J)
set_option maxRecDepth 20000 in
theorem v_X10_meet {E : zE} {d : Nat} {h : zS} {Q : Int → zS → Prop} {x1 : Int} {x2 : Int} {x3 : Int}  (H : zCi E d m_X10_isPerson [vo 89, vi x1] h (fun y2 h1 => ((y2 = 0 → (Q 0 h1)) ∧ (y2 ≠ 0 → (zCi E d m_X10_isPerson [vo 89, vi x2] h1 (fun y4 h3 => ((y4 = 0 → (Q 0 h3)) ∧ (y4 ≠ 0 → ((x1 = x2 → (Q 0 h3)) ∧ (x1 ≠ x2 → (zCi E d m_X10_canMeetBy [vo 89, vi x1, vi x2, vi x3] h3 (fun y6 h5 => ((y6 = 0 → (Q 0 h5)) ∧ (y6 ≠ 0 → ((0 ≤ w32 ((w32 (12 * x1)) + x2) ∧ w32 ((w32 (12 * x1)) + x2) < 144) ∧ (((hI h5 118 (w32 ((w32 (12 * x1)) + x2)).toNat) ≤ 0 → (∀ h8, h8 = stI h5 118 (w32 ((w32 (12 * x1)) + x2)).toNat 1 → (0 ≤ x1 ∧ x1 < 12) ∧ ∀ h10, h10 = stI h8 117 x1.toNat (z_or (hI h8 117 x1.toNat) (z_shl 1 x2)) → (0 ≤ x2 ∧ x2 < 12) ∧ ∀ h12, h12 = stI h10 117 x2.toNat (z_or (hI h10 117 x2.toNat) (z_shl 1 x1)) → Q 1 h12)) ∧ (0 < (hI h5 118 (w32 ((w32 (12 * x1)) + x2)).toNat) → (Q 0 h5)))))))))))))))))) : zCi E (d + 1) m_X10_meet [vo 89, vi x1, vi x2, vi x3] h Q := by
  show zAt E (d + 1) 0 0 m_X10_meet 0 [vo 89, vi x1, vi x2, vi x3] [] g0 h (zPi Q)
  refine a_aload_n (pc := 0) dX10_meet_0 rfl ?_
  refine a_iload_n (pc := 1) dX10_meet_1 rfl ?_
  refine a_callV (pc := 2) (kc := 0) (ks := 0) (kc' := 0) (ks' := 0) (st := []) [vi x1] dX10_meet_2 ml_X10_415 (go_89) rfl (Nat.le_of_ble_eq_true rfl) (Nat.le_of_ble_eq_true rfl) (z_post H (fun r G1 h1 q => ?_))
  obtain ⟨y2, rfl, rfl, H⟩ := q
  show zAt E (d + 1) 0 0 m_X10_meet 5 [vo 89, vi x1, vi x2, vi x3] [vi y2] g0 h1 (zPi Q)
  refine a_if_eq (pc := 5) (tgt := 45) dX10_meet_5 (by decide) (fun c => ?_) (fun c => ?_)
  · have H := H.1 c
    refine a_iconst (pc := 45) dX10_meet_45 (by decide) ?_
    exact a_ireturn (pc := 46) dX10_meet_46 (.inl rfl) ⟨_, rfl, rfl, H⟩
  · have H := H.2 c
    refine a_aload_n (pc := 8) dX10_meet_8 rfl ?_
    refine a_iload_n (pc := 9) dX10_meet_9 rfl ?_
    refine a_callV (pc := 10) (kc := 0) (ks := 0) (kc' := 0) (ks' := 0) (st := []) [vi x2] dX10_meet_10 ml_X10_415 (go_89) rfl (Nat.le_of_ble_eq_true rfl) (Nat.le_of_ble_eq_true rfl) (z_post H (fun r G1 h3 q => ?_))
    obtain ⟨y4, rfl, rfl, H⟩ := q
    show zAt E (d + 1) 0 0 m_X10_meet 13 [vo 89, vi x1, vi x2, vi x3] [vi y4] g0 h3 (zPi Q)
    refine a_if_eq (pc := 13) (tgt := 45) dX10_meet_13 (by decide) (fun c => ?_) (fun c => ?_)
    · have H := H.1 c
      refine a_iconst (pc := 45) dX10_meet_45 (by decide) ?_
      exact a_ireturn (pc := 46) dX10_meet_46 (.inl rfl) ⟨_, rfl, rfl, H⟩
    · have H := H.2 c
      refine a_iload_n (pc := 16) dX10_meet_16 rfl ?_
      refine a_iload_n (pc := 17) dX10_meet_17 rfl ?_
      refine a_icmp_eq (pc := 18) (tgt := 45) dX10_meet_18 (by decide) (fun c => ?_) (fun c => ?_)
      · have H := H.1 c
        refine a_iconst (pc := 45) dX10_meet_45 (by decide) ?_
        exact a_ireturn (pc := 46) dX10_meet_46 (.inl rfl) ⟨_, rfl, rfl, H⟩
      · have H := H.2 c
        refine a_aload_n (pc := 21) dX10_meet_21 rfl ?_
        refine a_iload_n (pc := 22) dX10_meet_22 rfl ?_
        refine a_iload_n (pc := 23) dX10_meet_23 rfl ?_
        refine a_iload_n (pc := 24) dX10_meet_24 rfl ?_
        refine a_callV (pc := 25) (kc := 0) (ks := 0) (kc' := 0) (ks' := 0) (st := []) [vi x1, vi x2, vi x3] dX10_meet_25 ml_X10_418 (go_89) rfl (Nat.le_of_ble_eq_true rfl) (Nat.le_of_ble_eq_true rfl) (z_post H (fun r G1 h5 q => ?_))
        obtain ⟨y6, rfl, rfl, H⟩ := q
        show zAt E (d + 1) 0 0 m_X10_meet 28 [vo 89, vi x1, vi x2, vi x3] [vi y6] g0 h5 (zPi Q)
        refine a_if_eq (pc := 28) (tgt := 45) dX10_meet_28 (by decide) (fun c => ?_) (fun c => ?_)
        · have H := H.1 c
          refine a_iconst (pc := 45) dX10_meet_45 (by decide) ?_
          exact a_ireturn (pc := 46) dX10_meet_46 (.inl rfl) ⟨_, rfl, rfl, H⟩
        · have H := H.2 c
          refine a_aload_n (pc := 31) dX10_meet_31 rfl ?_
          refine a_getF (pc := 32) dX10_meet_32 fl_X10_99 (go_89) (gf_89_48) ?_
          refine a_bipush (pc := 35) dX10_meet_35 (by decide) ?_
          refine a_iload_n (pc := 37) dX10_meet_37 rfl ?_
          refine a_imul (pc := 38) dX10_meet_38 ?_
          refine a_iload_n (pc := 39) dX10_meet_39 rfl ?_
          refine a_iadd (pc := 40) dX10_meet_40 ?_
          obtain ⟨hb7, H⟩ := H
          refine a_iaload (pc := 41) dX10_meet_41 (ga_118) hb7 ?_
          refine a_if_le (pc := 42) (tgt := 47) dX10_meet_42 (by decide) (fun c => ?_) (fun c => ?_)
          · have H := H.1 c
            refine a_aload_n (pc := 47) dX10_meet_47 rfl ?_
            refine a_getF (pc := 48) dX10_meet_48 fl_X10_99 (go_89) (gf_89_48) ?_
            refine a_bipush (pc := 51) dX10_meet_51 (by decide) ?_
            refine a_iload_n (pc := 53) dX10_meet_53 rfl ?_
            refine a_imul (pc := 54) dX10_meet_54 ?_
            refine a_iload_n (pc := 55) dX10_meet_55 rfl ?_
            refine a_iadd (pc := 56) dX10_meet_56 ?_
            refine a_iconst (pc := 57) dX10_meet_57 (by decide) ?_
            refine a_iastore (pc := 58) dX10_meet_58 (ga_118) hb7 ?_
            have H := H _ rfl
            generalize stI h5 118 (w32 ((w32 (12 * x1)) + x2)).toNat 1 = h8 at H ⊢
            refine a_aload_n (pc := 59) dX10_meet_59 rfl ?_
            refine a_getF (pc := 60) dX10_meet_60 fl_X10_96 (go_89) (gf_89_47) ?_
            refine a_iload_n (pc := 63) dX10_meet_63 rfl ?_
            refine a_dup2 (pc := 64) dX10_meet_64 rfl rfl ?_
            obtain ⟨hb9, H⟩ := H
            refine a_iaload (pc := 65) dX10_meet_65 (ga_117) hb9 ?_
            refine a_iconst (pc := 66) dX10_meet_66 (by decide) ?_
            refine a_iload_n (pc := 67) dX10_meet_67 rfl ?_
            refine a_ishl (pc := 68) dX10_meet_68 ?_
            refine a_ior (pc := 69) dX10_meet_69 ?_
            refine a_iastore (pc := 70) dX10_meet_70 (ga_117) hb9 ?_
            have H := H _ rfl
            generalize stI h8 117 x1.toNat (z_or (hI h8 117 x1.toNat) (z_shl 1 x2)) = h10 at H ⊢
            refine a_aload_n (pc := 71) dX10_meet_71 rfl ?_
            refine a_getF (pc := 72) dX10_meet_72 fl_X10_96 (go_89) (gf_89_47) ?_
            refine a_iload_n (pc := 75) dX10_meet_75 rfl ?_
            refine a_dup2 (pc := 76) dX10_meet_76 rfl rfl ?_
            obtain ⟨hb11, H⟩ := H
            refine a_iaload (pc := 77) dX10_meet_77 (ga_117) hb11 ?_
            refine a_iconst (pc := 78) dX10_meet_78 (by decide) ?_
            refine a_iload_n (pc := 79) dX10_meet_79 rfl ?_
            refine a_ishl (pc := 80) dX10_meet_80 ?_
            refine a_ior (pc := 81) dX10_meet_81 ?_
            refine a_iastore (pc := 82) dX10_meet_82 (ga_117) hb11 ?_
            have H := H _ rfl
            generalize stI h10 117 x2.toNat (z_or (hI h10 117 x2.toNat) (z_shl 1 x1)) = h12 at H ⊢
            refine a_iconst (pc := 83) dX10_meet_83 (by decide) ?_
            exact a_ireturn (pc := 84) dX10_meet_84 (.inr rfl) ⟨_, rfl, rfl, H⟩
          · have H := H.2 c
            refine a_iconst (pc := 45) dX10_meet_45 (by decide) ?_
            exact a_ireturn (pc := 46) dX10_meet_46 (.inl rfl) ⟨_, rfl, rfl, H⟩
set_option maxRecDepth 20000 in
theorem v_X10_one {E : zE} {d : Nat} {h : zS} {Q : Int → zS → Prop} {x1 : Int} {x2 : Int}  (H : zCi E d m_X10_isOne [vo 89, vi x1] h (fun y2 h1 => ((y2 ≠ 0 → ((x2 = 0 → (zCi E d m_X10_isThere [vo 89, vi x1] h1 (fun y4 h3 => ((y4 = 0 → ((0 ≤ x1 ∧ x1 < 12) ∧ (((hI h3 115 x1.toNat) < 0 → (Q 2 h3)) ∧ (0 ≤ (hI h3 115 x1.toNat) → (Q 1 h3))))) ∧ (y4 ≠ 0 → (Q 0 h3)))))) ∧ (x2 = 1 → ((0 ≤ x1 ∧ x1 < 12) ∧ (((hI h1 115 x1.toNat) < 0 → (Q (hI h1 116 x1.toNat) h1)) ∧ (0 ≤ (hI h1 115 x1.toNat) → (Q (hI h1 115 x1.toNat) h1))))) ∧ (x2 = 2 → ((0 ≤ x1 ∧ x1 < 12) ∧ Q (hI h1 117 x1.toNat) h1)) ∧ (x2 < 0 ∨ 2 < x2 → (Q (-1) h1)))) ∧ (y2 = 0 → (Q (-1) h1))))) : zCi E (d + 1) m_X10_one [vo 89, vi x1, vi x2] h Q := by
  show zAt E (d + 1) 0 0 m_X10_one 0 [vo 89, vi x1, vi x2] [] g0 h (zPi Q)
  refine a_aload_n (pc := 0) dX10_one_0 rfl ?_
  refine a_iload_n (pc := 1) dX10_one_1 rfl ?_
  refine a_callV (pc := 2) (kc := 0) (ks := 0) (kc' := 0) (ks' := 0) (st := []) [vi x1] dX10_one_2 ml_X10_311 (go_89) rfl (Nat.le_of_ble_eq_true rfl) (Nat.le_of_ble_eq_true rfl) (z_post H (fun r G1 h1 q => ?_))
  obtain ⟨y2, rfl, rfl, H⟩ := q
  show zAt E (d + 1) 0 0 m_X10_one 5 [vo 89, vi x1, vi x2] [vi y2] g0 h1 (zPi Q)
  refine a_if_ne (pc := 5) (tgt := 10) dX10_one_5 (by decide) (fun c => ?_) (fun c => ?_)
  · have H := H.1 c
    refine a_iload_n (pc := 10) dX10_one_10 rfl ?_
    refine a_tsw (pc := 11) (tg := [36, 63, 88]) (td := 95) dX10_one_11 (by decide) (by decide) (by decide) ⟨(fun c => ?_), (fun c => ?_), (fun c => ?_), trivial⟩ (fun c => ?_)
    · have H := H.1 c
      refine a_aload_n (pc := 36) dX10_one_36 rfl ?_
      refine a_iload_n (pc := 37) dX10_one_37 rfl ?_
      refine a_callV (pc := 38) (kc := 0) (ks := 0) (kc' := 0) (ks' := 0) (st := []) [vi x1] dX10_one_38 ml_X10_315 (go_89) rfl (Nat.le_of_ble_eq_true rfl) (Nat.le_of_ble_eq_true rfl) (z_post H (fun r G1 h3 q => ?_))
      obtain ⟨y4, rfl, rfl, H⟩ := q
      show zAt E (d + 1) 0 0 m_X10_one 41 [vo 89, vi x1, vi x2] [vi y4] g0 h3 (zPi Q)
      refine a_if_eq (pc := 41) (tgt := 48) dX10_one_41 (by decide) (fun c => ?_) (fun c => ?_)
      · have H := H.1 c
        refine a_aload_n (pc := 48) dX10_one_48 rfl ?_
        refine a_getF (pc := 49) dX10_one_49 fl_X10_90 (go_89) (gf_89_45) ?_
        refine a_iload_n (pc := 52) dX10_one_52 rfl ?_
        obtain ⟨hb5, H⟩ := H
        refine a_iaload (pc := 53) dX10_one_53 (ga_115) hb5 ?_
        refine a_if_lt (pc := 54) (tgt := 61) dX10_one_54 (by decide) (fun c => ?_) (fun c => ?_)
        · have H := H.1 c
          refine a_iconst (pc := 61) dX10_one_61 (by decide) ?_
          exact a_ireturn (pc := 62) dX10_one_62 trivial ⟨_, rfl, rfl, H⟩
        · have H := H.2 c
          refine a_iconst (pc := 57) dX10_one_57 (by decide) ?_
          refine a_goto (pc := 58) (tgt := 62) dX10_one_58 (by decide) ?_
          exact a_ireturn (pc := 62) dX10_one_62 trivial ⟨_, rfl, rfl, H⟩
      · have H := H.2 c
        refine a_iconst (pc := 44) dX10_one_44 (by decide) ?_
        refine a_goto (pc := 45) (tgt := 62) dX10_one_45 (by decide) ?_
        exact a_ireturn (pc := 62) dX10_one_62 trivial ⟨_, rfl, rfl, H⟩
    · have H := H.2.1 c
      refine a_aload_n (pc := 63) dX10_one_63 rfl ?_
      refine a_getF (pc := 64) dX10_one_64 fl_X10_90 (go_89) (gf_89_45) ?_
      refine a_iload_n (pc := 67) dX10_one_67 rfl ?_
      obtain ⟨hb6, H⟩ := H
      refine a_iaload (pc := 68) dX10_one_68 (ga_115) hb6 ?_
      refine a_if_lt (pc := 69) (tgt := 81) dX10_one_69 (by decide) (fun c => ?_) (fun c => ?_)
      · have H := H.1 c
        refine a_aload_n (pc := 81) dX10_one_81 rfl ?_
        refine a_getF (pc := 82) dX10_one_82 fl_X10_93 (go_89) (gf_89_46) ?_
        refine a_iload_n (pc := 85) dX10_one_85 rfl ?_
        refine a_iaload (pc := 86) dX10_one_86 (ga_116) hb6 ?_
        exact a_ireturn (pc := 87) dX10_one_87 trivial ⟨_, rfl, rfl, H⟩
      · have H := H.2 c
        refine a_aload_n (pc := 72) dX10_one_72 rfl ?_
        refine a_getF (pc := 73) dX10_one_73 fl_X10_90 (go_89) (gf_89_45) ?_
        refine a_iload_n (pc := 76) dX10_one_76 rfl ?_
        refine a_iaload (pc := 77) dX10_one_77 (ga_115) hb6 ?_
        refine a_goto (pc := 78) (tgt := 87) dX10_one_78 (by decide) ?_
        exact a_ireturn (pc := 87) dX10_one_87 trivial ⟨_, rfl, rfl, H⟩
    · have H := H.2.2.1 c
      refine a_aload_n (pc := 88) dX10_one_88 rfl ?_
      refine a_getF (pc := 89) dX10_one_89 fl_X10_96 (go_89) (gf_89_47) ?_
      refine a_iload_n (pc := 92) dX10_one_92 rfl ?_
      obtain ⟨hb7, H⟩ := H
      refine a_iaload (pc := 93) dX10_one_93 (ga_117) hb7 ?_
      exact a_ireturn (pc := 94) dX10_one_94 trivial ⟨_, rfl, rfl, H⟩
    · have H := H.2.2.2 c
      refine a_iconst (pc := 95) dX10_one_95 (by decide) ?_
      exact a_ireturn (pc := 96) dX10_one_96 trivial ⟨_, rfl, rfl, H⟩
  · have H := H.2 c
    refine a_iconst (pc := 8) dX10_one_8 (by decide) ?_
    exact a_ireturn (pc := 9) dX10_one_9 trivial ⟨_, rfl, rfl, H⟩
set_option maxRecDepth 20000 in
theorem v_X10_thing {E : zE} {d : Nat} {h : zS} {Q : Int → zS → Prop} {x1 : Int} {x2 : Int}  (H : ((x1 < 0 → (Q (-4) h)) ∧ (0 ≤ x1 → ((x1 < (hI h 89 55) → ((x2 = 0 → ((0 ≤ x1 ∧ x1 < 12) ∧ Q (hI h 119 x1.toNat) h)) ∧ (x2 = 1 → ((0 ≤ x1 ∧ x1 < 12) ∧ Q (hI h 120 x1.toNat) h)) ∧ (x2 = 2 → ((0 ≤ x1 ∧ x1 < 12) ∧ Q (hI h 121 x1.toNat) h)) ∧ (x2 = 3 → ((0 ≤ x1 ∧ x1 < 12) ∧ Q (hI h 122 x1.toNat) h)) ∧ (x2 = 4 → ((0 ≤ x1 ∧ x1 < 12) ∧ Q (hI h 123 x1.toNat) h)) ∧ (x2 < 0 ∨ 4 < x2 → (Q (-4) h)))) ∧ ((hI h 89 55) ≤ x1 → (Q (-4) h)))))) : zCi E d m_X10_thing [vo 89, vi x1, vi x2] h Q := by
  show zAt E d 0 0 m_X10_thing 0 [vo 89, vi x1, vi x2] [] g0 h (zPi Q)
  refine a_iload_n (pc := 0) dX10_thing_0 rfl ?_
  refine a_if_lt (pc := 1) (tgt := 12) dX10_thing_1 (by decide) (fun c => ?_) (fun c => ?_)
  · have H := H.1 c
    refine a_bipush (pc := 12) dX10_thing_12 (by decide) ?_
    exact a_ireturn (pc := 14) dX10_thing_14 trivial ⟨_, rfl, rfl, H⟩
  · have H := H.2 c
    refine a_iload_n (pc := 4) dX10_thing_4 rfl ?_
    refine a_aload_n (pc := 5) dX10_thing_5 rfl ?_
    refine a_getI (pc := 6) dX10_thing_6 fl_X10_391 (go_89) ?_
    refine a_icmp_lt (pc := 9) (tgt := 15) dX10_thing_9 (by decide) (fun c => ?_) (fun c => ?_)
    · have H := H.1 c
      refine a_iload_n (pc := 15) dX10_thing_15 rfl ?_
      refine a_tsw (pc := 16) (tg := [52, 59, 66, 73, 80]) (td := 87) dX10_thing_16 (by decide) (by decide) (by decide) ⟨(fun c => ?_), (fun c => ?_), (fun c => ?_), (fun c => ?_), (fun c => ?_), trivial⟩ (fun c => ?_)
      · have H := H.1 c
        refine a_aload_n (pc := 52) dX10_thing_52 rfl ?_
        refine a_getF (pc := 53) dX10_thing_53 fl_X10_102 (go_89) (gf_89_49) ?_
        refine a_iload_n (pc := 56) dX10_thing_56 rfl ?_
        obtain ⟨hb1, H⟩ := H
        refine a_iaload (pc := 57) dX10_thing_57 (ga_119) hb1 ?_
        exact a_ireturn (pc := 58) dX10_thing_58 trivial ⟨_, rfl, rfl, H⟩
      · have H := H.2.1 c
        refine a_aload_n (pc := 59) dX10_thing_59 rfl ?_
        refine a_getF (pc := 60) dX10_thing_60 fl_X10_105 (go_89) (gf_89_50) ?_
        refine a_iload_n (pc := 63) dX10_thing_63 rfl ?_
        obtain ⟨hb2, H⟩ := H
        refine a_iaload (pc := 64) dX10_thing_64 (ga_120) hb2 ?_
        exact a_ireturn (pc := 65) dX10_thing_65 trivial ⟨_, rfl, rfl, H⟩
      · have H := H.2.2.1 c
        refine a_aload_n (pc := 66) dX10_thing_66 rfl ?_
        refine a_getF (pc := 67) dX10_thing_67 fl_X10_108 (go_89) (gf_89_51) ?_
        refine a_iload_n (pc := 70) dX10_thing_70 rfl ?_
        obtain ⟨hb3, H⟩ := H
        refine a_iaload (pc := 71) dX10_thing_71 (ga_121) hb3 ?_
        exact a_ireturn (pc := 72) dX10_thing_72 trivial ⟨_, rfl, rfl, H⟩
      · have H := H.2.2.2.1 c
        refine a_aload_n (pc := 73) dX10_thing_73 rfl ?_
        refine a_getF (pc := 74) dX10_thing_74 fl_X10_111 (go_89) (gf_89_52) ?_
        refine a_iload_n (pc := 77) dX10_thing_77 rfl ?_
        obtain ⟨hb4, H⟩ := H
        refine a_iaload (pc := 78) dX10_thing_78 (ga_122) hb4 ?_
        exact a_ireturn (pc := 79) dX10_thing_79 trivial ⟨_, rfl, rfl, H⟩
      · have H := H.2.2.2.2.1 c
        refine a_aload_n (pc := 80) dX10_thing_80 rfl ?_
        refine a_getF (pc := 81) dX10_thing_81 fl_X10_114 (go_89) (gf_89_53) ?_
        refine a_iload_n (pc := 84) dX10_thing_84 rfl ?_
        obtain ⟨hb5, H⟩ := H
        refine a_iaload (pc := 85) dX10_thing_85 (ga_123) hb5 ?_
        exact a_ireturn (pc := 86) dX10_thing_86 trivial ⟨_, rfl, rfl, H⟩
      · have H := H.2.2.2.2.2 c
        refine a_bipush (pc := 87) dX10_thing_87 (by decide) ?_
        exact a_ireturn (pc := 89) dX10_thing_89 trivial ⟨_, rfl, rfl, H⟩
    · have H := H.2 c
      refine a_bipush (pc := 12) dX10_thing_12 (by decide) ?_
      exact a_ireturn (pc := 14) dX10_thing_14 trivial ⟨_, rfl, rfl, H⟩
set_option maxRecDepth 20000 in
theorem v_X10_gap {E : zE} {d : Nat} {h : zS} {Q : Int → zS → Prop}   (H : ∀ h1, h1 = stI h 89 37 0 → (((hI h1 89 31) < 0 → (Q (-1) h1)) ∧ (0 ≤ (hI h1 89 31) → (((hI h1 89 32) < 0 → (Q (-1) h1)) ∧ (0 ≤ (hI h1 89 32) → (zCi E d m_X10_isThere [vo 89, vi (hI h1 89 31)] h1 (fun y3 h2 => ((y3 = 0 → (Q (-1) h2)) ∧ (y3 ≠ 0 → (zCi E d m_X10_isThere [vo 89, vi (hI h2 89 32)] h2 (fun y5 h4 => ((y5 ≠ 0 → (zCi E d m_X10_layWay [vo 89, vi 2] h4 (fun y7 h6 => Q y7 h6))) ∧ (y5 = 0 → (Q (-1) h4)))))))))))))) : zCi E (d + 1) m_X10_gap [vo 89] h Q := by
  show zAt E (d + 1) 0 0 m_X10_gap 0 [vo 89] [] g0 h (zPi Q)
  refine a_aload_n (pc := 0) dX10_gap_0 rfl ?_
  refine a_iconst (pc := 1) dX10_gap_1 (by decide) ?_
  refine a_putI (pc := 2) dX10_gap_2 fl_X10_308 (go_89) ?_
  have H := H _ rfl
  generalize stI h 89 37 0 = h1 at H ⊢
  refine a_aload_n (pc := 5) dX10_gap_5 rfl ?_
  refine a_getI (pc := 6) dX10_gap_6 fl_X10_151 (go_89) ?_
  refine a_if_lt (pc := 9) (tgt := 41) dX10_gap_9 (by decide) (fun c => ?_) (fun c => ?_)
  · have H := H.1 c
    refine a_iconst (pc := 41) dX10_gap_41 (by decide) ?_
    refine a_goto (pc := 42) (tgt := 50) dX10_gap_42 (by decide) ?_
    exact a_ireturn (pc := 50) dX10_gap_50 trivial ⟨_, rfl, rfl, H⟩
  · have H := H.2 c
    refine a_aload_n (pc := 12) dX10_gap_12 rfl ?_
    refine a_getI (pc := 13) dX10_gap_13 fl_X10_154 (go_89) ?_
    refine a_if_lt (pc := 16) (tgt := 41) dX10_gap_16 (by decide) (fun c => ?_) (fun c => ?_)
    · have H := H.1 c
      refine a_iconst (pc := 41) dX10_gap_41 (by decide) ?_
      refine a_goto (pc := 42) (tgt := 50) dX10_gap_42 (by decide) ?_
      exact a_ireturn (pc := 50) dX10_gap_50 trivial ⟨_, rfl, rfl, H⟩
    · have H := H.2 c
      refine a_aload_n (pc := 19) dX10_gap_19 rfl ?_
      refine a_aload_n (pc := 20) dX10_gap_20 rfl ?_
      refine a_getI (pc := 21) dX10_gap_21 fl_X10_151 (go_89) ?_
      refine a_callV (pc := 24) (kc := 0) (ks := 0) (kc' := 0) (ks' := 0) (st := []) [vi (hI h1 89 31)] dX10_gap_24 ml_X10_315 (go_89) rfl (Nat.le_of_ble_eq_true rfl) (Nat.le_of_ble_eq_true rfl) (z_post H (fun r G1 h2 q => ?_))
      obtain ⟨y3, rfl, rfl, H⟩ := q
      show zAt E (d + 1) 0 0 m_X10_gap 27 [vo 89] [vi y3] g0 h2 (zPi Q)
      refine a_if_eq (pc := 27) (tgt := 41) dX10_gap_27 (by decide) (fun c => ?_) (fun c => ?_)
      · have H := H.1 c
        refine a_iconst (pc := 41) dX10_gap_41 (by decide) ?_
        refine a_goto (pc := 42) (tgt := 50) dX10_gap_42 (by decide) ?_
        exact a_ireturn (pc := 50) dX10_gap_50 trivial ⟨_, rfl, rfl, H⟩
      · have H := H.2 c
        refine a_aload_n (pc := 30) dX10_gap_30 rfl ?_
        refine a_aload_n (pc := 31) dX10_gap_31 rfl ?_
        refine a_getI (pc := 32) dX10_gap_32 fl_X10_154 (go_89) ?_
        refine a_callV (pc := 35) (kc := 0) (ks := 0) (kc' := 0) (ks' := 0) (st := []) [vi (hI h2 89 32)] dX10_gap_35 ml_X10_315 (go_89) rfl (Nat.le_of_ble_eq_true rfl) (Nat.le_of_ble_eq_true rfl) (z_post H (fun r G1 h4 q => ?_))
        obtain ⟨y5, rfl, rfl, H⟩ := q
        show zAt E (d + 1) 0 0 m_X10_gap 38 [vo 89] [vi y5] g0 h4 (zPi Q)
        refine a_if_ne (pc := 38) (tgt := 45) dX10_gap_38 (by decide) (fun c => ?_) (fun c => ?_)
        · have H := H.1 c
          refine a_aload_n (pc := 45) dX10_gap_45 rfl ?_
          refine a_iconst (pc := 46) dX10_gap_46 (by decide) ?_
          refine a_callV (pc := 47) (kc := 0) (ks := 0) (kc' := 0) (ks' := 0) (st := []) [vi 2] dX10_gap_47 ml_X10_337 (go_89) rfl (Nat.le_of_ble_eq_true rfl) (Nat.le_of_ble_eq_true rfl) (z_post H (fun r G1 h6 q => ?_))
          obtain ⟨y7, rfl, rfl, H⟩ := q
          show zAt E (d + 1) 0 0 m_X10_gap 50 [vo 89] [vi y7] g0 h6 (zPi Q)
          exact a_ireturn (pc := 50) dX10_gap_50 trivial ⟨_, rfl, rfl, H⟩
        · have H := H.2 c
          refine a_iconst (pc := 41) dX10_gap_41 (by decide) ?_
          refine a_goto (pc := 42) (tgt := 50) dX10_gap_42 (by decide) ?_
          exact a_ireturn (pc := 50) dX10_gap_50 trivial ⟨_, rfl, rfl, H⟩
set_option maxRecDepth 20000 in
theorem v_X10_entry {E : zE} {d : Nat} {h : zS} {Q : Int → zS → Prop} {x1 : Int} {x2 : Int} {x3 : Int}  (H : ((x3 < 0 → (Q (-1) h)) ∧ (0 ≤ x3 → ((99 < x3 → (Q (-1) h)) ∧ (x3 ≤ 99 → (((hI h 89 62) ≠ 40 → ((0 ≤ hI h 89 62 ∧ hI h 89 62 < 40) ∧ ∀ h2, h2 = stI h 125 (hI h 89 62).toNat x1 → (0 ≤ hI h2 89 62 ∧ hI h2 89 62 < 40) ∧ ∀ h4, h4 = stI h2 126 (hI h2 89 62).toNat x2 → (0 ≤ hI h4 89 62 ∧ hI h4 89 62 < 40) ∧ ∀ h6, h6 = stI h4 127 (hI h4 89 62).toNat x3 → (0 ≤ hI h6 89 62 ∧ hI h6 89 62 < 40) ∧ ∀ h8, h8 = stI h6 128 (hI h6 89 62).toNat (hI h6 89 63) → (0 ≤ hI h8 89 62 ∧ hI h8 89 62 < 40) ∧ ∀ h10, h10 = stI h8 129 (hI h8 89 62).toNat (-1) → ∀ h11, h11 = stI h10 89 62 (w32 ((hI h10 89 62) + 1)) → Q (w32 ((hI h11 89 62) - 1)) h11)) ∧ ((hI h 89 62) = 40 → (Q (-1) h)))))))) : zCi E d m_X10_entry [vo 89, vi x1, vi x2, vi x3] h Q := by
  show zAt E d 0 0 m_X10_entry 0 [vo 89, vi x1, vi x2, vi x3] [] g0 h (zPi Q)
  refine a_iload_n (pc := 0) dX10_entry_0 rfl ?_
  refine a_if_lt (pc := 1) (tgt := 19) dX10_entry_1 (by decide) (fun c => ?_) (fun c => ?_)
  · have H := H.1 c
    refine a_iconst (pc := 19) dX10_entry_19 (by decide) ?_
    exact a_ireturn (pc := 20) dX10_entry_20 trivial ⟨_, rfl, rfl, H⟩
  · have H := H.2 c
    refine a_iload_n (pc := 4) dX10_entry_4 rfl ?_
    refine a_bipush (pc := 5) dX10_entry_5 (by decide) ?_
    refine a_icmp_gt (pc := 7) (tgt := 19) dX10_entry_7 (by decide) (fun c => ?_) (fun c => ?_)
    · have H := H.1 c
      refine a_iconst (pc := 19) dX10_entry_19 (by decide) ?_
      exact a_ireturn (pc := 20) dX10_entry_20 trivial ⟨_, rfl, rfl, H⟩
    · have H := H.2 c
      refine a_aload_n (pc := 10) dX10_entry_10 rfl ?_
      refine a_getI (pc := 11) dX10_entry_11 fl_X10_305 (go_89) ?_
      refine a_bipush (pc := 14) dX10_entry_14 (by decide) ?_
      refine a_icmp_ne (pc := 16) (tgt := 21) dX10_entry_16 (by decide) (fun c => ?_) (fun c => ?_)
      · have H := H.1 c
        refine a_aload_n (pc := 21) dX10_entry_21 rfl ?_
        refine a_getF (pc := 22) dX10_entry_22 fl_X10_120 (go_89) (gf_89_57) ?_
        refine a_aload_n (pc := 25) dX10_entry_25 rfl ?_
        refine a_getI (pc := 26) dX10_entry_26 fl_X10_305 (go_89) ?_
        refine a_iload_n (pc := 29) dX10_entry_29 rfl ?_
        obtain ⟨hb1, H⟩ := H
        refine a_iastore (pc := 30) dX10_entry_30 (ga_125) hb1 ?_
        have H := H _ rfl
        generalize stI h 125 (hI h 89 62).toNat x1 = h2 at H ⊢
        refine a_aload_n (pc := 31) dX10_entry_31 rfl ?_
        refine a_getF (pc := 32) dX10_entry_32 fl_X10_123 (go_89) (gf_89_58) ?_
        refine a_aload_n (pc := 35) dX10_entry_35 rfl ?_
        refine a_getI (pc := 36) dX10_entry_36 fl_X10_305 (go_89) ?_
        refine a_iload_n (pc := 39) dX10_entry_39 rfl ?_
        obtain ⟨hb3, H⟩ := H
        refine a_iastore (pc := 40) dX10_entry_40 (ga_126) hb3 ?_
        have H := H _ rfl
        generalize stI h2 126 (hI h2 89 62).toNat x2 = h4 at H ⊢
        refine a_aload_n (pc := 41) dX10_entry_41 rfl ?_
        refine a_getF (pc := 42) dX10_entry_42 fl_X10_126 (go_89) (gf_89_59) ?_
        refine a_aload_n (pc := 45) dX10_entry_45 rfl ?_
        refine a_getI (pc := 46) dX10_entry_46 fl_X10_305 (go_89) ?_
        refine a_iload_n (pc := 49) dX10_entry_49 rfl ?_
        obtain ⟨hb5, H⟩ := H
        refine a_iastore (pc := 50) dX10_entry_50 (ga_127) hb5 ?_
        have H := H _ rfl
        generalize stI h4 127 (hI h4 89 62).toNat x3 = h6 at H ⊢
        refine a_aload_n (pc := 51) dX10_entry_51 rfl ?_
        refine a_getF (pc := 52) dX10_entry_52 fl_X10_129 (go_89) (gf_89_60) ?_
        refine a_aload_n (pc := 55) dX10_entry_55 rfl ?_
        refine a_getI (pc := 56) dX10_entry_56 fl_X10_305 (go_89) ?_
        refine a_aload_n (pc := 59) dX10_entry_59 rfl ?_
        refine a_getI (pc := 60) dX10_entry_60 fl_X10_421 (go_89) ?_
        obtain ⟨hb7, H⟩ := H
        refine a_iastore (pc := 63) dX10_entry_63 (ga_128) hb7 ?_
        have H := H _ rfl
        generalize stI h6 128 (hI h6 89 62).toNat (hI h6 89 63) = h8 at H ⊢
        refine a_aload_n (pc := 64) dX10_entry_64 rfl ?_
        refine a_getF (pc := 65) dX10_entry_65 fl_X10_132 (go_89) (gf_89_61) ?_
        refine a_aload_n (pc := 68) dX10_entry_68 rfl ?_
        refine a_getI (pc := 69) dX10_entry_69 fl_X10_305 (go_89) ?_
        refine a_iconst (pc := 72) dX10_entry_72 (by decide) ?_
        obtain ⟨hb9, H⟩ := H
        refine a_iastore (pc := 73) dX10_entry_73 (ga_129) hb9 ?_
        have H := H _ rfl
        generalize stI h8 129 (hI h8 89 62).toNat (-1) = h10 at H ⊢
        refine a_aload_n (pc := 74) dX10_entry_74 rfl ?_
        refine a_dup (pc := 75) dX10_entry_75 rfl ?_
        refine a_getI (pc := 76) dX10_entry_76 fl_X10_305 (go_89) ?_
        refine a_iconst (pc := 79) dX10_entry_79 (by decide) ?_
        refine a_iadd (pc := 80) dX10_entry_80 ?_
        refine a_putI (pc := 81) dX10_entry_81 fl_X10_305 (go_89) ?_
        have H := H _ rfl
        generalize stI h10 89 62 (w32 ((hI h10 89 62) + 1)) = h11 at H ⊢
        refine a_aload_n (pc := 84) dX10_entry_84 rfl ?_
        refine a_getI (pc := 85) dX10_entry_85 fl_X10_305 (go_89) ?_
        refine a_iconst (pc := 88) dX10_entry_88 (by decide) ?_
        refine a_isub (pc := 89) dX10_entry_89 ?_
        exact a_ireturn (pc := 90) dX10_entry_90 trivial ⟨_, rfl, rfl, H⟩
      · have H := H.2 c
        refine a_iconst (pc := 19) dX10_entry_19 (by decide) ?_
        exact a_ireturn (pc := 20) dX10_entry_20 trivial ⟨_, rfl, rfl, H⟩
set_option maxRecDepth 20000 in
theorem v_X10_late {E : zE} {d : Nat} {h : zS} {Q : Int → zS → Prop} {x1 : Int} {x2 : Int}  (H : ((x1 < 0 → (Q (-1) h)) ∧ (0 ≤ x1 → ((x1 < (z_shl 1 (hI h 89 29)) → (zCi E d m_X10_entry [vo 89, vi 0, vi x1, vi x2] h (fun y2 h1 => Q y2 h1))) ∧ ((z_shl 1 (hI h 89 29)) ≤ x1 → (Q (-1) h)))))) : zCi E (d + 1) m_X10_late [vo 89, vi x1, vi x2] h Q := by
  show zAt E (d + 1) 0 0 m_X10_late 0 [vo 89, vi x1, vi x2] [] g0 h (zPi Q)
  refine a_iload_n (pc := 0) dX10_late_0 rfl ?_
  refine a_if_lt (pc := 1) (tgt := 14) dX10_late_1 (by decide) (fun c => ?_) (fun c => ?_)
  · have H := H.1 c
    refine a_iconst (pc := 14) dX10_late_14 (by decide) ?_
    refine a_goto (pc := 15) (tgt := 25) dX10_late_15 (by decide) ?_
    exact a_ireturn (pc := 25) dX10_late_25 trivial ⟨_, rfl, rfl, H⟩
  · have H := H.2 c
    refine a_iload_n (pc := 4) dX10_late_4 rfl ?_
    refine a_iconst (pc := 5) dX10_late_5 (by decide) ?_
    refine a_aload_n (pc := 6) dX10_late_6 rfl ?_
    refine a_getI (pc := 7) dX10_late_7 fl_X10_289 (go_89) ?_
    refine a_ishl (pc := 10) dX10_late_10 ?_
    refine a_icmp_lt (pc := 11) (tgt := 18) dX10_late_11 (by decide) (fun c => ?_) (fun c => ?_)
    · have H := H.1 c
      refine a_aload_n (pc := 18) dX10_late_18 rfl ?_
      refine a_iconst (pc := 19) dX10_late_19 (by decide) ?_
      refine a_iload_n (pc := 20) dX10_late_20 rfl ?_
      refine a_iload_n (pc := 21) dX10_late_21 rfl ?_
      refine a_callV (pc := 22) (kc := 0) (ks := 0) (kc' := 0) (ks' := 0) (st := []) [vi 0, vi x1, vi x2] dX10_late_22 ml_X10_424 (go_89) rfl (Nat.le_of_ble_eq_true rfl) (Nat.le_of_ble_eq_true rfl) (z_post H (fun r G1 h1 q => ?_))
      obtain ⟨y2, rfl, rfl, H⟩ := q
      show zAt E (d + 1) 0 0 m_X10_late 25 [vo 89, vi x1, vi x2] [vi y2] g0 h1 (zPi Q)
      exact a_ireturn (pc := 25) dX10_late_25 trivial ⟨_, rfl, rfl, H⟩
    · have H := H.2 c
      refine a_iconst (pc := 14) dX10_late_14 (by decide) ?_
      refine a_goto (pc := 15) (tgt := 25) dX10_late_15 (by decide) ?_
      exact a_ireturn (pc := 25) dX10_late_25 trivial ⟨_, rfl, rfl, H⟩
set_option maxRecDepth 20000 in
theorem v_X10_taken {E : zE} {d : Nat} {h : zS} {Q : Int → zS → Prop} {x1 : Int} {x2 : Int}  (H : zCi E d m_X10_canFall [vo 89, vi x1] h (fun y2 h1 => ((y2 = 0 → (Q (-1) h1)) ∧ (y2 ≠ 0 → (zCi E d m_X10_entry [vo 89, vi 1, vi x1, vi x2] h1 (fun y4 h3 => Q y4 h3)))))) : zCi E (d + 1) m_X10_taken [vo 89, vi x1, vi x2] h Q := by
  show zAt E (d + 1) 0 0 m_X10_taken 0 [vo 89, vi x1, vi x2] [] g0 h (zPi Q)
  refine a_aload_n (pc := 0) dX10_taken_0 rfl ?_
  refine a_iload_n (pc := 1) dX10_taken_1 rfl ?_
  refine a_callV (pc := 2) (kc := 0) (ks := 0) (kc' := 0) (ks' := 0) (st := []) [vi x1] dX10_taken_2 ml_X10_382 (go_89) rfl (Nat.le_of_ble_eq_true rfl) (Nat.le_of_ble_eq_true rfl) (z_post H (fun r G1 h1 q => ?_))
  obtain ⟨y2, rfl, rfl, H⟩ := q
  show zAt E (d + 1) 0 0 m_X10_taken 5 [vo 89, vi x1, vi x2] [vi y2] g0 h1 (zPi Q)
  refine a_if_eq (pc := 5) (tgt := 18) dX10_taken_5 (by decide) (fun c => ?_) (fun c => ?_)
  · have H := H.1 c
    refine a_iconst (pc := 18) dX10_taken_18 (by decide) ?_
    exact a_ireturn (pc := 19) dX10_taken_19 trivial ⟨_, rfl, rfl, H⟩
  · have H := H.2 c
    refine a_aload_n (pc := 8) dX10_taken_8 rfl ?_
    refine a_iconst (pc := 9) dX10_taken_9 (by decide) ?_
    refine a_iload_n (pc := 10) dX10_taken_10 rfl ?_
    refine a_iload_n (pc := 11) dX10_taken_11 rfl ?_
    refine a_callV (pc := 12) (kc := 0) (ks := 0) (kc' := 0) (ks' := 0) (st := []) [vi 1, vi x1, vi x2] dX10_taken_12 ml_X10_424 (go_89) rfl (Nat.le_of_ble_eq_true rfl) (Nat.le_of_ble_eq_true rfl) (z_post H (fun r G1 h3 q => ?_))
    obtain ⟨y4, rfl, rfl, H⟩ := q
    show zAt E (d + 1) 0 0 m_X10_taken 15 [vo 89, vi x1, vi x2] [vi y4] g0 h3 (zPi Q)
    refine a_goto (pc := 15) (tgt := 19) dX10_taken_15 (by decide) ?_
    exact a_ireturn (pc := 19) dX10_taken_19 trivial ⟨_, rfl, rfl, H⟩
set_option maxRecDepth 20000 in
theorem v_X10_untell {E : zE} {d : Nat} {h : zS} {Q : Int → zS → Prop} {x1 : Int}  (H : ((x1 < 0 → (Q 0 h)) ∧ (0 ≤ x1 → (((hI h 89 62) ≤ x1 → (Q 0 h)) ∧ (x1 < (hI h 89 62) → ((0 ≤ x1 ∧ x1 < 40) ∧ (((hI h 129 x1.toNat) < 0 → (∀ h2, h2 = stI h 129 x1.toNat (hI h 89 63) → Q 1 h2)) ∧ (0 ≤ (hI h 129 x1.toNat) → (Q 0 h))))))))) : zCi E d m_X10_untell [vo 89, vi x1] h Q := by
  show zAt E d 0 0 m_X10_untell 0 [vo 89, vi x1] [] g0 h (zPi Q)
  refine a_iload_n (pc := 0) dX10_untell_0 rfl ?_
  refine a_if_lt (pc := 1) (tgt := 21) dX10_untell_1 (by decide) (fun c => ?_) (fun c => ?_)
  · have H := H.1 c
    refine a_iconst (pc := 21) dX10_untell_21 (by decide) ?_
    exact a_ireturn (pc := 22) dX10_untell_22 (.inl rfl) ⟨_, rfl, rfl, H⟩
  · have H := H.2 c
    refine a_iload_n (pc := 4) dX10_untell_4 rfl ?_
    refine a_aload_n (pc := 5) dX10_untell_5 rfl ?_
    refine a_getI (pc := 6) dX10_untell_6 fl_X10_305 (go_89) ?_
    refine a_icmp_ge (pc := 9) (tgt := 21) dX10_untell_9 (by decide) (fun c => ?_) (fun c => ?_)
    · have H := H.1 c
      refine a_iconst (pc := 21) dX10_untell_21 (by decide) ?_
      exact a_ireturn (pc := 22) dX10_untell_22 (.inl rfl) ⟨_, rfl, rfl, H⟩
    · have H := H.2 c
      refine a_aload_n (pc := 12) dX10_untell_12 rfl ?_
      refine a_getF (pc := 13) dX10_untell_13 fl_X10_132 (go_89) (gf_89_61) ?_
      refine a_iload_n (pc := 16) dX10_untell_16 rfl ?_
      obtain ⟨hb1, H⟩ := H
      refine a_iaload (pc := 17) dX10_untell_17 (ga_129) hb1 ?_
      refine a_if_lt (pc := 18) (tgt := 23) dX10_untell_18 (by decide) (fun c => ?_) (fun c => ?_)
      · have H := H.1 c
        refine a_aload_n (pc := 23) dX10_untell_23 rfl ?_
        refine a_getF (pc := 24) dX10_untell_24 fl_X10_132 (go_89) (gf_89_61) ?_
        refine a_iload_n (pc := 27) dX10_untell_27 rfl ?_
        refine a_aload_n (pc := 28) dX10_untell_28 rfl ?_
        refine a_getI (pc := 29) dX10_untell_29 fl_X10_421 (go_89) ?_
        refine a_iastore (pc := 32) dX10_untell_32 (ga_129) hb1 ?_
        have H := H _ rfl
        generalize stI h 129 x1.toNat (hI h 89 63) = h2 at H ⊢
        refine a_iconst (pc := 33) dX10_untell_33 (by decide) ?_
        exact a_ireturn (pc := 34) dX10_untell_34 (.inr rfl) ⟨_, rfl, rfl, H⟩
      · have H := H.2 c
        refine a_iconst (pc := 21) dX10_untell_21 (by decide) ?_
        exact a_ireturn (pc := 22) dX10_untell_22 (.inl rfl) ⟨_, rfl, rfl, H⟩
set_option maxRecDepth 20000 in
theorem v_X10_later {E : zE} {d : Nat} {h : zS} {Q : Int → zS → Prop} {x1 : Int}  (H : ((x1 < 0 → (Q (-1) h)) ∧ (0 ≤ x1 → ((1000 < x1 → (Q (-1) h)) ∧ (x1 ≤ 1000 → (((w32 ((hI h 89 63) + x1)) ≤ 100000 → (∀ h1, h1 = stI h 89 63 (w32 ((hI h 89 63) + x1)) → Q (hI h1 89 63) h1)) ∧ (100000 < (w32 ((hI h 89 63) + x1)) → (Q (-1) h)))))))) : zCi E d m_X10_later [vo 89, vi x1] h Q := by
  show zAt E d 0 0 m_X10_later 0 [vo 89, vi x1] [] g0 h (zPi Q)
  refine a_iload_n (pc := 0) dX10_later_0 rfl ?_
  refine a_if_lt (pc := 1) (tgt := 23) dX10_later_1 (by decide) (fun c => ?_) (fun c => ?_)
  · have H := H.1 c
    refine a_iconst (pc := 23) dX10_later_23 (by decide) ?_
    exact a_ireturn (pc := 24) dX10_later_24 trivial ⟨_, rfl, rfl, H⟩
  · have H := H.2 c
    refine a_iload_n (pc := 4) dX10_later_4 rfl ?_
    refine a_sipush (pc := 5) dX10_later_5 (by decide) ?_
    refine a_icmp_gt (pc := 8) (tgt := 23) dX10_later_8 (by decide) (fun c => ?_) (fun c => ?_)
    · have H := H.1 c
      refine a_iconst (pc := 23) dX10_later_23 (by decide) ?_
      exact a_ireturn (pc := 24) dX10_later_24 trivial ⟨_, rfl, rfl, H⟩
    · have H := H.2 c
      refine a_aload_n (pc := 11) dX10_later_11 rfl ?_
      refine a_getI (pc := 12) dX10_later_12 fl_X10_421 (go_89) ?_
      refine a_iload_n (pc := 15) dX10_later_15 rfl ?_
      refine a_iadd (pc := 16) dX10_later_16 ?_
      refine a_ldcw (pc := 17) dX10_later_17 cl_X10_427 (by decide) ?_
      refine a_icmp_le (pc := 20) (tgt := 25) dX10_later_20 (by decide) (fun c => ?_) (fun c => ?_)
      · have H := H.1 c
        refine a_aload_n (pc := 25) dX10_later_25 rfl ?_
        refine a_dup (pc := 26) dX10_later_26 rfl ?_
        refine a_getI (pc := 27) dX10_later_27 fl_X10_421 (go_89) ?_
        refine a_iload_n (pc := 30) dX10_later_30 rfl ?_
        refine a_iadd (pc := 31) dX10_later_31 ?_
        refine a_putI (pc := 32) dX10_later_32 fl_X10_421 (go_89) ?_
        have H := H _ rfl
        generalize stI h 89 63 (w32 ((hI h 89 63) + x1)) = h1 at H ⊢
        refine a_aload_n (pc := 35) dX10_later_35 rfl ?_
        refine a_getI (pc := 36) dX10_later_36 fl_X10_421 (go_89) ?_
        exact a_ireturn (pc := 39) dX10_later_39 trivial ⟨_, rfl, rfl, H⟩
      · have H := H.2 c
        refine a_iconst (pc := 23) dX10_later_23 (by decide) ?_
        exact a_ireturn (pc := 24) dX10_later_24 trivial ⟨_, rfl, rfl, H⟩
set_option maxRecDepth 20000 in
theorem v_X10_counts {E : zE} {d : Nat} {h : zS} {Q : Int → zS → Prop} {x1 : Int} {x2 : Int} {x3 : Int}  (H : (0 ≤ x1 ∧ x1 < 40) ∧ (((hI h 125 x1.toNat) ≠ x2 → (Q 0 h)) ∧ ((hI h 125 x1.toNat) = x2 → ((x3 < (hI h 128 x1.toNat) → (Q 0 h)) ∧ ((hI h 128 x1.toNat) ≤ x3 → (((hI h 129 x1.toNat) < 0 → (Q 1 h)) ∧ (0 ≤ (hI h 129 x1.toNat) → (((hI h 129 x1.toNat) ≤ x3 → (Q 0 h)) ∧ (x3 < (hI h 129 x1.toNat) → (Q 1 h)))))))))) : zCi E d m_X10_counts [vo 89, vi x1, vi x2, vi x3] h Q := by
  show zAt E d 0 0 m_X10_counts 0 [vo 89, vi x1, vi x2, vi x3] [] g0 h (zPi Q)
  refine a_aload_n (pc := 0) dX10_counts_0 rfl ?_
  refine a_getF (pc := 1) dX10_counts_1 fl_X10_120 (go_89) (gf_89_57) ?_
  refine a_iload_n (pc := 4) dX10_counts_4 rfl ?_
  obtain ⟨hb1, H⟩ := H
  refine a_iaload (pc := 5) dX10_counts_5 (ga_125) hb1 ?_
  refine a_iload_n (pc := 6) dX10_counts_6 rfl ?_
  refine a_icmp_ne (pc := 7) (tgt := 43) dX10_counts_7 (by decide) (fun c => ?_) (fun c => ?_)
  · have H := H.1 c
    refine a_iconst (pc := 43) dX10_counts_43 (by decide) ?_
    exact a_ireturn (pc := 44) dX10_counts_44 (.inl rfl) ⟨_, rfl, rfl, H⟩
  · have H := H.2 c
    refine a_aload_n (pc := 10) dX10_counts_10 rfl ?_
    refine a_getF (pc := 11) dX10_counts_11 fl_X10_129 (go_89) (gf_89_60) ?_
    refine a_iload_n (pc := 14) dX10_counts_14 rfl ?_
    refine a_iaload (pc := 15) dX10_counts_15 (ga_128) hb1 ?_
    refine a_iload_n (pc := 16) dX10_counts_16 rfl ?_
    refine a_icmp_gt (pc := 17) (tgt := 43) dX10_counts_17 (by decide) (fun c => ?_) (fun c => ?_)
    · have H := H.1 c
      refine a_iconst (pc := 43) dX10_counts_43 (by decide) ?_
      exact a_ireturn (pc := 44) dX10_counts_44 (.inl rfl) ⟨_, rfl, rfl, H⟩
    · have H := H.2 c
      refine a_aload_n (pc := 20) dX10_counts_20 rfl ?_
      refine a_getF (pc := 21) dX10_counts_21 fl_X10_132 (go_89) (gf_89_61) ?_
      refine a_iload_n (pc := 24) dX10_counts_24 rfl ?_
      refine a_iaload (pc := 25) dX10_counts_25 (ga_129) hb1 ?_
      refine a_if_lt (pc := 26) (tgt := 39) dX10_counts_26 (by decide) (fun c => ?_) (fun c => ?_)
      · have H := H.1 c
        refine a_iconst (pc := 39) dX10_counts_39 (by decide) ?_
        refine a_goto (pc := 40) (tgt := 44) dX10_counts_40 (by decide) ?_
        exact a_ireturn (pc := 44) dX10_counts_44 (.inr rfl) ⟨_, rfl, rfl, H⟩
      · have H := H.2 c
        refine a_aload_n (pc := 29) dX10_counts_29 rfl ?_
        refine a_getF (pc := 30) dX10_counts_30 fl_X10_132 (go_89) (gf_89_61) ?_
        refine a_iload_n (pc := 33) dX10_counts_33 rfl ?_
        refine a_iaload (pc := 34) dX10_counts_34 (ga_129) hb1 ?_
        refine a_iload_n (pc := 35) dX10_counts_35 rfl ?_
        refine a_icmp_le (pc := 36) (tgt := 43) dX10_counts_36 (by decide) (fun c => ?_) (fun c => ?_)
        · have H := H.1 c
          refine a_iconst (pc := 43) dX10_counts_43 (by decide) ?_
          exact a_ireturn (pc := 44) dX10_counts_44 (.inl rfl) ⟨_, rfl, rfl, H⟩
        · have H := H.2 c
          refine a_iconst (pc := 39) dX10_counts_39 (by decide) ?_
          refine a_goto (pc := 40) (tgt := 44) dX10_counts_40 (by decide) ?_
          exact a_ireturn (pc := 44) dX10_counts_44 (.inr rfl) ⟨_, rfl, rfl, H⟩
set_option maxRecDepth 20000 in
theorem v_X10_canBeSpies {E : zE} {d : Nat} {h : zS} {Q : Int → zS → Prop} {x1 : Int} {x2 : Int}  (H : zWi E (d + 1) m_X10_canBeSpies 5 [vo 89, vi x1, vi x2, vi 1, vi 0, vn] h Q) : zCi E (d + 1) m_X10_canBeSpies [vo 89, vi x1, vi x2] h Q := by
  show zAt E (d + 1) 0 0 m_X10_canBeSpies 0 [vo 89, vi x1, vi x2, vn, vn, vn] [] g0 h (zPi Q)
  refine a_iconst (pc := 0) dX10_canBeSpies_0 (by decide) ?_
  refine a_istore_n (pc := 1) (ls' := [vo 89, vi x1, vi x2, vi 1, vn, vn]) dX10_canBeSpies_1 rfl rfl ?_
  refine a_iconst (pc := 2) dX10_canBeSpies_2 (by decide) ?_
  refine a_istore (pc := 3) (ls' := [vo 89, vi x1, vi x2, vi 1, vi 0, vn]) dX10_canBeSpies_3 rfl rfl ?_
  exact H
set_option maxRecDepth 20000 in
theorem r_X10_canBeSpies_5 {E : zE} {d : Nat} {h : zS} {Q : Int → zS → Prop} {x1 : Int} {x2 : Int} {x3 : Int} {x4 : Int}  (H : (((hI h 89 62) ≤ x4 → ((x3 = 0 ∨ x3 = 1) ∧ Q x3 h)) ∧ (x4 < (hI h 89 62) → ((0 ≤ x4 ∧ x4 < 40) ∧ zCi E d m_X10_ones [vi (z_and x1 (hI h 126 x4.toNat))] h (fun y3 h2 => ∀ y4 : Int, y4 = w32 ((hI h 127 x4.toNat) - y3) → ((x3 = 0 → (zWi E (d + 1) m_X10_canBeSpies 5 [vo 89, vi x1, vi x2, vi 0, vi (w32 (x4 + 1)), vn] h2 Q)) ∧ (x3 ≠ 0 → (zCi E d m_X10_counts [vo 89, vi x4, vi 0, vi x2] h2 (fun y6 h5 => (∀ y10 : Int, y10 = (if y6 = 0 then 1 else (if y4 < 0 then 0 else (if (hI h5 89 33) < y4 then 0 else 1))) → zWi E (d + 1) m_X10_canBeSpies 5 [vo 89, vi x1, vi x2, vi y10, vi (w32 (x4 + 1)), vn] h5 Q)))))))))) : zWi E (d + 1) m_X10_canBeSpies 5 [vo 89, vi x1, vi x2, vi x3, vi x4, vn] h Q := by
  refine a_iload (pc := 5) dX10_canBeSpies_5 rfl ?_
  refine a_aload_n (pc := 7) dX10_canBeSpies_7 rfl ?_
  refine a_getI (pc := 8) dX10_canBeSpies_8 fl_X10_305 (go_89) ?_
  refine a_icmp_ge (pc := 11) (tgt := 77) dX10_canBeSpies_11 (by decide) (fun c => ?_) (fun c => ?_)
  · have H := H.1 c
    refine a_iload_n (pc := 77) dX10_canBeSpies_77 rfl ?_
    obtain ⟨hz, H⟩ := H
    exact a_ireturn (pc := 78) dX10_canBeSpies_78 hz ⟨_, rfl, rfl, H⟩
  · have H := H.2 c
    refine a_aload_n (pc := 14) dX10_canBeSpies_14 rfl ?_
    refine a_getF (pc := 15) dX10_canBeSpies_15 fl_X10_126 (go_89) (gf_89_59) ?_
    refine a_iload (pc := 18) dX10_canBeSpies_18 rfl ?_
    obtain ⟨hb1, H⟩ := H
    refine a_iaload (pc := 20) dX10_canBeSpies_20 (ga_127) hb1 ?_
    refine a_iload_n (pc := 21) dX10_canBeSpies_21 rfl ?_
    refine a_aload_n (pc := 22) dX10_canBeSpies_22 rfl ?_
    refine a_getF (pc := 23) dX10_canBeSpies_23 fl_X10_123 (go_89) (gf_89_58) ?_
    refine a_iload (pc := 26) dX10_canBeSpies_26 rfl ?_
    refine a_iaload (pc := 28) dX10_canBeSpies_28 (ga_126) hb1 ?_
    refine a_iand (pc := 29) dX10_canBeSpies_29 ?_
    refine a_callS (pc := 30) (kc := 0) (ks := 0) (kc' := 0) (ks' := 0) (st := [vi (hI h 127 x4.toNat)]) [vi (z_and x1 (hI h 126 x4.toNat))] dX10_canBeSpies_30 ml_X10_367 rfl (Nat.le_of_ble_eq_true rfl) (Nat.le_of_ble_eq_true rfl) (z_post H (fun r G1 h2 q => ?_))
    obtain ⟨y3, rfl, rfl, H⟩ := q
    show zAt E (d + 1) 0 0 m_X10_canBeSpies 33 [vo 89, vi x1, vi x2, vi x3, vi x4, vn] [vi y3, vi (hI h 127 x4.toNat)] g0 h2 (zPi Q)
    refine a_isub (pc := 33) dX10_canBeSpies_33 ?_
    have H := H _ rfl
    generalize (w32 ((hI h 127 x4.toNat) - y3) : Int) = y4 at H ⊢
    refine a_istore (pc := 34) (ls' := [vo 89, vi x1, vi x2, vi x3, vi x4, vi y4]) dX10_canBeSpies_34 rfl rfl ?_
    refine a_iload_n (pc := 36) dX10_canBeSpies_36 rfl ?_
    refine a_if_eq (pc := 37) (tgt := 69) dX10_canBeSpies_37 (by decide) (fun c => ?_) (fun c => ?_)
    · have H := H.1 c
      refine a_iconst (pc := 69) dX10_canBeSpies_69 (by decide) ?_
      refine a_istore_n (pc := 70) (ls' := [vo 89, vi x1, vi x2, vi 0, vi x4, vi y4]) dX10_canBeSpies_70 rfl rfl ?_
      refine a_iinc (pc := 71) (ls' := [vo 89, vi x1, vi x2, vi 0, vi (w32 (x4 + 1)), vi y4]) dX10_canBeSpies_71 rfl rfl rfl ?_
      refine a_goto (pc := 74) (tgt := 5) dX10_canBeSpies_74 (by decide) ?_
      exact z_forget (ls' := [vo 89, vi x1, vi x2, vi 0, vi (w32 (x4 + 1)), vn]) ⟨.inr rfl, .inr rfl, .inr rfl, .inr rfl, .inr rfl, .inl rfl, trivial⟩ H
    · have H := H.2 c
      refine a_aload_n (pc := 40) dX10_canBeSpies_40 rfl ?_
      refine a_iload (pc := 41) dX10_canBeSpies_41 rfl ?_
      refine a_iconst (pc := 43) dX10_canBeSpies_43 (by decide) ?_
      refine a_iload_n (pc := 44) dX10_canBeSpies_44 rfl ?_
      refine a_callV (pc := 45) (kc := 0) (ks := 0) (kc' := 0) (ks' := 0) (st := []) [vi x4, vi 0, vi x2] dX10_canBeSpies_45 ml_X10_428 (go_89) rfl (Nat.le_of_ble_eq_true rfl) (Nat.le_of_ble_eq_true rfl) (z_post H (fun r G1 h5 q => ?_))
      obtain ⟨y6, rfl, rfl, H⟩ := q
      show zAt E (d + 1) 0 0 m_X10_canBeSpies 48 [vo 89, vi x1, vi x2, vi x3, vi x4, vi y4] [vi y6] g0 h5 (zPi Q)
      have J : zAt E (d + 1) 0 0 m_X10_canBeSpies 70 [vo 89, vi x1, vi x2, vi x3, vi x4, vi y4] [vi (if y6 = 0 then 1 else (if y4 < 0 then 0 else (if (hI h5 89 33) < y4 then 0 else 1)))] g0 h5 (zPi Q) := by
        have H := H _ rfl
        generalize ((if y6 = 0 then 1 else (if y4 < 0 then 0 else (if (hI h5 89 33) < y4 then 0 else 1))) : Int) = y10 at H ⊢
        refine a_istore_n (pc := 70) (ls' := [vo 89, vi x1, vi x2, vi y10, vi x4, vi y4]) dX10_canBeSpies_70 rfl rfl ?_
        refine a_iinc (pc := 71) (ls' := [vo 89, vi x1, vi x2, vi y10, vi (w32 (x4 + 1)), vi y4]) dX10_canBeSpies_71 rfl rfl rfl ?_
        refine a_goto (pc := 74) (tgt := 5) dX10_canBeSpies_74 (by decide) ?_
        exact z_forget (ls' := [vo 89, vi x1, vi x2, vi y10, vi (w32 (x4 + 1)), vn]) ⟨.inr rfl, .inr rfl, .inr rfl, .inr rfl, .inr rfl, .inl rfl, trivial⟩ H
      refine a_if_eq (pc := 48) (tgt := 65) dX10_canBeSpies_48 (by decide) (fun c7 => ?_) (fun c7 => ?_)
      · skip
        refine a_iconst (pc := 65) dX10_canBeSpies_65 (by decide) ?_
        refine a_goto (pc := 66) (tgt := 70) dX10_canBeSpies_66 (by decide) ?_
        exact (z_mergeT c7 J)
      · skip
        refine a_iload (pc := 51) dX10_canBeSpies_51 rfl ?_
        refine a_if_lt (pc := 53) (tgt := 69) dX10_canBeSpies_53 (by decide) (fun c8 => ?_) (fun c8 => ?_)
        · skip
          refine a_iconst (pc := 69) dX10_canBeSpies_69 (by decide) ?_
          exact (z_mergeT c8 (z_mergeF c7 J))
        · skip
          refine a_iload (pc := 56) dX10_canBeSpies_56 rfl ?_
          refine a_aload_n (pc := 58) dX10_canBeSpies_58 rfl ?_
          refine a_getI (pc := 59) dX10_canBeSpies_59 fl_X10_295 (go_89) ?_
          refine a_icmp_gt (pc := 62) (tgt := 69) dX10_canBeSpies_62 (by decide) (fun c9 => ?_) (fun c9 => ?_)
          · skip
            refine a_iconst (pc := 69) dX10_canBeSpies_69 (by decide) ?_
            exact (z_mergeT c9 (z_mergeF (Int.not_lt.mpr c8) (z_mergeF c7 J)))
          · skip
            refine a_iconst (pc := 65) dX10_canBeSpies_65 (by decide) ?_
            refine a_goto (pc := 66) (tgt := 70) dX10_canBeSpies_66 (by decide) ?_
            exact (z_mergeF (Int.not_lt.mpr c9) (z_mergeF (Int.not_lt.mpr c8) (z_mergeF c7 J)))
set_option maxRecDepth 20000 in
theorem v_X10_spies {E : zE} {d : Nat} {h : zS} {Q : Int → zS → Prop} {x1 : Int} {x2 : Int}  (H : ((x1 < 0 → (Q (-1) h)) ∧ (0 ≤ x1 → ((x1 ≤ 2 → (zWi E (d + 1) m_X10_spies 16 [vo 89, vi x1, vi x2, vi 0, vi 0, vn, vn, vn] h Q)) ∧ (2 < x1 → (Q (-1) h)))))) : zCi E (d + 1) m_X10_spies [vo 89, vi x1, vi x2] h Q := by
  show zAt E (d + 1) 0 0 m_X10_spies 0 [vo 89, vi x1, vi x2, vn, vn, vn, vn, vn] [] g0 h (zPi Q)
  refine a_iload_n (pc := 0) dX10_spies_0 rfl ?_
  refine a_if_lt (pc := 1) (tgt := 9) dX10_spies_1 (by decide) (fun c => ?_) (fun c => ?_)
  · have H := H.1 c
    refine a_iconst (pc := 9) dX10_spies_9 (by decide) ?_
    exact a_ireturn (pc := 10) dX10_spies_10 trivial ⟨_, rfl, rfl, H⟩
  · have H := H.2 c
    refine a_iload_n (pc := 4) dX10_spies_4 rfl ?_
    refine a_iconst (pc := 5) dX10_spies_5 (by decide) ?_
    refine a_icmp_le (pc := 6) (tgt := 11) dX10_spies_6 (by decide) (fun c => ?_) (fun c => ?_)
    · have H := H.1 c
      refine a_iconst (pc := 11) dX10_spies_11 (by decide) ?_
      refine a_istore_n (pc := 12) (ls' := [vo 89, vi x1, vi x2, vi 0, vn, vn, vn, vn]) dX10_spies_12 rfl rfl ?_
      refine a_iconst (pc := 13) dX10_spies_13 (by decide) ?_
      refine a_istore (pc := 14) (ls' := [vo 89, vi x1, vi x2, vi 0, vi 0, vn, vn, vn]) dX10_spies_14 rfl rfl ?_
      exact H
    · have H := H.2 c
      refine a_iconst (pc := 9) dX10_spies_9 (by decide) ?_
      exact a_ireturn (pc := 10) dX10_spies_10 trivial ⟨_, rfl, rfl, H⟩
set_option maxRecDepth 20000 in
theorem r_X10_spies_16 {E : zE} {d : Nat} {h : zS} {Q : Int → zS → Prop} {x1 : Int} {x2 : Int} {x3 : Int} {x4 : Int}  (H : (((hI h 89 29) ≤ x4 → (zWi E (d + 1) m_X10_spies 65 [vo 89, vi x1, vi x2, vi x3, vi 0, vi x3, vi 0, vi 0] h Q)) ∧ (x4 < (hI h 89 29) → ((0 ≤ x4 ∧ x4 < 12) ∧ (∀ y3 : Int, y3 = z_or x3 (if (hI h 98 x4.toNat) ≠ 3 then (z_shl 1 x4) else 0) → zWi E (d + 1) m_X10_spies 16 [vo 89, vi x1, vi x2, vi y3, vi (w32 (x4 + 1)), vn, vn, vn] h Q))))) : zWi E (d + 1) m_X10_spies 16 [vo 89, vi x1, vi x2, vi x3, vi x4, vn, vn, vn] h Q := by
  refine a_iload (pc := 16) dX10_spies_16 rfl ?_
  refine a_aload_n (pc := 18) dX10_spies_18 rfl ?_
  refine a_getI (pc := 19) dX10_spies_19 fl_X10_289 (go_89) ?_
  refine a_icmp_ge (pc := 22) (tgt := 53) dX10_spies_22 (by decide) (fun c => ?_) (fun c => ?_)
  · have H := H.1 c
    refine a_iconst (pc := 53) dX10_spies_53 (by decide) ?_
    refine a_istore (pc := 54) (ls' := [vo 89, vi x1, vi x2, vi x3, vi 0, vn, vn, vn]) dX10_spies_54 rfl rfl ?_
    refine a_iload_n (pc := 56) dX10_spies_56 rfl ?_
    refine a_istore (pc := 57) (ls' := [vo 89, vi x1, vi x2, vi x3, vi 0, vi x3, vn, vn]) dX10_spies_57 rfl rfl ?_
    refine a_iconst (pc := 59) dX10_spies_59 (by decide) ?_
    refine a_istore (pc := 60) (ls' := [vo 89, vi x1, vi x2, vi x3, vi 0, vi x3, vi 0, vn]) dX10_spies_60 rfl rfl ?_
    refine a_iconst (pc := 62) dX10_spies_62 (by decide) ?_
    refine a_istore (pc := 63) (ls' := [vo 89, vi x1, vi x2, vi x3, vi 0, vi x3, vi 0, vi 0]) dX10_spies_63 rfl rfl ?_
    exact H
  · have H := H.2 c
    refine a_iload_n (pc := 25) dX10_spies_25 rfl ?_
    refine a_aload_n (pc := 26) dX10_spies_26 rfl ?_
    refine a_getF (pc := 27) dX10_spies_27 fl_X10_39 (go_89) (gf_89_17) ?_
    refine a_iload (pc := 30) dX10_spies_30 rfl ?_
    obtain ⟨hb1, H⟩ := H
    refine a_iaload (pc := 32) dX10_spies_32 (ga_98) hb1 ?_
    refine a_iconst (pc := 33) dX10_spies_33 (by decide) ?_
    have J : zAt E (d + 1) 0 0 m_X10_spies 45 [vo 89, vi x1, vi x2, vi x3, vi x4, vn, vn, vn] [vi (if (hI h 98 x4.toNat) ≠ 3 then (z_shl 1 x4) else 0), vi x3] g0 h (zPi Q) := by
      refine a_ior (pc := 45) dX10_spies_45 ?_
      have H := H _ rfl
      generalize (z_or x3 (if (hI h 98 x4.toNat) ≠ 3 then (z_shl 1 x4) else 0) : Int) = y3 at H ⊢
      refine a_istore_n (pc := 46) (ls' := [vo 89, vi x1, vi x2, vi y3, vi x4, vn, vn, vn]) dX10_spies_46 rfl rfl ?_
      refine a_iinc (pc := 47) (ls' := [vo 89, vi x1, vi x2, vi y3, vi (w32 (x4 + 1)), vn, vn, vn]) dX10_spies_47 rfl rfl rfl ?_
      refine a_goto (pc := 50) (tgt := 16) dX10_spies_50 (by decide) ?_
      exact H
    refine a_icmp_ne (pc := 34) (tgt := 41) dX10_spies_34 (by decide) (fun c2 => ?_) (fun c2 => ?_)
    · skip
      refine a_iconst (pc := 41) dX10_spies_41 (by decide) ?_
      refine a_iload (pc := 42) dX10_spies_42 rfl ?_
      refine a_ishl (pc := 44) dX10_spies_44 ?_
      exact (z_mergeT c2 J)
    · skip
      refine a_iconst (pc := 37) dX10_spies_37 (by decide) ?_
      refine a_goto (pc := 38) (tgt := 45) dX10_spies_38 (by decide) ?_
      exact (z_mergeF (fun n => n c2) J)
set_option maxRecDepth 20000 in
theorem r_X10_spies_65 {E : zE} {d : Nat} {h : zS} {Q : Int → zS → Prop} {x1 : Int} {x2 : Int} {x3 : Int} {x4 : Int} {x5 : Int} {x6 : Int} {x7 : Int}  (H : ((x3 < x7 → ((x1 ≠ 0 → ((x4 ≠ 0 → ((x1 ≠ 1 → (Q x6 h)) ∧ (x1 = 1 → (Q x5 h)))) ∧ (x4 = 0 → (Q 0 h)))) ∧ (x1 = 0 → (Q x4 h)))) ∧ (x7 ≤ x3 → (((z_and x7 (z_xor x3 (-1))) ≠ 0 → (zWi E (d + 1) m_X10_spies 65 [vo 89, vi x1, vi x2, vi x3, vi x4, vi x5, vi x6, vi (w32 (x7 + 1))] h Q)) ∧ ((z_and x7 (z_xor x3 (-1))) = 0 → (zCi E d m_X10_ones [vi x7] h (fun y2 h1 => ((3 < y2 → (zWi E (d + 1) m_X10_spies 65 [vo 89, vi x1, vi x2, vi x3, vi x4, vi x5, vi x6, vi (w32 (x7 + 1))] h1 Q)) ∧ (y2 ≤ 3 → (zCi E d m_X10_canBeSpies [vo 89, vi x7, vi x2] h1 (fun y4 h3 => ((y4 ≠ 0 → (zWi E (d + 1) m_X10_spies 65 [vo 89, vi x1, vi x2, vi x3, vi (w32 (x4 + 1)), vi (z_and x5 x7), vi (z_or x6 x7), vi (w32 (x7 + 1))] h3 Q)) ∧ (y4 = 0 → (zWi E (d + 1) m_X10_spies 65 [vo 89, vi x1, vi x2, vi x3, vi x4, vi x5, vi x6, vi (w32 (x7 + 1))] h3 Q)))))))))))))) : zWi E (d + 1) m_X10_spies 65 [vo 89, vi x1, vi x2, vi x3, vi x4, vi x5, vi x6, vi x7] h Q := by
  refine a_iload (pc := 65) dX10_spies_65 rfl ?_
  refine a_iload_n (pc := 67) dX10_spies_67 rfl ?_
  refine a_icmp_gt (pc := 68) (tgt := 125) dX10_spies_68 (by decide) (fun c => ?_) (fun c => ?_)
  · have H := H.1 c
    refine a_iload_n (pc := 125) dX10_spies_125 rfl ?_
    refine a_if_ne (pc := 126) (tgt := 134) dX10_spies_126 (by decide) (fun c => ?_) (fun c => ?_)
    · have H := H.1 c
      refine a_iload (pc := 134) dX10_spies_134 rfl ?_
      refine a_if_ne (pc := 136) (tgt := 143) dX10_spies_136 (by decide) (fun c => ?_) (fun c => ?_)
      · have H := H.1 c
        refine a_iload_n (pc := 143) dX10_spies_143 rfl ?_
        refine a_iconst (pc := 144) dX10_spies_144 (by decide) ?_
        refine a_icmp_ne (pc := 145) (tgt := 153) dX10_spies_145 (by decide) (fun c => ?_) (fun c => ?_)
        · have H := H.1 c
          refine a_iload (pc := 153) dX10_spies_153 rfl ?_
          exact a_ireturn (pc := 155) dX10_spies_155 trivial ⟨_, rfl, rfl, H⟩
        · have H := H.2 c
          refine a_iload (pc := 148) dX10_spies_148 rfl ?_
          refine a_goto (pc := 150) (tgt := 155) dX10_spies_150 (by decide) ?_
          exact a_ireturn (pc := 155) dX10_spies_155 trivial ⟨_, rfl, rfl, H⟩
      · have H := H.2 c
        refine a_iconst (pc := 139) dX10_spies_139 (by decide) ?_
        refine a_goto (pc := 140) (tgt := 155) dX10_spies_140 (by decide) ?_
        exact a_ireturn (pc := 155) dX10_spies_155 trivial ⟨_, rfl, rfl, H⟩
    · have H := H.2 c
      refine a_iload (pc := 129) dX10_spies_129 rfl ?_
      refine a_goto (pc := 131) (tgt := 155) dX10_spies_131 (by decide) ?_
      exact a_ireturn (pc := 155) dX10_spies_155 trivial ⟨_, rfl, rfl, H⟩
  · have H := H.2 c
    refine a_iload (pc := 71) dX10_spies_71 rfl ?_
    refine a_iload_n (pc := 73) dX10_spies_73 rfl ?_
    refine a_iconst (pc := 74) dX10_spies_74 (by decide) ?_
    refine a_ixor (pc := 75) dX10_spies_75 ?_
    refine a_iand (pc := 76) dX10_spies_76 ?_
    refine a_if_ne (pc := 77) (tgt := 119) dX10_spies_77 (by decide) (fun c => ?_) (fun c => ?_)
    · have H := H.1 c
      refine a_iinc (pc := 119) (ls' := [vo 89, vi x1, vi x2, vi x3, vi x4, vi x5, vi x6, vi (w32 (x7 + 1))]) dX10_spies_119 rfl rfl rfl ?_
      refine a_goto (pc := 122) (tgt := 65) dX10_spies_122 (by decide) ?_
      exact H
    · have H := H.2 c
      refine a_iload (pc := 80) dX10_spies_80 rfl ?_
      refine a_callS (pc := 82) (kc := 0) (ks := 0) (kc' := 0) (ks' := 0) (st := []) [vi x7] dX10_spies_82 ml_X10_367 rfl (Nat.le_of_ble_eq_true rfl) (Nat.le_of_ble_eq_true rfl) (z_post H (fun r G1 h1 q => ?_))
      obtain ⟨y2, rfl, rfl, H⟩ := q
      show zAt E (d + 1) 0 0 m_X10_spies 85 [vo 89, vi x1, vi x2, vi x3, vi x4, vi x5, vi x6, vi x7] [vi y2] g0 h1 (zPi Q)
      refine a_iconst (pc := 85) dX10_spies_85 (by decide) ?_
      refine a_icmp_gt (pc := 86) (tgt := 119) dX10_spies_86 (by decide) (fun c => ?_) (fun c => ?_)
      · have H := H.1 c
        refine a_iinc (pc := 119) (ls' := [vo 89, vi x1, vi x2, vi x3, vi x4, vi x5, vi x6, vi (w32 (x7 + 1))]) dX10_spies_119 rfl rfl rfl ?_
        refine a_goto (pc := 122) (tgt := 65) dX10_spies_122 (by decide) ?_
        exact H
      · have H := H.2 c
        refine a_aload_n (pc := 89) dX10_spies_89 rfl ?_
        refine a_iload (pc := 90) dX10_spies_90 rfl ?_
        refine a_iload_n (pc := 92) dX10_spies_92 rfl ?_
        refine a_callV (pc := 93) (kc := 0) (ks := 0) (kc' := 0) (ks' := 0) (st := []) [vi x7, vi x2] dX10_spies_93 ml_X10_431 (go_89) rfl (Nat.le_of_ble_eq_true rfl) (Nat.le_of_ble_eq_true rfl) (z_post H (fun r G1 h3 q => ?_))
        obtain ⟨y4, rfl, rfl, H⟩ := q
        show zAt E (d + 1) 0 0 m_X10_spies 96 [vo 89, vi x1, vi x2, vi x3, vi x4, vi x5, vi x6, vi x7] [vi y4] g0 h3 (zPi Q)
        refine a_if_ne (pc := 96) (tgt := 102) dX10_spies_96 (by decide) (fun c => ?_) (fun c => ?_)
        · have H := H.1 c
          refine a_iinc (pc := 102) (ls' := [vo 89, vi x1, vi x2, vi x3, vi (w32 (x4 + 1)), vi x5, vi x6, vi x7]) dX10_spies_102 rfl rfl rfl ?_
          refine a_iload (pc := 105) dX10_spies_105 rfl ?_
          refine a_iload (pc := 107) dX10_spies_107 rfl ?_
          refine a_iand (pc := 109) dX10_spies_109 ?_
          refine a_istore (pc := 110) (ls' := [vo 89, vi x1, vi x2, vi x3, vi (w32 (x4 + 1)), vi (z_and x5 x7), vi x6, vi x7]) dX10_spies_110 rfl rfl ?_
          refine a_iload (pc := 112) dX10_spies_112 rfl ?_
          refine a_iload (pc := 114) dX10_spies_114 rfl ?_
          refine a_ior (pc := 116) dX10_spies_116 ?_
          refine a_istore (pc := 117) (ls' := [vo 89, vi x1, vi x2, vi x3, vi (w32 (x4 + 1)), vi (z_and x5 x7), vi (z_or x6 x7), vi x7]) dX10_spies_117 rfl rfl ?_
          refine a_iinc (pc := 119) (ls' := [vo 89, vi x1, vi x2, vi x3, vi (w32 (x4 + 1)), vi (z_and x5 x7), vi (z_or x6 x7), vi (w32 (x7 + 1))]) dX10_spies_119 rfl rfl rfl ?_
          refine a_goto (pc := 122) (tgt := 65) dX10_spies_122 (by decide) ?_
          exact H
        · have H := H.2 c
          refine a_goto (pc := 99) (tgt := 119) dX10_spies_99 (by decide) ?_
          refine a_iinc (pc := 119) (ls' := [vo 89, vi x1, vi x2, vi x3, vi x4, vi x5, vi x6, vi (w32 (x7 + 1))]) dX10_spies_119 rfl rfl rfl ?_
          refine a_goto (pc := 122) (tgt := 65) dX10_spies_122 (by decide) ?_
          exact H
set_option maxRecDepth 20000 in
theorem v_X10_isOrigin {E : zE} {d : Nat} {h : zS} {Q : Int → zS → Prop} {x1 : Int} {x2 : Int}  (H : zWi E (d + 1) m_X10_isOrigin 5 [vo 89, vi x1, vi x2, vi 1, vi 0] h Q) : zCi E (d + 1) m_X10_isOrigin [vo 89, vi x1, vi x2] h Q := by
  show zAt E (d + 1) 0 0 m_X10_isOrigin 0 [vo 89, vi x1, vi x2, vn, vn] [] g0 h (zPi Q)
  refine a_iconst (pc := 0) dX10_isOrigin_0 (by decide) ?_
  refine a_istore_n (pc := 1) (ls' := [vo 89, vi x1, vi x2, vi 1, vn]) dX10_isOrigin_1 rfl rfl ?_
  refine a_iconst (pc := 2) dX10_isOrigin_2 (by decide) ?_
  refine a_istore (pc := 3) (ls' := [vo 89, vi x1, vi x2, vi 1, vi 0]) dX10_isOrigin_3 rfl rfl ?_
  exact H
set_option maxRecDepth 20000 in
theorem r_X10_isOrigin_5 {E : zE} {d : Nat} {h : zS} {Q : Int → zS → Prop} {x1 : Int} {x2 : Int} {x3 : Int} {x4 : Int}  (H : (((hI h 89 62) ≤ x4 → ((x3 = 0 ∨ x3 = 1) ∧ Q x3 h)) ∧ (x4 < (hI h 89 62) → ((x3 = 0 → (zWi E (d + 1) m_X10_isOrigin 5 [vo 89, vi x1, vi x2, vi 0, vi (w32 (x4 + 1))] h Q)) ∧ (x3 ≠ 0 → (zCi E d m_X10_counts [vo 89, vi x4, vi 1, vi x2] h (fun y2 h1 => ((y2 ≠ 0 → (0 ≤ x4 ∧ x4 < 40) ∧ (0 ≤ hI h1 126 x4.toNat ∧ hI h1 126 x4.toNat < 12) ∧ (0 ≤ (hI h1 112 (hI h1 126 x4.toNat).toNat) → (0 ≤ x4 ∧ x4 < 40) ∧ (0 ≤ hI h1 126 x4.toNat ∧ hI h1 126 x4.toNat < 12) ∧ (0 ≤ x4 ∧ x4 < 40)))) ∧ (∀ y6 : Int, y6 = (if y2 = 0 then 1 else (if (hI h1 112 (hI h1 126 x4.toNat).toNat) < 0 then 0 else (if (w32 ((hI h1 112 (hI h1 126 x4.toNat).toNat) + x1)) ≠ (hI h1 127 x4.toNat) then 0 else 1))) → zWi E (d + 1) m_X10_isOrigin 5 [vo 89, vi x1, vi x2, vi y6, vi (w32 (x4 + 1))] h1 Q)))))))) : zWi E (d + 1) m_X10_isOrigin 5 [vo 89, vi x1, vi x2, vi x3, vi x4] h Q := by
  refine a_iload (pc := 5) dX10_isOrigin_5 rfl ?_
  refine a_aload_n (pc := 7) dX10_isOrigin_7 rfl ?_
  refine a_getI (pc := 8) dX10_isOrigin_8 fl_X10_305 (go_89) ?_
  refine a_icmp_ge (pc := 11) (tgt := 80) dX10_isOrigin_11 (by decide) (fun c => ?_) (fun c => ?_)
  · have H := H.1 c
    refine a_iload_n (pc := 80) dX10_isOrigin_80 rfl ?_
    obtain ⟨hz, H⟩ := H
    exact a_ireturn (pc := 81) dX10_isOrigin_81 hz ⟨_, rfl, rfl, H⟩
  · have H := H.2 c
    refine a_iload_n (pc := 14) dX10_isOrigin_14 rfl ?_
    refine a_if_eq (pc := 15) (tgt := 72) dX10_isOrigin_15 (by decide) (fun c => ?_) (fun c => ?_)
    · have H := H.1 c
      refine a_iconst (pc := 72) dX10_isOrigin_72 (by decide) ?_
      refine a_istore_n (pc := 73) (ls' := [vo 89, vi x1, vi x2, vi 0, vi x4]) dX10_isOrigin_73 rfl rfl ?_
      refine a_iinc (pc := 74) (ls' := [vo 89, vi x1, vi x2, vi 0, vi (w32 (x4 + 1))]) dX10_isOrigin_74 rfl rfl rfl ?_
      refine a_goto (pc := 77) (tgt := 5) dX10_isOrigin_77 (by decide) ?_
      exact H
    · have H := H.2 c
      refine a_aload_n (pc := 18) dX10_isOrigin_18 rfl ?_
      refine a_iload (pc := 19) dX10_isOrigin_19 rfl ?_
      refine a_iconst (pc := 21) dX10_isOrigin_21 (by decide) ?_
      refine a_iload_n (pc := 22) dX10_isOrigin_22 rfl ?_
      refine a_callV (pc := 23) (kc := 0) (ks := 0) (kc' := 0) (ks' := 0) (st := []) [vi x4, vi 1, vi x2] dX10_isOrigin_23 ml_X10_428 (go_89) rfl (Nat.le_of_ble_eq_true rfl) (Nat.le_of_ble_eq_true rfl) (z_post H (fun r G1 h1 q => ?_))
      obtain ⟨y2, rfl, rfl, H⟩ := q
      show zAt E (d + 1) 0 0 m_X10_isOrigin 26 [vo 89, vi x1, vi x2, vi x3, vi x4] [vi y2] g0 h1 (zPi Q)
      obtain ⟨HS, H⟩ := H
      have J : zAt E (d + 1) 0 0 m_X10_isOrigin 73 [vo 89, vi x1, vi x2, vi x3, vi x4] [vi (if y2 = 0 then 1 else (if (hI h1 112 (hI h1 126 x4.toNat).toNat) < 0 then 0 else (if (w32 ((hI h1 112 (hI h1 126 x4.toNat).toNat) + x1)) ≠ (hI h1 127 x4.toNat) then 0 else 1)))] g0 h1 (zPi Q) := by
        have H := H _ rfl
        generalize ((if y2 = 0 then 1 else (if (hI h1 112 (hI h1 126 x4.toNat).toNat) < 0 then 0 else (if (w32 ((hI h1 112 (hI h1 126 x4.toNat).toNat) + x1)) ≠ (hI h1 127 x4.toNat) then 0 else 1))) : Int) = y6 at H ⊢
        refine a_istore_n (pc := 73) (ls' := [vo 89, vi x1, vi x2, vi y6, vi x4]) dX10_isOrigin_73 rfl rfl ?_
        refine a_iinc (pc := 74) (ls' := [vo 89, vi x1, vi x2, vi y6, vi (w32 (x4 + 1))]) dX10_isOrigin_74 rfl rfl rfl ?_
        refine a_goto (pc := 77) (tgt := 5) dX10_isOrigin_77 (by decide) ?_
        exact H
      refine a_if_eq (pc := 26) (tgt := 68) dX10_isOrigin_26 (by decide) (fun c3 => ?_) (fun c3 => ?_)
      · skip
        refine a_iconst (pc := 68) dX10_isOrigin_68 (by decide) ?_
        refine a_goto (pc := 69) (tgt := 73) dX10_isOrigin_69 (by decide) ?_
        exact (z_mergeT c3 J)
      · have HS := HS c3
        refine a_aload_n (pc := 29) dX10_isOrigin_29 rfl ?_
        refine a_getF (pc := 30) dX10_isOrigin_30 fl_X10_81 (go_89) (gf_89_42) ?_
        refine a_aload_n (pc := 33) dX10_isOrigin_33 rfl ?_
        refine a_getF (pc := 34) dX10_isOrigin_34 fl_X10_123 (go_89) (gf_89_58) ?_
        refine a_iload (pc := 37) dX10_isOrigin_37 rfl ?_
        obtain ⟨HB0, HS⟩ := HS
        refine a_iaload (pc := 39) dX10_isOrigin_39 (ga_126) HB0 ?_
        obtain ⟨HB1, HS⟩ := HS
        refine a_iaload (pc := 40) dX10_isOrigin_40 (ga_112) HB1 ?_
        refine a_if_lt (pc := 41) (tgt := 72) dX10_isOrigin_41 (by decide) (fun c4 => ?_) (fun c4 => ?_)
        · skip
          refine a_iconst (pc := 72) dX10_isOrigin_72 (by decide) ?_
          exact (z_mergeT c4 (z_mergeF c3 J))
        · have HS := HS c4
          refine a_aload_n (pc := 44) dX10_isOrigin_44 rfl ?_
          refine a_getF (pc := 45) dX10_isOrigin_45 fl_X10_81 (go_89) (gf_89_42) ?_
          refine a_aload_n (pc := 48) dX10_isOrigin_48 rfl ?_
          refine a_getF (pc := 49) dX10_isOrigin_49 fl_X10_123 (go_89) (gf_89_58) ?_
          refine a_iload (pc := 52) dX10_isOrigin_52 rfl ?_
          obtain ⟨HB0, HS⟩ := HS
          refine a_iaload (pc := 54) dX10_isOrigin_54 (ga_126) HB0 ?_
          obtain ⟨HB1, HS⟩ := HS
          refine a_iaload (pc := 55) dX10_isOrigin_55 (ga_112) HB1 ?_
          refine a_iload_n (pc := 56) dX10_isOrigin_56 rfl ?_
          refine a_iadd (pc := 57) dX10_isOrigin_57 ?_
          refine a_aload_n (pc := 58) dX10_isOrigin_58 rfl ?_
          refine a_getF (pc := 59) dX10_isOrigin_59 fl_X10_126 (go_89) (gf_89_59) ?_
          refine a_iload (pc := 62) dX10_isOrigin_62 rfl ?_
          have HB2 := HS
          refine a_iaload (pc := 64) dX10_isOrigin_64 (ga_127) HB2 ?_
          refine a_icmp_ne (pc := 65) (tgt := 72) dX10_isOrigin_65 (by decide) (fun c5 => ?_) (fun c5 => ?_)
          · skip
            refine a_iconst (pc := 72) dX10_isOrigin_72 (by decide) ?_
            exact (z_mergeT c5 (z_mergeF (Int.not_lt.mpr c4) (z_mergeF c3 J)))
          · skip
            refine a_iconst (pc := 68) dX10_isOrigin_68 (by decide) ?_
            refine a_goto (pc := 69) (tgt := 73) dX10_isOrigin_69 (by decide) ?_
            exact (z_mergeF (fun n => n c5) (z_mergeF (Int.not_lt.mpr c4) (z_mergeF c3 J)))
set_option maxRecDepth 20000 in
theorem v_X10_origins {E : zE} {d : Nat} {h : zS} {Q : Int → zS → Prop} {x1 : Int} {x2 : Int}  (H : ((x1 < 0 → (Q (-1) h)) ∧ (0 ≤ x1 → ((x1 ≤ 2 → (zWi E (d + 1) m_X10_origins 22 [vo 89, vi x1, vi x2, vi 0, vi 0, vi (-1), vi 0, vn] h Q)) ∧ (2 < x1 → (Q (-1) h)))))) : zCi E (d + 1) m_X10_origins [vo 89, vi x1, vi x2] h Q := by
  show zAt E (d + 1) 0 0 m_X10_origins 0 [vo 89, vi x1, vi x2, vn, vn, vn, vn, vn] [] g0 h (zPi Q)
  refine a_iload_n (pc := 0) dX10_origins_0 rfl ?_
  refine a_if_lt (pc := 1) (tgt := 9) dX10_origins_1 (by decide) (fun c => ?_) (fun c => ?_)
  · have H := H.1 c
    refine a_iconst (pc := 9) dX10_origins_9 (by decide) ?_
    exact a_ireturn (pc := 10) dX10_origins_10 trivial ⟨_, rfl, rfl, H⟩
  · have H := H.2 c
    refine a_iload_n (pc := 4) dX10_origins_4 rfl ?_
    refine a_iconst (pc := 5) dX10_origins_5 (by decide) ?_
    refine a_icmp_le (pc := 6) (tgt := 11) dX10_origins_6 (by decide) (fun c => ?_) (fun c => ?_)
    · have H := H.1 c
      refine a_iconst (pc := 11) dX10_origins_11 (by decide) ?_
      refine a_istore_n (pc := 12) (ls' := [vo 89, vi x1, vi x2, vi 0, vn, vn, vn, vn]) dX10_origins_12 rfl rfl ?_
      refine a_iconst (pc := 13) dX10_origins_13 (by decide) ?_
      refine a_istore (pc := 14) (ls' := [vo 89, vi x1, vi x2, vi 0, vi 0, vn, vn, vn]) dX10_origins_14 rfl rfl ?_
      refine a_iconst (pc := 16) dX10_origins_16 (by decide) ?_
      refine a_istore (pc := 17) (ls' := [vo 89, vi x1, vi x2, vi 0, vi 0, vi (-1), vn, vn]) dX10_origins_17 rfl rfl ?_
      refine a_iconst (pc := 19) dX10_origins_19 (by decide) ?_
      refine a_istore (pc := 20) (ls' := [vo 89, vi x1, vi x2, vi 0, vi 0, vi (-1), vi 0, vn]) dX10_origins_20 rfl rfl ?_
      exact H
    · have H := H.2 c
      refine a_iconst (pc := 9) dX10_origins_9 (by decide) ?_
      exact a_ireturn (pc := 10) dX10_origins_10 trivial ⟨_, rfl, rfl, H⟩
set_option maxRecDepth 20000 in
theorem r_X10_origins_22 {E : zE} {d : Nat} {h : zS} {Q : Int → zS → Prop} {x1 : Int} {x2 : Int} {x3 : Int} {x4 : Int} {x5 : Int} {x6 : Int}  (H : (((hI h 89 29) ≤ x6 → ((x1 ≠ 0 → ((x1 ≠ 1 → (Q x5 h)) ∧ (x1 = 1 → (Q x4 h)))) ∧ (x1 = 0 → (Q x3 h)))) ∧ (x6 < (hI h 89 29) → (zCi E d m_X10_canFall [vo 89, vi x6] h (fun y2 h1 => ((y2 ≠ 0 → (zCv E d m_X10_layFall [vo 89, vi x6] h1 (fun h3 => zWi E (d + 1) m_X10_origins 52 [vo 89, vi x1, vi x2, vi x3, vi x4, vi x5, vi x6, vi 0] h3 Q))) ∧ (y2 = 0 → (zWi E (d + 1) m_X10_origins 22 [vo 89, vi x1, vi x2, vi x3, vi x4, vi x5, vi (w32 (x6 + 1)), vn] h1 Q)))))))) : zWi E (d + 1) m_X10_origins 22 [vo 89, vi x1, vi x2, vi x3, vi x4, vi x5, vi x6, vn] h Q := by
  refine a_iload (pc := 22) dX10_origins_22 rfl ?_
  refine a_aload_n (pc := 24) dX10_origins_24 rfl ?_
  refine a_getI (pc := 25) dX10_origins_25 fl_X10_289 (go_89) ?_
  refine a_icmp_ge (pc := 28) (tgt := 116) dX10_origins_28 (by decide) (fun c => ?_) (fun c => ?_)
  · have H := H.1 c
    refine a_iload_n (pc := 116) dX10_origins_116 rfl ?_
    refine a_if_ne (pc := 117) (tgt := 124) dX10_origins_117 (by decide) (fun c => ?_) (fun c => ?_)
    · have H := H.1 c
      refine a_iload_n (pc := 124) dX10_origins_124 rfl ?_
      refine a_iconst (pc := 125) dX10_origins_125 (by decide) ?_
      refine a_icmp_ne (pc := 126) (tgt := 134) dX10_origins_126 (by decide) (fun c => ?_) (fun c => ?_)
      · have H := H.1 c
        refine a_iload (pc := 134) dX10_origins_134 rfl ?_
        exact a_ireturn (pc := 136) dX10_origins_136 trivial ⟨_, rfl, rfl, H⟩
      · have H := H.2 c
        refine a_iload (pc := 129) dX10_origins_129 rfl ?_
        refine a_goto (pc := 131) (tgt := 136) dX10_origins_131 (by decide) ?_
        exact a_ireturn (pc := 136) dX10_origins_136 trivial ⟨_, rfl, rfl, H⟩
    · have H := H.2 c
      refine a_iload_n (pc := 120) dX10_origins_120 rfl ?_
      refine a_goto (pc := 121) (tgt := 136) dX10_origins_121 (by decide) ?_
      exact a_ireturn (pc := 136) dX10_origins_136 trivial ⟨_, rfl, rfl, H⟩
  · have H := H.2 c
    refine a_aload_n (pc := 31) dX10_origins_31 rfl ?_
    refine a_iload (pc := 32) dX10_origins_32 rfl ?_
    refine a_callV (pc := 34) (kc := 0) (ks := 0) (kc' := 0) (ks' := 0) (st := []) [vi x6] dX10_origins_34 ml_X10_382 (go_89) rfl (Nat.le_of_ble_eq_true rfl) (Nat.le_of_ble_eq_true rfl) (z_post H (fun r G1 h1 q => ?_))
    obtain ⟨y2, rfl, rfl, H⟩ := q
    show zAt E (d + 1) 0 0 m_X10_origins 37 [vo 89, vi x1, vi x2, vi x3, vi x4, vi x5, vi x6, vn] [vi y2] g0 h1 (zPi Q)
    refine a_if_ne (pc := 37) (tgt := 43) dX10_origins_37 (by decide) (fun c => ?_) (fun c => ?_)
    · have H := H.1 c
      refine a_aload_n (pc := 43) dX10_origins_43 rfl ?_
      refine a_iload (pc := 44) dX10_origins_44 rfl ?_
      refine a_callV (pc := 46) (kc := 0) (ks := 0) (kc' := 0) (ks' := 0) (st := []) [vi x6] dX10_origins_46 ml_X10_385 (go_89) rfl (Nat.le_of_ble_eq_true rfl) (Nat.le_of_ble_eq_true rfl) (z_post H (fun r G1 h3 q => ?_))
      obtain ⟨rfl, rfl, H⟩ := q
      show zAt E (d + 1) 0 0 m_X10_origins 49 [vo 89, vi x1, vi x2, vi x3, vi x4, vi x5, vi x6, vn] [] g0 h3 (zPi Q)
      refine a_iconst (pc := 49) dX10_origins_49 (by decide) ?_
      refine a_istore (pc := 50) (ls' := [vo 89, vi x1, vi x2, vi x3, vi x4, vi x5, vi x6, vi 0]) dX10_origins_50 rfl rfl ?_
      exact H
    · have H := H.2 c
      refine a_goto (pc := 40) (tgt := 110) dX10_origins_40 (by decide) ?_
      refine a_iinc (pc := 110) (ls' := [vo 89, vi x1, vi x2, vi x3, vi x4, vi x5, vi (w32 (x6 + 1)), vn]) dX10_origins_110 rfl rfl rfl ?_
      refine a_goto (pc := 113) (tgt := 22) dX10_origins_113 (by decide) ?_
      exact H
set_option maxRecDepth 20000 in
theorem r_X10_origins_52 {E : zE} {d : Nat} {h : zS} {Q : Int → zS → Prop} {x1 : Int} {x2 : Int} {x3 : Int} {x4 : Int} {x5 : Int} {x6 : Int} {x7 : Int}  (H : ((99 < x7 → (zWi E (d + 1) m_X10_origins 22 [vo 89, vi x1, vi x2, vi x3, vi x4, vi x5, vi (w32 (x6 + 1)), vn] h Q)) ∧ (x7 ≤ 99 → (zCi E d m_X10_isOrigin [vo 89, vi x7, vi x2] h (fun y2 h1 => ((y2 ≠ 0 → (∀ y4 : Int, y4 = (if 0 ≤ x5 then x5 else (w32 ((w32 (100 * x6)) + x7))) → zWi E (d + 1) m_X10_origins 52 [vo 89, vi x1, vi x2, vi (w32 (x3 + 1)), vi (z_or x4 (z_shl 1 x6)), vi y4, vi x6, vi (w32 (x7 + 1))] h1 Q)) ∧ (y2 = 0 → (zWi E (d + 1) m_X10_origins 52 [vo 89, vi x1, vi x2, vi x3, vi x4, vi x5, vi x6, vi (w32 (x7 + 1))] h1 Q)))))))) : zWi E (d + 1) m_X10_origins 52 [vo 89, vi x1, vi x2, vi x3, vi x4, vi x5, vi x6, vi x7] h Q := by
  refine a_iload (pc := 52) dX10_origins_52 rfl ?_
  refine a_bipush (pc := 54) dX10_origins_54 (by decide) ?_
  refine a_icmp_gt (pc := 56) (tgt := 110) dX10_origins_56 (by decide) (fun c => ?_) (fun c => ?_)
  · have H := H.1 c
    refine a_iinc (pc := 110) (ls' := [vo 89, vi x1, vi x2, vi x3, vi x4, vi x5, vi (w32 (x6 + 1)), vi x7]) dX10_origins_110 rfl rfl rfl ?_
    refine a_goto (pc := 113) (tgt := 22) dX10_origins_113 (by decide) ?_
    exact z_forget (ls' := [vo 89, vi x1, vi x2, vi x3, vi x4, vi x5, vi (w32 (x6 + 1)), vn]) ⟨.inr rfl, .inr rfl, .inr rfl, .inr rfl, .inr rfl, .inr rfl, .inr rfl, .inl rfl, trivial⟩ H
  · have H := H.2 c
    refine a_aload_n (pc := 59) dX10_origins_59 rfl ?_
    refine a_iload (pc := 60) dX10_origins_60 rfl ?_
    refine a_iload_n (pc := 62) dX10_origins_62 rfl ?_
    refine a_callV (pc := 63) (kc := 0) (ks := 0) (kc' := 0) (ks' := 0) (st := []) [vi x7, vi x2] dX10_origins_63 ml_X10_434 (go_89) rfl (Nat.le_of_ble_eq_true rfl) (Nat.le_of_ble_eq_true rfl) (z_post H (fun r G1 h1 q => ?_))
    obtain ⟨y2, rfl, rfl, H⟩ := q
    show zAt E (d + 1) 0 0 m_X10_origins 66 [vo 89, vi x1, vi x2, vi x3, vi x4, vi x5, vi x6, vi x7] [vi y2] g0 h1 (zPi Q)
    refine a_if_ne (pc := 66) (tgt := 72) dX10_origins_66 (by decide) (fun c => ?_) (fun c => ?_)
    · have H := H.1 c
      refine a_iinc (pc := 72) (ls' := [vo 89, vi x1, vi x2, vi (w32 (x3 + 1)), vi x4, vi x5, vi x6, vi x7]) dX10_origins_72 rfl rfl rfl ?_
      refine a_iload (pc := 75) dX10_origins_75 rfl ?_
      refine a_iconst (pc := 77) dX10_origins_77 (by decide) ?_
      refine a_iload (pc := 78) dX10_origins_78 rfl ?_
      refine a_ishl (pc := 80) dX10_origins_80 ?_
      refine a_ior (pc := 81) dX10_origins_81 ?_
      refine a_istore (pc := 82) (ls' := [vo 89, vi x1, vi x2, vi (w32 (x3 + 1)), vi (z_or x4 (z_shl 1 x6)), vi x5, vi x6, vi x7]) dX10_origins_82 rfl rfl ?_
      refine a_iload (pc := 84) dX10_origins_84 rfl ?_
      have J : zAt E (d + 1) 0 0 m_X10_origins 102 [vo 89, vi x1, vi x2, vi (w32 (x3 + 1)), vi (z_or x4 (z_shl 1 x6)), vi x5, vi x6, vi x7] [vi (if 0 ≤ x5 then x5 else (w32 ((w32 (100 * x6)) + x7)))] g0 h1 (zPi Q) := by
        have H := H _ rfl
        generalize ((if 0 ≤ x5 then x5 else (w32 ((w32 (100 * x6)) + x7))) : Int) = y4 at H ⊢
        refine a_istore (pc := 102) (ls' := [vo 89, vi x1, vi x2, vi (w32 (x3 + 1)), vi (z_or x4 (z_shl 1 x6)), vi y4, vi x6, vi x7]) dX10_origins_102 rfl rfl ?_
        refine a_iinc (pc := 104) (ls' := [vo 89, vi x1, vi x2, vi (w32 (x3 + 1)), vi (z_or x4 (z_shl 1 x6)), vi y4, vi x6, vi (w32 (x7 + 1))]) dX10_origins_104 rfl rfl rfl ?_
        refine a_goto (pc := 107) (tgt := 52) dX10_origins_107 (by decide) ?_
        exact H
      refine a_if_ge (pc := 86) (tgt := 100) dX10_origins_86 (by decide) (fun c3 => ?_) (fun c3 => ?_)
      · skip
        refine a_iload (pc := 100) dX10_origins_100 rfl ?_
        exact (z_mergeT c3 J)
      · skip
        refine a_bipush (pc := 89) dX10_origins_89 (by decide) ?_
        refine a_iload (pc := 91) dX10_origins_91 rfl ?_
        refine a_imul (pc := 93) dX10_origins_93 ?_
        refine a_iload (pc := 94) dX10_origins_94 rfl ?_
        refine a_iadd (pc := 96) dX10_origins_96 ?_
        refine a_goto (pc := 97) (tgt := 102) dX10_origins_97 (by decide) ?_
        exact (z_mergeF (Int.not_le.mpr c3) J)
    · have H := H.2 c
      refine a_goto (pc := 69) (tgt := 104) dX10_origins_69 (by decide) ?_
      refine a_iinc (pc := 104) (ls' := [vo 89, vi x1, vi x2, vi x3, vi x4, vi x5, vi x6, vi (w32 (x7 + 1))]) dX10_origins_104 rfl rfl rfl ?_
      refine a_goto (pc := 107) (tgt := 52) dX10_origins_107 (by decide) ?_
      exact H
set_option maxRecDepth 20000 in
theorem v_X10_isBox {E : zE} {d : Nat} {h : zS} {Q : Int → zS → Prop} {x0 : Int}  (H : ((x0 < 0 → (Q 0 h)) ∧ (0 ≤ x0 → ((3 ≤ x0 → (Q 0 h)) ∧ (x0 < 3 → (Q 1 h)))))) : zCi E d m_X10_isBox [vi x0] h Q := by
  show zAt E d 0 0 m_X10_isBox 0 [vi x0] [] g0 h (zPi Q)
  refine a_iload_n (pc := 0) dX10_isBox_0 rfl ?_
  refine a_if_lt (pc := 1) (tgt := 13) dX10_isBox_1 (by decide) (fun c => ?_) (fun c => ?_)
  · have H := H.1 c
    refine a_iconst (pc := 13) dX10_isBox_13 (by decide) ?_
    exact a_ireturn (pc := 14) dX10_isBox_14 (.inl rfl) ⟨_, rfl, rfl, H⟩
  · have H := H.2 c
    refine a_iload_n (pc := 4) dX10_isBox_4 rfl ?_
    refine a_iconst (pc := 5) dX10_isBox_5 (by decide) ?_
    refine a_icmp_ge (pc := 6) (tgt := 13) dX10_isBox_6 (by decide) (fun c => ?_) (fun c => ?_)
    · have H := H.1 c
      refine a_iconst (pc := 13) dX10_isBox_13 (by decide) ?_
      exact a_ireturn (pc := 14) dX10_isBox_14 (.inl rfl) ⟨_, rfl, rfl, H⟩
    · have H := H.2 c
      refine a_iconst (pc := 9) dX10_isBox_9 (by decide) ?_
      refine a_goto (pc := 10) (tgt := 14) dX10_isBox_10 (by decide) ?_
      exact a_ireturn (pc := 14) dX10_isBox_14 (.inr rfl) ⟨_, rfl, rfl, H⟩
set_option maxRecDepth 20000 in
theorem v_X10_image {E : zE} {d : Nat} {h : zS} {Q : Int → zS → Prop} {x1 : Int}  (H : zCi E d m_X10_isBox [vi x1] h (fun y2 h1 => ((y2 ≠ 0 → ((0 ≤ x1 ∧ x1 < 3) ∧ ∀ h4, h4 = stI h1 130 x1.toNat 1 → (0 ≤ w32 (2 * x1) ∧ w32 (2 * x1) < 6) ∧ ∀ h6, h6 = stI h4 131 (w32 (2 * x1)).toNat (hI h4 89 54) → (0 ≤ w32 ((w32 (2 * x1)) + 1) ∧ w32 ((w32 (2 * x1)) + 1) < 6) ∧ ∀ h8, h8 = stI h6 131 (w32 ((w32 (2 * x1)) + 1)).toNat (hI h6 89 55) → zWi E (d + 1) m_X10_image 44 [vo 89, vi x1, vi 0, vn] h8 Q)) ∧ (y2 = 0 → (Q (-1) h1))))) : zCi E (d + 1) m_X10_image [vo 89, vi x1] h Q := by
  show zAt E (d + 1) 0 0 m_X10_image 0 [vo 89, vi x1, vn, vn] [] g0 h (zPi Q)
  refine a_iload_n (pc := 0) dX10_image_0 rfl ?_
  refine a_callS (pc := 1) (kc := 0) (ks := 0) (kc' := 0) (ks' := 0) (st := []) [vi x1] dX10_image_1 ml_X10_437 rfl (Nat.le_of_ble_eq_true rfl) (Nat.le_of_ble_eq_true rfl) (z_post H (fun r G1 h1 q => ?_))
  obtain ⟨y2, rfl, rfl, H⟩ := q
  show zAt E (d + 1) 0 0 m_X10_image 4 [vo 89, vi x1, vn, vn] [vi y2] g0 h1 (zPi Q)
  refine a_if_ne (pc := 4) (tgt := 9) dX10_image_4 (by decide) (fun c => ?_) (fun c => ?_)
  · have H := H.1 c
    refine a_aload_n (pc := 9) dX10_image_9 rfl ?_
    refine a_getF (pc := 10) dX10_image_10 fl_X10_135 (go_89) (gf_89_64) ?_
    refine a_iload_n (pc := 13) dX10_image_13 rfl ?_
    refine a_iconst (pc := 14) dX10_image_14 (by decide) ?_
    obtain ⟨hb3, H⟩ := H
    refine a_zastore (pc := 15) dX10_image_15 (ga_130) hb3 (by decide) ?_
    have H := H _ rfl
    generalize stI h1 130 x1.toNat 1 = h4 at H ⊢
    refine a_aload_n (pc := 16) dX10_image_16 rfl ?_
    refine a_getF (pc := 17) dX10_image_17 fl_X10_139 (go_89) (gf_89_65) ?_
    refine a_iconst (pc := 20) dX10_image_20 (by decide) ?_
    refine a_iload_n (pc := 21) dX10_image_21 rfl ?_
    refine a_imul (pc := 22) dX10_image_22 ?_
    refine a_aload_n (pc := 23) dX10_image_23 rfl ?_
    refine a_getI (pc := 24) dX10_image_24 fl_X10_388 (go_89) ?_
    obtain ⟨hb5, H⟩ := H
    refine a_iastore (pc := 27) dX10_image_27 (ga_131) hb5 ?_
    have H := H _ rfl
    generalize stI h4 131 (w32 (2 * x1)).toNat (hI h4 89 54) = h6 at H ⊢
    refine a_aload_n (pc := 28) dX10_image_28 rfl ?_
    refine a_getF (pc := 29) dX10_image_29 fl_X10_139 (go_89) (gf_89_65) ?_
    refine a_iconst (pc := 32) dX10_image_32 (by decide) ?_
    refine a_iload_n (pc := 33) dX10_image_33 rfl ?_
    refine a_imul (pc := 34) dX10_image_34 ?_
    refine a_iconst (pc := 35) dX10_image_35 (by decide) ?_
    refine a_iadd (pc := 36) dX10_image_36 ?_
    refine a_aload_n (pc := 37) dX10_image_37 rfl ?_
    refine a_getI (pc := 38) dX10_image_38 fl_X10_391 (go_89) ?_
    obtain ⟨hb7, H⟩ := H
    refine a_iastore (pc := 41) dX10_image_41 (ga_131) hb7 ?_
    have H := H _ rfl
    generalize stI h6 131 (w32 ((w32 (2 * x1)) + 1)).toNat (hI h6 89 55) = h8 at H ⊢
    refine a_iconst (pc := 42) dX10_image_42 (by decide) ?_
    refine a_istore_n (pc := 43) (ls' := [vo 89, vi x1, vi 0, vn]) dX10_image_43 rfl rfl ?_
    exact H
  · have H := H.2 c
    refine a_iconst (pc := 7) dX10_image_7 (by decide) ?_
    exact a_ireturn (pc := 8) dX10_image_8 trivial ⟨_, rfl, rfl, H⟩
set_option maxRecDepth 20000 in
theorem r_X10_image_44 {E : zE} {d : Nat} {h : zS} {Q : Int → zS → Prop} {x1 : Int} {x2 : Int}  (H : ((12 ≤ x2 → (zWi E (d + 1) m_X10_image 107 [vo 89, vi x1, vi 0, vn] h Q)) ∧ (x2 < 12 → (∀ y1 : Int, y1 = w32 (3 * (w32 ((w32 (12 * x1)) + x2))) → (0 ≤ x2 ∧ x2 < 12) ∧ (0 ≤ y1 ∧ y1 < 108) ∧ ∀ h4, h4 = stI h 132 y1.toNat (hI h 115 x2.toNat) → (0 ≤ w32 (y1 + 1) ∧ w32 (y1 + 1) < 108) ∧ ∀ h6, h6 = stI h4 132 (w32 (y1 + 1)).toNat (hI h4 116 x2.toNat) → (0 ≤ w32 (y1 + 2) ∧ w32 (y1 + 2) < 108) ∧ ∀ h8, h8 = stI h6 132 (w32 (y1 + 2)).toNat (hI h6 117 x2.toNat) → zWi E (d + 1) m_X10_image 44 [vo 89, vi x1, vi (w32 (x2 + 1)), vn] h8 Q)))) : zWi E (d + 1) m_X10_image 44 [vo 89, vi x1, vi x2, vn] h Q := by
  refine a_iload_n (pc := 44) dX10_image_44 rfl ?_
  refine a_bipush (pc := 45) dX10_image_45 (by decide) ?_
  refine a_icmp_ge (pc := 47) (tgt := 105) dX10_image_47 (by decide) (fun c => ?_) (fun c => ?_)
  · have H := H.1 c
    refine a_iconst (pc := 105) dX10_image_105 (by decide) ?_
    refine a_istore_n (pc := 106) (ls' := [vo 89, vi x1, vi 0, vn]) dX10_image_106 rfl rfl ?_
    exact H
  · have H := H.2 c
    refine a_iconst (pc := 50) dX10_image_50 (by decide) ?_
    refine a_bipush (pc := 51) dX10_image_51 (by decide) ?_
    refine a_iload_n (pc := 53) dX10_image_53 rfl ?_
    refine a_imul (pc := 54) dX10_image_54 ?_
    refine a_iload_n (pc := 55) dX10_image_55 rfl ?_
    refine a_iadd (pc := 56) dX10_image_56 ?_
    refine a_imul (pc := 57) dX10_image_57 ?_
    have H := H _ rfl
    generalize (w32 (3 * (w32 ((w32 (12 * x1)) + x2))) : Int) = y1 at H ⊢
    refine a_istore_n (pc := 58) (ls' := [vo 89, vi x1, vi x2, vi y1]) dX10_image_58 rfl rfl ?_
    refine a_aload_n (pc := 59) dX10_image_59 rfl ?_
    refine a_getF (pc := 60) dX10_image_60 fl_X10_142 (go_89) (gf_89_66) ?_
    refine a_iload_n (pc := 63) dX10_image_63 rfl ?_
    refine a_aload_n (pc := 64) dX10_image_64 rfl ?_
    refine a_getF (pc := 65) dX10_image_65 fl_X10_90 (go_89) (gf_89_45) ?_
    refine a_iload_n (pc := 68) dX10_image_68 rfl ?_
    obtain ⟨hb2, H⟩ := H
    refine a_iaload (pc := 69) dX10_image_69 (ga_115) hb2 ?_
    obtain ⟨hb3, H⟩ := H
    refine a_iastore (pc := 70) dX10_image_70 (ga_132) hb3 ?_
    have H := H _ rfl
    generalize stI h 132 y1.toNat (hI h 115 x2.toNat) = h4 at H ⊢
    refine a_aload_n (pc := 71) dX10_image_71 rfl ?_
    refine a_getF (pc := 72) dX10_image_72 fl_X10_142 (go_89) (gf_89_66) ?_
    refine a_iload_n (pc := 75) dX10_image_75 rfl ?_
    refine a_iconst (pc := 76) dX10_image_76 (by decide) ?_
    refine a_iadd (pc := 77) dX10_image_77 ?_
    refine a_aload_n (pc := 78) dX10_image_78 rfl ?_
    refine a_getF (pc := 79) dX10_image_79 fl_X10_93 (go_89) (gf_89_46) ?_
    refine a_iload_n (pc := 82) dX10_image_82 rfl ?_
    refine a_iaload (pc := 83) dX10_image_83 (ga_116) hb2 ?_
    obtain ⟨hb5, H⟩ := H
    refine a_iastore (pc := 84) dX10_image_84 (ga_132) hb5 ?_
    have H := H _ rfl
    generalize stI h4 132 (w32 (y1 + 1)).toNat (hI h4 116 x2.toNat) = h6 at H ⊢
    refine a_aload_n (pc := 85) dX10_image_85 rfl ?_
    refine a_getF (pc := 86) dX10_image_86 fl_X10_142 (go_89) (gf_89_66) ?_
    refine a_iload_n (pc := 89) dX10_image_89 rfl ?_
    refine a_iconst (pc := 90) dX10_image_90 (by decide) ?_
    refine a_iadd (pc := 91) dX10_image_91 ?_
    refine a_aload_n (pc := 92) dX10_image_92 rfl ?_
    refine a_getF (pc := 93) dX10_image_93 fl_X10_96 (go_89) (gf_89_47) ?_
    refine a_iload_n (pc := 96) dX10_image_96 rfl ?_
    refine a_iaload (pc := 97) dX10_image_97 (ga_117) hb2 ?_
    obtain ⟨hb7, H⟩ := H
    refine a_iastore (pc := 98) dX10_image_98 (ga_132) hb7 ?_
    have H := H _ rfl
    generalize stI h6 132 (w32 (y1 + 2)).toNat (hI h6 117 x2.toNat) = h8 at H ⊢
    refine a_iinc (pc := 99) (ls' := [vo 89, vi x1, vi (w32 (x2 + 1)), vi y1]) dX10_image_99 rfl rfl rfl ?_
    refine a_goto (pc := 102) (tgt := 44) dX10_image_102 (by decide) ?_
    exact z_forget (ls' := [vo 89, vi x1, vi (w32 (x2 + 1)), vn]) ⟨.inr rfl, .inr rfl, .inr rfl, .inl rfl, trivial⟩ H
set_option maxRecDepth 20000 in
theorem r_X10_image_107 {E : zE} {d : Nat} {h : zS} {Q : Int → zS → Prop} {x1 : Int} {x2 : Int}  (H : ((144 ≤ x2 → (zWi E (d + 1) m_X10_image 140 [vo 89, vi x1, vi 0, vn] h Q)) ∧ (x2 < 144 → ((0 ≤ x2 ∧ x2 < 144) ∧ (0 ≤ w32 ((w32 (144 * x1)) + x2) ∧ w32 ((w32 (144 * x1)) + x2) < 432) ∧ ∀ h3, h3 = stI h 133 (w32 ((w32 (144 * x1)) + x2)).toNat (hI h 118 x2.toNat) → zWi E (d + 1) m_X10_image 107 [vo 89, vi x1, vi (w32 (x2 + 1)), vn] h3 Q)))) : zWi E (d + 1) m_X10_image 107 [vo 89, vi x1, vi x2, vn] h Q := by
  refine a_iload_n (pc := 107) dX10_image_107 rfl ?_
  refine a_sipush (pc := 108) dX10_image_108 (by decide) ?_
  refine a_icmp_ge (pc := 111) (tgt := 138) dX10_image_111 (by decide) (fun c => ?_) (fun c => ?_)
  · have H := H.1 c
    refine a_iconst (pc := 138) dX10_image_138 (by decide) ?_
    refine a_istore_n (pc := 139) (ls' := [vo 89, vi x1, vi 0, vn]) dX10_image_139 rfl rfl ?_
    exact H
  · have H := H.2 c
    refine a_aload_n (pc := 114) dX10_image_114 rfl ?_
    refine a_getF (pc := 115) dX10_image_115 fl_X10_145 (go_89) (gf_89_67) ?_
    refine a_sipush (pc := 118) dX10_image_118 (by decide) ?_
    refine a_iload_n (pc := 121) dX10_image_121 rfl ?_
    refine a_imul (pc := 122) dX10_image_122 ?_
    refine a_iload_n (pc := 123) dX10_image_123 rfl ?_
    refine a_iadd (pc := 124) dX10_image_124 ?_
    refine a_aload_n (pc := 125) dX10_image_125 rfl ?_
    refine a_getF (pc := 126) dX10_image_126 fl_X10_99 (go_89) (gf_89_48) ?_
    refine a_iload_n (pc := 129) dX10_image_129 rfl ?_
    obtain ⟨hb1, H⟩ := H
    refine a_iaload (pc := 130) dX10_image_130 (ga_118) hb1 ?_
    obtain ⟨hb2, H⟩ := H
    refine a_iastore (pc := 131) dX10_image_131 (ga_133) hb2 ?_
    have H := H _ rfl
    generalize stI h 133 (w32 ((w32 (144 * x1)) + x2)).toNat (hI h 118 x2.toNat) = h3 at H ⊢
    refine a_iinc (pc := 132) (ls' := [vo 89, vi x1, vi (w32 (x2 + 1)), vn]) dX10_image_132 rfl rfl rfl ?_
    refine a_goto (pc := 135) (tgt := 107) dX10_image_135 (by decide) ?_
    exact H
set_option maxRecDepth 20000 in
theorem r_X10_image_140 {E : zE} {d : Nat} {h : zS} {Q : Int → zS → Prop} {x1 : Int} {x2 : Int}  (H : ((12 ≤ x2 → (Q (hI h 89 54) h)) ∧ (x2 < 12 → (∀ y1 : Int, y1 = w32 (5 * (w32 ((w32 (12 * x1)) + x2))) → (0 ≤ x2 ∧ x2 < 12) ∧ (0 ≤ y1 ∧ y1 < 180) ∧ ∀ h4, h4 = stI h 134 y1.toNat (hI h 119 x2.toNat) → (0 ≤ w32 (y1 + 1) ∧ w32 (y1 + 1) < 180) ∧ ∀ h6, h6 = stI h4 134 (w32 (y1 + 1)).toNat (hI h4 120 x2.toNat) → (0 ≤ w32 (y1 + 2) ∧ w32 (y1 + 2) < 180) ∧ ∀ h8, h8 = stI h6 134 (w32 (y1 + 2)).toNat (hI h6 121 x2.toNat) → (0 ≤ w32 (y1 + 3) ∧ w32 (y1 + 3) < 180) ∧ ∀ h10, h10 = stI h8 134 (w32 (y1 + 3)).toNat (hI h8 122 x2.toNat) → (0 ≤ w32 (y1 + 4) ∧ w32 (y1 + 4) < 180) ∧ ∀ h12, h12 = stI h10 134 (w32 (y1 + 4)).toNat (hI h10 123 x2.toNat) → zWi E (d + 1) m_X10_image 140 [vo 89, vi x1, vi (w32 (x2 + 1)), vn] h12 Q)))) : zWi E (d + 1) m_X10_image 140 [vo 89, vi x1, vi x2, vn] h Q := by
  refine a_iload_n (pc := 140) dX10_image_140 rfl ?_
  refine a_bipush (pc := 141) dX10_image_141 (by decide) ?_
  refine a_icmp_ge (pc := 143) (tgt := 229) dX10_image_143 (by decide) (fun c => ?_) (fun c => ?_)
  · have H := H.1 c
    refine a_aload_n (pc := 229) dX10_image_229 rfl ?_
    refine a_getI (pc := 230) dX10_image_230 fl_X10_388 (go_89) ?_
    exact a_ireturn (pc := 233) dX10_image_233 trivial ⟨_, rfl, rfl, H⟩
  · have H := H.2 c
    refine a_iconst (pc := 146) dX10_image_146 (by decide) ?_
    refine a_bipush (pc := 147) dX10_image_147 (by decide) ?_
    refine a_iload_n (pc := 149) dX10_image_149 rfl ?_
    refine a_imul (pc := 150) dX10_image_150 ?_
    refine a_iload_n (pc := 151) dX10_image_151 rfl ?_
    refine a_iadd (pc := 152) dX10_image_152 ?_
    refine a_imul (pc := 153) dX10_image_153 ?_
    have H := H _ rfl
    generalize (w32 (5 * (w32 ((w32 (12 * x1)) + x2))) : Int) = y1 at H ⊢
    refine a_istore_n (pc := 154) (ls' := [vo 89, vi x1, vi x2, vi y1]) dX10_image_154 rfl rfl ?_
    refine a_aload_n (pc := 155) dX10_image_155 rfl ?_
    refine a_getF (pc := 156) dX10_image_156 fl_X10_148 (go_89) (gf_89_68) ?_
    refine a_iload_n (pc := 159) dX10_image_159 rfl ?_
    refine a_aload_n (pc := 160) dX10_image_160 rfl ?_
    refine a_getF (pc := 161) dX10_image_161 fl_X10_102 (go_89) (gf_89_49) ?_
    refine a_iload_n (pc := 164) dX10_image_164 rfl ?_
    obtain ⟨hb2, H⟩ := H
    refine a_iaload (pc := 165) dX10_image_165 (ga_119) hb2 ?_
    obtain ⟨hb3, H⟩ := H
    refine a_iastore (pc := 166) dX10_image_166 (ga_134) hb3 ?_
    have H := H _ rfl
    generalize stI h 134 y1.toNat (hI h 119 x2.toNat) = h4 at H ⊢
    refine a_aload_n (pc := 167) dX10_image_167 rfl ?_
    refine a_getF (pc := 168) dX10_image_168 fl_X10_148 (go_89) (gf_89_68) ?_
    refine a_iload_n (pc := 171) dX10_image_171 rfl ?_
    refine a_iconst (pc := 172) dX10_image_172 (by decide) ?_
    refine a_iadd (pc := 173) dX10_image_173 ?_
    refine a_aload_n (pc := 174) dX10_image_174 rfl ?_
    refine a_getF (pc := 175) dX10_image_175 fl_X10_105 (go_89) (gf_89_50) ?_
    refine a_iload_n (pc := 178) dX10_image_178 rfl ?_
    refine a_iaload (pc := 179) dX10_image_179 (ga_120) hb2 ?_
    obtain ⟨hb5, H⟩ := H
    refine a_iastore (pc := 180) dX10_image_180 (ga_134) hb5 ?_
    have H := H _ rfl
    generalize stI h4 134 (w32 (y1 + 1)).toNat (hI h4 120 x2.toNat) = h6 at H ⊢
    refine a_aload_n (pc := 181) dX10_image_181 rfl ?_
    refine a_getF (pc := 182) dX10_image_182 fl_X10_148 (go_89) (gf_89_68) ?_
    refine a_iload_n (pc := 185) dX10_image_185 rfl ?_
    refine a_iconst (pc := 186) dX10_image_186 (by decide) ?_
    refine a_iadd (pc := 187) dX10_image_187 ?_
    refine a_aload_n (pc := 188) dX10_image_188 rfl ?_
    refine a_getF (pc := 189) dX10_image_189 fl_X10_108 (go_89) (gf_89_51) ?_
    refine a_iload_n (pc := 192) dX10_image_192 rfl ?_
    refine a_iaload (pc := 193) dX10_image_193 (ga_121) hb2 ?_
    obtain ⟨hb7, H⟩ := H
    refine a_iastore (pc := 194) dX10_image_194 (ga_134) hb7 ?_
    have H := H _ rfl
    generalize stI h6 134 (w32 (y1 + 2)).toNat (hI h6 121 x2.toNat) = h8 at H ⊢
    refine a_aload_n (pc := 195) dX10_image_195 rfl ?_
    refine a_getF (pc := 196) dX10_image_196 fl_X10_148 (go_89) (gf_89_68) ?_
    refine a_iload_n (pc := 199) dX10_image_199 rfl ?_
    refine a_iconst (pc := 200) dX10_image_200 (by decide) ?_
    refine a_iadd (pc := 201) dX10_image_201 ?_
    refine a_aload_n (pc := 202) dX10_image_202 rfl ?_
    refine a_getF (pc := 203) dX10_image_203 fl_X10_111 (go_89) (gf_89_52) ?_
    refine a_iload_n (pc := 206) dX10_image_206 rfl ?_
    refine a_iaload (pc := 207) dX10_image_207 (ga_122) hb2 ?_
    obtain ⟨hb9, H⟩ := H
    refine a_iastore (pc := 208) dX10_image_208 (ga_134) hb9 ?_
    have H := H _ rfl
    generalize stI h8 134 (w32 (y1 + 3)).toNat (hI h8 122 x2.toNat) = h10 at H ⊢
    refine a_aload_n (pc := 209) dX10_image_209 rfl ?_
    refine a_getF (pc := 210) dX10_image_210 fl_X10_148 (go_89) (gf_89_68) ?_
    refine a_iload_n (pc := 213) dX10_image_213 rfl ?_
    refine a_iconst (pc := 214) dX10_image_214 (by decide) ?_
    refine a_iadd (pc := 215) dX10_image_215 ?_
    refine a_aload_n (pc := 216) dX10_image_216 rfl ?_
    refine a_getF (pc := 217) dX10_image_217 fl_X10_114 (go_89) (gf_89_53) ?_
    refine a_iload_n (pc := 220) dX10_image_220 rfl ?_
    refine a_iaload (pc := 221) dX10_image_221 (ga_123) hb2 ?_
    obtain ⟨hb11, H⟩ := H
    refine a_iastore (pc := 222) dX10_image_222 (ga_134) hb11 ?_
    have H := H _ rfl
    generalize stI h10 134 (w32 (y1 + 4)).toNat (hI h10 123 x2.toNat) = h12 at H ⊢
    refine a_iinc (pc := 223) (ls' := [vo 89, vi x1, vi (w32 (x2 + 1)), vi y1]) dX10_image_223 rfl rfl rfl ?_
    refine a_goto (pc := 226) (tgt := 140) dX10_image_226 (by decide) ?_
    exact z_forget (ls' := [vo 89, vi x1, vi (w32 (x2 + 1)), vn]) ⟨.inr rfl, .inr rfl, .inr rfl, .inl rfl, trivial⟩ H
set_option maxRecDepth 20000 in
theorem v_X10_back {E : zE} {d : Nat} {h : zS} {Q : Int → zS → Prop} {x1 : Int}  (H : zCi E d m_X10_isBox [vi x1] h (fun y2 h1 => ((y2 = 0 → (Q (-1) h1)) ∧ (y2 ≠ 0 → ((0 ≤ x1 ∧ x1 < 3) ∧ (((hI h1 130 x1.toNat) ≠ 0 → ((0 ≤ w32 (2 * x1) ∧ w32 (2 * x1) < 6) ∧ ∀ h5, h5 = stI h1 89 54 (hI h1 131 (w32 (2 * x1)).toNat) → (0 ≤ w32 ((w32 (2 * x1)) + 1) ∧ w32 ((w32 (2 * x1)) + 1) < 6) ∧ ∀ h7, h7 = stI h5 89 55 (hI h5 131 (w32 ((w32 (2 * x1)) + 1)).toNat) → zWi E (d + 1) m_X10_back 46 [vo 89, vi x1, vi 0, vn] h7 Q)) ∧ ((hI h1 130 x1.toNat) = 0 → (Q (-1) h1)))))))) : zCi E (d + 1) m_X10_back [vo 89, vi x1] h Q := by
  show zAt E (d + 1) 0 0 m_X10_back 0 [vo 89, vi x1, vn, vn] [] g0 h (zPi Q)
  refine a_iload_n (pc := 0) dX10_back_0 rfl ?_
  refine a_callS (pc := 1) (kc := 0) (ks := 0) (kc' := 0) (ks' := 0) (st := []) [vi x1] dX10_back_1 ml_X10_437 rfl (Nat.le_of_ble_eq_true rfl) (Nat.le_of_ble_eq_true rfl) (z_post H (fun r G1 h1 q => ?_))
  obtain ⟨y2, rfl, rfl, H⟩ := q
  show zAt E (d + 1) 0 0 m_X10_back 4 [vo 89, vi x1, vn, vn] [vi y2] g0 h1 (zPi Q)
  refine a_if_eq (pc := 4) (tgt := 16) dX10_back_4 (by decide) (fun c => ?_) (fun c => ?_)
  · have H := H.1 c
    refine a_iconst (pc := 16) dX10_back_16 (by decide) ?_
    exact a_ireturn (pc := 17) dX10_back_17 trivial ⟨_, rfl, rfl, H⟩
  · have H := H.2 c
    refine a_aload_n (pc := 7) dX10_back_7 rfl ?_
    refine a_getF (pc := 8) dX10_back_8 fl_X10_135 (go_89) (gf_89_64) ?_
    refine a_iload_n (pc := 11) dX10_back_11 rfl ?_
    obtain ⟨hb3, H⟩ := H
    refine a_zaload (pc := 12) dX10_back_12 (ga_130) hb3 ?_
    refine a_if_ne (pc := 13) (tgt := 18) dX10_back_13 (by decide) (fun c => ?_) (fun c => ?_)
    · have H := H.1 c
      refine a_aload_n (pc := 18) dX10_back_18 rfl ?_
      refine a_aload_n (pc := 19) dX10_back_19 rfl ?_
      refine a_getF (pc := 20) dX10_back_20 fl_X10_139 (go_89) (gf_89_65) ?_
      refine a_iconst (pc := 23) dX10_back_23 (by decide) ?_
      refine a_iload_n (pc := 24) dX10_back_24 rfl ?_
      refine a_imul (pc := 25) dX10_back_25 ?_
      obtain ⟨hb4, H⟩ := H
      refine a_iaload (pc := 26) dX10_back_26 (ga_131) hb4 ?_
      refine a_putI (pc := 27) dX10_back_27 fl_X10_388 (go_89) ?_
      have H := H _ rfl
      generalize stI h1 89 54 (hI h1 131 (w32 (2 * x1)).toNat) = h5 at H ⊢
      refine a_aload_n (pc := 30) dX10_back_30 rfl ?_
      refine a_aload_n (pc := 31) dX10_back_31 rfl ?_
      refine a_getF (pc := 32) dX10_back_32 fl_X10_139 (go_89) (gf_89_65) ?_
      refine a_iconst (pc := 35) dX10_back_35 (by decide) ?_
      refine a_iload_n (pc := 36) dX10_back_36 rfl ?_
      refine a_imul (pc := 37) dX10_back_37 ?_
      refine a_iconst (pc := 38) dX10_back_38 (by decide) ?_
      refine a_iadd (pc := 39) dX10_back_39 ?_
      obtain ⟨hb6, H⟩ := H
      refine a_iaload (pc := 40) dX10_back_40 (ga_131) hb6 ?_
      refine a_putI (pc := 41) dX10_back_41 fl_X10_391 (go_89) ?_
      have H := H _ rfl
      generalize stI h5 89 55 (hI h5 131 (w32 ((w32 (2 * x1)) + 1)).toNat) = h7 at H ⊢
      refine a_iconst (pc := 44) dX10_back_44 (by decide) ?_
      refine a_istore_n (pc := 45) (ls' := [vo 89, vi x1, vi 0, vn]) dX10_back_45 rfl rfl ?_
      exact H
    · have H := H.2 c
      refine a_iconst (pc := 16) dX10_back_16 (by decide) ?_
      exact a_ireturn (pc := 17) dX10_back_17 trivial ⟨_, rfl, rfl, H⟩
set_option maxRecDepth 20000 in
theorem r_X10_back_46 {E : zE} {d : Nat} {h : zS} {Q : Int → zS → Prop} {x1 : Int} {x2 : Int}  (H : ((12 ≤ x2 → (zWi E (d + 1) m_X10_back 109 [vo 89, vi x1, vi 0, vn] h Q)) ∧ (x2 < 12 → (∀ y1 : Int, y1 = w32 (3 * (w32 ((w32 (12 * x1)) + x2))) → (0 ≤ y1 ∧ y1 < 108) ∧ (0 ≤ x2 ∧ x2 < 12) ∧ ∀ h4, h4 = stI h 115 x2.toNat (hI h 132 y1.toNat) → (0 ≤ w32 (y1 + 1) ∧ w32 (y1 + 1) < 108) ∧ ∀ h6, h6 = stI h4 116 x2.toNat (hI h4 132 (w32 (y1 + 1)).toNat) → (0 ≤ w32 (y1 + 2) ∧ w32 (y1 + 2) < 108) ∧ ∀ h8, h8 = stI h6 117 x2.toNat (hI h6 132 (w32 (y1 + 2)).toNat) → zWi E (d + 1) m_X10_back 46 [vo 89, vi x1, vi (w32 (x2 + 1)), vn] h8 Q)))) : zWi E (d + 1) m_X10_back 46 [vo 89, vi x1, vi x2, vn] h Q := by
  refine a_iload_n (pc := 46) dX10_back_46 rfl ?_
  refine a_bipush (pc := 47) dX10_back_47 (by decide) ?_
  refine a_icmp_ge (pc := 49) (tgt := 107) dX10_back_49 (by decide) (fun c => ?_) (fun c => ?_)
  · have H := H.1 c
    refine a_iconst (pc := 107) dX10_back_107 (by decide) ?_
    refine a_istore_n (pc := 108) (ls' := [vo 89, vi x1, vi 0, vn]) dX10_back_108 rfl rfl ?_
    exact H
  · have H := H.2 c
    refine a_iconst (pc := 52) dX10_back_52 (by decide) ?_
    refine a_bipush (pc := 53) dX10_back_53 (by decide) ?_
    refine a_iload_n (pc := 55) dX10_back_55 rfl ?_
    refine a_imul (pc := 56) dX10_back_56 ?_
    refine a_iload_n (pc := 57) dX10_back_57 rfl ?_
    refine a_iadd (pc := 58) dX10_back_58 ?_
    refine a_imul (pc := 59) dX10_back_59 ?_
    have H := H _ rfl
    generalize (w32 (3 * (w32 ((w32 (12 * x1)) + x2))) : Int) = y1 at H ⊢
    refine a_istore_n (pc := 60) (ls' := [vo 89, vi x1, vi x2, vi y1]) dX10_back_60 rfl rfl ?_
    refine a_aload_n (pc := 61) dX10_back_61 rfl ?_
    refine a_getF (pc := 62) dX10_back_62 fl_X10_90 (go_89) (gf_89_45) ?_
    refine a_iload_n (pc := 65) dX10_back_65 rfl ?_
    refine a_aload_n (pc := 66) dX10_back_66 rfl ?_
    refine a_getF (pc := 67) dX10_back_67 fl_X10_142 (go_89) (gf_89_66) ?_
    refine a_iload_n (pc := 70) dX10_back_70 rfl ?_
    obtain ⟨hb2, H⟩ := H
    refine a_iaload (pc := 71) dX10_back_71 (ga_132) hb2 ?_
    obtain ⟨hb3, H⟩ := H
    refine a_iastore (pc := 72) dX10_back_72 (ga_115) hb3 ?_
    have H := H _ rfl
    generalize stI h 115 x2.toNat (hI h 132 y1.toNat) = h4 at H ⊢
    refine a_aload_n (pc := 73) dX10_back_73 rfl ?_
    refine a_getF (pc := 74) dX10_back_74 fl_X10_93 (go_89) (gf_89_46) ?_
    refine a_iload_n (pc := 77) dX10_back_77 rfl ?_
    refine a_aload_n (pc := 78) dX10_back_78 rfl ?_
    refine a_getF (pc := 79) dX10_back_79 fl_X10_142 (go_89) (gf_89_66) ?_
    refine a_iload_n (pc := 82) dX10_back_82 rfl ?_
    refine a_iconst (pc := 83) dX10_back_83 (by decide) ?_
    refine a_iadd (pc := 84) dX10_back_84 ?_
    obtain ⟨hb5, H⟩ := H
    refine a_iaload (pc := 85) dX10_back_85 (ga_132) hb5 ?_
    refine a_iastore (pc := 86) dX10_back_86 (ga_116) hb3 ?_
    have H := H _ rfl
    generalize stI h4 116 x2.toNat (hI h4 132 (w32 (y1 + 1)).toNat) = h6 at H ⊢
    refine a_aload_n (pc := 87) dX10_back_87 rfl ?_
    refine a_getF (pc := 88) dX10_back_88 fl_X10_96 (go_89) (gf_89_47) ?_
    refine a_iload_n (pc := 91) dX10_back_91 rfl ?_
    refine a_aload_n (pc := 92) dX10_back_92 rfl ?_
    refine a_getF (pc := 93) dX10_back_93 fl_X10_142 (go_89) (gf_89_66) ?_
    refine a_iload_n (pc := 96) dX10_back_96 rfl ?_
    refine a_iconst (pc := 97) dX10_back_97 (by decide) ?_
    refine a_iadd (pc := 98) dX10_back_98 ?_
    obtain ⟨hb7, H⟩ := H
    refine a_iaload (pc := 99) dX10_back_99 (ga_132) hb7 ?_
    refine a_iastore (pc := 100) dX10_back_100 (ga_117) hb3 ?_
    have H := H _ rfl
    generalize stI h6 117 x2.toNat (hI h6 132 (w32 (y1 + 2)).toNat) = h8 at H ⊢
    refine a_iinc (pc := 101) (ls' := [vo 89, vi x1, vi (w32 (x2 + 1)), vi y1]) dX10_back_101 rfl rfl rfl ?_
    refine a_goto (pc := 104) (tgt := 46) dX10_back_104 (by decide) ?_
    exact z_forget (ls' := [vo 89, vi x1, vi (w32 (x2 + 1)), vn]) ⟨.inr rfl, .inr rfl, .inr rfl, .inl rfl, trivial⟩ H
set_option maxRecDepth 20000 in
theorem r_X10_back_109 {E : zE} {d : Nat} {h : zS} {Q : Int → zS → Prop} {x1 : Int} {x2 : Int}  (H : ((144 ≤ x2 → (zWi E (d + 1) m_X10_back 142 [vo 89, vi x1, vi 0, vn] h Q)) ∧ (x2 < 144 → ((0 ≤ w32 ((w32 (144 * x1)) + x2) ∧ w32 ((w32 (144 * x1)) + x2) < 432) ∧ (0 ≤ x2 ∧ x2 < 144) ∧ ∀ h3, h3 = stI h 118 x2.toNat (hI h 133 (w32 ((w32 (144 * x1)) + x2)).toNat) → zWi E (d + 1) m_X10_back 109 [vo 89, vi x1, vi (w32 (x2 + 1)), vn] h3 Q)))) : zWi E (d + 1) m_X10_back 109 [vo 89, vi x1, vi x2, vn] h Q := by
  refine a_iload_n (pc := 109) dX10_back_109 rfl ?_
  refine a_sipush (pc := 110) dX10_back_110 (by decide) ?_
  refine a_icmp_ge (pc := 113) (tgt := 140) dX10_back_113 (by decide) (fun c => ?_) (fun c => ?_)
  · have H := H.1 c
    refine a_iconst (pc := 140) dX10_back_140 (by decide) ?_
    refine a_istore_n (pc := 141) (ls' := [vo 89, vi x1, vi 0, vn]) dX10_back_141 rfl rfl ?_
    exact H
  · have H := H.2 c
    refine a_aload_n (pc := 116) dX10_back_116 rfl ?_
    refine a_getF (pc := 117) dX10_back_117 fl_X10_99 (go_89) (gf_89_48) ?_
    refine a_iload_n (pc := 120) dX10_back_120 rfl ?_
    refine a_aload_n (pc := 121) dX10_back_121 rfl ?_
    refine a_getF (pc := 122) dX10_back_122 fl_X10_145 (go_89) (gf_89_67) ?_
    refine a_sipush (pc := 125) dX10_back_125 (by decide) ?_
    refine a_iload_n (pc := 128) dX10_back_128 rfl ?_
    refine a_imul (pc := 129) dX10_back_129 ?_
    refine a_iload_n (pc := 130) dX10_back_130 rfl ?_
    refine a_iadd (pc := 131) dX10_back_131 ?_
    obtain ⟨hb1, H⟩ := H
    refine a_iaload (pc := 132) dX10_back_132 (ga_133) hb1 ?_
    obtain ⟨hb2, H⟩ := H
    refine a_iastore (pc := 133) dX10_back_133 (ga_118) hb2 ?_
    have H := H _ rfl
    generalize stI h 118 x2.toNat (hI h 133 (w32 ((w32 (144 * x1)) + x2)).toNat) = h3 at H ⊢
    refine a_iinc (pc := 134) (ls' := [vo 89, vi x1, vi (w32 (x2 + 1)), vn]) dX10_back_134 rfl rfl rfl ?_
    refine a_goto (pc := 137) (tgt := 109) dX10_back_137 (by decide) ?_
    exact H
set_option maxRecDepth 20000 in
theorem r_X10_back_142 {E : zE} {d : Nat} {h : zS} {Q : Int → zS → Prop} {x1 : Int} {x2 : Int}  (H : ((12 ≤ x2 → (Q (hI h 89 54) h)) ∧ (x2 < 12 → (∀ y1 : Int, y1 = w32 (5 * (w32 ((w32 (12 * x1)) + x2))) → (0 ≤ y1 ∧ y1 < 180) ∧ (0 ≤ x2 ∧ x2 < 12) ∧ ∀ h4, h4 = stI h 119 x2.toNat (hI h 134 y1.toNat) → (0 ≤ w32 (y1 + 1) ∧ w32 (y1 + 1) < 180) ∧ ∀ h6, h6 = stI h4 120 x2.toNat (hI h4 134 (w32 (y1 + 1)).toNat) → (0 ≤ w32 (y1 + 2) ∧ w32 (y1 + 2) < 180) ∧ ∀ h8, h8 = stI h6 121 x2.toNat (hI h6 134 (w32 (y1 + 2)).toNat) → (0 ≤ w32 (y1 + 3) ∧ w32 (y1 + 3) < 180) ∧ ∀ h10, h10 = stI h8 122 x2.toNat (hI h8 134 (w32 (y1 + 3)).toNat) → (0 ≤ w32 (y1 + 4) ∧ w32 (y1 + 4) < 180) ∧ ∀ h12, h12 = stI h10 123 x2.toNat (hI h10 134 (w32 (y1 + 4)).toNat) → zWi E (d + 1) m_X10_back 142 [vo 89, vi x1, vi (w32 (x2 + 1)), vn] h12 Q)))) : zWi E (d + 1) m_X10_back 142 [vo 89, vi x1, vi x2, vn] h Q := by
  refine a_iload_n (pc := 142) dX10_back_142 rfl ?_
  refine a_bipush (pc := 143) dX10_back_143 (by decide) ?_
  refine a_icmp_ge (pc := 145) (tgt := 231) dX10_back_145 (by decide) (fun c => ?_) (fun c => ?_)
  · have H := H.1 c
    refine a_aload_n (pc := 231) dX10_back_231 rfl ?_
    refine a_getI (pc := 232) dX10_back_232 fl_X10_388 (go_89) ?_
    exact a_ireturn (pc := 235) dX10_back_235 trivial ⟨_, rfl, rfl, H⟩
  · have H := H.2 c
    refine a_iconst (pc := 148) dX10_back_148 (by decide) ?_
    refine a_bipush (pc := 149) dX10_back_149 (by decide) ?_
    refine a_iload_n (pc := 151) dX10_back_151 rfl ?_
    refine a_imul (pc := 152) dX10_back_152 ?_
    refine a_iload_n (pc := 153) dX10_back_153 rfl ?_
    refine a_iadd (pc := 154) dX10_back_154 ?_
    refine a_imul (pc := 155) dX10_back_155 ?_
    have H := H _ rfl
    generalize (w32 (5 * (w32 ((w32 (12 * x1)) + x2))) : Int) = y1 at H ⊢
    refine a_istore_n (pc := 156) (ls' := [vo 89, vi x1, vi x2, vi y1]) dX10_back_156 rfl rfl ?_
    refine a_aload_n (pc := 157) dX10_back_157 rfl ?_
    refine a_getF (pc := 158) dX10_back_158 fl_X10_102 (go_89) (gf_89_49) ?_
    refine a_iload_n (pc := 161) dX10_back_161 rfl ?_
    refine a_aload_n (pc := 162) dX10_back_162 rfl ?_
    refine a_getF (pc := 163) dX10_back_163 fl_X10_148 (go_89) (gf_89_68) ?_
    refine a_iload_n (pc := 166) dX10_back_166 rfl ?_
    obtain ⟨hb2, H⟩ := H
    refine a_iaload (pc := 167) dX10_back_167 (ga_134) hb2 ?_
    obtain ⟨hb3, H⟩ := H
    refine a_iastore (pc := 168) dX10_back_168 (ga_119) hb3 ?_
    have H := H _ rfl
    generalize stI h 119 x2.toNat (hI h 134 y1.toNat) = h4 at H ⊢
    refine a_aload_n (pc := 169) dX10_back_169 rfl ?_
    refine a_getF (pc := 170) dX10_back_170 fl_X10_105 (go_89) (gf_89_50) ?_
    refine a_iload_n (pc := 173) dX10_back_173 rfl ?_
    refine a_aload_n (pc := 174) dX10_back_174 rfl ?_
    refine a_getF (pc := 175) dX10_back_175 fl_X10_148 (go_89) (gf_89_68) ?_
    refine a_iload_n (pc := 178) dX10_back_178 rfl ?_
    refine a_iconst (pc := 179) dX10_back_179 (by decide) ?_
    refine a_iadd (pc := 180) dX10_back_180 ?_
    obtain ⟨hb5, H⟩ := H
    refine a_iaload (pc := 181) dX10_back_181 (ga_134) hb5 ?_
    refine a_iastore (pc := 182) dX10_back_182 (ga_120) hb3 ?_
    have H := H _ rfl
    generalize stI h4 120 x2.toNat (hI h4 134 (w32 (y1 + 1)).toNat) = h6 at H ⊢
    refine a_aload_n (pc := 183) dX10_back_183 rfl ?_
    refine a_getF (pc := 184) dX10_back_184 fl_X10_108 (go_89) (gf_89_51) ?_
    refine a_iload_n (pc := 187) dX10_back_187 rfl ?_
    refine a_aload_n (pc := 188) dX10_back_188 rfl ?_
    refine a_getF (pc := 189) dX10_back_189 fl_X10_148 (go_89) (gf_89_68) ?_
    refine a_iload_n (pc := 192) dX10_back_192 rfl ?_
    refine a_iconst (pc := 193) dX10_back_193 (by decide) ?_
    refine a_iadd (pc := 194) dX10_back_194 ?_
    obtain ⟨hb7, H⟩ := H
    refine a_iaload (pc := 195) dX10_back_195 (ga_134) hb7 ?_
    refine a_iastore (pc := 196) dX10_back_196 (ga_121) hb3 ?_
    have H := H _ rfl
    generalize stI h6 121 x2.toNat (hI h6 134 (w32 (y1 + 2)).toNat) = h8 at H ⊢
    refine a_aload_n (pc := 197) dX10_back_197 rfl ?_
    refine a_getF (pc := 198) dX10_back_198 fl_X10_111 (go_89) (gf_89_52) ?_
    refine a_iload_n (pc := 201) dX10_back_201 rfl ?_
    refine a_aload_n (pc := 202) dX10_back_202 rfl ?_
    refine a_getF (pc := 203) dX10_back_203 fl_X10_148 (go_89) (gf_89_68) ?_
    refine a_iload_n (pc := 206) dX10_back_206 rfl ?_
    refine a_iconst (pc := 207) dX10_back_207 (by decide) ?_
    refine a_iadd (pc := 208) dX10_back_208 ?_
    obtain ⟨hb9, H⟩ := H
    refine a_iaload (pc := 209) dX10_back_209 (ga_134) hb9 ?_
    refine a_iastore (pc := 210) dX10_back_210 (ga_122) hb3 ?_
    have H := H _ rfl
    generalize stI h8 122 x2.toNat (hI h8 134 (w32 (y1 + 3)).toNat) = h10 at H ⊢
    refine a_aload_n (pc := 211) dX10_back_211 rfl ?_
    refine a_getF (pc := 212) dX10_back_212 fl_X10_114 (go_89) (gf_89_53) ?_
    refine a_iload_n (pc := 215) dX10_back_215 rfl ?_
    refine a_aload_n (pc := 216) dX10_back_216 rfl ?_
    refine a_getF (pc := 217) dX10_back_217 fl_X10_148 (go_89) (gf_89_68) ?_
    refine a_iload_n (pc := 220) dX10_back_220 rfl ?_
    refine a_iconst (pc := 221) dX10_back_221 (by decide) ?_
    refine a_iadd (pc := 222) dX10_back_222 ?_
    obtain ⟨hb11, H⟩ := H
    refine a_iaload (pc := 223) dX10_back_223 (ga_134) hb11 ?_
    refine a_iastore (pc := 224) dX10_back_224 (ga_123) hb3 ?_
    have H := H _ rfl
    generalize stI h10 123 x2.toNat (hI h10 134 (w32 (y1 + 4)).toNat) = h12 at H ⊢
    refine a_iinc (pc := 225) (ls' := [vo 89, vi x1, vi (w32 (x2 + 1)), vi y1]) dX10_back_225 rfl rfl rfl ?_
    refine a_goto (pc := 228) (tgt := 142) dX10_back_228 (by decide) ?_
    exact z_forget (ls' := [vo 89, vi x1, vi (w32 (x2 + 1)), vn]) ⟨.inr rfl, .inr rfl, .inr rfl, .inl rfl, trivial⟩ H
set_option maxRecDepth 20000 in
theorem v_X10_thingsAt {E : zE} {d : Nat} {h : zS} {Q : Int → zS → Prop} {x1 : Int}  (H : zWi E d m_X10_thingsAt 4 [vo 89, vi x1, vi 0, vi 0] h Q) : zCi E d m_X10_thingsAt [vo 89, vi x1] h Q := by
  show zAt E d 0 0 m_X10_thingsAt 0 [vo 89, vi x1, vn, vn] [] g0 h (zPi Q)
  refine a_iconst (pc := 0) dX10_thingsAt_0 (by decide) ?_
  refine a_istore_n (pc := 1) (ls' := [vo 89, vi x1, vi 0, vn]) dX10_thingsAt_1 rfl rfl ?_
  refine a_iconst (pc := 2) dX10_thingsAt_2 (by decide) ?_
  refine a_istore_n (pc := 3) (ls' := [vo 89, vi x1, vi 0, vi 0]) dX10_thingsAt_3 rfl rfl ?_
  exact H
set_option maxRecDepth 20000 in
theorem r_X10_thingsAt_4 {E : zE} {d : Nat} {h : zS} {Q : Int → zS → Prop} {x1 : Int} {x2 : Int} {x3 : Int}  (H : (((hI h 89 55) ≤ x3 → (Q x2 h)) ∧ (x3 < (hI h 89 55) → ((0 ≤ x3 ∧ x3 < 12) ∧ (∀ y3 : Int, y3 = w32 (x2 + (if (hI h 119 x3.toNat) ≠ x1 then 0 else 1)) → zWi E d m_X10_thingsAt 4 [vo 89, vi x1, vi y3, vi (w32 (x3 + 1))] h Q))))) : zWi E d m_X10_thingsAt 4 [vo 89, vi x1, vi x2, vi x3] h Q := by
  refine a_iload_n (pc := 4) dX10_thingsAt_4 rfl ?_
  refine a_aload_n (pc := 5) dX10_thingsAt_5 rfl ?_
  refine a_getI (pc := 6) dX10_thingsAt_6 fl_X10_391 (go_89) ?_
  refine a_icmp_ge (pc := 9) (tgt := 36) dX10_thingsAt_9 (by decide) (fun c => ?_) (fun c => ?_)
  · have H := H.1 c
    refine a_iload_n (pc := 36) dX10_thingsAt_36 rfl ?_
    exact a_ireturn (pc := 37) dX10_thingsAt_37 trivial ⟨_, rfl, rfl, H⟩
  · have H := H.2 c
    refine a_iload_n (pc := 12) dX10_thingsAt_12 rfl ?_
    refine a_aload_n (pc := 13) dX10_thingsAt_13 rfl ?_
    refine a_getF (pc := 14) dX10_thingsAt_14 fl_X10_102 (go_89) (gf_89_49) ?_
    refine a_iload_n (pc := 17) dX10_thingsAt_17 rfl ?_
    obtain ⟨hb1, H⟩ := H
    refine a_iaload (pc := 18) dX10_thingsAt_18 (ga_119) hb1 ?_
    refine a_iload_n (pc := 19) dX10_thingsAt_19 rfl ?_
    have J : zAt E d 0 0 m_X10_thingsAt 28 [vo 89, vi x1, vi x2, vi x3] [vi (if (hI h 119 x3.toNat) ≠ x1 then 0 else 1), vi x2] g0 h (zPi Q) := by
      refine a_iadd (pc := 28) dX10_thingsAt_28 ?_
      have H := H _ rfl
      generalize (w32 (x2 + (if (hI h 119 x3.toNat) ≠ x1 then 0 else 1)) : Int) = y3 at H ⊢
      refine a_istore_n (pc := 29) (ls' := [vo 89, vi x1, vi y3, vi x3]) dX10_thingsAt_29 rfl rfl ?_
      refine a_iinc (pc := 30) (ls' := [vo 89, vi x1, vi y3, vi (w32 (x3 + 1))]) dX10_thingsAt_30 rfl rfl rfl ?_
      refine a_goto (pc := 33) (tgt := 4) dX10_thingsAt_33 (by decide) ?_
      exact H
    refine a_icmp_ne (pc := 20) (tgt := 27) dX10_thingsAt_20 (by decide) (fun c2 => ?_) (fun c2 => ?_)
    · skip
      refine a_iconst (pc := 27) dX10_thingsAt_27 (by decide) ?_
      exact (z_mergeT c2 J)
    · skip
      refine a_iconst (pc := 23) dX10_thingsAt_23 (by decide) ?_
      refine a_goto (pc := 24) (tgt := 28) dX10_thingsAt_24 (by decide) ?_
      exact (z_mergeF (fun n => n c2) J)
set_option maxRecDepth 20000 in
theorem v_X10_about {E : zE} {d : Nat} {h : zS} {Q : Int → zS → Prop} {x1 : Int}  (H : ((x1 = 0 → (Q (hI h 89 29) h)) ∧ (x1 = 1 → (Q (hI h 89 30) h)) ∧ (x1 = 2 → (Q (hI h 89 31) h)) ∧ (x1 = 3 → (Q (hI h 89 32) h)) ∧ (x1 = 4 → (Q (hI h 89 54) h)) ∧ (x1 = 5 → (Q (hI h 89 55) h)) ∧ (x1 = 6 → (Q (hI h 89 62) h)) ∧ (x1 = 7 → (Q (hI h 89 63) h)) ∧ (x1 = 8 → (Q (hI h 89 1) h)) ∧ (x1 = 9 → (Q (hI h 89 37) h)) ∧ (x1 = 10 → (zCi E d m_X10_thingsAt [vo 89, vi (-3)] h (fun y2 h1 => Q y2 h1))) ∧ (x1 = 11 → (zCi E d m_X10_thingsAt [vo 89, vi (-2)] h (fun y4 h3 => Q y4 h3))) ∧ (x1 < 0 ∨ 11 < x1 → (Q (-1) h)))) : zCi E (d + 1) m_X10_about [vo 89, vi x1] h Q := by
  show zAt E (d + 1) 0 0 m_X10_about 0 [vo 89, vi x1] [] g0 h (zPi Q)
  refine a_iload_n (pc := 0) dX10_about_0 rfl ?_
  refine a_tsw (pc := 1) (tg := [64, 69, 74, 79, 84, 89, 94, 99, 104, 109, 114, 121]) (td := 128) dX10_about_1 (by decide) (by decide) (by decide) ⟨(fun c => ?_), (fun c => ?_), (fun c => ?_), (fun c => ?_), (fun c => ?_), (fun c => ?_), (fun c => ?_), (fun c => ?_), (fun c => ?_), (fun c => ?_), (fun c => ?_), (fun c => ?_), trivial⟩ (fun c => ?_)
  · have H := H.1 c
    refine a_aload_n (pc := 64) dX10_about_64 rfl ?_
    refine a_getI (pc := 65) dX10_about_65 fl_X10_289 (go_89) ?_
    exact a_ireturn (pc := 68) dX10_about_68 trivial ⟨_, rfl, rfl, H⟩
  · have H := H.2.1 c
    refine a_aload_n (pc := 69) dX10_about_69 rfl ?_
    refine a_getI (pc := 70) dX10_about_70 fl_X10_292 (go_89) ?_
    exact a_ireturn (pc := 73) dX10_about_73 trivial ⟨_, rfl, rfl, H⟩
  · have H := H.2.2.1 c
    refine a_aload_n (pc := 74) dX10_about_74 rfl ?_
    refine a_getI (pc := 75) dX10_about_75 fl_X10_151 (go_89) ?_
    exact a_ireturn (pc := 78) dX10_about_78 trivial ⟨_, rfl, rfl, H⟩
  · have H := H.2.2.2.1 c
    refine a_aload_n (pc := 79) dX10_about_79 rfl ?_
    refine a_getI (pc := 80) dX10_about_80 fl_X10_154 (go_89) ?_
    exact a_ireturn (pc := 83) dX10_about_83 trivial ⟨_, rfl, rfl, H⟩
  · have H := H.2.2.2.2.1 c
    refine a_aload_n (pc := 84) dX10_about_84 rfl ?_
    refine a_getI (pc := 85) dX10_about_85 fl_X10_388 (go_89) ?_
    exact a_ireturn (pc := 88) dX10_about_88 trivial ⟨_, rfl, rfl, H⟩
  · have H := H.2.2.2.2.2.1 c
    refine a_aload_n (pc := 89) dX10_about_89 rfl ?_
    refine a_getI (pc := 90) dX10_about_90 fl_X10_391 (go_89) ?_
    exact a_ireturn (pc := 93) dX10_about_93 trivial ⟨_, rfl, rfl, H⟩
  · have H := H.2.2.2.2.2.2.1 c
    refine a_aload_n (pc := 94) dX10_about_94 rfl ?_
    refine a_getI (pc := 95) dX10_about_95 fl_X10_305 (go_89) ?_
    exact a_ireturn (pc := 98) dX10_about_98 trivial ⟨_, rfl, rfl, H⟩
  · have H := H.2.2.2.2.2.2.2.1 c
    refine a_aload_n (pc := 99) dX10_about_99 rfl ?_
    refine a_getI (pc := 100) dX10_about_100 fl_X10_421 (go_89) ?_
    exact a_ireturn (pc := 103) dX10_about_103 trivial ⟨_, rfl, rfl, H⟩
  · have H := H.2.2.2.2.2.2.2.2.1 c
    refine a_aload_n (pc := 104) dX10_about_104 rfl ?_
    refine a_getI (pc := 105) dX10_about_105 fl_X10_157 (go_89) ?_
    exact a_ireturn (pc := 108) dX10_about_108 trivial ⟨_, rfl, rfl, H⟩
  · have H := H.2.2.2.2.2.2.2.2.2.1 c
    refine a_aload_n (pc := 109) dX10_about_109 rfl ?_
    refine a_getI (pc := 110) dX10_about_110 fl_X10_308 (go_89) ?_
    exact a_ireturn (pc := 113) dX10_about_113 trivial ⟨_, rfl, rfl, H⟩
  · have H := H.2.2.2.2.2.2.2.2.2.2.1 c
    refine a_aload_n (pc := 114) dX10_about_114 rfl ?_
    refine a_bipush (pc := 115) dX10_about_115 (by decide) ?_
    refine a_callV (pc := 117) (kc := 0) (ks := 0) (kc' := 0) (ks' := 0) (st := []) [vi (-3)] dX10_about_117 ml_X10_440 (go_89) rfl (Nat.le_of_ble_eq_true rfl) (Nat.le_of_ble_eq_true rfl) (z_post H (fun r G1 h1 q => ?_))
    obtain ⟨y2, rfl, rfl, H⟩ := q
    show zAt E (d + 1) 0 0 m_X10_about 120 [vo 89, vi x1] [vi y2] g0 h1 (zPi Q)
    exact a_ireturn (pc := 120) dX10_about_120 trivial ⟨_, rfl, rfl, H⟩
  · have H := H.2.2.2.2.2.2.2.2.2.2.2.1 c
    refine a_aload_n (pc := 121) dX10_about_121 rfl ?_
    refine a_bipush (pc := 122) dX10_about_122 (by decide) ?_
    refine a_callV (pc := 124) (kc := 0) (ks := 0) (kc' := 0) (ks' := 0) (st := []) [vi (-2)] dX10_about_124 ml_X10_440 (go_89) rfl (Nat.le_of_ble_eq_true rfl) (Nat.le_of_ble_eq_true rfl) (z_post H (fun r G1 h3 q => ?_))
    obtain ⟨y4, rfl, rfl, H⟩ := q
    show zAt E (d + 1) 0 0 m_X10_about 127 [vo 89, vi x1] [vi y4] g0 h3 (zPi Q)
    exact a_ireturn (pc := 127) dX10_about_127 trivial ⟨_, rfl, rfl, H⟩
  · have H := H.2.2.2.2.2.2.2.2.2.2.2.2 c
    refine a_iconst (pc := 128) dX10_about_128 (by decide) ?_
    exact a_ireturn (pc := 129) dX10_about_129 trivial ⟨_, rfl, rfl, H⟩
