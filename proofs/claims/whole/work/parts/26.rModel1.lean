/-! by program: the conditions of each method, Model1 -/
set_option maxRecDepth 20000 in
theorem v_X10_layWay {E : zE} {d : Nat} {h : zS} {Q : Int → zS → Prop} {x1 : Int}  (H : ∀ h1, h1 = stI h 89 37 0 → (((hI h1 89 31) < 0 → (Q (-1) h1)) ∧ (0 ≤ (hI h1 89 31) → ((0 ≤ (hI h1 89 32) → (zCv E d m_X10_layWays [vo 89, vi x1] h1 (fun h2 => (0 ≤ hI h2 89 31 ∧ hI h2 89 31 < 12) ∧ (((hI h2 105 (hI h2 89 31).toNat) ≠ 1000000 → (∀ h4, h4 = stI h2 107 0 (hI h2 89 31) → ∀ h5, h5 = stI h4 89 37 1 → zWi E (d + 1) m_X10_layWay 60 [vo 89, vi x1, vi (hI h2 89 31), vn] h5 Q)) ∧ ((hI h2 105 (hI h2 89 31).toNat) = 1000000 → (Q (-1) h2)))))) ∧ ((hI h1 89 32) < 0 → (Q (-1) h1)))))) : zCi E (d + 1) m_X10_layWay [vo 89, vi x1] h Q := by
  show zAt E (d + 1) 0 0 m_X10_layWay 0 [vo 89, vi x1, vn, vn] [] g0 h (zPi Q)
  refine a_aload_n (pc := 0) dX10_layWay_0 rfl ?_
  refine a_iconst (pc := 1) dX10_layWay_1 (by decide) ?_
  refine a_putI (pc := 2) dX10_layWay_2 fl_X10_308 (go_89) ?_
  have H := H _ rfl
  generalize stI h 89 37 0 = h1 at H ⊢
  refine a_aload_n (pc := 5) dX10_layWay_5 rfl ?_
  refine a_getI (pc := 6) dX10_layWay_6 fl_X10_151 (go_89) ?_
  refine a_if_lt (pc := 9) (tgt := 19) dX10_layWay_9 (by decide) (fun c => ?_) (fun c => ?_)
  · have H := H.1 c
    refine a_iconst (pc := 19) dX10_layWay_19 (by decide) ?_
    exact a_ireturn (pc := 20) dX10_layWay_20 trivial ⟨_, rfl, rfl, H⟩
  · have H := H.2 c
    refine a_aload_n (pc := 12) dX10_layWay_12 rfl ?_
    refine a_getI (pc := 13) dX10_layWay_13 fl_X10_154 (go_89) ?_
    refine a_if_ge (pc := 16) (tgt := 21) dX10_layWay_16 (by decide) (fun c => ?_) (fun c => ?_)
    · have H := H.1 c
      refine a_aload_n (pc := 21) dX10_layWay_21 rfl ?_
      refine a_iload_n (pc := 22) dX10_layWay_22 rfl ?_
      refine a_callV (pc := 23) (kc := 0) (ks := 0) (kc' := 0) (ks' := 0) (st := []) [vi x1] dX10_layWay_23 ml_X10_330 (go_89) rfl (Nat.le_of_ble_eq_true rfl) (Nat.le_of_ble_eq_true rfl) (z_post H (fun r G1 h2 q => ?_))
      obtain ⟨rfl, rfl, H⟩ := q
      show zAt E (d + 1) 0 0 m_X10_layWay 26 [vo 89, vi x1, vn, vn] [] g0 h2 (zPi Q)
      refine a_aload_n (pc := 26) dX10_layWay_26 rfl ?_
      refine a_getF (pc := 27) dX10_layWay_27 fl_X10_60 (go_89) (gf_89_34) ?_
      refine a_aload_n (pc := 30) dX10_layWay_30 rfl ?_
      refine a_getI (pc := 31) dX10_layWay_31 fl_X10_151 (go_89) ?_
      obtain ⟨hb3, H⟩ := H
      refine a_iaload (pc := 34) dX10_layWay_34 (ga_105) hb3 ?_
      refine a_ldcw (pc := 35) dX10_layWay_35 cl_X10_314 (by decide) ?_
      refine a_icmp_ne (pc := 38) (tgt := 43) dX10_layWay_38 (by decide) (fun c => ?_) (fun c => ?_)
      · have H := H.1 c
        refine a_aload_n (pc := 43) dX10_layWay_43 rfl ?_
        refine a_getI (pc := 44) dX10_layWay_44 fl_X10_151 (go_89) ?_
        refine a_istore_n (pc := 47) (ls' := [vo 89, vi x1, vi (hI h2 89 31), vn]) dX10_layWay_47 rfl rfl ?_
        refine a_aload_n (pc := 48) dX10_layWay_48 rfl ?_
        refine a_getF (pc := 49) dX10_layWay_49 fl_X10_66 (go_89) (gf_89_36) ?_
        refine a_iconst (pc := 52) dX10_layWay_52 (by decide) ?_
        refine a_iload_n (pc := 53) dX10_layWay_53 rfl ?_
        refine a_iastore (pc := 54) dX10_layWay_54 (ga_107) (by decide) ?_
        have H := H _ rfl
        show zAt E (d + 1) 0 0 m_X10_layWay 55 [vo 89, vi x1, vi (hI h2 89 31), vn] [] g0 (stI h2 107 0 (hI h2 89 31)) (zPi Q)
        generalize stI h2 107 0 (hI h2 89 31) = h4 at H ⊢
        refine a_aload_n (pc := 55) dX10_layWay_55 rfl ?_
        refine a_iconst (pc := 56) dX10_layWay_56 (by decide) ?_
        refine a_putI (pc := 57) dX10_layWay_57 fl_X10_308 (go_89) ?_
        have H := H _ rfl
        generalize stI h4 89 37 1 = h5 at H ⊢
        exact H
      · have H := H.2 c
        refine a_iconst (pc := 41) dX10_layWay_41 (by decide) ?_
        exact a_ireturn (pc := 42) dX10_layWay_42 trivial ⟨_, rfl, rfl, H⟩
    · have H := H.2 c
      refine a_iconst (pc := 19) dX10_layWay_19 (by decide) ?_
      exact a_ireturn (pc := 20) dX10_layWay_20 trivial ⟨_, rfl, rfl, H⟩
set_option maxRecDepth 20000 in
theorem r_X10_layWay_60 {E : zE} {d : Nat} {h : zS} {Q : Int → zS → Prop} {x1 : Int} {x2 : Int}  (H : ((x2 = (hI h 89 32) → ((0 ≤ hI h 89 31 ∧ hI h 89 31 < 12) ∧ Q (hI h 105 (hI h 89 31).toNat) h)) ∧ (x2 ≠ (hI h 89 32) → (zWi E (d + 1) m_X10_layWay 70 [vo 89, vi x1, vi x2, vi 0] h Q)))) : zWi E (d + 1) m_X10_layWay 60 [vo 89, vi x1, vi x2, vn] h Q := by
  refine a_iload_n (pc := 60) dX10_layWay_60 rfl ?_
  refine a_aload_n (pc := 61) dX10_layWay_61 rfl ?_
  refine a_getI (pc := 62) dX10_layWay_62 fl_X10_154 (go_89) ?_
  refine a_icmp_eq (pc := 65) (tgt := 111) dX10_layWay_65 (by decide) (fun c => ?_) (fun c => ?_)
  · have H := H.1 c
    refine a_aload_n (pc := 111) dX10_layWay_111 rfl ?_
    refine a_getF (pc := 112) dX10_layWay_112 fl_X10_60 (go_89) (gf_89_34) ?_
    refine a_aload_n (pc := 115) dX10_layWay_115 rfl ?_
    refine a_getI (pc := 116) dX10_layWay_116 fl_X10_151 (go_89) ?_
    obtain ⟨hb1, H⟩ := H
    refine a_iaload (pc := 119) dX10_layWay_119 (ga_105) hb1 ?_
    exact a_ireturn (pc := 120) dX10_layWay_120 trivial ⟨_, rfl, rfl, H⟩
  · have H := H.2 c
    refine a_iconst (pc := 68) dX10_layWay_68 (by decide) ?_
    refine a_istore_n (pc := 69) (ls' := [vo 89, vi x1, vi x2, vi 0]) dX10_layWay_69 rfl rfl ?_
    exact H
set_option maxRecDepth 20000 in
theorem r_X10_layWay_70 {E : zE} {d : Nat} {h : zS} {Q : Int → zS → Prop} {x1 : Int} {x2 : Int} {x3 : Int}  (H : zCi E d m_X10_leads [vo 89, vi x2, vi x3, vi x1] h (fun y2 h1 => ((y2 ≠ 0 → ((0 ≤ hI h1 89 37 ∧ hI h1 89 37 < 12) ∧ ∀ h4, h4 = stI h1 107 (hI h1 89 37).toNat x3 → ∀ h5, h5 = stI h4 89 37 (w32 ((hI h4 89 37) + 1)) → zWi E (d + 1) m_X10_layWay 60 [vo 89, vi x1, vi x3, vn] h5 Q)) ∧ (y2 = 0 → (zWi E (d + 1) m_X10_layWay 70 [vo 89, vi x1, vi x2, vi (w32 (x3 + 1))] h1 Q))))) : zWi E (d + 1) m_X10_layWay 70 [vo 89, vi x1, vi x2, vi x3] h Q := by
  refine a_aload_n (pc := 70) dX10_layWay_70 rfl ?_
  refine a_iload_n (pc := 71) dX10_layWay_71 rfl ?_
  refine a_iload_n (pc := 72) dX10_layWay_72 rfl ?_
  refine a_iload_n (pc := 73) dX10_layWay_73 rfl ?_
  refine a_callV (pc := 74) (kc := 0) (ks := 0) (kc' := 0) (ks' := 0) (st := []) [vi x2, vi x3, vi x1] dX10_layWay_74 ml_X10_333 (go_89) rfl (Nat.le_of_ble_eq_true rfl) (Nat.le_of_ble_eq_true rfl) (z_post H (fun r G1 h1 q => ?_))
  obtain ⟨y2, rfl, rfl, H⟩ := q
  show zAt E (d + 1) 0 0 m_X10_layWay 77 [vo 89, vi x1, vi x2, vi x3] [vi y2] g0 h1 (zPi Q)
  refine a_if_ne (pc := 77) (tgt := 86) dX10_layWay_77 (by decide) (fun c => ?_) (fun c => ?_)
  · have H := H.1 c
    refine a_iload_n (pc := 86) dX10_layWay_86 rfl ?_
    refine a_istore_n (pc := 87) (ls' := [vo 89, vi x1, vi x3, vi x3]) dX10_layWay_87 rfl rfl ?_
    refine a_aload_n (pc := 88) dX10_layWay_88 rfl ?_
    refine a_getF (pc := 89) dX10_layWay_89 fl_X10_66 (go_89) (gf_89_36) ?_
    refine a_aload_n (pc := 92) dX10_layWay_92 rfl ?_
    refine a_getI (pc := 93) dX10_layWay_93 fl_X10_308 (go_89) ?_
    refine a_iload_n (pc := 96) dX10_layWay_96 rfl ?_
    obtain ⟨hb3, H⟩ := H
    refine a_iastore (pc := 97) dX10_layWay_97 (ga_107) hb3 ?_
    have H := H _ rfl
    generalize stI h1 107 (hI h1 89 37).toNat x3 = h4 at H ⊢
    refine a_aload_n (pc := 98) dX10_layWay_98 rfl ?_
    refine a_dup (pc := 99) dX10_layWay_99 rfl ?_
    refine a_getI (pc := 100) dX10_layWay_100 fl_X10_308 (go_89) ?_
    refine a_iconst (pc := 103) dX10_layWay_103 (by decide) ?_
    refine a_iadd (pc := 104) dX10_layWay_104 ?_
    refine a_putI (pc := 105) dX10_layWay_105 fl_X10_308 (go_89) ?_
    have H := H _ rfl
    generalize stI h4 89 37 (w32 ((hI h4 89 37) + 1)) = h5 at H ⊢
    refine a_goto (pc := 108) (tgt := 60) dX10_layWay_108 (by decide) ?_
    exact z_forget (ls' := [vo 89, vi x1, vi x3, vn]) ⟨.inr rfl, .inr rfl, .inr rfl, .inl rfl, trivial⟩ H
  · have H := H.2 c
    refine a_iinc (pc := 80) (ls' := [vo 89, vi x1, vi x2, vi (w32 (x3 + 1))]) dX10_layWay_80 rfl rfl rfl ?_
    refine a_goto (pc := 83) (tgt := 70) dX10_layWay_83 (by decide) ?_
    exact H
set_option maxRecDepth 20000 in
theorem v_X10_leads {E : zE} {d : Nat} {h : zS} {Q : Int → zS → Prop} {x1 : Int} {x2 : Int} {x3 : Int}  (H : zCi E d m_X10_stepOf [vo 89, vi x1, vi x2, vi x3] h (fun y2 h1 => ((y2 = 1000000 → (Q 0 h1)) ∧ (y2 ≠ 1000000 → ((0 ≤ x2 ∧ x2 < 12) ∧ (((hI h1 105 x2.toNat) = 1000000 → (Q 0 h1)) ∧ ((hI h1 105 x2.toNat) ≠ 1000000 → ((0 ≤ x1 ∧ x1 < 12) ∧ (((w32 ((hI h1 105 x2.toNat) + y2)) ≠ (hI h1 105 x1.toNat) → (Q 0 h1)) ∧ ((w32 ((hI h1 105 x2.toNat) + y2)) = (hI h1 105 x1.toNat) → (((w32 ((hI h1 106 x2.toNat) + 1)) ≠ (hI h1 106 x1.toNat) → (Q 0 h1)) ∧ ((w32 ((hI h1 106 x2.toNat) + 1)) = (hI h1 106 x1.toNat) → (Q 1 h1))))))))))))) : zCi E (d + 1) m_X10_leads [vo 89, vi x1, vi x2, vi x3] h Q := by
  show zAt E (d + 1) 0 0 m_X10_leads 0 [vo 89, vi x1, vi x2, vi x3, vn] [] g0 h (zPi Q)
  refine a_aload_n (pc := 0) dX10_leads_0 rfl ?_
  refine a_iload_n (pc := 1) dX10_leads_1 rfl ?_
  refine a_iload_n (pc := 2) dX10_leads_2 rfl ?_
  refine a_iload_n (pc := 3) dX10_leads_3 rfl ?_
  refine a_callV (pc := 4) (kc := 0) (ks := 0) (kc' := 0) (ks' := 0) (st := []) [vi x1, vi x2, vi x3] dX10_leads_4 ml_X10_322 (go_89) rfl (Nat.le_of_ble_eq_true rfl) (Nat.le_of_ble_eq_true rfl) (z_post H (fun r G1 h1 q => ?_))
  obtain ⟨y2, rfl, rfl, H⟩ := q
  show zAt E (d + 1) 0 0 m_X10_leads 7 [vo 89, vi x1, vi x2, vi x3, vn] [vi y2] g0 h1 (zPi Q)
  refine a_istore (pc := 7) (ls' := [vo 89, vi x1, vi x2, vi x3, vi y2]) dX10_leads_7 rfl rfl ?_
  refine a_iload (pc := 9) dX10_leads_9 rfl ?_
  refine a_ldcw (pc := 11) dX10_leads_11 cl_X10_314 (by decide) ?_
  refine a_icmp_eq (pc := 14) (tgt := 68) dX10_leads_14 (by decide) (fun c => ?_) (fun c => ?_)
  · have H := H.1 c
    refine a_iconst (pc := 68) dX10_leads_68 (by decide) ?_
    exact a_ireturn (pc := 69) dX10_leads_69 (.inl rfl) ⟨_, rfl, rfl, H⟩
  · have H := H.2 c
    refine a_aload_n (pc := 17) dX10_leads_17 rfl ?_
    refine a_getF (pc := 18) dX10_leads_18 fl_X10_60 (go_89) (gf_89_34) ?_
    refine a_iload_n (pc := 21) dX10_leads_21 rfl ?_
    obtain ⟨hb3, H⟩ := H
    refine a_iaload (pc := 22) dX10_leads_22 (ga_105) hb3 ?_
    refine a_ldcw (pc := 23) dX10_leads_23 cl_X10_314 (by decide) ?_
    refine a_icmp_eq (pc := 26) (tgt := 68) dX10_leads_26 (by decide) (fun c => ?_) (fun c => ?_)
    · have H := H.1 c
      refine a_iconst (pc := 68) dX10_leads_68 (by decide) ?_
      exact a_ireturn (pc := 69) dX10_leads_69 (.inl rfl) ⟨_, rfl, rfl, H⟩
    · have H := H.2 c
      refine a_aload_n (pc := 29) dX10_leads_29 rfl ?_
      refine a_getF (pc := 30) dX10_leads_30 fl_X10_60 (go_89) (gf_89_34) ?_
      refine a_iload_n (pc := 33) dX10_leads_33 rfl ?_
      refine a_iaload (pc := 34) dX10_leads_34 (ga_105) hb3 ?_
      refine a_iload (pc := 35) dX10_leads_35 rfl ?_
      refine a_iadd (pc := 37) dX10_leads_37 ?_
      refine a_aload_n (pc := 38) dX10_leads_38 rfl ?_
      refine a_getF (pc := 39) dX10_leads_39 fl_X10_60 (go_89) (gf_89_34) ?_
      refine a_iload_n (pc := 42) dX10_leads_42 rfl ?_
      obtain ⟨hb4, H⟩ := H
      refine a_iaload (pc := 43) dX10_leads_43 (ga_105) hb4 ?_
      refine a_icmp_ne (pc := 44) (tgt := 68) dX10_leads_44 (by decide) (fun c => ?_) (fun c => ?_)
      · have H := H.1 c
        refine a_iconst (pc := 68) dX10_leads_68 (by decide) ?_
        exact a_ireturn (pc := 69) dX10_leads_69 (.inl rfl) ⟨_, rfl, rfl, H⟩
      · have H := H.2 c
        refine a_aload_n (pc := 47) dX10_leads_47 rfl ?_
        refine a_getF (pc := 48) dX10_leads_48 fl_X10_63 (go_89) (gf_89_35) ?_
        refine a_iload_n (pc := 51) dX10_leads_51 rfl ?_
        refine a_iaload (pc := 52) dX10_leads_52 (ga_106) hb3 ?_
        refine a_iconst (pc := 53) dX10_leads_53 (by decide) ?_
        refine a_iadd (pc := 54) dX10_leads_54 ?_
        refine a_aload_n (pc := 55) dX10_leads_55 rfl ?_
        refine a_getF (pc := 56) dX10_leads_56 fl_X10_63 (go_89) (gf_89_35) ?_
        refine a_iload_n (pc := 59) dX10_leads_59 rfl ?_
        refine a_iaload (pc := 60) dX10_leads_60 (ga_106) hb4 ?_
        refine a_icmp_ne (pc := 61) (tgt := 68) dX10_leads_61 (by decide) (fun c => ?_) (fun c => ?_)
        · have H := H.1 c
          refine a_iconst (pc := 68) dX10_leads_68 (by decide) ?_
          exact a_ireturn (pc := 69) dX10_leads_69 (.inl rfl) ⟨_, rfl, rfl, H⟩
        · have H := H.2 c
          refine a_iconst (pc := 64) dX10_leads_64 (by decide) ?_
          refine a_goto (pc := 65) (tgt := 69) dX10_leads_65 (by decide) ?_
          exact a_ireturn (pc := 69) dX10_leads_69 (.inr rfl) ⟨_, rfl, rfl, H⟩
set_option maxRecDepth 20000 in
theorem v_X10_quick {E : zE} {d : Nat} {h : zS} {Q : Int → zS → Prop}   (H : zCi E d m_X10_layWay [vo 89, vi 0] h (fun y2 h1 => Q y2 h1)) : zCi E (d + 1) m_X10_quick [vo 89] h Q := by
  show zAt E (d + 1) 0 0 m_X10_quick 0 [vo 89] [] g0 h (zPi Q)
  refine a_aload_n (pc := 0) dX10_quick_0 rfl ?_
  refine a_iconst (pc := 1) dX10_quick_1 (by decide) ?_
  refine a_callV (pc := 2) (kc := 0) (ks := 0) (kc' := 0) (ks' := 0) (st := []) [vi 0] dX10_quick_2 ml_X10_337 (go_89) rfl (Nat.le_of_ble_eq_true rfl) (Nat.le_of_ble_eq_true rfl) (z_post H (fun r G1 h1 q => ?_))
  obtain ⟨y2, rfl, rfl, H⟩ := q
  show zAt E (d + 1) 0 0 m_X10_quick 5 [vo 89] [vi y2] g0 h1 (zPi Q)
  exact a_ireturn (pc := 5) dX10_quick_5 trivial ⟨_, rfl, rfl, H⟩
set_option maxRecDepth 20000 in
theorem v_X10_cheap {E : zE} {d : Nat} {h : zS} {Q : Int → zS → Prop}   (H : zCi E d m_X10_layWay [vo 89, vi 1] h (fun y2 h1 => Q y2 h1)) : zCi E (d + 1) m_X10_cheap [vo 89] h Q := by
  show zAt E (d + 1) 0 0 m_X10_cheap 0 [vo 89] [] g0 h (zPi Q)
  refine a_aload_n (pc := 0) dX10_cheap_0 rfl ?_
  refine a_iconst (pc := 1) dX10_cheap_1 (by decide) ?_
  refine a_callV (pc := 2) (kc := 0) (ks := 0) (kc' := 0) (ks' := 0) (st := []) [vi 1] dX10_cheap_2 ml_X10_337 (go_89) rfl (Nat.le_of_ble_eq_true rfl) (Nat.le_of_ble_eq_true rfl) (z_post H (fun r G1 h1 q => ?_))
  obtain ⟨y2, rfl, rfl, H⟩ := q
  show zAt E (d + 1) 0 0 m_X10_cheap 5 [vo 89] [vi y2] g0 h1 (zPi Q)
  exact a_ireturn (pc := 5) dX10_cheap_5 trivial ⟨_, rfl, rfl, H⟩
set_option maxRecDepth 20000 in
theorem v_X10_lies {E : zE} {d : Nat} {h : zS} {Q : Int → zS → Prop} {x1 : Int}  (H : ((x1 < 0 → (Q (-1) h)) ∧ (0 ≤ x1 → (((hI h 89 37) ≤ x1 → (Q (-1) h)) ∧ (x1 < (hI h 89 37) → ((0 ≤ x1 ∧ x1 < 12) ∧ Q (hI h 107 x1.toNat) h)))))) : zCi E d m_X10_lies [vo 89, vi x1] h Q := by
  show zAt E d 0 0 m_X10_lies 0 [vo 89, vi x1] [] g0 h (zPi Q)
  refine a_iload_n (pc := 0) dX10_lies_0 rfl ?_
  refine a_if_lt (pc := 1) (tgt := 21) dX10_lies_1 (by decide) (fun c => ?_) (fun c => ?_)
  · have H := H.1 c
    refine a_iconst (pc := 21) dX10_lies_21 (by decide) ?_
    exact a_ireturn (pc := 22) dX10_lies_22 trivial ⟨_, rfl, rfl, H⟩
  · have H := H.2 c
    refine a_iload_n (pc := 4) dX10_lies_4 rfl ?_
    refine a_aload_n (pc := 5) dX10_lies_5 rfl ?_
    refine a_getI (pc := 6) dX10_lies_6 fl_X10_308 (go_89) ?_
    refine a_icmp_ge (pc := 9) (tgt := 21) dX10_lies_9 (by decide) (fun c => ?_) (fun c => ?_)
    · have H := H.1 c
      refine a_iconst (pc := 21) dX10_lies_21 (by decide) ?_
      exact a_ireturn (pc := 22) dX10_lies_22 trivial ⟨_, rfl, rfl, H⟩
    · have H := H.2 c
      refine a_aload_n (pc := 12) dX10_lies_12 rfl ?_
      refine a_getF (pc := 13) dX10_lies_13 fl_X10_66 (go_89) (gf_89_36) ?_
      refine a_iload_n (pc := 16) dX10_lies_16 rfl ?_
      obtain ⟨hb1, H⟩ := H
      refine a_iaload (pc := 17) dX10_lies_17 (ga_107) hb1 ?_
      refine a_goto (pc := 18) (tgt := 22) dX10_lies_18 (by decide) ?_
      exact a_ireturn (pc := 22) dX10_lies_22 trivial ⟨_, rfl, rfl, H⟩
set_option maxRecDepth 20000 in
theorem v_X10_layProducts {E : zE} {d : Nat} {h : zS} {Q : zS → Prop}   (H : zWv E d m_X10_layProducts 2 [vo 89, vi 0, vn, vn, vn, vn, vn, vn] h Q) : zCv E d m_X10_layProducts [vo 89] h Q := by
  show zAt E d 0 0 m_X10_layProducts 0 [vo 89, vn, vn, vn, vn, vn, vn, vn] [] g0 h (zPv Q)
  refine a_iconst (pc := 0) dX10_layProducts_0 (by decide) ?_
  refine a_istore_n (pc := 1) (ls' := [vo 89, vi 0, vn, vn, vn, vn, vn, vn]) dX10_layProducts_1 rfl rfl ?_
  exact H
set_option maxRecDepth 20000 in
theorem r_X10_layProducts_2 {E : zE} {d : Nat} {h : zS} {Q : zS → Prop} {x1 : Int}  (H : ((120 ≤ x1 → (zWv E d m_X10_layProducts 23 [vo 89, vi 0, vn, vn, vn, vn, vn, vn] h Q)) ∧ (x1 < 120 → ((0 ≤ x1 ∧ x1 < 120) ∧ ∀ h2, h2 = stL h 108 x1.toNat 0 → zWv E d m_X10_layProducts 2 [vo 89, vi (w32 (x1 + 1)), vn, vn, vn, vn, vn, vn] h2 Q)))) : zWv E d m_X10_layProducts 2 [vo 89, vi x1, vn, vn, vn, vn, vn, vn] h Q := by
  refine a_iload_n (pc := 2) dX10_layProducts_2 rfl ?_
  refine a_bipush (pc := 3) dX10_layProducts_3 (by decide) ?_
  refine a_icmp_ge (pc := 5) (tgt := 21) dX10_layProducts_5 (by decide) (fun c => ?_) (fun c => ?_)
  · have H := H.1 c
    refine a_iconst (pc := 21) dX10_layProducts_21 (by decide) ?_
    refine a_istore_n (pc := 22) (ls' := [vo 89, vi 0, vn, vn, vn, vn, vn, vn]) dX10_layProducts_22 rfl rfl ?_
    exact H
  · have H := H.2 c
    refine a_aload_n (pc := 8) dX10_layProducts_8 rfl ?_
    refine a_getF (pc := 9) dX10_layProducts_9 fl_X10_69 (go_89) (gf_89_38) ?_
    refine a_iload_n (pc := 12) dX10_layProducts_12 rfl ?_
    refine a_lconst0 (pc := 13) dX10_layProducts_13 ?_
    obtain ⟨hb1, H⟩ := H
    refine a_lastore (pc := 14) dX10_layProducts_14 (ga_108) hb1 ?_
    have H := H _ rfl
    generalize stL h 108 x1.toNat 0 = h2 at H ⊢
    refine a_iinc (pc := 15) (ls' := [vo 89, vi (w32 (x1 + 1)), vn, vn, vn, vn, vn, vn]) dX10_layProducts_15 rfl rfl rfl ?_
    refine a_goto (pc := 18) (tgt := 2) dX10_layProducts_18 (by decide) ?_
    exact H
set_option maxRecDepth 20000 in
theorem r_X10_layProducts_23 {E : zE} {d : Nat} {h : zS} {Q : zS → Prop} {x1 : Int}  (H : (((hI h 89 29) ≤ x1 → (zWv E d m_X10_layProducts 63 [vo 89, vi 1, vn, vn, vn, vn, vn, vn] h Q)) ∧ (x1 < (hI h 89 29) → ((0 ≤ w32 ((w32 (12 * x1)) + (hI h 89 32)) ∧ w32 ((w32 (12 * x1)) + (hI h 89 32)) < 144) ∧ (((hI h 103 (w32 ((w32 (12 * x1)) + (hI h 89 32))).toNat) ≤ 0 → (zWv E d m_X10_layProducts 23 [vo 89, vi (w32 (x1 + 1)), vn, vn, vn, vn, vn, vn] h Q)) ∧ (0 < (hI h 103 (w32 ((w32 (12 * x1)) + (hI h 89 32))).toNat) → ((0 ≤ x1 ∧ x1 < 120) ∧ ∀ h3, h3 = stL h 108 x1.toNat 1 → zWv E d m_X10_layProducts 23 [vo 89, vi (w32 (x1 + 1)), vn, vn, vn, vn, vn, vn] h3 Q))))))) : zWv E d m_X10_layProducts 23 [vo 89, vi x1, vn, vn, vn, vn, vn, vn] h Q := by
  refine a_iload_n (pc := 23) dX10_layProducts_23 rfl ?_
  refine a_aload_n (pc := 24) dX10_layProducts_24 rfl ?_
  refine a_getI (pc := 25) dX10_layProducts_25 fl_X10_289 (go_89) ?_
  refine a_icmp_ge (pc := 28) (tgt := 61) dX10_layProducts_28 (by decide) (fun c => ?_) (fun c => ?_)
  · have H := H.1 c
    refine a_iconst (pc := 61) dX10_layProducts_61 (by decide) ?_
    refine a_istore_n (pc := 62) (ls' := [vo 89, vi 1, vn, vn, vn, vn, vn, vn]) dX10_layProducts_62 rfl rfl ?_
    exact H
  · have H := H.2 c
    refine a_aload_n (pc := 31) dX10_layProducts_31 rfl ?_
    refine a_getF (pc := 32) dX10_layProducts_32 fl_X10_54 (go_89) (gf_89_22) ?_
    refine a_bipush (pc := 35) dX10_layProducts_35 (by decide) ?_
    refine a_iload_n (pc := 37) dX10_layProducts_37 rfl ?_
    refine a_imul (pc := 38) dX10_layProducts_38 ?_
    refine a_aload_n (pc := 39) dX10_layProducts_39 rfl ?_
    refine a_getI (pc := 40) dX10_layProducts_40 fl_X10_154 (go_89) ?_
    refine a_iadd (pc := 43) dX10_layProducts_43 ?_
    obtain ⟨hb1, H⟩ := H
    refine a_iaload (pc := 44) dX10_layProducts_44 (ga_103) hb1 ?_
    refine a_if_le (pc := 45) (tgt := 55) dX10_layProducts_45 (by decide) (fun c => ?_) (fun c => ?_)
    · have H := H.1 c
      refine a_iinc (pc := 55) (ls' := [vo 89, vi (w32 (x1 + 1)), vn, vn, vn, vn, vn, vn]) dX10_layProducts_55 rfl rfl rfl ?_
      refine a_goto (pc := 58) (tgt := 23) dX10_layProducts_58 (by decide) ?_
      exact H
    · have H := H.2 c
      refine a_aload_n (pc := 48) dX10_layProducts_48 rfl ?_
      refine a_getF (pc := 49) dX10_layProducts_49 fl_X10_69 (go_89) (gf_89_38) ?_
      refine a_iload_n (pc := 52) dX10_layProducts_52 rfl ?_
      refine a_lconst1 (pc := 53) dX10_layProducts_53 ?_
      obtain ⟨hb2, H⟩ := H
      refine a_lastore (pc := 54) dX10_layProducts_54 (ga_108) hb2 ?_
      have H := H _ rfl
      generalize stL h 108 x1.toNat 1 = h3 at H ⊢
      refine a_iinc (pc := 55) (ls' := [vo 89, vi (w32 (x1 + 1)), vn, vn, vn, vn, vn, vn]) dX10_layProducts_55 rfl rfl rfl ?_
      refine a_goto (pc := 58) (tgt := 23) dX10_layProducts_58 (by decide) ?_
      exact H
set_option maxRecDepth 20000 in
theorem r_X10_layProducts_63 {E : zE} {d : Nat} {h : zS} {Q : zS → Prop} {x1 : Int}  (H : ((9 < x1 → (Q h)) ∧ (x1 ≤ 9 → (zWv E d m_X10_layProducts 71 [vo 89, vi x1, vi 0, vn, vn, vn, vn, vn] h Q)))) : zWv E d m_X10_layProducts 63 [vo 89, vi x1, vn, vn, vn, vn, vn, vn] h Q := by
  refine a_iload_n (pc := 63) dX10_layProducts_63 rfl ?_
  refine a_bipush (pc := 64) dX10_layProducts_64 (by decide) ?_
  refine a_icmp_gt (pc := 66) (tgt := 203) dX10_layProducts_66 (by decide) (fun c => ?_) (fun c => ?_)
  · have H := H.1 c
    exact a_return (pc := 203) dX10_layProducts_203 trivial ⟨rfl, rfl, H⟩
  · have H := H.2 c
    refine a_iconst (pc := 69) dX10_layProducts_69 (by decide) ?_
    refine a_istore_n (pc := 70) (ls' := [vo 89, vi x1, vi 0, vn, vn, vn, vn, vn]) dX10_layProducts_70 rfl rfl ?_
    exact H
set_option maxRecDepth 20000 in
theorem r_X10_layProducts_71 {E : zE} {d : Nat} {h : zS} {Q : zS → Prop} {x1 : Int} {x2 : Int}  (H : (((hI h 89 29) ≤ x2 → (zWv E d m_X10_layProducts 63 [vo 89, vi (w32 (x1 + 1)), vn, vn, vn, vn, vn, vn] h Q)) ∧ (x2 < (hI h 89 29) → (zWv E d m_X10_layProducts 84 [vo 89, vi x1, vi x2, vl 0, vn, vi 0, vn, vn] h Q)))) : zWv E d m_X10_layProducts 71 [vo 89, vi x1, vi x2, vn, vn, vn, vn, vn] h Q := by
  refine a_iload_n (pc := 71) dX10_layProducts_71 rfl ?_
  refine a_aload_n (pc := 72) dX10_layProducts_72 rfl ?_
  refine a_getI (pc := 73) dX10_layProducts_73 fl_X10_289 (go_89) ?_
  refine a_icmp_ge (pc := 76) (tgt := 197) dX10_layProducts_76 (by decide) (fun c => ?_) (fun c => ?_)
  · have H := H.1 c
    refine a_iinc (pc := 197) (ls' := [vo 89, vi (w32 (x1 + 1)), vi x2, vn, vn, vn, vn, vn]) dX10_layProducts_197 rfl rfl rfl ?_
    refine a_goto (pc := 200) (tgt := 63) dX10_layProducts_200 (by decide) ?_
    exact z_forget (ls' := [vo 89, vi (w32 (x1 + 1)), vn, vn, vn, vn, vn, vn]) ⟨.inr rfl, .inr rfl, .inl rfl, .inr rfl, .inr rfl, .inr rfl, .inr rfl, .inr rfl, trivial⟩ H
  · have H := H.2 c
    refine a_lconst0 (pc := 79) dX10_layProducts_79 ?_
    refine a_lstore_n (pc := 80) (ls' := [vo 89, vi x1, vi x2, vl 0, vn, vn, vn, vn]) dX10_layProducts_80 rfl rfl ?_
    refine a_iconst (pc := 81) dX10_layProducts_81 (by decide) ?_
    refine a_istore (pc := 82) (ls' := [vo 89, vi x1, vi x2, vl 0, vn, vi 0, vn, vn]) dX10_layProducts_82 rfl rfl ?_
    exact H
set_option maxRecDepth 20000 in
theorem r_X10_layProducts_84 {E : zE} {d : Nat} {h : zS} {Q : zS → Prop} {x1 : Int} {x2 : Int} {x3 : Int} {x5 : Int}  (H : (((hI h 89 29) ≤ x5 → ((0 ≤ w32 ((w32 (12 * x1)) + x2) ∧ w32 ((w32 (12 * x1)) + x2) < 120) ∧ ∀ h2, h2 = stL h 108 (w32 ((w32 (12 * x1)) + x2)).toNat x3 → zWv E d m_X10_layProducts 71 [vo 89, vi x1, vi (w32 (x2 + 1)), vn, vn, vn, vn, vn] h2 Q)) ∧ (x5 < (hI h 89 29) → ((0 ≤ w32 ((w32 (12 * x2)) + x5) ∧ w32 ((w32 (12 * x2)) + x5) < 144) ∧ (((hI h 103 (w32 ((w32 (12 * x2)) + x5)).toNat) ≠ 0 → (x5 ≠ (hI h 89 32) → (x5 ≠ (hI h 89 31) → (0 ≤ x5 ∧ x5 < 12) ∧ (0 ≤ w32 ((w32 (12 * (w32 (x1 - 1)))) + x5) ∧ w32 ((w32 (12 * (w32 (x1 - 1)))) + x5) < 120))))) ∧ (∀ y7 : Int, y7 = (if (hI h 103 (w32 ((w32 (12 * x2)) + x5)).toNat) = 0 then 0 else (if x5 = (hI h 89 32) then 0 else (if x5 ≠ (hI h 89 31) then (w64 ((w64 (100 - (hI h 101 x5.toNat))) * (hL h 108 (w32 ((w32 (12 * (w32 (x1 - 1)))) + x5)).toNat))) else 0))) → (∀ y9 : Int, y9 = (if (z_lcmp y7 x3) ≤ 0 then x3 else y7) → zWv E d m_X10_layProducts 84 [vo 89, vi x1, vi x2, vl y9, vn, vi (w32 (x5 + 1)), vn, vn] h Q)))))) : zWv E d m_X10_layProducts 84 [vo 89, vi x1, vi x2, vl x3, vn, vi x5, vn, vn] h Q := by
  refine a_iload (pc := 84) dX10_layProducts_84 rfl ?_
  refine a_aload_n (pc := 86) dX10_layProducts_86 rfl ?_
  refine a_getI (pc := 87) dX10_layProducts_87 fl_X10_289 (go_89) ?_
  refine a_icmp_ge (pc := 90) (tgt := 179) dX10_layProducts_90 (by decide) (fun c => ?_) (fun c => ?_)
  · have H := H.1 c
    refine a_aload_n (pc := 179) dX10_layProducts_179 rfl ?_
    refine a_getF (pc := 180) dX10_layProducts_180 fl_X10_69 (go_89) (gf_89_38) ?_
    refine a_bipush (pc := 183) dX10_layProducts_183 (by decide) ?_
    refine a_iload_n (pc := 185) dX10_layProducts_185 rfl ?_
    refine a_imul (pc := 186) dX10_layProducts_186 ?_
    refine a_iload_n (pc := 187) dX10_layProducts_187 rfl ?_
    refine a_iadd (pc := 188) dX10_layProducts_188 ?_
    refine a_lload_n (pc := 189) dX10_layProducts_189 rfl ?_
    obtain ⟨hb1, H⟩ := H
    refine a_lastore (pc := 190) dX10_layProducts_190 (ga_108) hb1 ?_
    have H := H _ rfl
    generalize stL h 108 (w32 ((w32 (12 * x1)) + x2)).toNat x3 = h2 at H ⊢
    refine a_iinc (pc := 191) (ls' := [vo 89, vi x1, vi (w32 (x2 + 1)), vl x3, vn, vi x5, vn, vn]) dX10_layProducts_191 rfl rfl rfl ?_
    refine a_goto (pc := 194) (tgt := 71) dX10_layProducts_194 (by decide) ?_
    exact z_forget (ls' := [vo 89, vi x1, vi (w32 (x2 + 1)), vn, vn, vn, vn, vn]) ⟨.inr rfl, .inr rfl, .inr rfl, .inl rfl, .inr rfl, .inl rfl, .inr rfl, .inr rfl, trivial⟩ H
  · have H := H.2 c
    refine a_aload_n (pc := 93) dX10_layProducts_93 rfl ?_
    refine a_getF (pc := 94) dX10_layProducts_94 fl_X10_54 (go_89) (gf_89_22) ?_
    refine a_bipush (pc := 97) dX10_layProducts_97 (by decide) ?_
    refine a_iload_n (pc := 99) dX10_layProducts_99 rfl ?_
    refine a_imul (pc := 100) dX10_layProducts_100 ?_
    refine a_iload (pc := 101) dX10_layProducts_101 rfl ?_
    refine a_iadd (pc := 103) dX10_layProducts_103 ?_
    obtain ⟨hb3, H⟩ := H
    refine a_iaload (pc := 104) dX10_layProducts_104 (ga_103) hb3 ?_
    obtain ⟨HS, H⟩ := H
    have J : zAt E d 0 0 m_X10_layProducts 157 [vo 89, vi x1, vi x2, vl x3, vn, vi x5, vn, vn] [vl (if (hI h 103 (w32 ((w32 (12 * x2)) + x5)).toNat) = 0 then 0 else (if x5 = (hI h 89 32) then 0 else (if x5 ≠ (hI h 89 31) then (w64 ((w64 (100 - (hI h 101 x5.toNat))) * (hL h 108 (w32 ((w32 (12 * (w32 (x1 - 1)))) + x5)).toNat))) else 0)))] g0 h (zPv Q) := by
      have H := H _ rfl
      generalize ((if (hI h 103 (w32 ((w32 (12 * x2)) + x5)).toNat) = 0 then 0 else (if x5 = (hI h 89 32) then 0 else (if x5 ≠ (hI h 89 31) then (w64 ((w64 (100 - (hI h 101 x5.toNat))) * (hL h 108 (w32 ((w32 (12 * (w32 (x1 - 1)))) + x5)).toNat))) else 0))) : Int) = y7 at H ⊢
      refine a_lstore (pc := 157) (ls' := [vo 89, vi x1, vi x2, vl x3, vn, vi x5, vl y7, vn]) dX10_layProducts_157 rfl rfl ?_
      refine a_lload (pc := 159) dX10_layProducts_159 rfl ?_
      refine a_lload_n (pc := 161) dX10_layProducts_161 rfl ?_
      refine a_lcmp (pc := 162) dX10_layProducts_162 ?_
      have J : zAt E d 0 0 m_X10_layProducts 172 [vo 89, vi x1, vi x2, vl x3, vn, vi x5, vl y7, vn] [vl (if (z_lcmp y7 x3) ≤ 0 then x3 else y7)] g0 h (zPv Q) := by
        have H := H _ rfl
        generalize ((if (z_lcmp y7 x3) ≤ 0 then x3 else y7) : Int) = y9 at H ⊢
        refine a_lstore_n (pc := 172) (ls' := [vo 89, vi x1, vi x2, vl y9, vn, vi x5, vl y7, vn]) dX10_layProducts_172 rfl rfl ?_
        refine a_iinc (pc := 173) (ls' := [vo 89, vi x1, vi x2, vl y9, vn, vi (w32 (x5 + 1)), vl y7, vn]) dX10_layProducts_173 rfl rfl rfl ?_
        refine a_goto (pc := 176) (tgt := 84) dX10_layProducts_176 (by decide) ?_
        exact z_forget (ls' := [vo 89, vi x1, vi x2, vl y9, vn, vi (w32 (x5 + 1)), vn, vn]) ⟨.inr rfl, .inr rfl, .inr rfl, .inr rfl, .inr rfl, .inr rfl, .inl rfl, .inr rfl, trivial⟩ H
      refine a_if_le (pc := 163) (tgt := 171) dX10_layProducts_163 (by decide) (fun c8 => ?_) (fun c8 => ?_)
      · skip
        refine a_lload_n (pc := 171) dX10_layProducts_171 rfl ?_
        exact (z_mergeTL c8 J)
      · skip
        refine a_lload (pc := 166) dX10_layProducts_166 rfl ?_
        refine a_goto (pc := 168) (tgt := 172) dX10_layProducts_168 (by decide) ?_
        exact (z_mergeFL (Int.not_le.mpr c8) J)
    refine a_if_eq (pc := 105) (tgt := 126) dX10_layProducts_105 (by decide) (fun c4 => ?_) (fun c4 => ?_)
    · skip
      refine a_lconst0 (pc := 126) dX10_layProducts_126 ?_
      refine a_goto (pc := 127) (tgt := 157) dX10_layProducts_127 (by decide) ?_
      exact (z_mergeTL c4 J)
    · have HS := HS c4
      refine a_iload (pc := 108) dX10_layProducts_108 rfl ?_
      refine a_aload_n (pc := 110) dX10_layProducts_110 rfl ?_
      refine a_getI (pc := 111) dX10_layProducts_111 fl_X10_154 (go_89) ?_
      refine a_icmp_eq (pc := 114) (tgt := 126) dX10_layProducts_114 (by decide) (fun c5 => ?_) (fun c5 => ?_)
      · skip
        refine a_lconst0 (pc := 126) dX10_layProducts_126 ?_
        refine a_goto (pc := 127) (tgt := 157) dX10_layProducts_127 (by decide) ?_
        exact (z_mergeTL c5 (z_mergeFL c4 J))
      · have HS := HS c5
        refine a_iload (pc := 117) dX10_layProducts_117 rfl ?_
        refine a_aload_n (pc := 119) dX10_layProducts_119 rfl ?_
        refine a_getI (pc := 120) dX10_layProducts_120 fl_X10_151 (go_89) ?_
        refine a_icmp_ne (pc := 123) (tgt := 130) dX10_layProducts_123 (by decide) (fun c6 => ?_) (fun c6 => ?_)
        · have HS := HS c6
          refine a_ldc2 (pc := 130) dX10_layProducts_130 cl_X10_340 (by decide) ?_
          refine a_aload_n (pc := 133) dX10_layProducts_133 rfl ?_
          refine a_getF (pc := 134) dX10_layProducts_134 fl_X10_48 (go_89) (gf_89_20) ?_
          refine a_iload (pc := 137) dX10_layProducts_137 rfl ?_
          obtain ⟨HB0, HS⟩ := HS
          refine a_iaload (pc := 139) dX10_layProducts_139 (ga_101) HB0 ?_
          refine a_i2l (pc := 140) dX10_layProducts_140 ?_
          refine a_lsub (pc := 141) dX10_layProducts_141 ?_
          refine a_aload_n (pc := 142) dX10_layProducts_142 rfl ?_
          refine a_getF (pc := 143) dX10_layProducts_143 fl_X10_69 (go_89) (gf_89_38) ?_
          refine a_bipush (pc := 146) dX10_layProducts_146 (by decide) ?_
          refine a_iload_n (pc := 148) dX10_layProducts_148 rfl ?_
          refine a_iconst (pc := 149) dX10_layProducts_149 (by decide) ?_
          refine a_isub (pc := 150) dX10_layProducts_150 ?_
          refine a_imul (pc := 151) dX10_layProducts_151 ?_
          refine a_iload (pc := 152) dX10_layProducts_152 rfl ?_
          refine a_iadd (pc := 154) dX10_layProducts_154 ?_
          have HB1 := HS
          refine a_laload (pc := 155) dX10_layProducts_155 (ga_108) HB1 ?_
          refine a_lmul (pc := 156) dX10_layProducts_156 ?_
          exact (z_mergeTL c6 (z_mergeFL c5 (z_mergeFL c4 J)))
        · skip
          refine a_lconst0 (pc := 126) dX10_layProducts_126 ?_
          refine a_goto (pc := 127) (tgt := 157) dX10_layProducts_127 (by decide) ?_
          exact (z_mergeFL (fun n => n c6) (z_mergeFL c5 (z_mergeFL c4 J)))
set_option maxRecDepth 20000 in
theorem v_X10_hundreds {E : zE} {d : Nat} {h : zS} {Q : Int → zS → Prop} {x0 : Int}  (H : zWl E d m_X10_hundreds 4 [vi x0, vl 1, vn, vi 0] h Q) : zCl E d m_X10_hundreds [vi x0] h Q := by
  show zAt E d 0 0 m_X10_hundreds 0 [vi x0, vn, vn, vn] [] g0 h (zPl Q)
  refine a_lconst1 (pc := 0) dX10_hundreds_0 ?_
  refine a_lstore_n (pc := 1) (ls' := [vi x0, vl 1, vn, vn]) dX10_hundreds_1 rfl rfl ?_
  refine a_iconst (pc := 2) dX10_hundreds_2 (by decide) ?_
  refine a_istore_n (pc := 3) (ls' := [vi x0, vl 1, vn, vi 0]) dX10_hundreds_3 rfl rfl ?_
  exact H
set_option maxRecDepth 20000 in
theorem r_X10_hundreds_4 {E : zE} {d : Nat} {h : zS} {Q : Int → zS → Prop} {x0 : Int} {x1 : Int} {x3 : Int}  (H : ((x0 ≤ x3 → (Q x1 h)) ∧ (x3 < x0 → (zWl E d m_X10_hundreds 4 [vi x0, vl (w64 (x1 * 100)), vn, vi (w32 (x3 + 1))] h Q)))) : zWl E d m_X10_hundreds 4 [vi x0, vl x1, vn, vi x3] h Q := by
  refine a_iload_n (pc := 4) dX10_hundreds_4 rfl ?_
  refine a_iload_n (pc := 5) dX10_hundreds_5 rfl ?_
  refine a_icmp_ge (pc := 6) (tgt := 21) dX10_hundreds_6 (by decide) (fun c => ?_) (fun c => ?_)
  · have H := H.1 c
    refine a_lload_n (pc := 21) dX10_hundreds_21 rfl ?_
    exact a_lreturn (pc := 22) dX10_hundreds_22 trivial ⟨_, rfl, rfl, H⟩
  · have H := H.2 c
    refine a_lload_n (pc := 9) dX10_hundreds_9 rfl ?_
    refine a_ldc2 (pc := 10) dX10_hundreds_10 cl_X10_340 (by decide) ?_
    refine a_lmul (pc := 13) dX10_hundreds_13 ?_
    refine a_lstore_n (pc := 14) (ls' := [vi x0, vl (w64 (x1 * 100)), vn, vi x3]) dX10_hundreds_14 rfl rfl ?_
    refine a_iinc (pc := 15) (ls' := [vi x0, vl (w64 (x1 * 100)), vn, vi (w32 (x3 + 1))]) dX10_hundreds_15 rfl rfl rfl ?_
    refine a_goto (pc := 18) (tgt := 4) dX10_hundreds_18 (by decide) ?_
    exact H
set_option maxRecDepth 20000 in
theorem v_X10_common {E : zE} {d : Nat} {h : zS} {Q : Int → zS → Prop} {x0 : Int} {x2 : Int}  (H : zWl E d m_X10_common 6 [vn, vn, vn, vn, vl x0, vn, vl x2, vn, vn, vn] h Q) : zCl E d m_X10_common [vl x0, vl x2] h Q := by
  show zAt E d 0 0 m_X10_common 0 [vl x0, vn, vl x2, vn, vn, vn, vn, vn, vn, vn] [] g0 h (zPl Q)
  refine a_lload_n (pc := 0) dX10_common_0 rfl ?_
  refine a_lstore (pc := 1) (ls' := [vl x0, vn, vl x2, vn, vl x0, vn, vn, vn, vn, vn]) dX10_common_1 rfl rfl ?_
  refine a_lload_n (pc := 3) dX10_common_3 rfl ?_
  refine a_lstore (pc := 4) (ls' := [vl x0, vn, vl x2, vn, vl x0, vn, vl x2, vn, vn, vn]) dX10_common_4 rfl rfl ?_
  exact z_forget (ls' := [vn, vn, vn, vn, vl x0, vn, vl x2, vn, vn, vn]) ⟨.inl rfl, .inr rfl, .inl rfl, .inr rfl, .inr rfl, .inr rfl, .inr rfl, .inr rfl, .inr rfl, .inr rfl, trivial⟩ H
set_option maxRecDepth 20000 in
theorem r_X10_common_6 {E : zE} {d : Nat} {h : zS} {Q : Int → zS → Prop} {x4 : Int} {x6 : Int}  (H : (((z_lcmp x6 0) ≤ 0 → (Q x4 h)) ∧ (0 < (z_lcmp x6 0) → ((x6 ≠ 0) ∧ zWl E d m_X10_common 6 [vn, vn, vn, vn, vl x6, vn, vl (z_lrem x4 x6), vn, vn, vn] h Q)))) : zWl E d m_X10_common 6 [vn, vn, vn, vn, vl x4, vn, vl x6, vn, vn, vn] h Q := by
  refine a_lload (pc := 6) dX10_common_6 rfl ?_
  refine a_lconst0 (pc := 8) dX10_common_8 ?_
  refine a_lcmp (pc := 9) dX10_common_9 ?_
  refine a_if_le (pc := 10) (tgt := 31) dX10_common_10 (by decide) (fun c => ?_) (fun c => ?_)
  · have H := H.1 c
    refine a_lload (pc := 31) dX10_common_31 rfl ?_
    exact a_lreturn (pc := 33) dX10_common_33 trivial ⟨_, rfl, rfl, H⟩
  · have H := H.2 c
    refine a_lload (pc := 13) dX10_common_13 rfl ?_
    refine a_lload (pc := 15) dX10_common_15 rfl ?_
    obtain ⟨hb, H⟩ := H
    refine a_lrem (pc := 17) dX10_common_17 hb ?_
    refine a_lstore (pc := 18) (ls' := [vn, vn, vn, vn, vl x4, vn, vl x6, vn, vl (z_lrem x4 x6), vn]) dX10_common_18 rfl rfl ?_
    refine a_lload (pc := 20) dX10_common_20 rfl ?_
    refine a_lstore (pc := 22) (ls' := [vn, vn, vn, vn, vl x6, vn, vl x6, vn, vl (z_lrem x4 x6), vn]) dX10_common_22 rfl rfl ?_
    refine a_lload (pc := 24) dX10_common_24 rfl ?_
    refine a_lstore (pc := 26) (ls' := [vn, vn, vn, vn, vl x6, vn, vl (z_lrem x4 x6), vn, vl (z_lrem x4 x6), vn]) dX10_common_26 rfl rfl ?_
    refine a_goto (pc := 28) (tgt := 6) dX10_common_28 (by decide) ?_
    exact z_forget (ls' := [vn, vn, vn, vn, vl x6, vn, vl (z_lrem x4 x6), vn, vn, vn]) ⟨.inr rfl, .inr rfl, .inr rfl, .inr rfl, .inr rfl, .inr rfl, .inr rfl, .inr rfl, .inl rfl, .inr rfl, trivial⟩ H
set_option maxRecDepth 20000 in
theorem v_X10_laySafe {E : zE} {d : Nat} {h : zS} {Q : zS → Prop} {x1 : Int}  (H : ∀ h1, h1 = stI h 107 0 (hI h 89 31) → ∀ h2, h2 = stI h1 89 37 1 → zWv E d m_X10_laySafe 19 [vo 89, vn, vi (hI h 89 31), vi x1, vn] h2 Q) : zCv E d m_X10_laySafe [vo 89, vi x1] h Q := by
  show zAt E d 0 0 m_X10_laySafe 0 [vo 89, vi x1, vn, vn, vn] [] g0 h (zPv Q)
  refine a_aload_n (pc := 0) dX10_laySafe_0 rfl ?_
  refine a_getI (pc := 1) dX10_laySafe_1 fl_X10_151 (go_89) ?_
  refine a_istore_n (pc := 4) (ls' := [vo 89, vi x1, vi (hI h 89 31), vn, vn]) dX10_laySafe_4 rfl rfl ?_
  refine a_aload_n (pc := 5) dX10_laySafe_5 rfl ?_
  refine a_getF (pc := 6) dX10_laySafe_6 fl_X10_66 (go_89) (gf_89_36) ?_
  refine a_iconst (pc := 9) dX10_laySafe_9 (by decide) ?_
  refine a_iload_n (pc := 10) dX10_laySafe_10 rfl ?_
  refine a_iastore (pc := 11) dX10_laySafe_11 (ga_107) (by decide) ?_
  have H := H _ rfl
  show zAt E d 0 0 m_X10_laySafe 12 [vo 89, vi x1, vi (hI h 89 31), vn, vn] [] g0 (stI h 107 0 (hI h 89 31)) (zPv Q)
  generalize stI h 107 0 (hI h 89 31) = h1 at H ⊢
  refine a_aload_n (pc := 12) dX10_laySafe_12 rfl ?_
  refine a_iconst (pc := 13) dX10_laySafe_13 (by decide) ?_
  refine a_putI (pc := 14) dX10_laySafe_14 fl_X10_308 (go_89) ?_
  have H := H _ rfl
  generalize stI h1 89 37 1 = h2 at H ⊢
  refine a_iload_n (pc := 17) dX10_laySafe_17 rfl ?_
  refine a_istore_n (pc := 18) (ls' := [vo 89, vi x1, vi (hI h 89 31), vi x1, vn]) dX10_laySafe_18 rfl rfl ?_
  exact z_forget (ls' := [vo 89, vn, vi (hI h 89 31), vi x1, vn]) ⟨.inr rfl, .inl rfl, .inr rfl, .inr rfl, .inr rfl, trivial⟩ H
set_option maxRecDepth 20000 in
theorem r_X10_laySafe_19 {E : zE} {d : Nat} {h : zS} {Q : zS → Prop} {x2 : Int} {x3 : Int}  (H : ((x3 ≤ 0 → ((0 ≤ hI h 89 37 ∧ hI h 89 37 < 12) ∧ ∀ h2, h2 = stI h 107 (hI h 89 37).toNat (hI h 89 32) → ∀ h3, h3 = stI h2 89 37 (w32 ((hI h2 89 37) + 1)) → Q h3)) ∧ (0 < x3 → (zWv E d m_X10_laySafe 26 [vo 89, vn, vi x2, vi x3, vi 0] h Q)))) : zWv E d m_X10_laySafe 19 [vo 89, vn, vi x2, vi x3, vn] h Q := by
  refine a_iload_n (pc := 19) dX10_laySafe_19 rfl ?_
  refine a_if_le (pc := 20) (tgt := 136) dX10_laySafe_20 (by decide) (fun c => ?_) (fun c => ?_)
  · have H := H.1 c
    refine a_aload_n (pc := 136) dX10_laySafe_136 rfl ?_
    refine a_getF (pc := 137) dX10_laySafe_137 fl_X10_66 (go_89) (gf_89_36) ?_
    refine a_aload_n (pc := 140) dX10_laySafe_140 rfl ?_
    refine a_getI (pc := 141) dX10_laySafe_141 fl_X10_308 (go_89) ?_
    refine a_aload_n (pc := 144) dX10_laySafe_144 rfl ?_
    refine a_getI (pc := 145) dX10_laySafe_145 fl_X10_154 (go_89) ?_
    obtain ⟨hb1, H⟩ := H
    refine a_iastore (pc := 148) dX10_laySafe_148 (ga_107) hb1 ?_
    have H := H _ rfl
    generalize stI h 107 (hI h 89 37).toNat (hI h 89 32) = h2 at H ⊢
    refine a_aload_n (pc := 149) dX10_laySafe_149 rfl ?_
    refine a_dup (pc := 150) dX10_laySafe_150 rfl ?_
    refine a_getI (pc := 151) dX10_laySafe_151 fl_X10_308 (go_89) ?_
    refine a_iconst (pc := 154) dX10_laySafe_154 (by decide) ?_
    refine a_iadd (pc := 155) dX10_laySafe_155 ?_
    refine a_putI (pc := 156) dX10_laySafe_156 fl_X10_308 (go_89) ?_
    have H := H _ rfl
    generalize stI h2 89 37 (w32 ((hI h2 89 37) + 1)) = h3 at H ⊢
    exact a_return (pc := 159) dX10_laySafe_159 trivial ⟨rfl, rfl, H⟩
  · have H := H.2 c
    refine a_iconst (pc := 23) dX10_laySafe_23 (by decide) ?_
    refine a_istore (pc := 24) (ls' := [vo 89, vn, vi x2, vi x3, vi 0]) dX10_laySafe_24 rfl rfl ?_
    exact H
set_option maxRecDepth 20000 in
theorem r_X10_laySafe_26 {E : zE} {d : Nat} {h : zS} {Q : zS → Prop} {x2 : Int} {x3 : Int} {x4 : Int}  (H : (0 ≤ w32 ((w32 (12 * x2)) + x4) ∧ w32 ((w32 (12 * x2)) + x4) < 144) ∧ (((hI h 103 (w32 ((w32 (12 * x2)) + x4)).toNat) = 0 → (zWv E d m_X10_laySafe 26 [vo 89, vn, vi x2, vi x3, vi (w32 (x4 + 1))] h Q)) ∧ ((hI h 103 (w32 ((w32 (12 * x2)) + x4)).toNat) ≠ 0 → ((x4 = (hI h 89 32) → (zWv E d m_X10_laySafe 26 [vo 89, vn, vi x2, vi x3, vi (w32 (x4 + 1))] h Q)) ∧ (x4 ≠ (hI h 89 32) → ((x4 = (hI h 89 31) → (zWv E d m_X10_laySafe 26 [vo 89, vn, vi x2, vi x3, vi (w32 (x4 + 1))] h Q)) ∧ (x4 ≠ (hI h 89 31) → ((0 ≤ x4 ∧ x4 < 12) ∧ (0 ≤ w32 ((w32 (12 * (w32 (x3 - 1)))) + x4) ∧ w32 ((w32 (12 * (w32 (x3 - 1)))) + x4) < 120) ∧ (0 ≤ w32 ((w32 (12 * x3)) + x2) ∧ w32 ((w32 (12 * x3)) + x2) < 120) ∧ (((z_lcmp (w64 ((w64 (100 - (hI h 101 x4.toNat))) * (hL h 108 (w32 ((w32 (12 * (w32 (x3 - 1)))) + x4)).toNat))) (hL h 108 (w32 ((w32 (12 * x3)) + x2)).toNat)) = 0 → ((0 ≤ hI h 89 37 ∧ hI h 89 37 < 12) ∧ ∀ h6, h6 = stI h 107 (hI h 89 37).toNat x4 → ∀ h7, h7 = stI h6 89 37 (w32 ((hI h6 89 37) + 1)) → zWv E d m_X10_laySafe 19 [vo 89, vn, vi x4, vi (w32 (x3 + (-1))), vn] h7 Q)) ∧ ((z_lcmp (w64 ((w64 (100 - (hI h 101 x4.toNat))) * (hL h 108 (w32 ((w32 (12 * (w32 (x3 - 1)))) + x4)).toNat))) (hL h 108 (w32 ((w32 (12 * x3)) + x2)).toNat)) ≠ 0 → (zWv E d m_X10_laySafe 26 [vo 89, vn, vi x2, vi x3, vi (w32 (x4 + 1))] h Q))))))))))) : zWv E d m_X10_laySafe 26 [vo 89, vn, vi x2, vi x3, vi x4] h Q := by
  refine a_aload_n (pc := 26) dX10_laySafe_26 rfl ?_
  refine a_getF (pc := 27) dX10_laySafe_27 fl_X10_54 (go_89) (gf_89_22) ?_
  refine a_bipush (pc := 30) dX10_laySafe_30 (by decide) ?_
  refine a_iload_n (pc := 32) dX10_laySafe_32 rfl ?_
  refine a_imul (pc := 33) dX10_laySafe_33 ?_
  refine a_iload (pc := 34) dX10_laySafe_34 rfl ?_
  refine a_iadd (pc := 36) dX10_laySafe_36 ?_
  obtain ⟨hb1, H⟩ := H
  refine a_iaload (pc := 37) dX10_laySafe_37 (ga_103) hb1 ?_
  refine a_if_eq (pc := 38) (tgt := 101) dX10_laySafe_38 (by decide) (fun c => ?_) (fun c => ?_)
  · have H := H.1 c
    refine a_iinc (pc := 101) (ls' := [vo 89, vn, vi x2, vi x3, vi (w32 (x4 + 1))]) dX10_laySafe_101 rfl rfl rfl ?_
    refine a_goto (pc := 104) (tgt := 26) dX10_laySafe_104 (by decide) ?_
    exact H
  · have H := H.2 c
    refine a_iload (pc := 41) dX10_laySafe_41 rfl ?_
    refine a_aload_n (pc := 43) dX10_laySafe_43 rfl ?_
    refine a_getI (pc := 44) dX10_laySafe_44 fl_X10_154 (go_89) ?_
    refine a_icmp_eq (pc := 47) (tgt := 101) dX10_laySafe_47 (by decide) (fun c => ?_) (fun c => ?_)
    · have H := H.1 c
      refine a_iinc (pc := 101) (ls' := [vo 89, vn, vi x2, vi x3, vi (w32 (x4 + 1))]) dX10_laySafe_101 rfl rfl rfl ?_
      refine a_goto (pc := 104) (tgt := 26) dX10_laySafe_104 (by decide) ?_
      exact H
    · have H := H.2 c
      refine a_iload (pc := 50) dX10_laySafe_50 rfl ?_
      refine a_aload_n (pc := 52) dX10_laySafe_52 rfl ?_
      refine a_getI (pc := 53) dX10_laySafe_53 fl_X10_151 (go_89) ?_
      refine a_icmp_eq (pc := 56) (tgt := 101) dX10_laySafe_56 (by decide) (fun c => ?_) (fun c => ?_)
      · have H := H.1 c
        refine a_iinc (pc := 101) (ls' := [vo 89, vn, vi x2, vi x3, vi (w32 (x4 + 1))]) dX10_laySafe_101 rfl rfl rfl ?_
        refine a_goto (pc := 104) (tgt := 26) dX10_laySafe_104 (by decide) ?_
        exact H
      · have H := H.2 c
        refine a_ldc2 (pc := 59) dX10_laySafe_59 cl_X10_340 (by decide) ?_
        refine a_aload_n (pc := 62) dX10_laySafe_62 rfl ?_
        refine a_getF (pc := 63) dX10_laySafe_63 fl_X10_48 (go_89) (gf_89_20) ?_
        refine a_iload (pc := 66) dX10_laySafe_66 rfl ?_
        obtain ⟨hb2, H⟩ := H
        refine a_iaload (pc := 68) dX10_laySafe_68 (ga_101) hb2 ?_
        refine a_i2l (pc := 69) dX10_laySafe_69 ?_
        refine a_lsub (pc := 70) dX10_laySafe_70 ?_
        refine a_aload_n (pc := 71) dX10_laySafe_71 rfl ?_
        refine a_getF (pc := 72) dX10_laySafe_72 fl_X10_69 (go_89) (gf_89_38) ?_
        refine a_bipush (pc := 75) dX10_laySafe_75 (by decide) ?_
        refine a_iload_n (pc := 77) dX10_laySafe_77 rfl ?_
        refine a_iconst (pc := 78) dX10_laySafe_78 (by decide) ?_
        refine a_isub (pc := 79) dX10_laySafe_79 ?_
        refine a_imul (pc := 80) dX10_laySafe_80 ?_
        refine a_iload (pc := 81) dX10_laySafe_81 rfl ?_
        refine a_iadd (pc := 83) dX10_laySafe_83 ?_
        obtain ⟨hb3, H⟩ := H
        refine a_laload (pc := 84) dX10_laySafe_84 (ga_108) hb3 ?_
        refine a_lmul (pc := 85) dX10_laySafe_85 ?_
        refine a_aload_n (pc := 86) dX10_laySafe_86 rfl ?_
        refine a_getF (pc := 87) dX10_laySafe_87 fl_X10_69 (go_89) (gf_89_38) ?_
        refine a_bipush (pc := 90) dX10_laySafe_90 (by decide) ?_
        refine a_iload_n (pc := 92) dX10_laySafe_92 rfl ?_
        refine a_imul (pc := 93) dX10_laySafe_93 ?_
        refine a_iload_n (pc := 94) dX10_laySafe_94 rfl ?_
        refine a_iadd (pc := 95) dX10_laySafe_95 ?_
        obtain ⟨hb4, H⟩ := H
        refine a_laload (pc := 96) dX10_laySafe_96 (ga_108) hb4 ?_
        refine a_lcmp (pc := 97) dX10_laySafe_97 ?_
        refine a_if_eq (pc := 98) (tgt := 107) dX10_laySafe_98 (by decide) (fun c => ?_) (fun c => ?_)
        · have H := H.1 c
          refine a_iload (pc := 107) dX10_laySafe_107 rfl ?_
          refine a_istore_n (pc := 109) (ls' := [vo 89, vn, vi x4, vi x3, vi x4]) dX10_laySafe_109 rfl rfl ?_
          refine a_aload_n (pc := 110) dX10_laySafe_110 rfl ?_
          refine a_getF (pc := 111) dX10_laySafe_111 fl_X10_66 (go_89) (gf_89_36) ?_
          refine a_aload_n (pc := 114) dX10_laySafe_114 rfl ?_
          refine a_getI (pc := 115) dX10_laySafe_115 fl_X10_308 (go_89) ?_
          refine a_iload_n (pc := 118) dX10_laySafe_118 rfl ?_
          obtain ⟨hb5, H⟩ := H
          refine a_iastore (pc := 119) dX10_laySafe_119 (ga_107) hb5 ?_
          have H := H _ rfl
          generalize stI h 107 (hI h 89 37).toNat x4 = h6 at H ⊢
          refine a_aload_n (pc := 120) dX10_laySafe_120 rfl ?_
          refine a_dup (pc := 121) dX10_laySafe_121 rfl ?_
          refine a_getI (pc := 122) dX10_laySafe_122 fl_X10_308 (go_89) ?_
          refine a_iconst (pc := 125) dX10_laySafe_125 (by decide) ?_
          refine a_iadd (pc := 126) dX10_laySafe_126 ?_
          refine a_putI (pc := 127) dX10_laySafe_127 fl_X10_308 (go_89) ?_
          have H := H _ rfl
          generalize stI h6 89 37 (w32 ((hI h6 89 37) + 1)) = h7 at H ⊢
          refine a_iinc (pc := 130) (ls' := [vo 89, vn, vi x4, vi (w32 (x3 + (-1))), vi x4]) dX10_laySafe_130 rfl rfl rfl ?_
          refine a_goto (pc := 133) (tgt := 19) dX10_laySafe_133 (by decide) ?_
          exact z_forget (ls' := [vo 89, vn, vi x4, vi (w32 (x3 + (-1))), vn]) ⟨.inr rfl, .inr rfl, .inr rfl, .inr rfl, .inl rfl, trivial⟩ H
        · have H := H.2 c
          refine a_iinc (pc := 101) (ls' := [vo 89, vn, vi x2, vi x3, vi (w32 (x4 + 1))]) dX10_laySafe_101 rfl rfl rfl ?_
          refine a_goto (pc := 104) (tgt := 26) dX10_laySafe_104 (by decide) ?_
          exact H
set_option maxRecDepth 20000 in
theorem v_X10_safe {E : zE} {d : Nat} {h : zS} {Q : Int → zS → Prop} {x1 : Int}  (H : ∀ h1, h1 = stI h 89 37 0 → ((x1 < 0 → (Q (-1) h1)) ∧ (0 ≤ x1 → ((1 < x1 → (Q (-1) h1)) ∧ (x1 ≤ 1 → (((hI h1 89 31) < 0 → (Q (-1) h1)) ∧ (0 ≤ (hI h1 89 31) → ((0 ≤ (hI h1 89 32) → (((hI h1 89 31) ≠ (hI h1 89 32) → (zCv E d m_X10_layProducts [vo 89] h1 (fun h2 => zWl E (d + 1) m_X10_safe 71 [vo 89, vi x1, vi (-1), vl 0, vn, vi 0, vn, vn] h2 Q))) ∧ ((hI h1 89 31) = (hI h1 89 32) → (∀ h3, h3 = stI h1 107 0 (hI h1 89 31) → ∀ h4, h4 = stI h3 89 37 1 → Q 1 h4)))) ∧ ((hI h1 89 32) < 0 → (Q (-1) h1)))))))))) : zCl E (d + 1) m_X10_safe [vo 89, vi x1] h Q := by
  show zAt E (d + 1) 0 0 m_X10_safe 0 [vo 89, vi x1, vn, vn, vn, vn, vn, vn] [] g0 h (zPl Q)
  refine a_aload_n (pc := 0) dX10_safe_0 rfl ?_
  refine a_iconst (pc := 1) dX10_safe_1 (by decide) ?_
  refine a_putI (pc := 2) dX10_safe_2 fl_X10_308 (go_89) ?_
  have H := H _ rfl
  generalize stI h 89 37 0 = h1 at H ⊢
  refine a_iload_n (pc := 5) dX10_safe_5 rfl ?_
  refine a_if_lt (pc := 6) (tgt := 28) dX10_safe_6 (by decide) (fun c => ?_) (fun c => ?_)
  · have H := H.1 c
    refine a_ldc2 (pc := 28) dX10_safe_28 cl_X10_342 (by decide) ?_
    exact a_lreturn (pc := 31) dX10_safe_31 trivial ⟨_, rfl, rfl, H⟩
  · have H := H.2 c
    refine a_iload_n (pc := 9) dX10_safe_9 rfl ?_
    refine a_iconst (pc := 10) dX10_safe_10 (by decide) ?_
    refine a_icmp_gt (pc := 11) (tgt := 28) dX10_safe_11 (by decide) (fun c => ?_) (fun c => ?_)
    · have H := H.1 c
      refine a_ldc2 (pc := 28) dX10_safe_28 cl_X10_342 (by decide) ?_
      exact a_lreturn (pc := 31) dX10_safe_31 trivial ⟨_, rfl, rfl, H⟩
    · have H := H.2 c
      refine a_aload_n (pc := 14) dX10_safe_14 rfl ?_
      refine a_getI (pc := 15) dX10_safe_15 fl_X10_151 (go_89) ?_
      refine a_if_lt (pc := 18) (tgt := 28) dX10_safe_18 (by decide) (fun c => ?_) (fun c => ?_)
      · have H := H.1 c
        refine a_ldc2 (pc := 28) dX10_safe_28 cl_X10_342 (by decide) ?_
        exact a_lreturn (pc := 31) dX10_safe_31 trivial ⟨_, rfl, rfl, H⟩
      · have H := H.2 c
        refine a_aload_n (pc := 21) dX10_safe_21 rfl ?_
        refine a_getI (pc := 22) dX10_safe_22 fl_X10_154 (go_89) ?_
        refine a_if_ge (pc := 25) (tgt := 32) dX10_safe_25 (by decide) (fun c => ?_) (fun c => ?_)
        · have H := H.1 c
          refine a_aload_n (pc := 32) dX10_safe_32 rfl ?_
          refine a_getI (pc := 33) dX10_safe_33 fl_X10_151 (go_89) ?_
          refine a_aload_n (pc := 36) dX10_safe_36 rfl ?_
          refine a_getI (pc := 37) dX10_safe_37 fl_X10_154 (go_89) ?_
          refine a_icmp_ne (pc := 40) (tgt := 60) dX10_safe_40 (by decide) (fun c => ?_) (fun c => ?_)
          · have H := H.1 c
            refine a_aload_n (pc := 60) dX10_safe_60 rfl ?_
            refine a_callV (pc := 61) (kc := 0) (ks := 0) (kc' := 0) (ks' := 0) (st := []) [] dX10_safe_61 ml_X10_344 (go_89) rfl (Nat.le_of_ble_eq_true rfl) (Nat.le_of_ble_eq_true rfl) (z_post H (fun r G1 h2 q => ?_))
            obtain ⟨rfl, rfl, H⟩ := q
            show zAt E (d + 1) 0 0 m_X10_safe 64 [vo 89, vi x1, vn, vn, vn, vn, vn, vn] [] g0 h2 (zPl Q)
            refine a_iconst (pc := 64) dX10_safe_64 (by decide) ?_
            refine a_istore_n (pc := 65) (ls' := [vo 89, vi x1, vi (-1), vn, vn, vn, vn, vn]) dX10_safe_65 rfl rfl ?_
            refine a_lconst0 (pc := 66) dX10_safe_66 ?_
            refine a_lstore_n (pc := 67) (ls' := [vo 89, vi x1, vi (-1), vl 0, vn, vn, vn, vn]) dX10_safe_67 rfl rfl ?_
            refine a_iconst (pc := 68) dX10_safe_68 (by decide) ?_
            refine a_istore (pc := 69) (ls' := [vo 89, vi x1, vi (-1), vl 0, vn, vi 0, vn, vn]) dX10_safe_69 rfl rfl ?_
            exact H
          · have H := H.2 c
            refine a_aload_n (pc := 43) dX10_safe_43 rfl ?_
            refine a_getF (pc := 44) dX10_safe_44 fl_X10_66 (go_89) (gf_89_36) ?_
            refine a_iconst (pc := 47) dX10_safe_47 (by decide) ?_
            refine a_aload_n (pc := 48) dX10_safe_48 rfl ?_
            refine a_getI (pc := 49) dX10_safe_49 fl_X10_151 (go_89) ?_
            refine a_iastore (pc := 52) dX10_safe_52 (ga_107) (by decide) ?_
            have H := H _ rfl
            show zAt E (d + 1) 0 0 m_X10_safe 53 [vo 89, vi x1, vn, vn, vn, vn, vn, vn] [] g0 (stI h1 107 0 (hI h1 89 31)) (zPl Q)
            generalize stI h1 107 0 (hI h1 89 31) = h3 at H ⊢
            refine a_aload_n (pc := 53) dX10_safe_53 rfl ?_
            refine a_iconst (pc := 54) dX10_safe_54 (by decide) ?_
            refine a_putI (pc := 55) dX10_safe_55 fl_X10_308 (go_89) ?_
            have H := H _ rfl
            generalize stI h3 89 37 1 = h4 at H ⊢
            refine a_lconst1 (pc := 58) dX10_safe_58 ?_
            exact a_lreturn (pc := 59) dX10_safe_59 trivial ⟨_, rfl, rfl, H⟩
        · have H := H.2 c
          refine a_ldc2 (pc := 28) dX10_safe_28 cl_X10_342 (by decide) ?_
          exact a_lreturn (pc := 31) dX10_safe_31 trivial ⟨_, rfl, rfl, H⟩
set_option maxRecDepth 20000 in
theorem r_X10_safe_71 {E : zE} {d : Nat} {h : zS} {Q : Int → zS → Prop} {x1 : Int} {x2 : Int} {x3 : Int} {x5 : Int}  (H : ((9 < x5 → ((0 ≤ x2 → (zCv E d m_X10_laySafe [vo 89, vi x2] h (fun h1 => zCl E d m_X10_hundreds [vi x2] h1 (fun y3 h2 => (0 ≤ w32 ((w32 (12 * x2)) + (hI h2 89 31)) ∧ w32 ((w32 (12 * x2)) + (hI h2 89 31)) < 120) ∧ zCl E d m_X10_common [vl y3, vl (hL h2 108 (w32 ((w32 (12 * x2)) + (hI h2 89 31))).toNat)] h2 (fun y6 h5 => ((x1 ≠ 0 → (zCl E d m_X10_hundreds [vi x2] h5 (fun y8 h7 => (y6 ≠ 0) ∧ Q (z_ldiv y8 y6) h7))) ∧ (x1 = 0 → ((0 ≤ w32 ((w32 (12 * x2)) + (hI h5 89 31)) ∧ w32 ((w32 (12 * x2)) + (hI h5 89 31)) < 120) ∧ (y6 ≠ 0) ∧ Q (z_ldiv (hL h5 108 (w32 ((w32 (12 * x2)) + (hI h5 89 31))).toNat) y6) h5)))))))) ∧ (x2 < 0 → (Q (-1) h)))) ∧ (x5 ≤ 9 → ((0 ≤ w32 ((w32 (12 * x5)) + (hI h 89 31)) ∧ w32 ((w32 (12 * x5)) + (hI h 89 31)) < 120) ∧ zCl E d m_X10_hundreds [vi (w32 (9 - x5))] h (fun y12 h11 => ∀ y13 : Int, y13 = w64 ((hL h 108 (w32 ((w32 (12 * x5)) + (hI h 89 31))).toNat) * y12) → ((0 < (z_lcmp y13 x3) → (zWl E (d + 1) m_X10_safe 71 [vo 89, vi x1, vi x5, vl y13, vn, vi (w32 (x5 + 1)), vn, vn] h11 Q)) ∧ ((z_lcmp y13 x3) ≤ 0 → (zWl E (d + 1) m_X10_safe 71 [vo 89, vi x1, vi x2, vl x3, vn, vi (w32 (x5 + 1)), vn, vn] h11 Q)))))))) : zWl E (d + 1) m_X10_safe 71 [vo 89, vi x1, vi x2, vl x3, vn, vi x5, vn, vn] h Q := by
  refine a_iload (pc := 71) dX10_safe_71 rfl ?_
  refine a_bipush (pc := 73) dX10_safe_73 (by decide) ?_
  refine a_icmp_gt (pc := 75) (tgt := 126) dX10_safe_75 (by decide) (fun c => ?_) (fun c => ?_)
  · have H := H.1 c
    refine a_iload_n (pc := 126) dX10_safe_126 rfl ?_
    refine a_if_ge (pc := 127) (tgt := 134) dX10_safe_127 (by decide) (fun c => ?_) (fun c => ?_)
    · have H := H.1 c
      refine a_aload_n (pc := 134) dX10_safe_134 rfl ?_
      refine a_iload_n (pc := 135) dX10_safe_135 rfl ?_
      refine a_callV (pc := 136) (kc := 0) (ks := 0) (kc' := 0) (ks' := 0) (st := []) [vi x2] dX10_safe_136 ml_X10_351 (go_89) rfl (Nat.le_of_ble_eq_true rfl) (Nat.le_of_ble_eq_true rfl) (z_post H (fun r G1 h1 q => ?_))
      obtain ⟨rfl, rfl, H⟩ := q
      show zAt E (d + 1) 0 0 m_X10_safe 139 [vo 89, vi x1, vi x2, vl x3, vn, vi x5, vn, vn] [] g0 h1 (zPl Q)
      refine a_iload_n (pc := 139) dX10_safe_139 rfl ?_
      refine a_callS (pc := 140) (kc := 0) (ks := 0) (kc' := 0) (ks' := 0) (st := []) [vi x2] dX10_safe_140 ml_X10_347 rfl (Nat.le_of_ble_eq_true rfl) (Nat.le_of_ble_eq_true rfl) (z_post H (fun r G1 h2 q => ?_))
      obtain ⟨y3, rfl, rfl, H⟩ := q
      show zAt E (d + 1) 0 0 m_X10_safe 143 [vo 89, vi x1, vi x2, vl x3, vn, vi x5, vn, vn] [vl y3] g0 h2 (zPl Q)
      refine a_aload_n (pc := 143) dX10_safe_143 rfl ?_
      refine a_getF (pc := 144) dX10_safe_144 fl_X10_69 (go_89) (gf_89_38) ?_
      refine a_bipush (pc := 147) dX10_safe_147 (by decide) ?_
      refine a_iload_n (pc := 149) dX10_safe_149 rfl ?_
      refine a_imul (pc := 150) dX10_safe_150 ?_
      refine a_aload_n (pc := 151) dX10_safe_151 rfl ?_
      refine a_getI (pc := 152) dX10_safe_152 fl_X10_151 (go_89) ?_
      refine a_iadd (pc := 155) dX10_safe_155 ?_
      obtain ⟨hb4, H⟩ := H
      refine a_laload (pc := 156) dX10_safe_156 (ga_108) hb4 ?_
      refine a_callS (pc := 157) (kc := 0) (ks := 0) (kc' := 0) (ks' := 0) (st := []) [vl y3, vl (hL h2 108 (w32 ((w32 (12 * x2)) + (hI h2 89 31))).toNat)] dX10_safe_157 ml_X10_354 rfl (Nat.le_of_ble_eq_true rfl) (Nat.le_of_ble_eq_true rfl) (z_post H (fun r G1 h5 q => ?_))
      obtain ⟨y6, rfl, rfl, H⟩ := q
      show zAt E (d + 1) 0 0 m_X10_safe 160 [vo 89, vi x1, vi x2, vl x3, vn, vi x5, vn, vn] [vl y6] g0 h5 (zPl Q)
      refine a_lstore (pc := 160) (ls' := [vo 89, vi x1, vi x2, vl x3, vn, vl y6, vn, vn]) dX10_safe_160 rfl rfl ?_
      refine a_iload_n (pc := 162) dX10_safe_162 rfl ?_
      refine a_if_ne (pc := 163) (tgt := 186) dX10_safe_163 (by decide) (fun c => ?_) (fun c => ?_)
      · have H := H.1 c
        refine a_iload_n (pc := 186) dX10_safe_186 rfl ?_
        refine a_callS (pc := 187) (kc := 0) (ks := 0) (kc' := 0) (ks' := 0) (st := []) [vi x2] dX10_safe_187 ml_X10_347 rfl (Nat.le_of_ble_eq_true rfl) (Nat.le_of_ble_eq_true rfl) (z_post H (fun r G1 h7 q => ?_))
        obtain ⟨y8, rfl, rfl, H⟩ := q
        show zAt E (d + 1) 0 0 m_X10_safe 190 [vo 89, vi x1, vi x2, vl x3, vn, vl y6, vn, vn] [vl y8] g0 h7 (zPl Q)
        refine a_lload (pc := 190) dX10_safe_190 rfl ?_
        obtain ⟨hb, H⟩ := H
        refine a_ldiv (pc := 192) dX10_safe_192 hb ?_
        exact a_lreturn (pc := 193) dX10_safe_193 trivial ⟨_, rfl, rfl, H⟩
      · have H := H.2 c
        refine a_aload_n (pc := 166) dX10_safe_166 rfl ?_
        refine a_getF (pc := 167) dX10_safe_167 fl_X10_69 (go_89) (gf_89_38) ?_
        refine a_bipush (pc := 170) dX10_safe_170 (by decide) ?_
        refine a_iload_n (pc := 172) dX10_safe_172 rfl ?_
        refine a_imul (pc := 173) dX10_safe_173 ?_
        refine a_aload_n (pc := 174) dX10_safe_174 rfl ?_
        refine a_getI (pc := 175) dX10_safe_175 fl_X10_151 (go_89) ?_
        refine a_iadd (pc := 178) dX10_safe_178 ?_
        obtain ⟨hb9, H⟩ := H
        refine a_laload (pc := 179) dX10_safe_179 (ga_108) hb9 ?_
        refine a_lload (pc := 180) dX10_safe_180 rfl ?_
        obtain ⟨hb, H⟩ := H
        refine a_ldiv (pc := 182) dX10_safe_182 hb ?_
        refine a_goto (pc := 183) (tgt := 193) dX10_safe_183 (by decide) ?_
        exact a_lreturn (pc := 193) dX10_safe_193 trivial ⟨_, rfl, rfl, H⟩
    · have H := H.2 c
      refine a_ldc2 (pc := 130) dX10_safe_130 cl_X10_342 (by decide) ?_
      exact a_lreturn (pc := 133) dX10_safe_133 trivial ⟨_, rfl, rfl, H⟩
  · have H := H.2 c
    refine a_aload_n (pc := 78) dX10_safe_78 rfl ?_
    refine a_getF (pc := 79) dX10_safe_79 fl_X10_69 (go_89) (gf_89_38) ?_
    refine a_bipush (pc := 82) dX10_safe_82 (by decide) ?_
    refine a_iload (pc := 84) dX10_safe_84 rfl ?_
    refine a_imul (pc := 86) dX10_safe_86 ?_
    refine a_aload_n (pc := 87) dX10_safe_87 rfl ?_
    refine a_getI (pc := 88) dX10_safe_88 fl_X10_151 (go_89) ?_
    refine a_iadd (pc := 91) dX10_safe_91 ?_
    obtain ⟨hb10, H⟩ := H
    refine a_laload (pc := 92) dX10_safe_92 (ga_108) hb10 ?_
    refine a_bipush (pc := 93) dX10_safe_93 (by decide) ?_
    refine a_iload (pc := 95) dX10_safe_95 rfl ?_
    refine a_isub (pc := 97) dX10_safe_97 ?_
    refine a_callS (pc := 98) (kc := 0) (ks := 0) (kc' := 0) (ks' := 0) (st := [vl (hL h 108 (w32 ((w32 (12 * x5)) + (hI h 89 31))).toNat)]) [vi (w32 (9 - x5))] dX10_safe_98 ml_X10_347 rfl (Nat.le_of_ble_eq_true rfl) (Nat.le_of_ble_eq_true rfl) (z_post H (fun r G1 h11 q => ?_))
    obtain ⟨y12, rfl, rfl, H⟩ := q
    show zAt E (d + 1) 0 0 m_X10_safe 101 [vo 89, vi x1, vi x2, vl x3, vn, vi x5, vn, vn] [vl y12, vl (hL h 108 (w32 ((w32 (12 * x5)) + (hI h 89 31))).toNat)] g0 h11 (zPl Q)
    refine a_lmul (pc := 101) dX10_safe_101 ?_
    have H := H _ rfl
    generalize (w64 ((hL h 108 (w32 ((w32 (12 * x5)) + (hI h 89 31))).toNat) * y12) : Int) = y13 at H ⊢
    refine a_lstore (pc := 102) (ls' := [vo 89, vi x1, vi x2, vl x3, vn, vi x5, vl y13, vn]) dX10_safe_102 rfl rfl ?_
    refine a_lload (pc := 104) dX10_safe_104 rfl ?_
    refine a_lload_n (pc := 106) dX10_safe_106 rfl ?_
    refine a_lcmp (pc := 107) dX10_safe_107 ?_
    refine a_if_gt (pc := 108) (tgt := 114) dX10_safe_108 (by decide) (fun c => ?_) (fun c => ?_)
    · have H := H.1 c
      refine a_iload (pc := 114) dX10_safe_114 rfl ?_
      refine a_istore_n (pc := 116) (ls' := [vo 89, vi x1, vi x5, vl x3, vn, vi x5, vl y13, vn]) dX10_safe_116 rfl rfl ?_
      refine a_lload (pc := 117) dX10_safe_117 rfl ?_
      refine a_lstore_n (pc := 119) (ls' := [vo 89, vi x1, vi x5, vl y13, vn, vi x5, vl y13, vn]) dX10_safe_119 rfl rfl ?_
      refine a_iinc (pc := 120) (ls' := [vo 89, vi x1, vi x5, vl y13, vn, vi (w32 (x5 + 1)), vl y13, vn]) dX10_safe_120 rfl rfl rfl ?_
      refine a_goto (pc := 123) (tgt := 71) dX10_safe_123 (by decide) ?_
      exact z_forget (ls' := [vo 89, vi x1, vi x5, vl y13, vn, vi (w32 (x5 + 1)), vn, vn]) ⟨.inr rfl, .inr rfl, .inr rfl, .inr rfl, .inr rfl, .inr rfl, .inl rfl, .inr rfl, trivial⟩ H
    · have H := H.2 c
      refine a_goto (pc := 111) (tgt := 120) dX10_safe_111 (by decide) ?_
      refine a_iinc (pc := 120) (ls' := [vo 89, vi x1, vi x2, vl x3, vn, vi (w32 (x5 + 1)), vl y13, vn]) dX10_safe_120 rfl rfl rfl ?_
      refine a_goto (pc := 123) (tgt := 71) dX10_safe_123 (by decide) ?_
      exact z_forget (ls' := [vo 89, vi x1, vi x2, vl x3, vn, vi (w32 (x5 + 1)), vn, vn]) ⟨.inr rfl, .inr rfl, .inr rfl, .inr rfl, .inr rfl, .inr rfl, .inl rfl, .inr rfl, trivial⟩ H
set_option maxRecDepth 20000 in
theorem v_X10_layFlow {E : zE} {d : Nat} {h : zS} {Q : zS → Prop}   (H : zWv E d m_X10_layFlow 2 [vo 89, vi 0, vn] h Q) : zCv E d m_X10_layFlow [vo 89] h Q := by
  show zAt E d 0 0 m_X10_layFlow 0 [vo 89, vn, vn] [] g0 h (zPv Q)
  refine a_iconst (pc := 0) dX10_layFlow_0 (by decide) ?_
  refine a_istore_n (pc := 1) (ls' := [vo 89, vi 0, vn]) dX10_layFlow_1 rfl rfl ?_
  exact H
set_option maxRecDepth 20000 in
theorem r_X10_layFlow_2 {E : zE} {d : Nat} {h : zS} {Q : zS → Prop} {x1 : Int}  (H : ((576 ≤ x1 → (zWv E d m_X10_layFlow 24 [vo 89, vi 0, vn] h Q)) ∧ (x1 < 576 → ((0 ≤ x1 ∧ x1 < 576) ∧ ∀ h2, h2 = stI h 109 x1.toNat 0 → zWv E d m_X10_layFlow 2 [vo 89, vi (w32 (x1 + 1)), vn] h2 Q)))) : zWv E d m_X10_layFlow 2 [vo 89, vi x1, vn] h Q := by
  refine a_iload_n (pc := 2) dX10_layFlow_2 rfl ?_
  refine a_sipush (pc := 3) dX10_layFlow_3 (by decide) ?_
  refine a_icmp_ge (pc := 6) (tgt := 22) dX10_layFlow_6 (by decide) (fun c => ?_) (fun c => ?_)
  · have H := H.1 c
    refine a_iconst (pc := 22) dX10_layFlow_22 (by decide) ?_
    refine a_istore_n (pc := 23) (ls' := [vo 89, vi 0, vn]) dX10_layFlow_23 rfl rfl ?_
    exact H
  · have H := H.2 c
    refine a_aload_n (pc := 9) dX10_layFlow_9 rfl ?_
    refine a_getF (pc := 10) dX10_layFlow_10 fl_X10_72 (go_89) (gf_89_39) ?_
    refine a_iload_n (pc := 13) dX10_layFlow_13 rfl ?_
    refine a_iconst (pc := 14) dX10_layFlow_14 (by decide) ?_
    obtain ⟨hb1, H⟩ := H
    refine a_iastore (pc := 15) dX10_layFlow_15 (ga_109) hb1 ?_
    have H := H _ rfl
    generalize stI h 109 x1.toNat 0 = h2 at H ⊢
    refine a_iinc (pc := 16) (ls' := [vo 89, vi (w32 (x1 + 1)), vn]) dX10_layFlow_16 rfl rfl rfl ?_
    refine a_goto (pc := 19) (tgt := 2) dX10_layFlow_19 (by decide) ?_
    exact H
set_option maxRecDepth 20000 in
theorem r_X10_layFlow_24 {E : zE} {d : Nat} {h : zS} {Q : zS → Prop} {x1 : Int}  (H : (((hI h 89 29) ≤ x1 → (Q h)) ∧ (x1 < (hI h 89 29) → ((0 ≤ w32 ((w32 ((w32 (24 * (w32 (2 * x1)))) + (w32 (2 * x1)))) + 1) ∧ w32 ((w32 ((w32 (24 * (w32 (2 * x1)))) + (w32 (2 * x1)))) + 1) < 576) ∧ ∀ h4, h4 = stI h 109 (w32 ((w32 ((w32 (24 * (w32 (2 * x1)))) + (w32 (2 * x1)))) + 1)).toNat (if x1 = (hI h 89 31) then 12 else (if x1 ≠ (hI h 89 32) then 1 else 12)) → zWv E d m_X10_layFlow 73 [vo 89, vi x1, vi 0] h4 Q)))) : zWv E d m_X10_layFlow 24 [vo 89, vi x1, vn] h Q := by
  refine a_iload_n (pc := 24) dX10_layFlow_24 rfl ?_
  refine a_aload_n (pc := 25) dX10_layFlow_25 rfl ?_
  refine a_getI (pc := 26) dX10_layFlow_26 fl_X10_289 (go_89) ?_
  refine a_icmp_ge (pc := 29) (tgt := 125) dX10_layFlow_29 (by decide) (fun c => ?_) (fun c => ?_)
  · have H := H.1 c
    exact a_return (pc := 125) dX10_layFlow_125 trivial ⟨rfl, rfl, H⟩
  · have H := H.2 c
    refine a_aload_n (pc := 32) dX10_layFlow_32 rfl ?_
    refine a_getF (pc := 33) dX10_layFlow_33 fl_X10_72 (go_89) (gf_89_39) ?_
    refine a_bipush (pc := 36) dX10_layFlow_36 (by decide) ?_
    refine a_iconst (pc := 38) dX10_layFlow_38 (by decide) ?_
    refine a_iload_n (pc := 39) dX10_layFlow_39 rfl ?_
    refine a_imul (pc := 40) dX10_layFlow_40 ?_
    refine a_imul (pc := 41) dX10_layFlow_41 ?_
    refine a_iconst (pc := 42) dX10_layFlow_42 (by decide) ?_
    refine a_iload_n (pc := 43) dX10_layFlow_43 rfl ?_
    refine a_imul (pc := 44) dX10_layFlow_44 ?_
    refine a_iadd (pc := 45) dX10_layFlow_45 ?_
    refine a_iconst (pc := 46) dX10_layFlow_46 (by decide) ?_
    refine a_iadd (pc := 47) dX10_layFlow_47 ?_
    refine a_iload_n (pc := 48) dX10_layFlow_48 rfl ?_
    refine a_aload_n (pc := 49) dX10_layFlow_49 rfl ?_
    refine a_getI (pc := 50) dX10_layFlow_50 fl_X10_151 (go_89) ?_
    have J : zAt E d 0 0 m_X10_layFlow 70 [vo 89, vi x1, vn] [vi (if x1 = (hI h 89 31) then 12 else (if x1 ≠ (hI h 89 32) then 1 else 12)), vi (w32 ((w32 ((w32 (24 * (w32 (2 * x1)))) + (w32 (2 * x1)))) + 1)), vo 109] g0 h (zPv Q) := by
      obtain ⟨hb3, H⟩ := H
      refine a_iastore (pc := 70) dX10_layFlow_70 (ga_109) hb3 ?_
      have H := H _ rfl
      generalize stI h 109 (w32 ((w32 ((w32 (24 * (w32 (2 * x1)))) + (w32 (2 * x1)))) + 1)).toNat (if x1 = (hI h 89 31) then 12 else (if x1 ≠ (hI h 89 32) then 1 else 12)) = h4 at H ⊢
      refine a_iconst (pc := 71) dX10_layFlow_71 (by decide) ?_
      refine a_istore_n (pc := 72) (ls' := [vo 89, vi x1, vi 0]) dX10_layFlow_72 rfl rfl ?_
      exact H
    refine a_icmp_eq (pc := 53) (tgt := 64) dX10_layFlow_53 (by decide) (fun c1 => ?_) (fun c1 => ?_)
    · skip
      refine a_bipush (pc := 64) dX10_layFlow_64 (by decide) ?_
      refine a_goto (pc := 66) (tgt := 70) dX10_layFlow_66 (by decide) ?_
      exact (z_mergeT c1 J)
    · skip
      refine a_iload_n (pc := 56) dX10_layFlow_56 rfl ?_
      refine a_aload_n (pc := 57) dX10_layFlow_57 rfl ?_
      refine a_getI (pc := 58) dX10_layFlow_58 fl_X10_154 (go_89) ?_
      refine a_icmp_ne (pc := 61) (tgt := 69) dX10_layFlow_61 (by decide) (fun c2 => ?_) (fun c2 => ?_)
      · skip
        refine a_iconst (pc := 69) dX10_layFlow_69 (by decide) ?_
        exact (z_mergeT c2 (z_mergeF c1 J))
      · skip
        refine a_bipush (pc := 64) dX10_layFlow_64 (by decide) ?_
        refine a_goto (pc := 66) (tgt := 70) dX10_layFlow_66 (by decide) ?_
        exact (z_mergeF (fun n => n c2) (z_mergeF c1 J))
set_option maxRecDepth 20000 in
theorem r_X10_layFlow_73 {E : zE} {d : Nat} {h : zS} {Q : zS → Prop} {x1 : Int} {x2 : Int}  (H : (((hI h 89 29) ≤ x2 → (zWv E d m_X10_layFlow 24 [vo 89, vi (w32 (x1 + 1)), vn] h Q)) ∧ (x2 < (hI h 89 29) → ((0 ≤ w32 ((w32 (12 * x1)) + x2) ∧ w32 ((w32 (12 * x1)) + x2) < 144) ∧ (((hI h 103 (w32 ((w32 (12 * x1)) + x2)).toNat) ≤ 0 → (zWv E d m_X10_layFlow 73 [vo 89, vi x1, vi (w32 (x2 + 1))] h Q)) ∧ (0 < (hI h 103 (w32 ((w32 (12 * x1)) + x2)).toNat) → ((0 ≤ w32 ((w32 (24 * (w32 ((w32 (2 * x1)) + 1)))) + (w32 (2 * x2))) ∧ w32 ((w32 (24 * (w32 ((w32 (2 * x1)) + 1)))) + (w32 (2 * x2))) < 576) ∧ ∀ h3, h3 = stI h 109 (w32 ((w32 (24 * (w32 ((w32 (2 * x1)) + 1)))) + (w32 (2 * x2)))).toNat 1 → zWv E d m_X10_layFlow 73 [vo 89, vi x1, vi (w32 (x2 + 1))] h3 Q))))))) : zWv E d m_X10_layFlow 73 [vo 89, vi x1, vi x2] h Q := by
  refine a_iload_n (pc := 73) dX10_layFlow_73 rfl ?_
  refine a_aload_n (pc := 74) dX10_layFlow_74 rfl ?_
  refine a_getI (pc := 75) dX10_layFlow_75 fl_X10_289 (go_89) ?_
  refine a_icmp_ge (pc := 78) (tgt := 119) dX10_layFlow_78 (by decide) (fun c => ?_) (fun c => ?_)
  · have H := H.1 c
    refine a_iinc (pc := 119) (ls' := [vo 89, vi (w32 (x1 + 1)), vi x2]) dX10_layFlow_119 rfl rfl rfl ?_
    refine a_goto (pc := 122) (tgt := 24) dX10_layFlow_122 (by decide) ?_
    exact z_forget (ls' := [vo 89, vi (w32 (x1 + 1)), vn]) ⟨.inr rfl, .inr rfl, .inl rfl, trivial⟩ H
  · have H := H.2 c
    refine a_aload_n (pc := 81) dX10_layFlow_81 rfl ?_
    refine a_getF (pc := 82) dX10_layFlow_82 fl_X10_54 (go_89) (gf_89_22) ?_
    refine a_bipush (pc := 85) dX10_layFlow_85 (by decide) ?_
    refine a_iload_n (pc := 87) dX10_layFlow_87 rfl ?_
    refine a_imul (pc := 88) dX10_layFlow_88 ?_
    refine a_iload_n (pc := 89) dX10_layFlow_89 rfl ?_
    refine a_iadd (pc := 90) dX10_layFlow_90 ?_
    obtain ⟨hb1, H⟩ := H
    refine a_iaload (pc := 91) dX10_layFlow_91 (ga_103) hb1 ?_
    refine a_if_le (pc := 92) (tgt := 113) dX10_layFlow_92 (by decide) (fun c => ?_) (fun c => ?_)
    · have H := H.1 c
      refine a_iinc (pc := 113) (ls' := [vo 89, vi x1, vi (w32 (x2 + 1))]) dX10_layFlow_113 rfl rfl rfl ?_
      refine a_goto (pc := 116) (tgt := 73) dX10_layFlow_116 (by decide) ?_
      exact H
    · have H := H.2 c
      refine a_aload_n (pc := 95) dX10_layFlow_95 rfl ?_
      refine a_getF (pc := 96) dX10_layFlow_96 fl_X10_72 (go_89) (gf_89_39) ?_
      refine a_bipush (pc := 99) dX10_layFlow_99 (by decide) ?_
      refine a_iconst (pc := 101) dX10_layFlow_101 (by decide) ?_
      refine a_iload_n (pc := 102) dX10_layFlow_102 rfl ?_
      refine a_imul (pc := 103) dX10_layFlow_103 ?_
      refine a_iconst (pc := 104) dX10_layFlow_104 (by decide) ?_
      refine a_iadd (pc := 105) dX10_layFlow_105 ?_
      refine a_imul (pc := 106) dX10_layFlow_106 ?_
      refine a_iconst (pc := 107) dX10_layFlow_107 (by decide) ?_
      refine a_iload_n (pc := 108) dX10_layFlow_108 rfl ?_
      refine a_imul (pc := 109) dX10_layFlow_109 ?_
      refine a_iadd (pc := 110) dX10_layFlow_110 ?_
      refine a_iconst (pc := 111) dX10_layFlow_111 (by decide) ?_
      obtain ⟨hb2, H⟩ := H
      refine a_iastore (pc := 112) dX10_layFlow_112 (ga_109) hb2 ?_
      have H := H _ rfl
      generalize stI h 109 (w32 ((w32 (24 * (w32 ((w32 (2 * x1)) + 1)))) + (w32 (2 * x2)))).toNat 1 = h3 at H ⊢
      refine a_iinc (pc := 113) (ls' := [vo 89, vi x1, vi (w32 (x2 + 1))]) dX10_layFlow_113 rfl rfl rfl ?_
      refine a_goto (pc := 116) (tgt := 73) dX10_layFlow_116 (by decide) ?_
      exact H
set_option maxRecDepth 20000 in
theorem v_X10_oneMore {E : zE} {d : Nat} {h : zS} {Q : Int → zS → Prop}   (H : zWi E d m_X10_oneMore 2 [vo 89, vi 0, vn, vn, vn, vn, vn] h Q) : zCi E d m_X10_oneMore [vo 89] h Q := by
  show zAt E d 0 0 m_X10_oneMore 0 [vo 89, vn, vn, vn, vn, vn, vn] [] g0 h (zPi Q)
  refine a_iconst (pc := 0) dX10_oneMore_0 (by decide) ?_
  refine a_istore_n (pc := 1) (ls' := [vo 89, vi 0, vn, vn, vn, vn, vn]) dX10_oneMore_1 rfl rfl ?_
  exact H
set_option maxRecDepth 20000 in
theorem r_X10_oneMore_2 {E : zE} {d : Nat} {h : zS} {Q : Int → zS → Prop} {x1 : Int}  (H : ((24 ≤ x1 → (∀ y1 : Int, y1 = w32 ((w32 (2 * (hI h 89 31))) + 1) → ∀ h2, h2 = stI h 111 0 y1 → (0 ≤ y1 ∧ y1 < 24) ∧ ∀ h4, h4 = stI h2 110 y1.toNat y1 → zWi E d m_X10_oneMore 56 [vo 89, vi y1, vi (w32 (2 * (hI h 89 32))), vi 0, vi 1, vn, vn] h4 Q)) ∧ (x1 < 24 → ((0 ≤ x1 ∧ x1 < 24) ∧ ∀ h6, h6 = stI h 110 x1.toNat (-1) → zWi E d m_X10_oneMore 2 [vo 89, vi (w32 (x1 + 1)), vn, vn, vn, vn, vn] h6 Q)))) : zWi E d m_X10_oneMore 2 [vo 89, vi x1, vn, vn, vn, vn, vn] h Q := by
  refine a_iload_n (pc := 2) dX10_oneMore_2 rfl ?_
  refine a_bipush (pc := 3) dX10_oneMore_3 (by decide) ?_
  refine a_icmp_ge (pc := 5) (tgt := 21) dX10_oneMore_5 (by decide) (fun c => ?_) (fun c => ?_)
  · have H := H.1 c
    refine a_iconst (pc := 21) dX10_oneMore_21 (by decide) ?_
    refine a_aload_n (pc := 22) dX10_oneMore_22 rfl ?_
    refine a_getI (pc := 23) dX10_oneMore_23 fl_X10_151 (go_89) ?_
    refine a_imul (pc := 26) dX10_oneMore_26 ?_
    refine a_iconst (pc := 27) dX10_oneMore_27 (by decide) ?_
    refine a_iadd (pc := 28) dX10_oneMore_28 ?_
    have H := H _ rfl
    generalize (w32 ((w32 (2 * (hI h 89 31))) + 1) : Int) = y1 at H ⊢
    refine a_istore_n (pc := 29) (ls' := [vo 89, vi y1, vn, vn, vn, vn, vn]) dX10_oneMore_29 rfl rfl ?_
    refine a_iconst (pc := 30) dX10_oneMore_30 (by decide) ?_
    refine a_aload_n (pc := 31) dX10_oneMore_31 rfl ?_
    refine a_getI (pc := 32) dX10_oneMore_32 fl_X10_154 (go_89) ?_
    refine a_imul (pc := 35) dX10_oneMore_35 ?_
    refine a_istore_n (pc := 36) (ls' := [vo 89, vi y1, vi (w32 (2 * (hI h 89 32))), vn, vn, vn, vn]) dX10_oneMore_36 rfl rfl ?_
    refine a_iconst (pc := 37) dX10_oneMore_37 (by decide) ?_
    refine a_istore_n (pc := 38) (ls' := [vo 89, vi y1, vi (w32 (2 * (hI h 89 32))), vi 0, vn, vn, vn]) dX10_oneMore_38 rfl rfl ?_
    refine a_iconst (pc := 39) dX10_oneMore_39 (by decide) ?_
    refine a_istore (pc := 40) (ls' := [vo 89, vi y1, vi (w32 (2 * (hI h 89 32))), vi 0, vi 1, vn, vn]) dX10_oneMore_40 rfl rfl ?_
    refine a_aload_n (pc := 42) dX10_oneMore_42 rfl ?_
    refine a_getF (pc := 43) dX10_oneMore_43 fl_X10_78 (go_89) (gf_89_41) ?_
    refine a_iconst (pc := 46) dX10_oneMore_46 (by decide) ?_
    refine a_iload_n (pc := 47) dX10_oneMore_47 rfl ?_
    refine a_iastore (pc := 48) dX10_oneMore_48 (ga_111) (by decide) ?_
    have H := H _ rfl
    show zAt E d 0 0 m_X10_oneMore 49 [vo 89, vi y1, vi (w32 (2 * (hI h 89 32))), vi 0, vi 1, vn, vn] [] g0 (stI h 111 0 y1) (zPi Q)
    generalize stI h 111 0 y1 = h2 at H ⊢
    refine a_aload_n (pc := 49) dX10_oneMore_49 rfl ?_
    refine a_getF (pc := 50) dX10_oneMore_50 fl_X10_75 (go_89) (gf_89_40) ?_
    refine a_iload_n (pc := 53) dX10_oneMore_53 rfl ?_
    refine a_iload_n (pc := 54) dX10_oneMore_54 rfl ?_
    obtain ⟨hb3, H⟩ := H
    refine a_iastore (pc := 55) dX10_oneMore_55 (ga_110) hb3 ?_
    have H := H _ rfl
    generalize stI h2 110 y1.toNat y1 = h4 at H ⊢
    exact H
  · have H := H.2 c
    refine a_aload_n (pc := 8) dX10_oneMore_8 rfl ?_
    refine a_getF (pc := 9) dX10_oneMore_9 fl_X10_75 (go_89) (gf_89_40) ?_
    refine a_iload_n (pc := 12) dX10_oneMore_12 rfl ?_
    refine a_iconst (pc := 13) dX10_oneMore_13 (by decide) ?_
    obtain ⟨hb5, H⟩ := H
    refine a_iastore (pc := 14) dX10_oneMore_14 (ga_110) hb5 ?_
    have H := H _ rfl
    generalize stI h 110 x1.toNat (-1) = h6 at H ⊢
    refine a_iinc (pc := 15) (ls' := [vo 89, vi (w32 (x1 + 1)), vn, vn, vn, vn, vn]) dX10_oneMore_15 rfl rfl rfl ?_
    refine a_goto (pc := 18) (tgt := 2) dX10_oneMore_18 (by decide) ?_
    exact H
set_option maxRecDepth 20000 in
theorem r_X10_oneMore_56 {E : zE} {d : Nat} {h : zS} {Q : Int → zS → Prop} {x1 : Int} {x2 : Int} {x3 : Int} {x4 : Int}  (H : ((x4 ≤ x3 → ((0 ≤ x2 ∧ x2 < 24) ∧ ((0 ≤ (hI h 110 x2.toNat) → (zWi E d m_X10_oneMore 169 [vo 89, vi x1, vn, vn, vn, vi x2, vn] h Q)) ∧ ((hI h 110 x2.toNat) < 0 → (Q 0 h))))) ∧ (x3 < x4 → ((0 ≤ x2 ∧ x2 < 24) ∧ ((0 ≤ (hI h 110 x2.toNat) → ((0 ≤ (hI h 110 x2.toNat) → (zWi E d m_X10_oneMore 169 [vo 89, vi x1, vn, vn, vn, vi x2, vn] h Q)) ∧ ((hI h 110 x2.toNat) < 0 → (Q 0 h)))) ∧ ((hI h 110 x2.toNat) < 0 → ((0 ≤ x3 ∧ x3 < 24) ∧ zWi E d m_X10_oneMore 85 [vo 89, vi x1, vi x2, vi (w32 (x3 + 1)), vi x4, vi (hI h 111 x3.toNat), vi 0] h Q))))))) : zWi E d m_X10_oneMore 56 [vo 89, vi x1, vi x2, vi x3, vi x4, vn, vn] h Q := by
  refine a_iload_n (pc := 56) dX10_oneMore_56 rfl ?_
  refine a_iload (pc := 57) dX10_oneMore_57 rfl ?_
  refine a_icmp_ge (pc := 59) (tgt := 155) dX10_oneMore_59 (by decide) (fun c => ?_) (fun c => ?_)
  · have H := H.1 c
    refine a_aload_n (pc := 155) dX10_oneMore_155 rfl ?_
    refine a_getF (pc := 156) dX10_oneMore_156 fl_X10_75 (go_89) (gf_89_40) ?_
    refine a_iload_n (pc := 159) dX10_oneMore_159 rfl ?_
    obtain ⟨hb1, H⟩ := H
    refine a_iaload (pc := 160) dX10_oneMore_160 (ga_110) hb1 ?_
    refine a_if_ge (pc := 161) (tgt := 166) dX10_oneMore_161 (by decide) (fun c => ?_) (fun c => ?_)
    · have H := H.1 c
      refine a_iload_n (pc := 166) dX10_oneMore_166 rfl ?_
      refine a_istore (pc := 167) (ls' := [vo 89, vi x1, vi x2, vi x3, vi x4, vi x2, vn]) dX10_oneMore_167 rfl rfl ?_
      exact z_forget (ls' := [vo 89, vi x1, vn, vn, vn, vi x2, vn]) ⟨.inr rfl, .inr rfl, .inl rfl, .inl rfl, .inl rfl, .inr rfl, .inr rfl, trivial⟩ H
    · have H := H.2 c
      refine a_iconst (pc := 164) dX10_oneMore_164 (by decide) ?_
      exact a_ireturn (pc := 165) dX10_oneMore_165 (.inl rfl) ⟨_, rfl, rfl, H⟩
  · have H := H.2 c
    refine a_aload_n (pc := 62) dX10_oneMore_62 rfl ?_
    refine a_getF (pc := 63) dX10_oneMore_63 fl_X10_75 (go_89) (gf_89_40) ?_
    refine a_iload_n (pc := 66) dX10_oneMore_66 rfl ?_
    obtain ⟨hb2, H⟩ := H
    refine a_iaload (pc := 67) dX10_oneMore_67 (ga_110) hb2 ?_
    refine a_if_ge (pc := 68) (tgt := 155) dX10_oneMore_68 (by decide) (fun c => ?_) (fun c => ?_)
    · have H := H.1 c
      refine a_aload_n (pc := 155) dX10_oneMore_155 rfl ?_
      refine a_getF (pc := 156) dX10_oneMore_156 fl_X10_75 (go_89) (gf_89_40) ?_
      refine a_iload_n (pc := 159) dX10_oneMore_159 rfl ?_
      refine a_iaload (pc := 160) dX10_oneMore_160 (ga_110) hb2 ?_
      refine a_if_ge (pc := 161) (tgt := 166) dX10_oneMore_161 (by decide) (fun c => ?_) (fun c => ?_)
      · have H := H.1 c
        refine a_iload_n (pc := 166) dX10_oneMore_166 rfl ?_
        refine a_istore (pc := 167) (ls' := [vo 89, vi x1, vi x2, vi x3, vi x4, vi x2, vn]) dX10_oneMore_167 rfl rfl ?_
        exact z_forget (ls' := [vo 89, vi x1, vn, vn, vn, vi x2, vn]) ⟨.inr rfl, .inr rfl, .inl rfl, .inl rfl, .inl rfl, .inr rfl, .inr rfl, trivial⟩ H
      · have H := H.2 c
        refine a_iconst (pc := 164) dX10_oneMore_164 (by decide) ?_
        exact a_ireturn (pc := 165) dX10_oneMore_165 (.inl rfl) ⟨_, rfl, rfl, H⟩
    · have H := H.2 c
      refine a_aload_n (pc := 71) dX10_oneMore_71 rfl ?_
      refine a_getF (pc := 72) dX10_oneMore_72 fl_X10_78 (go_89) (gf_89_41) ?_
      refine a_iload_n (pc := 75) dX10_oneMore_75 rfl ?_
      obtain ⟨hb3, H⟩ := H
      refine a_iaload (pc := 76) dX10_oneMore_76 (ga_111) hb3 ?_
      refine a_istore (pc := 77) (ls' := [vo 89, vi x1, vi x2, vi x3, vi x4, vi (hI h 111 x3.toNat), vn]) dX10_oneMore_77 rfl rfl ?_
      refine a_iinc (pc := 79) (ls' := [vo 89, vi x1, vi x2, vi (w32 (x3 + 1)), vi x4, vi (hI h 111 x3.toNat), vn]) dX10_oneMore_79 rfl rfl rfl ?_
      refine a_iconst (pc := 82) dX10_oneMore_82 (by decide) ?_
      refine a_istore (pc := 83) (ls' := [vo 89, vi x1, vi x2, vi (w32 (x3 + 1)), vi x4, vi (hI h 111 x3.toNat), vi 0]) dX10_oneMore_83 rfl rfl ?_
      exact H
set_option maxRecDepth 20000 in
theorem r_X10_oneMore_169 {E : zE} {d : Nat} {h : zS} {Q : Int → zS → Prop} {x1 : Int} {x5 : Int}  (H : ((x5 = x1 → (Q 1 h)) ∧ (x5 ≠ x1 → ((0 ≤ x5 ∧ x5 < 24) ∧ (0 ≤ w32 ((w32 (24 * (hI h 110 x5.toNat))) + x5) ∧ w32 ((w32 (24 * (hI h 110 x5.toNat))) + x5) < 576) ∧ ∀ h3, h3 = stI h 109 (w32 ((w32 (24 * (hI h 110 x5.toNat))) + x5)).toNat (w32 ((hI h 109 (w32 ((w32 (24 * (hI h 110 x5.toNat))) + x5)).toNat) - 1)) → (0 ≤ w32 ((w32 (24 * x5)) + (hI h3 110 x5.toNat)) ∧ w32 ((w32 (24 * x5)) + (hI h3 110 x5.toNat)) < 576) ∧ ∀ h5, h5 = stI h3 109 (w32 ((w32 (24 * x5)) + (hI h3 110 x5.toNat))).toNat (w32 ((hI h3 109 (w32 ((w32 (24 * x5)) + (hI h3 110 x5.toNat))).toNat) + 1)) → zWi E d m_X10_oneMore 169 [vo 89, vi x1, vn, vn, vn, vi (hI h5 110 x5.toNat), vn] h5 Q)))) : zWi E d m_X10_oneMore 169 [vo 89, vi x1, vn, vn, vn, vi x5, vn] h Q := by
  refine a_iload (pc := 169) dX10_oneMore_169 rfl ?_
  refine a_iload_n (pc := 171) dX10_oneMore_171 rfl ?_
  refine a_icmp_eq (pc := 172) (tgt := 231) dX10_oneMore_172 (by decide) (fun c => ?_) (fun c => ?_)
  · have H := H.1 c
    refine a_iconst (pc := 231) dX10_oneMore_231 (by decide) ?_
    exact a_ireturn (pc := 232) dX10_oneMore_232 (.inr rfl) ⟨_, rfl, rfl, H⟩
  · have H := H.2 c
    refine a_aload_n (pc := 175) dX10_oneMore_175 rfl ?_
    refine a_getF (pc := 176) dX10_oneMore_176 fl_X10_72 (go_89) (gf_89_39) ?_
    refine a_bipush (pc := 179) dX10_oneMore_179 (by decide) ?_
    refine a_aload_n (pc := 181) dX10_oneMore_181 rfl ?_
    refine a_getF (pc := 182) dX10_oneMore_182 fl_X10_75 (go_89) (gf_89_40) ?_
    refine a_iload (pc := 185) dX10_oneMore_185 rfl ?_
    obtain ⟨hb1, H⟩ := H
    refine a_iaload (pc := 187) dX10_oneMore_187 (ga_110) hb1 ?_
    refine a_imul (pc := 188) dX10_oneMore_188 ?_
    refine a_iload (pc := 189) dX10_oneMore_189 rfl ?_
    refine a_iadd (pc := 191) dX10_oneMore_191 ?_
    refine a_dup2 (pc := 192) dX10_oneMore_192 rfl rfl ?_
    obtain ⟨hb2, H⟩ := H
    refine a_iaload (pc := 193) dX10_oneMore_193 (ga_109) hb2 ?_
    refine a_iconst (pc := 194) dX10_oneMore_194 (by decide) ?_
    refine a_isub (pc := 195) dX10_oneMore_195 ?_
    refine a_iastore (pc := 196) dX10_oneMore_196 (ga_109) hb2 ?_
    have H := H _ rfl
    generalize stI h 109 (w32 ((w32 (24 * (hI h 110 x5.toNat))) + x5)).toNat (w32 ((hI h 109 (w32 ((w32 (24 * (hI h 110 x5.toNat))) + x5)).toNat) - 1)) = h3 at H ⊢
    refine a_aload_n (pc := 197) dX10_oneMore_197 rfl ?_
    refine a_getF (pc := 198) dX10_oneMore_198 fl_X10_72 (go_89) (gf_89_39) ?_
    refine a_bipush (pc := 201) dX10_oneMore_201 (by decide) ?_
    refine a_iload (pc := 203) dX10_oneMore_203 rfl ?_
    refine a_imul (pc := 205) dX10_oneMore_205 ?_
    refine a_aload_n (pc := 206) dX10_oneMore_206 rfl ?_
    refine a_getF (pc := 207) dX10_oneMore_207 fl_X10_75 (go_89) (gf_89_40) ?_
    refine a_iload (pc := 210) dX10_oneMore_210 rfl ?_
    refine a_iaload (pc := 212) dX10_oneMore_212 (ga_110) hb1 ?_
    refine a_iadd (pc := 213) dX10_oneMore_213 ?_
    refine a_dup2 (pc := 214) dX10_oneMore_214 rfl rfl ?_
    obtain ⟨hb4, H⟩ := H
    refine a_iaload (pc := 215) dX10_oneMore_215 (ga_109) hb4 ?_
    refine a_iconst (pc := 216) dX10_oneMore_216 (by decide) ?_
    refine a_iadd (pc := 217) dX10_oneMore_217 ?_
    refine a_iastore (pc := 218) dX10_oneMore_218 (ga_109) hb4 ?_
    have H := H _ rfl
    generalize stI h3 109 (w32 ((w32 (24 * x5)) + (hI h3 110 x5.toNat))).toNat (w32 ((hI h3 109 (w32 ((w32 (24 * x5)) + (hI h3 110 x5.toNat))).toNat) + 1)) = h5 at H ⊢
    refine a_aload_n (pc := 219) dX10_oneMore_219 rfl ?_
    refine a_getF (pc := 220) dX10_oneMore_220 fl_X10_75 (go_89) (gf_89_40) ?_
    refine a_iload (pc := 223) dX10_oneMore_223 rfl ?_
    refine a_iaload (pc := 225) dX10_oneMore_225 (ga_110) hb1 ?_
    refine a_istore (pc := 226) (ls' := [vo 89, vi x1, vn, vn, vn, vi (hI h5 110 x5.toNat), vn]) dX10_oneMore_226 rfl rfl ?_
    refine a_goto (pc := 228) (tgt := 169) dX10_oneMore_228 (by decide) ?_
    exact H
set_option maxRecDepth 20000 in
theorem r_X10_oneMore_85 {E : zE} {d : Nat} {h : zS} {Q : Int → zS → Prop} {x1 : Int} {x2 : Int} {x3 : Int} {x4 : Int} {x5 : Int} {x6 : Int}  (H : (((w32 (2 * (hI h 89 29))) ≤ x6 → (zWi E d m_X10_oneMore 56 [vo 89, vi x1, vi x2, vi x3, vi x4, vn, vn] h Q)) ∧ (x6 < (w32 (2 * (hI h 89 29))) → ((0 ≤ w32 ((w32 (24 * x5)) + x6) ∧ w32 ((w32 (24 * x5)) + x6) < 576) ∧ (((hI h 109 (w32 ((w32 (24 * x5)) + x6)).toNat) = 0 → (zWi E d m_X10_oneMore 85 [vo 89, vi x1, vi x2, vi x3, vi x4, vi x5, vi (w32 (x6 + 1))] h Q)) ∧ ((hI h 109 (w32 ((w32 (24 * x5)) + x6)).toNat) ≠ 0 → ((0 ≤ x6 ∧ x6 < 24) ∧ (((hI h 110 x6.toNat) < 0 → (∀ h3, h3 = stI h 110 x6.toNat x5 → (0 ≤ x4 ∧ x4 < 24) ∧ ∀ h5, h5 = stI h3 111 x4.toNat x6 → zWi E d m_X10_oneMore 85 [vo 89, vi x1, vi x2, vi x3, vi (w32 (x4 + 1)), vi x5, vi (w32 (x6 + 1))] h5 Q)) ∧ (0 ≤ (hI h 110 x6.toNat) → (zWi E d m_X10_oneMore 85 [vo 89, vi x1, vi x2, vi x3, vi x4, vi x5, vi (w32 (x6 + 1))] h Q)))))))))) : zWi E d m_X10_oneMore 85 [vo 89, vi x1, vi x2, vi x3, vi x4, vi x5, vi x6] h Q := by
  refine a_iload (pc := 85) dX10_oneMore_85 rfl ?_
  refine a_iconst (pc := 87) dX10_oneMore_87 (by decide) ?_
  refine a_aload_n (pc := 88) dX10_oneMore_88 rfl ?_
  refine a_getI (pc := 89) dX10_oneMore_89 fl_X10_289 (go_89) ?_
  refine a_imul (pc := 92) dX10_oneMore_92 ?_
  refine a_icmp_ge (pc := 93) (tgt := 152) dX10_oneMore_93 (by decide) (fun c => ?_) (fun c => ?_)
  · have H := H.1 c
    refine a_goto (pc := 152) (tgt := 56) dX10_oneMore_152 (by decide) ?_
    exact z_forget (ls' := [vo 89, vi x1, vi x2, vi x3, vi x4, vn, vn]) ⟨.inr rfl, .inr rfl, .inr rfl, .inr rfl, .inr rfl, .inl rfl, .inl rfl, trivial⟩ H
  · have H := H.2 c
    refine a_aload_n (pc := 96) dX10_oneMore_96 rfl ?_
    refine a_getF (pc := 97) dX10_oneMore_97 fl_X10_72 (go_89) (gf_89_39) ?_
    refine a_bipush (pc := 100) dX10_oneMore_100 (by decide) ?_
    refine a_iload (pc := 102) dX10_oneMore_102 rfl ?_
    refine a_imul (pc := 104) dX10_oneMore_104 ?_
    refine a_iload (pc := 105) dX10_oneMore_105 rfl ?_
    refine a_iadd (pc := 107) dX10_oneMore_107 ?_
    obtain ⟨hb1, H⟩ := H
    refine a_iaload (pc := 108) dX10_oneMore_108 (ga_109) hb1 ?_
    refine a_if_eq (pc := 109) (tgt := 146) dX10_oneMore_109 (by decide) (fun c => ?_) (fun c => ?_)
    · have H := H.1 c
      refine a_iinc (pc := 146) (ls' := [vo 89, vi x1, vi x2, vi x3, vi x4, vi x5, vi (w32 (x6 + 1))]) dX10_oneMore_146 rfl rfl rfl ?_
      refine a_goto (pc := 149) (tgt := 85) dX10_oneMore_149 (by decide) ?_
      exact H
    · have H := H.2 c
      refine a_aload_n (pc := 112) dX10_oneMore_112 rfl ?_
      refine a_getF (pc := 113) dX10_oneMore_113 fl_X10_75 (go_89) (gf_89_40) ?_
      refine a_iload (pc := 116) dX10_oneMore_116 rfl ?_
      obtain ⟨hb2, H⟩ := H
      refine a_iaload (pc := 118) dX10_oneMore_118 (ga_110) hb2 ?_
      refine a_if_lt (pc := 119) (tgt := 125) dX10_oneMore_119 (by decide) (fun c => ?_) (fun c => ?_)
      · have H := H.1 c
        refine a_aload_n (pc := 125) dX10_oneMore_125 rfl ?_
        refine a_getF (pc := 126) dX10_oneMore_126 fl_X10_75 (go_89) (gf_89_40) ?_
        refine a_iload (pc := 129) dX10_oneMore_129 rfl ?_
        refine a_iload (pc := 131) dX10_oneMore_131 rfl ?_
        refine a_iastore (pc := 133) dX10_oneMore_133 (ga_110) hb2 ?_
        have H := H _ rfl
        generalize stI h 110 x6.toNat x5 = h3 at H ⊢
        refine a_aload_n (pc := 134) dX10_oneMore_134 rfl ?_
        refine a_getF (pc := 135) dX10_oneMore_135 fl_X10_78 (go_89) (gf_89_41) ?_
        refine a_iload (pc := 138) dX10_oneMore_138 rfl ?_
        refine a_iload (pc := 140) dX10_oneMore_140 rfl ?_
        obtain ⟨hb4, H⟩ := H
        refine a_iastore (pc := 142) dX10_oneMore_142 (ga_111) hb4 ?_
        have H := H _ rfl
        generalize stI h3 111 x4.toNat x6 = h5 at H ⊢
        refine a_iinc (pc := 143) (ls' := [vo 89, vi x1, vi x2, vi x3, vi (w32 (x4 + 1)), vi x5, vi x6]) dX10_oneMore_143 rfl rfl rfl ?_
        refine a_iinc (pc := 146) (ls' := [vo 89, vi x1, vi x2, vi x3, vi (w32 (x4 + 1)), vi x5, vi (w32 (x6 + 1))]) dX10_oneMore_146 rfl rfl rfl ?_
        refine a_goto (pc := 149) (tgt := 85) dX10_oneMore_149 (by decide) ?_
        exact H
      · have H := H.2 c
        refine a_goto (pc := 122) (tgt := 146) dX10_oneMore_122 (by decide) ?_
        refine a_iinc (pc := 146) (ls' := [vo 89, vi x1, vi x2, vi x3, vi x4, vi x5, vi (w32 (x6 + 1))]) dX10_oneMore_146 rfl rfl rfl ?_
        refine a_goto (pc := 149) (tgt := 85) dX10_oneMore_149 (by decide) ?_
        exact H
set_option maxRecDepth 20000 in
theorem v_X10_apart {E : zE} {d : Nat} {h : zS} {Q : Int → zS → Prop}   (H : (((hI h 89 31) < 0 → (Q 0 h)) ∧ (0 ≤ (hI h 89 31) → ((0 ≤ (hI h 89 32) → (((hI h 89 31) ≠ (hI h 89 32) → (zCv E d m_X10_layFlow [vo 89] h (fun h1 => zWi E (d + 1) m_X10_apart 35 [vo 89, vi 0] h1 Q))) ∧ ((hI h 89 31) = (hI h 89 32) → (Q 1 h)))) ∧ ((hI h 89 32) < 0 → (Q 0 h)))))) : zCi E (d + 1) m_X10_apart [vo 89] h Q := by
  show zAt E (d + 1) 0 0 m_X10_apart 0 [vo 89, vn] [] g0 h (zPi Q)
  refine a_aload_n (pc := 0) dX10_apart_0 rfl ?_
  refine a_getI (pc := 1) dX10_apart_1 fl_X10_151 (go_89) ?_
  refine a_if_lt (pc := 4) (tgt := 14) dX10_apart_4 (by decide) (fun c => ?_) (fun c => ?_)
  · have H := H.1 c
    refine a_iconst (pc := 14) dX10_apart_14 (by decide) ?_
    exact a_ireturn (pc := 15) dX10_apart_15 trivial ⟨_, rfl, rfl, H⟩
  · have H := H.2 c
    refine a_aload_n (pc := 7) dX10_apart_7 rfl ?_
    refine a_getI (pc := 8) dX10_apart_8 fl_X10_154 (go_89) ?_
    refine a_if_ge (pc := 11) (tgt := 16) dX10_apart_11 (by decide) (fun c => ?_) (fun c => ?_)
    · have H := H.1 c
      refine a_aload_n (pc := 16) dX10_apart_16 rfl ?_
      refine a_getI (pc := 17) dX10_apart_17 fl_X10_151 (go_89) ?_
      refine a_aload_n (pc := 20) dX10_apart_20 rfl ?_
      refine a_getI (pc := 21) dX10_apart_21 fl_X10_154 (go_89) ?_
      refine a_icmp_ne (pc := 24) (tgt := 29) dX10_apart_24 (by decide) (fun c => ?_) (fun c => ?_)
      · have H := H.1 c
        refine a_aload_n (pc := 29) dX10_apart_29 rfl ?_
        refine a_callV (pc := 30) (kc := 0) (ks := 0) (kc' := 0) (ks' := 0) (st := []) [] dX10_apart_30 ml_X10_358 (go_89) rfl (Nat.le_of_ble_eq_true rfl) (Nat.le_of_ble_eq_true rfl) (z_post H (fun r G1 h1 q => ?_))
        obtain ⟨rfl, rfl, H⟩ := q
        show zAt E (d + 1) 0 0 m_X10_apart 33 [vo 89, vn] [] g0 h1 (zPi Q)
        refine a_iconst (pc := 33) dX10_apart_33 (by decide) ?_
        refine a_istore_n (pc := 34) (ls' := [vo 89, vi 0]) dX10_apart_34 rfl rfl ?_
        exact H
      · have H := H.2 c
        refine a_iconst (pc := 27) dX10_apart_27 (by decide) ?_
        exact a_ireturn (pc := 28) dX10_apart_28 trivial ⟨_, rfl, rfl, H⟩
    · have H := H.2 c
      refine a_iconst (pc := 14) dX10_apart_14 (by decide) ?_
      exact a_ireturn (pc := 15) dX10_apart_15 trivial ⟨_, rfl, rfl, H⟩
set_option maxRecDepth 20000 in
theorem r_X10_apart_35 {E : zE} {d : Nat} {h : zS} {Q : Int → zS → Prop} {x1 : Int}  (H : zCi E d m_X10_oneMore [vo 89] h (fun y2 h1 => ((y2 = 0 → (Q x1 h1)) ∧ (y2 ≠ 0 → (zWi E (d + 1) m_X10_apart 35 [vo 89, vi (w32 (x1 + 1))] h1 Q))))) : zWi E (d + 1) m_X10_apart 35 [vo 89, vi x1] h Q := by
  refine a_aload_n (pc := 35) dX10_apart_35 rfl ?_
  refine a_callV (pc := 36) (kc := 0) (ks := 0) (kc' := 0) (ks' := 0) (st := []) [] dX10_apart_36 ml_X10_361 (go_89) rfl (Nat.le_of_ble_eq_true rfl) (Nat.le_of_ble_eq_true rfl) (z_post H (fun r G1 h1 q => ?_))
  obtain ⟨y2, rfl, rfl, H⟩ := q
  show zAt E (d + 1) 0 0 m_X10_apart 39 [vo 89, vi x1] [vi y2] g0 h1 (zPi Q)
  refine a_if_eq (pc := 39) (tgt := 48) dX10_apart_39 (by decide) (fun c => ?_) (fun c => ?_)
  · have H := H.1 c
    refine a_iload_n (pc := 48) dX10_apart_48 rfl ?_
    exact a_ireturn (pc := 49) dX10_apart_49 trivial ⟨_, rfl, rfl, H⟩
  · have H := H.2 c
    refine a_iinc (pc := 42) (ls' := [vo 89, vi (w32 (x1 + 1))]) dX10_apart_42 rfl rfl rfl ?_
    refine a_goto (pc := 45) (tgt := 35) dX10_apart_45 (by decide) ?_
    exact H
set_option maxRecDepth 20000 in
theorem v_X10_hasWay {E : zE} {d : Nat} {h : zS} {Q : Int → zS → Prop} {x1 : Int}  (H : (((hI h 89 31) < 0 → (Q 0 h)) ∧ (0 ≤ (hI h 89 31) → ((0 ≤ (hI h 89 32) → (zWi E d m_X10_hasWay 25 [vo 89, vi x1, vi (z_shl 1 (hI h 89 31)), vi 0, vn, vn] h Q)) ∧ ((hI h 89 32) < 0 → (Q 0 h)))))) : zCi E d m_X10_hasWay [vo 89, vi x1] h Q := by
  show zAt E d 0 0 m_X10_hasWay 0 [vo 89, vi x1, vn, vn, vn, vn] [] g0 h (zPi Q)
  refine a_aload_n (pc := 0) dX10_hasWay_0 rfl ?_
  refine a_getI (pc := 1) dX10_hasWay_1 fl_X10_151 (go_89) ?_
  refine a_if_lt (pc := 4) (tgt := 14) dX10_hasWay_4 (by decide) (fun c => ?_) (fun c => ?_)
  · have H := H.1 c
    refine a_iconst (pc := 14) dX10_hasWay_14 (by decide) ?_
    exact a_ireturn (pc := 15) dX10_hasWay_15 (.inl rfl) ⟨_, rfl, rfl, H⟩
  · have H := H.2 c
    refine a_aload_n (pc := 7) dX10_hasWay_7 rfl ?_
    refine a_getI (pc := 8) dX10_hasWay_8 fl_X10_154 (go_89) ?_
    refine a_if_ge (pc := 11) (tgt := 16) dX10_hasWay_11 (by decide) (fun c => ?_) (fun c => ?_)
    · have H := H.1 c
      refine a_iconst (pc := 16) dX10_hasWay_16 (by decide) ?_
      refine a_aload_n (pc := 17) dX10_hasWay_17 rfl ?_
      refine a_getI (pc := 18) dX10_hasWay_18 fl_X10_151 (go_89) ?_
      refine a_ishl (pc := 21) dX10_hasWay_21 ?_
      refine a_istore_n (pc := 22) (ls' := [vo 89, vi x1, vi (z_shl 1 (hI h 89 31)), vn, vn, vn]) dX10_hasWay_22 rfl rfl ?_
      refine a_iconst (pc := 23) dX10_hasWay_23 (by decide) ?_
      refine a_istore_n (pc := 24) (ls' := [vo 89, vi x1, vi (z_shl 1 (hI h 89 31)), vi 0, vn, vn]) dX10_hasWay_24 rfl rfl ?_
      exact H
    · have H := H.2 c
      refine a_iconst (pc := 14) dX10_hasWay_14 (by decide) ?_
      exact a_ireturn (pc := 15) dX10_hasWay_15 (.inl rfl) ⟨_, rfl, rfl, H⟩
set_option maxRecDepth 20000 in
theorem r_X10_hasWay_25 {E : zE} {d : Nat} {h : zS} {Q : Int → zS → Prop} {x1 : Int} {x2 : Int} {x3 : Int}  (H : (((hI h 89 29) ≤ x3 → (((z_and (z_shr x2 (hI h 89 32)) 1) ≠ 1 → (Q 0 h)) ∧ ((z_and (z_shr x2 (hI h 89 32)) 1) = 1 → (Q 1 h)))) ∧ (x3 < (hI h 89 29) → (zWi E d m_X10_hasWay 36 [vo 89, vi x1, vi x2, vi x3, vi 0, vn] h Q)))) : zWi E d m_X10_hasWay 25 [vo 89, vi x1, vi x2, vi x3, vn, vn] h Q := by
  refine a_iload_n (pc := 25) dX10_hasWay_25 rfl ?_
  refine a_aload_n (pc := 26) dX10_hasWay_26 rfl ?_
  refine a_getI (pc := 27) dX10_hasWay_27 fl_X10_289 (go_89) ?_
  refine a_icmp_ge (pc := 30) (tgt := 121) dX10_hasWay_30 (by decide) (fun c => ?_) (fun c => ?_)
  · have H := H.1 c
    refine a_iload_n (pc := 121) dX10_hasWay_121 rfl ?_
    refine a_aload_n (pc := 122) dX10_hasWay_122 rfl ?_
    refine a_getI (pc := 123) dX10_hasWay_123 fl_X10_154 (go_89) ?_
    refine a_ishr (pc := 126) dX10_hasWay_126 ?_
    refine a_iconst (pc := 127) dX10_hasWay_127 (by decide) ?_
    refine a_iand (pc := 128) dX10_hasWay_128 ?_
    refine a_iconst (pc := 129) dX10_hasWay_129 (by decide) ?_
    refine a_icmp_ne (pc := 130) (tgt := 137) dX10_hasWay_130 (by decide) (fun c => ?_) (fun c => ?_)
    · have H := H.1 c
      refine a_iconst (pc := 137) dX10_hasWay_137 (by decide) ?_
      exact a_ireturn (pc := 138) dX10_hasWay_138 (.inl rfl) ⟨_, rfl, rfl, H⟩
    · have H := H.2 c
      refine a_iconst (pc := 133) dX10_hasWay_133 (by decide) ?_
      refine a_goto (pc := 134) (tgt := 138) dX10_hasWay_134 (by decide) ?_
      exact a_ireturn (pc := 138) dX10_hasWay_138 (.inr rfl) ⟨_, rfl, rfl, H⟩
  · have H := H.2 c
    refine a_iconst (pc := 33) dX10_hasWay_33 (by decide) ?_
    refine a_istore (pc := 34) (ls' := [vo 89, vi x1, vi x2, vi x3, vi 0, vn]) dX10_hasWay_34 rfl rfl ?_
    exact H
set_option maxRecDepth 20000 in
theorem r_X10_hasWay_36 {E : zE} {d : Nat} {h : zS} {Q : Int → zS → Prop} {x1 : Int} {x2 : Int} {x3 : Int} {x4 : Int}  (H : (((hI h 89 29) ≤ x4 → (zWi E d m_X10_hasWay 25 [vo 89, vi x1, vi x2, vi (w32 (x3 + 1)), vn, vn] h Q)) ∧ (x4 < (hI h 89 29) → (((z_and (z_shr x2 x4) 1) ≠ 1 → (zWi E d m_X10_hasWay 36 [vo 89, vi x1, vi x2, vi x3, vi (w32 (x4 + 1)), vn] h Q)) ∧ ((z_and (z_shr x2 x4) 1) = 1 → (zWi E d m_X10_hasWay 58 [vo 89, vi x1, vi x2, vi x3, vi x4, vi 0] h Q)))))) : zWi E d m_X10_hasWay 36 [vo 89, vi x1, vi x2, vi x3, vi x4, vn] h Q := by
  refine a_iload (pc := 36) dX10_hasWay_36 rfl ?_
  refine a_aload_n (pc := 38) dX10_hasWay_38 rfl ?_
  refine a_getI (pc := 39) dX10_hasWay_39 fl_X10_289 (go_89) ?_
  refine a_icmp_ge (pc := 42) (tgt := 115) dX10_hasWay_42 (by decide) (fun c => ?_) (fun c => ?_)
  · have H := H.1 c
    refine a_iinc (pc := 115) (ls' := [vo 89, vi x1, vi x2, vi (w32 (x3 + 1)), vi x4, vn]) dX10_hasWay_115 rfl rfl rfl ?_
    refine a_goto (pc := 118) (tgt := 25) dX10_hasWay_118 (by decide) ?_
    exact z_forget (ls' := [vo 89, vi x1, vi x2, vi (w32 (x3 + 1)), vn, vn]) ⟨.inr rfl, .inr rfl, .inr rfl, .inr rfl, .inl rfl, .inr rfl, trivial⟩ H
  · have H := H.2 c
    refine a_iload_n (pc := 45) dX10_hasWay_45 rfl ?_
    refine a_iload (pc := 46) dX10_hasWay_46 rfl ?_
    refine a_ishr (pc := 48) dX10_hasWay_48 ?_
    refine a_iconst (pc := 49) dX10_hasWay_49 (by decide) ?_
    refine a_iand (pc := 50) dX10_hasWay_50 ?_
    refine a_iconst (pc := 51) dX10_hasWay_51 (by decide) ?_
    refine a_icmp_ne (pc := 52) (tgt := 109) dX10_hasWay_52 (by decide) (fun c => ?_) (fun c => ?_)
    · have H := H.1 c
      refine a_iinc (pc := 109) (ls' := [vo 89, vi x1, vi x2, vi x3, vi (w32 (x4 + 1)), vn]) dX10_hasWay_109 rfl rfl rfl ?_
      refine a_goto (pc := 112) (tgt := 36) dX10_hasWay_112 (by decide) ?_
      exact H
    · have H := H.2 c
      refine a_iconst (pc := 55) dX10_hasWay_55 (by decide) ?_
      refine a_istore (pc := 56) (ls' := [vo 89, vi x1, vi x2, vi x3, vi x4, vi 0]) dX10_hasWay_56 rfl rfl ?_
      exact H
set_option maxRecDepth 20000 in
theorem r_X10_hasWay_58 {E : zE} {d : Nat} {h : zS} {Q : Int → zS → Prop} {x1 : Int} {x2 : Int} {x3 : Int} {x4 : Int} {x5 : Int}  (H : (((hI h 89 29) ≤ x5 → (zWi E d m_X10_hasWay 36 [vo 89, vi x1, vi x2, vi x3, vi (w32 (x4 + 1)), vn] h Q)) ∧ (x5 < (hI h 89 29) → ((0 ≤ w32 ((w32 (12 * x4)) + x5) ∧ w32 ((w32 (12 * x4)) + x5) < 144) ∧ (∀ y4 : Int, y4 = z_or x2 (if (hI h 103 (w32 ((w32 (12 * x4)) + x5)).toNat) ≤ 0 then 0 else (if (z_and (z_shr x1 x5) 1) ≠ 0 then 0 else (z_shl 1 x5))) → zWi E d m_X10_hasWay 58 [vo 89, vi x1, vi y4, vi x3, vi x4, vi (w32 (x5 + 1))] h Q))))) : zWi E d m_X10_hasWay 58 [vo 89, vi x1, vi x2, vi x3, vi x4, vi x5] h Q := by
  refine a_iload (pc := 58) dX10_hasWay_58 rfl ?_
  refine a_aload_n (pc := 60) dX10_hasWay_60 rfl ?_
  refine a_getI (pc := 61) dX10_hasWay_61 fl_X10_289 (go_89) ?_
  refine a_icmp_ge (pc := 64) (tgt := 109) dX10_hasWay_64 (by decide) (fun c => ?_) (fun c => ?_)
  · have H := H.1 c
    refine a_iinc (pc := 109) (ls' := [vo 89, vi x1, vi x2, vi x3, vi (w32 (x4 + 1)), vi x5]) dX10_hasWay_109 rfl rfl rfl ?_
    refine a_goto (pc := 112) (tgt := 36) dX10_hasWay_112 (by decide) ?_
    exact z_forget (ls' := [vo 89, vi x1, vi x2, vi x3, vi (w32 (x4 + 1)), vn]) ⟨.inr rfl, .inr rfl, .inr rfl, .inr rfl, .inr rfl, .inl rfl, trivial⟩ H
  · have H := H.2 c
    refine a_iload_n (pc := 67) dX10_hasWay_67 rfl ?_
    refine a_aload_n (pc := 68) dX10_hasWay_68 rfl ?_
    refine a_getF (pc := 69) dX10_hasWay_69 fl_X10_54 (go_89) (gf_89_22) ?_
    refine a_bipush (pc := 72) dX10_hasWay_72 (by decide) ?_
    refine a_iload (pc := 74) dX10_hasWay_74 rfl ?_
    refine a_imul (pc := 76) dX10_hasWay_76 ?_
    refine a_iload (pc := 77) dX10_hasWay_77 rfl ?_
    refine a_iadd (pc := 79) dX10_hasWay_79 ?_
    obtain ⟨hb1, H⟩ := H
    refine a_iaload (pc := 80) dX10_hasWay_80 (ga_103) hb1 ?_
    have J : zAt E d 0 0 m_X10_hasWay 101 [vo 89, vi x1, vi x2, vi x3, vi x4, vi x5] [vi (if (hI h 103 (w32 ((w32 (12 * x4)) + x5)).toNat) ≤ 0 then 0 else (if (z_and (z_shr x1 x5) 1) ≠ 0 then 0 else (z_shl 1 x5))), vi x2] g0 h (zPi Q) := by
      refine a_ior (pc := 101) dX10_hasWay_101 ?_
      have H := H _ rfl
      generalize (z_or x2 (if (hI h 103 (w32 ((w32 (12 * x4)) + x5)).toNat) ≤ 0 then 0 else (if (z_and (z_shr x1 x5) 1) ≠ 0 then 0 else (z_shl 1 x5))) : Int) = y4 at H ⊢
      refine a_istore_n (pc := 102) (ls' := [vo 89, vi x1, vi y4, vi x3, vi x4, vi x5]) dX10_hasWay_102 rfl rfl ?_
      refine a_iinc (pc := 103) (ls' := [vo 89, vi x1, vi y4, vi x3, vi x4, vi (w32 (x5 + 1))]) dX10_hasWay_103 rfl rfl rfl ?_
      refine a_goto (pc := 106) (tgt := 58) dX10_hasWay_106 (by decide) ?_
      exact H
    refine a_if_le (pc := 81) (tgt := 100) dX10_hasWay_81 (by decide) (fun c2 => ?_) (fun c2 => ?_)
    · skip
      refine a_iconst (pc := 100) dX10_hasWay_100 (by decide) ?_
      exact (z_mergeT c2 J)
    · skip
      refine a_iload_n (pc := 84) dX10_hasWay_84 rfl ?_
      refine a_iload (pc := 85) dX10_hasWay_85 rfl ?_
      refine a_ishr (pc := 87) dX10_hasWay_87 ?_
      refine a_iconst (pc := 88) dX10_hasWay_88 (by decide) ?_
      refine a_iand (pc := 89) dX10_hasWay_89 ?_
      refine a_if_ne (pc := 90) (tgt := 100) dX10_hasWay_90 (by decide) (fun c3 => ?_) (fun c3 => ?_)
      · skip
        refine a_iconst (pc := 100) dX10_hasWay_100 (by decide) ?_
        exact (z_mergeT c3 (z_mergeF (Int.not_le.mpr c2) J))
      · skip
        refine a_iconst (pc := 93) dX10_hasWay_93 (by decide) ?_
        refine a_iload (pc := 94) dX10_hasWay_94 rfl ?_
        refine a_ishl (pc := 96) dX10_hasWay_96 ?_
        refine a_goto (pc := 97) (tgt := 101) dX10_hasWay_97 (by decide) ?_
        exact (z_mergeF (fun n => n c3) (z_mergeF (Int.not_le.mpr c2) J))
set_option maxRecDepth 20000 in
theorem v_X10_cut {E : zE} {d : Nat} {h : zS} {Q : Int → zS → Prop}   (H : zCi E d m_X10_hasWay [vo 89, vi 0] h (fun y2 h1 => ((y2 ≠ 0 → (zWi E (d + 1) m_X10_cut 14 [vo 89, vi 0, vi 0, vn] h1 Q)) ∧ (y2 = 0 → (Q 0 h1))))) : zCi E (d + 1) m_X10_cut [vo 89] h Q := by
  show zAt E (d + 1) 0 0 m_X10_cut 0 [vo 89, vn, vn, vn] [] g0 h (zPi Q)
  refine a_aload_n (pc := 0) dX10_cut_0 rfl ?_
  refine a_iconst (pc := 1) dX10_cut_1 (by decide) ?_
  refine a_callV (pc := 2) (kc := 0) (ks := 0) (kc' := 0) (ks' := 0) (st := []) [vi 0] dX10_cut_2 ml_X10_364 (go_89) rfl (Nat.le_of_ble_eq_true rfl) (Nat.le_of_ble_eq_true rfl) (z_post H (fun r G1 h1 q => ?_))
  obtain ⟨y2, rfl, rfl, H⟩ := q
  show zAt E (d + 1) 0 0 m_X10_cut 5 [vo 89, vn, vn, vn] [vi y2] g0 h1 (zPi Q)
  refine a_if_ne (pc := 5) (tgt := 10) dX10_cut_5 (by decide) (fun c => ?_) (fun c => ?_)
  · have H := H.1 c
    refine a_iconst (pc := 10) dX10_cut_10 (by decide) ?_
    refine a_istore_n (pc := 11) (ls' := [vo 89, vi 0, vn, vn]) dX10_cut_11 rfl rfl ?_
    refine a_iconst (pc := 12) dX10_cut_12 (by decide) ?_
    refine a_istore_n (pc := 13) (ls' := [vo 89, vi 0, vi 0, vn]) dX10_cut_13 rfl rfl ?_
    exact H
  · have H := H.2 c
    refine a_iconst (pc := 8) dX10_cut_8 (by decide) ?_
    exact a_ireturn (pc := 9) dX10_cut_9 trivial ⟨_, rfl, rfl, H⟩
set_option maxRecDepth 20000 in
theorem r_X10_cut_14 {E : zE} {d : Nat} {h : zS} {Q : Int → zS → Prop} {x1 : Int} {x2 : Int}  (H : (((hI h 89 29) ≤ x2 → (zWi E (d + 1) m_X10_cut 68 [vo 89, vi x1, vi (-1), vi 0] h Q)) ∧ (x2 < (hI h 89 29) → ((0 ≤ x2 ∧ x2 < 12) ∧ (∀ y5 : Int, y5 = z_or x1 (if (hI h 98 x2.toNat) = 3 then 0 else (if x2 = (hI h 89 31) then 0 else (if x2 ≠ (hI h 89 32) then (z_shl 1 x2) else 0))) → zWi E (d + 1) m_X10_cut 14 [vo 89, vi y5, vi (w32 (x2 + 1)), vn] h Q))))) : zWi E (d + 1) m_X10_cut 14 [vo 89, vi x1, vi x2, vn] h Q := by
  refine a_iload_n (pc := 14) dX10_cut_14 rfl ?_
  refine a_aload_n (pc := 15) dX10_cut_15 rfl ?_
  refine a_getI (pc := 16) dX10_cut_16 fl_X10_289 (go_89) ?_
  refine a_icmp_ge (pc := 19) (tgt := 64) dX10_cut_19 (by decide) (fun c => ?_) (fun c => ?_)
  · have H := H.1 c
    refine a_iconst (pc := 64) dX10_cut_64 (by decide) ?_
    refine a_istore_n (pc := 65) (ls' := [vo 89, vi x1, vi (-1), vn]) dX10_cut_65 rfl rfl ?_
    refine a_iconst (pc := 66) dX10_cut_66 (by decide) ?_
    refine a_istore_n (pc := 67) (ls' := [vo 89, vi x1, vi (-1), vi 0]) dX10_cut_67 rfl rfl ?_
    exact H
  · have H := H.2 c
    refine a_iload_n (pc := 22) dX10_cut_22 rfl ?_
    refine a_aload_n (pc := 23) dX10_cut_23 rfl ?_
    refine a_getF (pc := 24) dX10_cut_24 fl_X10_39 (go_89) (gf_89_17) ?_
    refine a_iload_n (pc := 27) dX10_cut_27 rfl ?_
    obtain ⟨hb1, H⟩ := H
    refine a_iaload (pc := 28) dX10_cut_28 (ga_98) hb1 ?_
    refine a_iconst (pc := 29) dX10_cut_29 (by decide) ?_
    have J : zAt E (d + 1) 0 0 m_X10_cut 56 [vo 89, vi x1, vi x2, vn] [vi (if (hI h 98 x2.toNat) = 3 then 0 else (if x2 = (hI h 89 31) then 0 else (if x2 ≠ (hI h 89 32) then (z_shl 1 x2) else 0))), vi x1] g0 h (zPi Q) := by
      refine a_ior (pc := 56) dX10_cut_56 ?_
      have H := H _ rfl
      generalize (z_or x1 (if (hI h 98 x2.toNat) = 3 then 0 else (if x2 = (hI h 89 31) then 0 else (if x2 ≠ (hI h 89 32) then (z_shl 1 x2) else 0))) : Int) = y5 at H ⊢
      refine a_istore_n (pc := 57) (ls' := [vo 89, vi y5, vi x2, vn]) dX10_cut_57 rfl rfl ?_
      refine a_iinc (pc := 58) (ls' := [vo 89, vi y5, vi (w32 (x2 + 1)), vn]) dX10_cut_58 rfl rfl rfl ?_
      refine a_goto (pc := 61) (tgt := 14) dX10_cut_61 (by decide) ?_
      exact H
    refine a_icmp_eq (pc := 30) (tgt := 49) dX10_cut_30 (by decide) (fun c2 => ?_) (fun c2 => ?_)
    · skip
      refine a_iconst (pc := 49) dX10_cut_49 (by decide) ?_
      refine a_goto (pc := 50) (tgt := 56) dX10_cut_50 (by decide) ?_
      exact (z_mergeT c2 J)
    · skip
      refine a_iload_n (pc := 33) dX10_cut_33 rfl ?_
      refine a_aload_n (pc := 34) dX10_cut_34 rfl ?_
      refine a_getI (pc := 35) dX10_cut_35 fl_X10_151 (go_89) ?_
      refine a_icmp_eq (pc := 38) (tgt := 49) dX10_cut_38 (by decide) (fun c3 => ?_) (fun c3 => ?_)
      · skip
        refine a_iconst (pc := 49) dX10_cut_49 (by decide) ?_
        refine a_goto (pc := 50) (tgt := 56) dX10_cut_50 (by decide) ?_
        exact (z_mergeT c3 (z_mergeF c2 J))
      · skip
        refine a_iload_n (pc := 41) dX10_cut_41 rfl ?_
        refine a_aload_n (pc := 42) dX10_cut_42 rfl ?_
        refine a_getI (pc := 43) dX10_cut_43 fl_X10_154 (go_89) ?_
        refine a_icmp_ne (pc := 46) (tgt := 53) dX10_cut_46 (by decide) (fun c4 => ?_) (fun c4 => ?_)
        · skip
          refine a_iconst (pc := 53) dX10_cut_53 (by decide) ?_
          refine a_iload_n (pc := 54) dX10_cut_54 rfl ?_
          refine a_ishl (pc := 55) dX10_cut_55 ?_
          exact (z_mergeT c4 (z_mergeF c3 (z_mergeF c2 J)))
        · skip
          refine a_iconst (pc := 49) dX10_cut_49 (by decide) ?_
          refine a_goto (pc := 50) (tgt := 56) dX10_cut_50 (by decide) ?_
          exact (z_mergeF (fun n => n c4) (z_mergeF c3 (z_mergeF c2 J)))
set_option maxRecDepth 20000 in
theorem r_X10_cut_68 {E : zE} {d : Nat} {h : zS} {Q : Int → zS → Prop} {x1 : Int} {x2 : Int} {x3 : Int}  (H : ((x1 < x3 → (Q x2 h)) ∧ (x3 ≤ x1 → (((z_and x3 (z_xor x1 (-1))) ≠ 0 → (zWi E (d + 1) m_X10_cut 68 [vo 89, vi x1, vi x2, vi (w32 (x3 + 1))] h Q)) ∧ ((z_and x3 (z_xor x1 (-1))) = 0 → ((x2 < 0 → (zCi E d m_X10_hasWay [vo 89, vi x3] h (fun y2 h1 => ((y2 = 0 → (zWi E (d + 1) m_X10_cut 68 [vo 89, vi x1, vi x3, vi (w32 (x3 + 1))] h1 Q)) ∧ (y2 ≠ 0 → (zWi E (d + 1) m_X10_cut 68 [vo 89, vi x1, vi x2, vi (w32 (x3 + 1))] h1 Q)))))) ∧ (0 ≤ x2 → (zCi E d m_X10_ones [vi x3] h (fun y4 h3 => zCi E d m_X10_ones [vi x2] h3 (fun y6 h5 => ((y6 ≤ y4 → (zWi E (d + 1) m_X10_cut 68 [vo 89, vi x1, vi x2, vi (w32 (x3 + 1))] h5 Q)) ∧ (y4 < y6 → (zCi E d m_X10_hasWay [vo 89, vi x3] h5 (fun y8 h7 => ((y8 = 0 → (zWi E (d + 1) m_X10_cut 68 [vo 89, vi x1, vi x3, vi (w32 (x3 + 1))] h7 Q)) ∧ (y8 ≠ 0 → (zWi E (d + 1) m_X10_cut 68 [vo 89, vi x1, vi x2, vi (w32 (x3 + 1))] h7 Q))))))))))))))))) : zWi E (d + 1) m_X10_cut 68 [vo 89, vi x1, vi x2, vi x3] h Q := by
  refine a_iload_n (pc := 68) dX10_cut_68 rfl ?_
  refine a_iload_n (pc := 69) dX10_cut_69 rfl ?_
  refine a_icmp_gt (pc := 70) (tgt := 115) dX10_cut_70 (by decide) (fun c => ?_) (fun c => ?_)
  · have H := H.1 c
    refine a_iload_n (pc := 115) dX10_cut_115 rfl ?_
    exact a_ireturn (pc := 116) dX10_cut_116 trivial ⟨_, rfl, rfl, H⟩
  · have H := H.2 c
    refine a_iload_n (pc := 73) dX10_cut_73 rfl ?_
    refine a_iload_n (pc := 74) dX10_cut_74 rfl ?_
    refine a_iconst (pc := 75) dX10_cut_75 (by decide) ?_
    refine a_ixor (pc := 76) dX10_cut_76 ?_
    refine a_iand (pc := 77) dX10_cut_77 ?_
    refine a_if_ne (pc := 78) (tgt := 109) dX10_cut_78 (by decide) (fun c => ?_) (fun c => ?_)
    · have H := H.1 c
      refine a_iinc (pc := 109) (ls' := [vo 89, vi x1, vi x2, vi (w32 (x3 + 1))]) dX10_cut_109 rfl rfl rfl ?_
      refine a_goto (pc := 112) (tgt := 68) dX10_cut_112 (by decide) ?_
      exact H
    · have H := H.2 c
      refine a_iload_n (pc := 81) dX10_cut_81 rfl ?_
      refine a_if_lt (pc := 82) (tgt := 96) dX10_cut_82 (by decide) (fun c => ?_) (fun c => ?_)
      · have H := H.1 c
        refine a_aload_n (pc := 96) dX10_cut_96 rfl ?_
        refine a_iload_n (pc := 97) dX10_cut_97 rfl ?_
        refine a_callV (pc := 98) (kc := 0) (ks := 0) (kc' := 0) (ks' := 0) (st := []) [vi x3] dX10_cut_98 ml_X10_364 (go_89) rfl (Nat.le_of_ble_eq_true rfl) (Nat.le_of_ble_eq_true rfl) (z_post H (fun r G1 h1 q => ?_))
        obtain ⟨y2, rfl, rfl, H⟩ := q
        show zAt E (d + 1) 0 0 m_X10_cut 101 [vo 89, vi x1, vi x2, vi x3] [vi y2] g0 h1 (zPi Q)
        refine a_if_eq (pc := 101) (tgt := 107) dX10_cut_101 (by decide) (fun c => ?_) (fun c => ?_)
        · have H := H.1 c
          refine a_iload_n (pc := 107) dX10_cut_107 rfl ?_
          refine a_istore_n (pc := 108) (ls' := [vo 89, vi x1, vi x3, vi x3]) dX10_cut_108 rfl rfl ?_
          refine a_iinc (pc := 109) (ls' := [vo 89, vi x1, vi x3, vi (w32 (x3 + 1))]) dX10_cut_109 rfl rfl rfl ?_
          refine a_goto (pc := 112) (tgt := 68) dX10_cut_112 (by decide) ?_
          exact H
        · have H := H.2 c
          refine a_goto (pc := 104) (tgt := 109) dX10_cut_104 (by decide) ?_
          refine a_iinc (pc := 109) (ls' := [vo 89, vi x1, vi x2, vi (w32 (x3 + 1))]) dX10_cut_109 rfl rfl rfl ?_
          refine a_goto (pc := 112) (tgt := 68) dX10_cut_112 (by decide) ?_
          exact H
      · have H := H.2 c
        refine a_iload_n (pc := 85) dX10_cut_85 rfl ?_
        refine a_callS (pc := 86) (kc := 0) (ks := 0) (kc' := 0) (ks' := 0) (st := []) [vi x3] dX10_cut_86 ml_X10_367 rfl (Nat.le_of_ble_eq_true rfl) (Nat.le_of_ble_eq_true rfl) (z_post H (fun r G1 h3 q => ?_))
        obtain ⟨y4, rfl, rfl, H⟩ := q
        show zAt E (d + 1) 0 0 m_X10_cut 89 [vo 89, vi x1, vi x2, vi x3] [vi y4] g0 h3 (zPi Q)
        refine a_iload_n (pc := 89) dX10_cut_89 rfl ?_
        refine a_callS (pc := 90) (kc := 0) (ks := 0) (kc' := 0) (ks' := 0) (st := [vi y4]) [vi x2] dX10_cut_90 ml_X10_367 rfl (Nat.le_of_ble_eq_true rfl) (Nat.le_of_ble_eq_true rfl) (z_post H (fun r G1 h5 q => ?_))
        obtain ⟨y6, rfl, rfl, H⟩ := q
        show zAt E (d + 1) 0 0 m_X10_cut 93 [vo 89, vi x1, vi x2, vi x3] [vi y6, vi y4] g0 h5 (zPi Q)
        refine a_icmp_ge (pc := 93) (tgt := 109) dX10_cut_93 (by decide) (fun c => ?_) (fun c => ?_)
        · have H := H.1 c
          refine a_iinc (pc := 109) (ls' := [vo 89, vi x1, vi x2, vi (w32 (x3 + 1))]) dX10_cut_109 rfl rfl rfl ?_
          refine a_goto (pc := 112) (tgt := 68) dX10_cut_112 (by decide) ?_
          exact H
        · have H := H.2 c
          refine a_aload_n (pc := 96) dX10_cut_96 rfl ?_
          refine a_iload_n (pc := 97) dX10_cut_97 rfl ?_
          refine a_callV (pc := 98) (kc := 0) (ks := 0) (kc' := 0) (ks' := 0) (st := []) [vi x3] dX10_cut_98 ml_X10_364 (go_89) rfl (Nat.le_of_ble_eq_true rfl) (Nat.le_of_ble_eq_true rfl) (z_post H (fun r G1 h7 q => ?_))
          obtain ⟨y8, rfl, rfl, H⟩ := q
          show zAt E (d + 1) 0 0 m_X10_cut 101 [vo 89, vi x1, vi x2, vi x3] [vi y8] g0 h7 (zPi Q)
          refine a_if_eq (pc := 101) (tgt := 107) dX10_cut_101 (by decide) (fun c => ?_) (fun c => ?_)
          · have H := H.1 c
            refine a_iload_n (pc := 107) dX10_cut_107 rfl ?_
            refine a_istore_n (pc := 108) (ls' := [vo 89, vi x1, vi x3, vi x3]) dX10_cut_108 rfl rfl ?_
            refine a_iinc (pc := 109) (ls' := [vo 89, vi x1, vi x3, vi (w32 (x3 + 1))]) dX10_cut_109 rfl rfl rfl ?_
            refine a_goto (pc := 112) (tgt := 68) dX10_cut_112 (by decide) ?_
            exact H
          · have H := H.2 c
            refine a_goto (pc := 104) (tgt := 109) dX10_cut_104 (by decide) ?_
            refine a_iinc (pc := 109) (ls' := [vo 89, vi x1, vi x2, vi (w32 (x3 + 1))]) dX10_cut_109 rfl rfl rfl ?_
            refine a_goto (pc := 112) (tgt := 68) dX10_cut_112 (by decide) ?_
            exact H
set_option maxRecDepth 20000 in
theorem v_X10_holdOf {E : zE} {d : Nat} {h : zS} {Q : Int → zS → Prop} {x1 : Int}  (H : (0 ≤ x1 ∧ x1 < 12) ∧ (((hI h 98 x1.toNat) ≠ 2 → (Q (hI h 100 x1.toNat) h)) ∧ ((hI h 98 x1.toNat) = 2 → (Q 0 h)))) : zCi E d m_X10_holdOf [vo 89, vi x1] h Q := by
  show zAt E d 0 0 m_X10_holdOf 0 [vo 89, vi x1] [] g0 h (zPi Q)
  refine a_aload_n (pc := 0) dX10_holdOf_0 rfl ?_
  refine a_getF (pc := 1) dX10_holdOf_1 fl_X10_39 (go_89) (gf_89_17) ?_
  refine a_iload_n (pc := 4) dX10_holdOf_4 rfl ?_
  obtain ⟨hb1, H⟩ := H
  refine a_iaload (pc := 5) dX10_holdOf_5 (ga_98) hb1 ?_
  refine a_iconst (pc := 6) dX10_holdOf_6 (by decide) ?_
  refine a_icmp_ne (pc := 7) (tgt := 14) dX10_holdOf_7 (by decide) (fun c => ?_) (fun c => ?_)
  · have H := H.1 c
    refine a_aload_n (pc := 14) dX10_holdOf_14 rfl ?_
    refine a_getF (pc := 15) dX10_holdOf_15 fl_X10_45 (go_89) (gf_89_19) ?_
    refine a_iload_n (pc := 18) dX10_holdOf_18 rfl ?_
    refine a_iaload (pc := 19) dX10_holdOf_19 (ga_100) hb1 ?_
    exact a_ireturn (pc := 20) dX10_holdOf_20 trivial ⟨_, rfl, rfl, H⟩
  · have H := H.2 c
    refine a_iconst (pc := 10) dX10_holdOf_10 (by decide) ?_
    refine a_goto (pc := 11) (tgt := 20) dX10_holdOf_11 (by decide) ?_
    exact a_ireturn (pc := 20) dX10_holdOf_20 trivial ⟨_, rfl, rfl, H⟩
set_option maxRecDepth 20000 in
theorem v_X10_isFree {E : zE} {d : Nat} {h : zS} {Q : Int → zS → Prop} {x1 : Int}  (H : (0 ≤ x1 ∧ x1 < 12) ∧ ((0 ≤ (hI h 112 x1.toNat) → (Q 0 h)) ∧ ((hI h 112 x1.toNat) < 0 → ((0 ≤ (hI h 113 x1.toNat) → (Q 0 h)) ∧ ((hI h 113 x1.toNat) < 0 → (Q 1 h)))))) : zCi E d m_X10_isFree [vo 89, vi x1] h Q := by
  show zAt E d 0 0 m_X10_isFree 0 [vo 89, vi x1] [] g0 h (zPi Q)
  refine a_aload_n (pc := 0) dX10_isFree_0 rfl ?_
  refine a_getF (pc := 1) dX10_isFree_1 fl_X10_81 (go_89) (gf_89_42) ?_
  refine a_iload_n (pc := 4) dX10_isFree_4 rfl ?_
  obtain ⟨hb1, H⟩ := H
  refine a_iaload (pc := 5) dX10_isFree_5 (ga_112) hb1 ?_
  refine a_if_ge (pc := 6) (tgt := 22) dX10_isFree_6 (by decide) (fun c => ?_) (fun c => ?_)
  · have H := H.1 c
    refine a_iconst (pc := 22) dX10_isFree_22 (by decide) ?_
    exact a_ireturn (pc := 23) dX10_isFree_23 (.inl rfl) ⟨_, rfl, rfl, H⟩
  · have H := H.2 c
    refine a_aload_n (pc := 9) dX10_isFree_9 rfl ?_
    refine a_getF (pc := 10) dX10_isFree_10 fl_X10_84 (go_89) (gf_89_43) ?_
    refine a_iload_n (pc := 13) dX10_isFree_13 rfl ?_
    refine a_iaload (pc := 14) dX10_isFree_14 (ga_113) hb1 ?_
    refine a_if_ge (pc := 15) (tgt := 22) dX10_isFree_15 (by decide) (fun c => ?_) (fun c => ?_)
    · have H := H.1 c
      refine a_iconst (pc := 22) dX10_isFree_22 (by decide) ?_
      exact a_ireturn (pc := 23) dX10_isFree_23 (.inl rfl) ⟨_, rfl, rfl, H⟩
    · have H := H.2 c
      refine a_iconst (pc := 18) dX10_isFree_18 (by decide) ?_
      refine a_goto (pc := 19) (tgt := 23) dX10_isFree_19 (by decide) ?_
      exact a_ireturn (pc := 23) dX10_isFree_23 (.inr rfl) ⟨_, rfl, rfl, H⟩
set_option maxRecDepth 20000 in
theorem v_X10_tellOn {E : zE} {d : Nat} {h : zS} {Q : Int → zS → Prop} {x1 : Int}  (H : zWi E (d + 1) m_X10_tellOn 4 [vo 89, vi x1, vi 0, vi 1, vn, vn] h Q) : zCi E (d + 1) m_X10_tellOn [vo 89, vi x1] h Q := by
  show zAt E (d + 1) 0 0 m_X10_tellOn 0 [vo 89, vi x1, vn, vn, vn, vn] [] g0 h (zPi Q)
  refine a_iconst (pc := 0) dX10_tellOn_0 (by decide) ?_
  refine a_istore_n (pc := 1) (ls' := [vo 89, vi x1, vi 0, vn, vn, vn]) dX10_tellOn_1 rfl rfl ?_
  refine a_iconst (pc := 2) dX10_tellOn_2 (by decide) ?_
  refine a_istore_n (pc := 3) (ls' := [vo 89, vi x1, vi 0, vi 1, vn, vn]) dX10_tellOn_3 rfl rfl ?_
  exact H
set_option maxRecDepth 20000 in
theorem r_X10_tellOn_4 {E : zE} {d : Nat} {h : zS} {Q : Int → zS → Prop} {x1 : Int} {x2 : Int} {x3 : Int}  (H : ((x3 = 0 → (Q x2 h)) ∧ (x3 ≠ 0 → (zWi E (d + 1) m_X10_tellOn 13 [vo 89, vi x1, vi x2, vi 0, vi 0, vn] h Q)))) : zWi E (d + 1) m_X10_tellOn 4 [vo 89, vi x1, vi x2, vi x3, vn, vn] h Q := by
  refine a_iload_n (pc := 4) dX10_tellOn_4 rfl ?_
  refine a_if_eq (pc := 5) (tgt := 120) dX10_tellOn_5 (by decide) (fun c => ?_) (fun c => ?_)
  · have H := H.1 c
    refine a_iload_n (pc := 120) dX10_tellOn_120 rfl ?_
    exact a_ireturn (pc := 121) dX10_tellOn_121 trivial ⟨_, rfl, rfl, H⟩
  · have H := H.2 c
    refine a_iconst (pc := 8) dX10_tellOn_8 (by decide) ?_
    refine a_istore_n (pc := 9) (ls' := [vo 89, vi x1, vi x2, vi 0, vn, vn]) dX10_tellOn_9 rfl rfl ?_
    refine a_iconst (pc := 10) dX10_tellOn_10 (by decide) ?_
    refine a_istore (pc := 11) (ls' := [vo 89, vi x1, vi x2, vi 0, vi 0, vn]) dX10_tellOn_11 rfl rfl ?_
    exact H
set_option maxRecDepth 20000 in
theorem r_X10_tellOn_13 {E : zE} {d : Nat} {h : zS} {Q : Int → zS → Prop} {x1 : Int} {x2 : Int} {x3 : Int} {x4 : Int}  (H : (((hI h 89 29) ≤ x4 → (zWi E (d + 1) m_X10_tellOn 4 [vo 89, vi x1, vi x2, vi x3, vn, vn] h Q)) ∧ (x4 < (hI h 89 29) → ((0 ≤ x4 ∧ x4 < 12) ∧ (((hI h 112 x4.toNat) < 0 → (zWi E (d + 1) m_X10_tellOn 13 [vo 89, vi x1, vi x2, vi x3, vi (w32 (x4 + 1)), vn] h Q)) ∧ (0 ≤ (hI h 112 x4.toNat) → (zCi E d m_X10_holdOf [vo 89, vi x4] h (fun y3 h2 => (((w32 ((hI h 112 x4.toNat) + y3)) = x1 → (zWi E (d + 1) m_X10_tellOn 56 [vo 89, vi x1, vi x2, vi x3, vi x4, vi 0] h2 Q)) ∧ ((w32 ((hI h 112 x4.toNat) + y3)) ≠ x1 → (zWi E (d + 1) m_X10_tellOn 13 [vo 89, vi x1, vi x2, vi x3, vi (w32 (x4 + 1)), vn] h2 Q))))))))))) : zWi E (d + 1) m_X10_tellOn 13 [vo 89, vi x1, vi x2, vi x3, vi x4, vn] h Q := by
  refine a_iload (pc := 13) dX10_tellOn_13 rfl ?_
  refine a_aload_n (pc := 15) dX10_tellOn_15 rfl ?_
  refine a_getI (pc := 16) dX10_tellOn_16 fl_X10_289 (go_89) ?_
  refine a_icmp_ge (pc := 19) (tgt := 117) dX10_tellOn_19 (by decide) (fun c => ?_) (fun c => ?_)
  · have H := H.1 c
    refine a_goto (pc := 117) (tgt := 4) dX10_tellOn_117 (by decide) ?_
    exact z_forget (ls' := [vo 89, vi x1, vi x2, vi x3, vn, vn]) ⟨.inr rfl, .inr rfl, .inr rfl, .inr rfl, .inl rfl, .inr rfl, trivial⟩ H
  · have H := H.2 c
    refine a_aload_n (pc := 22) dX10_tellOn_22 rfl ?_
    refine a_getF (pc := 23) dX10_tellOn_23 fl_X10_81 (go_89) (gf_89_42) ?_
    refine a_iload (pc := 26) dX10_tellOn_26 rfl ?_
    obtain ⟨hb1, H⟩ := H
    refine a_iaload (pc := 28) dX10_tellOn_28 (ga_112) hb1 ?_
    refine a_if_lt (pc := 29) (tgt := 111) dX10_tellOn_29 (by decide) (fun c => ?_) (fun c => ?_)
    · have H := H.1 c
      refine a_iinc (pc := 111) (ls' := [vo 89, vi x1, vi x2, vi x3, vi (w32 (x4 + 1)), vn]) dX10_tellOn_111 rfl rfl rfl ?_
      refine a_goto (pc := 114) (tgt := 13) dX10_tellOn_114 (by decide) ?_
      exact H
    · have H := H.2 c
      refine a_aload_n (pc := 32) dX10_tellOn_32 rfl ?_
      refine a_getF (pc := 33) dX10_tellOn_33 fl_X10_81 (go_89) (gf_89_42) ?_
      refine a_iload (pc := 36) dX10_tellOn_36 rfl ?_
      refine a_iaload (pc := 38) dX10_tellOn_38 (ga_112) hb1 ?_
      refine a_aload_n (pc := 39) dX10_tellOn_39 rfl ?_
      refine a_iload (pc := 40) dX10_tellOn_40 rfl ?_
      refine a_callV (pc := 42) (kc := 0) (ks := 0) (kc' := 0) (ks' := 0) (st := [vi (hI h 112 x4.toNat)]) [vi x4] dX10_tellOn_42 ml_X10_370 (go_89) rfl (Nat.le_of_ble_eq_true rfl) (Nat.le_of_ble_eq_true rfl) (z_post H (fun r G1 h2 q => ?_))
      obtain ⟨y3, rfl, rfl, H⟩ := q
      show zAt E (d + 1) 0 0 m_X10_tellOn 45 [vo 89, vi x1, vi x2, vi x3, vi x4, vn] [vi y3, vi (hI h 112 x4.toNat)] g0 h2 (zPi Q)
      refine a_iadd (pc := 45) dX10_tellOn_45 ?_
      refine a_iload_n (pc := 46) dX10_tellOn_46 rfl ?_
      refine a_icmp_eq (pc := 47) (tgt := 53) dX10_tellOn_47 (by decide) (fun c => ?_) (fun c => ?_)
      · have H := H.1 c
        refine a_iconst (pc := 53) dX10_tellOn_53 (by decide) ?_
        refine a_istore (pc := 54) (ls' := [vo 89, vi x1, vi x2, vi x3, vi x4, vi 0]) dX10_tellOn_54 rfl rfl ?_
        exact H
      · have H := H.2 c
        refine a_goto (pc := 50) (tgt := 111) dX10_tellOn_50 (by decide) ?_
        refine a_iinc (pc := 111) (ls' := [vo 89, vi x1, vi x2, vi x3, vi (w32 (x4 + 1)), vn]) dX10_tellOn_111 rfl rfl rfl ?_
        refine a_goto (pc := 114) (tgt := 13) dX10_tellOn_114 (by decide) ?_
        exact H
set_option maxRecDepth 20000 in
theorem r_X10_tellOn_56 {E : zE} {d : Nat} {h : zS} {Q : Int → zS → Prop} {x1 : Int} {x2 : Int} {x3 : Int} {x4 : Int} {x5 : Int}  (H : (((hI h 89 29) ≤ x5 → (zWi E (d + 1) m_X10_tellOn 13 [vo 89, vi x1, vi x2, vi x3, vi (w32 (x4 + 1)), vn] h Q)) ∧ (x5 < (hI h 89 29) → ((0 ≤ x4 ∧ x4 < 12) ∧ (((z_and (z_shr (hI h 114 x4.toNat) x5) 1) = 0 → (zWi E (d + 1) m_X10_tellOn 56 [vo 89, vi x1, vi x2, vi x3, vi x4, vi (w32 (x5 + 1))] h Q)) ∧ ((z_and (z_shr (hI h 114 x4.toNat) x5) 1) ≠ 0 → (zCi E d m_X10_isFree [vo 89, vi x5] h (fun y3 h2 => ((y3 ≠ 0 → ((0 ≤ x5 ∧ x5 < 12) ∧ ∀ h5, h5 = stI h2 112 x5.toNat x1 → zWi E (d + 1) m_X10_tellOn 56 [vo 89, vi x1, vi (w32 (x2 + 1)), vi 1, vi x4, vi (w32 (x5 + 1))] h5 Q)) ∧ (y3 = 0 → (zWi E (d + 1) m_X10_tellOn 56 [vo 89, vi x1, vi x2, vi x3, vi x4, vi (w32 (x5 + 1))] h2 Q))))))))))) : zWi E (d + 1) m_X10_tellOn 56 [vo 89, vi x1, vi x2, vi x3, vi x4, vi x5] h Q := by
  refine a_iload (pc := 56) dX10_tellOn_56 rfl ?_
  refine a_aload_n (pc := 58) dX10_tellOn_58 rfl ?_
  refine a_getI (pc := 59) dX10_tellOn_59 fl_X10_289 (go_89) ?_
  refine a_icmp_ge (pc := 62) (tgt := 111) dX10_tellOn_62 (by decide) (fun c => ?_) (fun c => ?_)
  · have H := H.1 c
    refine a_iinc (pc := 111) (ls' := [vo 89, vi x1, vi x2, vi x3, vi (w32 (x4 + 1)), vi x5]) dX10_tellOn_111 rfl rfl rfl ?_
    refine a_goto (pc := 114) (tgt := 13) dX10_tellOn_114 (by decide) ?_
    exact z_forget (ls' := [vo 89, vi x1, vi x2, vi x3, vi (w32 (x4 + 1)), vn]) ⟨.inr rfl, .inr rfl, .inr rfl, .inr rfl, .inr rfl, .inl rfl, trivial⟩ H
  · have H := H.2 c
    refine a_aload_n (pc := 65) dX10_tellOn_65 rfl ?_
    refine a_getF (pc := 66) dX10_tellOn_66 fl_X10_87 (go_89) (gf_89_44) ?_
    refine a_iload (pc := 69) dX10_tellOn_69 rfl ?_
    obtain ⟨hb1, H⟩ := H
    refine a_iaload (pc := 71) dX10_tellOn_71 (ga_114) hb1 ?_
    refine a_iload (pc := 72) dX10_tellOn_72 rfl ?_
    refine a_ishr (pc := 74) dX10_tellOn_74 ?_
    refine a_iconst (pc := 75) dX10_tellOn_75 (by decide) ?_
    refine a_iand (pc := 76) dX10_tellOn_76 ?_
    refine a_if_eq (pc := 77) (tgt := 105) dX10_tellOn_77 (by decide) (fun c => ?_) (fun c => ?_)
    · have H := H.1 c
      refine a_iinc (pc := 105) (ls' := [vo 89, vi x1, vi x2, vi x3, vi x4, vi (w32 (x5 + 1))]) dX10_tellOn_105 rfl rfl rfl ?_
      refine a_goto (pc := 108) (tgt := 56) dX10_tellOn_108 (by decide) ?_
      exact H
    · have H := H.2 c
      refine a_aload_n (pc := 80) dX10_tellOn_80 rfl ?_
      refine a_iload (pc := 81) dX10_tellOn_81 rfl ?_
      refine a_callV (pc := 83) (kc := 0) (ks := 0) (kc' := 0) (ks' := 0) (st := []) [vi x5] dX10_tellOn_83 ml_X10_373 (go_89) rfl (Nat.le_of_ble_eq_true rfl) (Nat.le_of_ble_eq_true rfl) (z_post H (fun r G1 h2 q => ?_))
      obtain ⟨y3, rfl, rfl, H⟩ := q
      show zAt E (d + 1) 0 0 m_X10_tellOn 86 [vo 89, vi x1, vi x2, vi x3, vi x4, vi x5] [vi y3] g0 h2 (zPi Q)
      refine a_if_ne (pc := 86) (tgt := 92) dX10_tellOn_86 (by decide) (fun c => ?_) (fun c => ?_)
      · have H := H.1 c
        refine a_aload_n (pc := 92) dX10_tellOn_92 rfl ?_
        refine a_getF (pc := 93) dX10_tellOn_93 fl_X10_81 (go_89) (gf_89_42) ?_
        refine a_iload (pc := 96) dX10_tellOn_96 rfl ?_
        refine a_iload_n (pc := 98) dX10_tellOn_98 rfl ?_
        obtain ⟨hb4, H⟩ := H
        refine a_iastore (pc := 99) dX10_tellOn_99 (ga_112) hb4 ?_
        have H := H _ rfl
        generalize stI h2 112 x5.toNat x1 = h5 at H ⊢
        refine a_iinc (pc := 100) (ls' := [vo 89, vi x1, vi (w32 (x2 + 1)), vi x3, vi x4, vi x5]) dX10_tellOn_100 rfl rfl rfl ?_
        refine a_iconst (pc := 103) dX10_tellOn_103 (by decide) ?_
        refine a_istore_n (pc := 104) (ls' := [vo 89, vi x1, vi (w32 (x2 + 1)), vi 1, vi x4, vi x5]) dX10_tellOn_104 rfl rfl ?_
        refine a_iinc (pc := 105) (ls' := [vo 89, vi x1, vi (w32 (x2 + 1)), vi 1, vi x4, vi (w32 (x5 + 1))]) dX10_tellOn_105 rfl rfl rfl ?_
        refine a_goto (pc := 108) (tgt := 56) dX10_tellOn_108 (by decide) ?_
        exact H
      · have H := H.2 c
        refine a_goto (pc := 89) (tgt := 105) dX10_tellOn_89 (by decide) ?_
        refine a_iinc (pc := 105) (ls' := [vo 89, vi x1, vi x2, vi x3, vi x4, vi (w32 (x5 + 1))]) dX10_tellOn_105 rfl rfl rfl ?_
        refine a_goto (pc := 108) (tgt := 56) dX10_tellOn_108 (by decide) ?_
        exact H
set_option maxRecDepth 20000 in
theorem v_X10_goOn {E : zE} {d : Nat} {h : zS} {Q : zS → Prop} {x1 : Int}  (H : zWv E (d + 1) m_X10_goOn 2 [vo 89, vi x1, vi 0, vn, vn] h Q) : zCv E (d + 1) m_X10_goOn [vo 89, vi x1] h Q := by
  show zAt E (d + 1) 0 0 m_X10_goOn 0 [vo 89, vi x1, vn, vn, vn] [] g0 h (zPv Q)
  refine a_iconst (pc := 0) dX10_goOn_0 (by decide) ?_
  refine a_istore_n (pc := 1) (ls' := [vo 89, vi x1, vi 0, vn, vn]) dX10_goOn_1 rfl rfl ?_
  exact H
set_option maxRecDepth 20000 in
theorem r_X10_goOn_2 {E : zE} {d : Nat} {h : zS} {Q : zS → Prop} {x1 : Int} {x2 : Int}  (H : (((hI h 89 29) ≤ x2 → (Q h)) ∧ (x2 < (hI h 89 29) → (zCi E d m_X10_isFree [vo 89, vi x2] h (fun y2 h1 => ((y2 = 0 → (zWv E (d + 1) m_X10_goOn 2 [vo 89, vi x1, vi (w32 (x2 + 1)), vn, vn] h1 Q)) ∧ (y2 ≠ 0 → ((0 ≤ x2 ∧ x2 < 12) ∧ (((hI h1 98 x2.toNat) = 2 → (zWv E (d + 1) m_X10_goOn 2 [vo 89, vi x1, vi (w32 (x2 + 1)), vn, vn] h1 Q)) ∧ ((hI h1 98 x2.toNat) ≠ 2 → (((hI h1 98 x2.toNat) ≠ 3 → (zWv E (d + 1) m_X10_goOn 48 [vo 89, vi x1, vi x2, vi 1000000, vi 0] h1 Q)) ∧ ((hI h1 98 x2.toNat) = 3 → (zWv E (d + 1) m_X10_goOn 2 [vo 89, vi x1, vi (w32 (x2 + 1)), vn, vn] h1 Q))))))))))))) : zWv E (d + 1) m_X10_goOn 2 [vo 89, vi x1, vi x2, vn, vn] h Q := by
  refine a_iload_n (pc := 2) dX10_goOn_2 rfl ?_
  refine a_aload_n (pc := 3) dX10_goOn_3 rfl ?_
  refine a_getI (pc := 4) dX10_goOn_4 fl_X10_289 (go_89) ?_
  refine a_icmp_ge (pc := 7) (tgt := 141) dX10_goOn_7 (by decide) (fun c => ?_) (fun c => ?_)
  · have H := H.1 c
    exact a_return (pc := 141) dX10_goOn_141 trivial ⟨rfl, rfl, H⟩
  · have H := H.2 c
    refine a_aload_n (pc := 10) dX10_goOn_10 rfl ?_
    refine a_iload_n (pc := 11) dX10_goOn_11 rfl ?_
    refine a_callV (pc := 12) (kc := 0) (ks := 0) (kc' := 0) (ks' := 0) (st := []) [vi x2] dX10_goOn_12 ml_X10_373 (go_89) rfl (Nat.le_of_ble_eq_true rfl) (Nat.le_of_ble_eq_true rfl) (z_post H (fun r G1 h1 q => ?_))
    obtain ⟨y2, rfl, rfl, H⟩ := q
    show zAt E (d + 1) 0 0 m_X10_goOn 15 [vo 89, vi x1, vi x2, vn, vn] [vi y2] g0 h1 (zPv Q)
    refine a_if_eq (pc := 15) (tgt := 135) dX10_goOn_15 (by decide) (fun c => ?_) (fun c => ?_)
    · have H := H.1 c
      refine a_iinc (pc := 135) (ls' := [vo 89, vi x1, vi (w32 (x2 + 1)), vn, vn]) dX10_goOn_135 rfl rfl rfl ?_
      refine a_goto (pc := 138) (tgt := 2) dX10_goOn_138 (by decide) ?_
      exact H
    · have H := H.2 c
      refine a_aload_n (pc := 18) dX10_goOn_18 rfl ?_
      refine a_getF (pc := 19) dX10_goOn_19 fl_X10_39 (go_89) (gf_89_17) ?_
      refine a_iload_n (pc := 22) dX10_goOn_22 rfl ?_
      obtain ⟨hb3, H⟩ := H
      refine a_iaload (pc := 23) dX10_goOn_23 (ga_98) hb3 ?_
      refine a_iconst (pc := 24) dX10_goOn_24 (by decide) ?_
      refine a_icmp_eq (pc := 25) (tgt := 135) dX10_goOn_25 (by decide) (fun c => ?_) (fun c => ?_)
      · have H := H.1 c
        refine a_iinc (pc := 135) (ls' := [vo 89, vi x1, vi (w32 (x2 + 1)), vn, vn]) dX10_goOn_135 rfl rfl rfl ?_
        refine a_goto (pc := 138) (tgt := 2) dX10_goOn_138 (by decide) ?_
        exact H
      · have H := H.2 c
        refine a_aload_n (pc := 28) dX10_goOn_28 rfl ?_
        refine a_getF (pc := 29) dX10_goOn_29 fl_X10_39 (go_89) (gf_89_17) ?_
        refine a_iload_n (pc := 32) dX10_goOn_32 rfl ?_
        refine a_iaload (pc := 33) dX10_goOn_33 (ga_98) hb3 ?_
        refine a_iconst (pc := 34) dX10_goOn_34 (by decide) ?_
        refine a_icmp_ne (pc := 35) (tgt := 41) dX10_goOn_35 (by decide) (fun c => ?_) (fun c => ?_)
        · have H := H.1 c
          refine a_ldcw (pc := 41) dX10_goOn_41 cl_X10_314 (by decide) ?_
          refine a_istore_n (pc := 44) (ls' := [vo 89, vi x1, vi x2, vi 1000000, vn]) dX10_goOn_44 rfl rfl ?_
          refine a_iconst (pc := 45) dX10_goOn_45 (by decide) ?_
          refine a_istore (pc := 46) (ls' := [vo 89, vi x1, vi x2, vi 1000000, vi 0]) dX10_goOn_46 rfl rfl ?_
          exact H
        · have H := H.2 c
          refine a_goto (pc := 38) (tgt := 135) dX10_goOn_38 (by decide) ?_
          refine a_iinc (pc := 135) (ls' := [vo 89, vi x1, vi (w32 (x2 + 1)), vn, vn]) dX10_goOn_135 rfl rfl rfl ?_
          refine a_goto (pc := 138) (tgt := 2) dX10_goOn_138 (by decide) ?_
          exact H
set_option maxRecDepth 20000 in
theorem r_X10_goOn_48 {E : zE} {d : Nat} {h : zS} {Q : zS → Prop} {x1 : Int} {x2 : Int} {x3 : Int} {x4 : Int}  (H : (((hI h 89 29) ≤ x4 → ((x3 = 1000000 → (zWv E (d + 1) m_X10_goOn 2 [vo 89, vi x1, vi (w32 (x2 + 1)), vn, vn] h Q)) ∧ (x3 ≠ 1000000 → ((0 ≤ x2 ∧ x2 < 12) ∧ ((x1 < (w32 ((w32 (x3 + 1)) + (hI h 99 x2.toNat))) → (zWv E (d + 1) m_X10_goOn 2 [vo 89, vi x1, vi (w32 (x2 + 1)), vn, vn] h Q)) ∧ ((w32 ((w32 (x3 + 1)) + (hI h 99 x2.toNat))) ≤ x1 → (∀ h2, h2 = stI h 113 x2.toNat x1 → zWv E (d + 1) m_X10_goOn 2 [vo 89, vi x1, vi (w32 (x2 + 1)), vn, vn] h2 Q))))))) ∧ (x4 < (hI h 89 29) → ((0 ≤ x2 ∧ x2 < 12) ∧ (((z_and (z_shr (hI h 114 x2.toNat) x4) 1) ≠ 1 → (zWv E (d + 1) m_X10_goOn 48 [vo 89, vi x1, vi x2, vi x3, vi (w32 (x4 + 1))] h Q)) ∧ ((z_and (z_shr (hI h 114 x2.toNat) x4) 1) = 1 → ((0 ≤ x4 ∧ x4 < 12) ∧ (((hI h 112 x4.toNat) < 0 → (zWv E (d + 1) m_X10_goOn 48 [vo 89, vi x1, vi x2, vi x3, vi (w32 (x4 + 1))] h Q)) ∧ (0 ≤ (hI h 112 x4.toNat) → ((x3 ≤ (hI h 112 x4.toNat) → (zWv E (d + 1) m_X10_goOn 48 [vo 89, vi x1, vi x2, vi x3, vi (w32 (x4 + 1))] h Q)) ∧ ((hI h 112 x4.toNat) < x3 → (zWv E (d + 1) m_X10_goOn 48 [vo 89, vi x1, vi x2, vi (hI h 112 x4.toNat), vi (w32 (x4 + 1))] h Q)))))))))))) : zWv E (d + 1) m_X10_goOn 48 [vo 89, vi x1, vi x2, vi x3, vi x4] h Q := by
  refine a_iload (pc := 48) dX10_goOn_48 rfl ?_
  refine a_aload_n (pc := 50) dX10_goOn_50 rfl ?_
  refine a_getI (pc := 51) dX10_goOn_51 fl_X10_289 (go_89) ?_
  refine a_icmp_ge (pc := 54) (tgt := 107) dX10_goOn_54 (by decide) (fun c => ?_) (fun c => ?_)
  · have H := H.1 c
    refine a_iload_n (pc := 107) dX10_goOn_107 rfl ?_
    refine a_ldcw (pc := 108) dX10_goOn_108 cl_X10_314 (by decide) ?_
    refine a_icmp_eq (pc := 111) (tgt := 135) dX10_goOn_111 (by decide) (fun c => ?_) (fun c => ?_)
    · have H := H.1 c
      refine a_iinc (pc := 135) (ls' := [vo 89, vi x1, vi (w32 (x2 + 1)), vi x3, vi x4]) dX10_goOn_135 rfl rfl rfl ?_
      refine a_goto (pc := 138) (tgt := 2) dX10_goOn_138 (by decide) ?_
      exact z_forget (ls' := [vo 89, vi x1, vi (w32 (x2 + 1)), vn, vn]) ⟨.inr rfl, .inr rfl, .inr rfl, .inl rfl, .inl rfl, trivial⟩ H
    · have H := H.2 c
      refine a_iload_n (pc := 114) dX10_goOn_114 rfl ?_
      refine a_iconst (pc := 115) dX10_goOn_115 (by decide) ?_
      refine a_iadd (pc := 116) dX10_goOn_116 ?_
      refine a_aload_n (pc := 117) dX10_goOn_117 rfl ?_
      refine a_getF (pc := 118) dX10_goOn_118 fl_X10_42 (go_89) (gf_89_18) ?_
      refine a_iload_n (pc := 121) dX10_goOn_121 rfl ?_
      obtain ⟨hb1, H⟩ := H
      refine a_iaload (pc := 122) dX10_goOn_122 (ga_99) hb1 ?_
      refine a_iadd (pc := 123) dX10_goOn_123 ?_
      refine a_iload_n (pc := 124) dX10_goOn_124 rfl ?_
      refine a_icmp_gt (pc := 125) (tgt := 135) dX10_goOn_125 (by decide) (fun c => ?_) (fun c => ?_)
      · have H := H.1 c
        refine a_iinc (pc := 135) (ls' := [vo 89, vi x1, vi (w32 (x2 + 1)), vi x3, vi x4]) dX10_goOn_135 rfl rfl rfl ?_
        refine a_goto (pc := 138) (tgt := 2) dX10_goOn_138 (by decide) ?_
        exact z_forget (ls' := [vo 89, vi x1, vi (w32 (x2 + 1)), vn, vn]) ⟨.inr rfl, .inr rfl, .inr rfl, .inl rfl, .inl rfl, trivial⟩ H
      · have H := H.2 c
        refine a_aload_n (pc := 128) dX10_goOn_128 rfl ?_
        refine a_getF (pc := 129) dX10_goOn_129 fl_X10_84 (go_89) (gf_89_43) ?_
        refine a_iload_n (pc := 132) dX10_goOn_132 rfl ?_
        refine a_iload_n (pc := 133) dX10_goOn_133 rfl ?_
        refine a_iastore (pc := 134) dX10_goOn_134 (ga_113) hb1 ?_
        have H := H _ rfl
        generalize stI h 113 x2.toNat x1 = h2 at H ⊢
        refine a_iinc (pc := 135) (ls' := [vo 89, vi x1, vi (w32 (x2 + 1)), vi x3, vi x4]) dX10_goOn_135 rfl rfl rfl ?_
        refine a_goto (pc := 138) (tgt := 2) dX10_goOn_138 (by decide) ?_
        exact z_forget (ls' := [vo 89, vi x1, vi (w32 (x2 + 1)), vn, vn]) ⟨.inr rfl, .inr rfl, .inr rfl, .inl rfl, .inl rfl, trivial⟩ H
  · have H := H.2 c
    refine a_aload_n (pc := 57) dX10_goOn_57 rfl ?_
    refine a_getF (pc := 58) dX10_goOn_58 fl_X10_87 (go_89) (gf_89_44) ?_
    refine a_iload_n (pc := 61) dX10_goOn_61 rfl ?_
    obtain ⟨hb3, H⟩ := H
    refine a_iaload (pc := 62) dX10_goOn_62 (ga_114) hb3 ?_
    refine a_iload (pc := 63) dX10_goOn_63 rfl ?_
    refine a_ishr (pc := 65) dX10_goOn_65 ?_
    refine a_iconst (pc := 66) dX10_goOn_66 (by decide) ?_
    refine a_iand (pc := 67) dX10_goOn_67 ?_
    refine a_iconst (pc := 68) dX10_goOn_68 (by decide) ?_
    refine a_icmp_ne (pc := 69) (tgt := 101) dX10_goOn_69 (by decide) (fun c => ?_) (fun c => ?_)
    · have H := H.1 c
      refine a_iinc (pc := 101) (ls' := [vo 89, vi x1, vi x2, vi x3, vi (w32 (x4 + 1))]) dX10_goOn_101 rfl rfl rfl ?_
      refine a_goto (pc := 104) (tgt := 48) dX10_goOn_104 (by decide) ?_
      exact H
    · have H := H.2 c
      refine a_aload_n (pc := 72) dX10_goOn_72 rfl ?_
      refine a_getF (pc := 73) dX10_goOn_73 fl_X10_81 (go_89) (gf_89_42) ?_
      refine a_iload (pc := 76) dX10_goOn_76 rfl ?_
      obtain ⟨hb4, H⟩ := H
      refine a_iaload (pc := 78) dX10_goOn_78 (ga_112) hb4 ?_
      refine a_if_lt (pc := 79) (tgt := 101) dX10_goOn_79 (by decide) (fun c => ?_) (fun c => ?_)
      · have H := H.1 c
        refine a_iinc (pc := 101) (ls' := [vo 89, vi x1, vi x2, vi x3, vi (w32 (x4 + 1))]) dX10_goOn_101 rfl rfl rfl ?_
        refine a_goto (pc := 104) (tgt := 48) dX10_goOn_104 (by decide) ?_
        exact H
      · have H := H.2 c
        refine a_aload_n (pc := 82) dX10_goOn_82 rfl ?_
        refine a_getF (pc := 83) dX10_goOn_83 fl_X10_81 (go_89) (gf_89_42) ?_
        refine a_iload (pc := 86) dX10_goOn_86 rfl ?_
        refine a_iaload (pc := 88) dX10_goOn_88 (ga_112) hb4 ?_
        refine a_iload_n (pc := 89) dX10_goOn_89 rfl ?_
        refine a_icmp_ge (pc := 90) (tgt := 101) dX10_goOn_90 (by decide) (fun c => ?_) (fun c => ?_)
        · have H := H.1 c
          refine a_iinc (pc := 101) (ls' := [vo 89, vi x1, vi x2, vi x3, vi (w32 (x4 + 1))]) dX10_goOn_101 rfl rfl rfl ?_
          refine a_goto (pc := 104) (tgt := 48) dX10_goOn_104 (by decide) ?_
          exact H
        · have H := H.2 c
          refine a_aload_n (pc := 93) dX10_goOn_93 rfl ?_
          refine a_getF (pc := 94) dX10_goOn_94 fl_X10_81 (go_89) (gf_89_42) ?_
          refine a_iload (pc := 97) dX10_goOn_97 rfl ?_
          refine a_iaload (pc := 99) dX10_goOn_99 (ga_112) hb4 ?_
          refine a_istore_n (pc := 100) (ls' := [vo 89, vi x1, vi x2, vi (hI h 112 x4.toNat), vi x4]) dX10_goOn_100 rfl rfl ?_
          refine a_iinc (pc := 101) (ls' := [vo 89, vi x1, vi x2, vi (hI h 112 x4.toNat), vi (w32 (x4 + 1))]) dX10_goOn_101 rfl rfl rfl ?_
          refine a_goto (pc := 104) (tgt := 48) dX10_goOn_104 (by decide) ?_
          exact H
set_option maxRecDepth 20000 in
theorem v_X10_layFall {E : zE} {d : Nat} {h : zS} {Q : zS → Prop} {x1 : Int}  (H : zWv E (d + 1) m_X10_layFall 2 [vo 89, vi x1, vi 0] h Q) : zCv E (d + 1) m_X10_layFall [vo 89, vi x1] h Q := by
  show zAt E (d + 1) 0 0 m_X10_layFall 0 [vo 89, vi x1, vn] [] g0 h (zPv Q)
  refine a_iconst (pc := 0) dX10_layFall_0 (by decide) ?_
  refine a_istore_n (pc := 1) (ls' := [vo 89, vi x1, vi 0]) dX10_layFall_1 rfl rfl ?_
  exact H
set_option maxRecDepth 20000 in
theorem r_X10_layFall_2 {E : zE} {d : Nat} {h : zS} {Q : zS → Prop} {x1 : Int} {x2 : Int}  (H : ((12 ≤ x2 → ((0 ≤ x1 ∧ x1 < 12) ∧ ∀ h2, h2 = stI h 112 x1.toNat 0 → zWv E (d + 1) m_X10_layFall 49 [vo 89, vn, vi 0] h2 Q)) ∧ (x2 < 12 → ((0 ≤ x2 ∧ x2 < 12) ∧ ∀ h4, h4 = stI h 112 x2.toNat (-1) → ∀ h5, h5 = stI h4 113 x2.toNat (-1) → ∀ h6, h6 = stI h5 114 x2.toNat (hI h5 104 x2.toNat) → zWv E (d + 1) m_X10_layFall 2 [vo 89, vi x1, vi (w32 (x2 + 1))] h6 Q)))) : zWv E (d + 1) m_X10_layFall 2 [vo 89, vi x1, vi x2] h Q := by
  refine a_iload_n (pc := 2) dX10_layFall_2 rfl ?_
  refine a_bipush (pc := 3) dX10_layFall_3 (by decide) ?_
  refine a_icmp_ge (pc := 5) (tgt := 40) dX10_layFall_5 (by decide) (fun c => ?_) (fun c => ?_)
  · have H := H.1 c
    refine a_aload_n (pc := 40) dX10_layFall_40 rfl ?_
    refine a_getF (pc := 41) dX10_layFall_41 fl_X10_81 (go_89) (gf_89_42) ?_
    refine a_iload_n (pc := 44) dX10_layFall_44 rfl ?_
    refine a_iconst (pc := 45) dX10_layFall_45 (by decide) ?_
    obtain ⟨hb1, H⟩ := H
    refine a_iastore (pc := 46) dX10_layFall_46 (ga_112) hb1 ?_
    have H := H _ rfl
    generalize stI h 112 x1.toNat 0 = h2 at H ⊢
    refine a_iconst (pc := 47) dX10_layFall_47 (by decide) ?_
    refine a_istore_n (pc := 48) (ls' := [vo 89, vi x1, vi 0]) dX10_layFall_48 rfl rfl ?_
    exact z_forget (ls' := [vo 89, vn, vi 0]) ⟨.inr rfl, .inl rfl, .inr rfl, trivial⟩ H
  · have H := H.2 c
    refine a_aload_n (pc := 8) dX10_layFall_8 rfl ?_
    refine a_getF (pc := 9) dX10_layFall_9 fl_X10_81 (go_89) (gf_89_42) ?_
    refine a_iload_n (pc := 12) dX10_layFall_12 rfl ?_
    refine a_iconst (pc := 13) dX10_layFall_13 (by decide) ?_
    obtain ⟨hb3, H⟩ := H
    refine a_iastore (pc := 14) dX10_layFall_14 (ga_112) hb3 ?_
    have H := H _ rfl
    generalize stI h 112 x2.toNat (-1) = h4 at H ⊢
    refine a_aload_n (pc := 15) dX10_layFall_15 rfl ?_
    refine a_getF (pc := 16) dX10_layFall_16 fl_X10_84 (go_89) (gf_89_43) ?_
    refine a_iload_n (pc := 19) dX10_layFall_19 rfl ?_
    refine a_iconst (pc := 20) dX10_layFall_20 (by decide) ?_
    refine a_iastore (pc := 21) dX10_layFall_21 (ga_113) hb3 ?_
    have H := H _ rfl
    generalize stI h4 113 x2.toNat (-1) = h5 at H ⊢
    refine a_aload_n (pc := 22) dX10_layFall_22 rfl ?_
    refine a_getF (pc := 23) dX10_layFall_23 fl_X10_87 (go_89) (gf_89_44) ?_
    refine a_iload_n (pc := 26) dX10_layFall_26 rfl ?_
    refine a_aload_n (pc := 27) dX10_layFall_27 rfl ?_
    refine a_getF (pc := 28) dX10_layFall_28 fl_X10_57 (go_89) (gf_89_23) ?_
    refine a_iload_n (pc := 31) dX10_layFall_31 rfl ?_
    refine a_iaload (pc := 32) dX10_layFall_32 (ga_104) hb3 ?_
    refine a_iastore (pc := 33) dX10_layFall_33 (ga_114) hb3 ?_
    have H := H _ rfl
    generalize stI h5 114 x2.toNat (hI h5 104 x2.toNat) = h6 at H ⊢
    refine a_iinc (pc := 34) (ls' := [vo 89, vi x1, vi (w32 (x2 + 1))]) dX10_layFall_34 rfl rfl rfl ?_
    refine a_goto (pc := 37) (tgt := 2) dX10_layFall_37 (by decide) ?_
    exact H
set_option maxRecDepth 20000 in
theorem r_X10_layFall_49 {E : zE} {d : Nat} {h : zS} {Q : zS → Prop} {x2 : Int}  (H : ((400 < x2 → (Q h)) ∧ (x2 ≤ 400 → (zCi E d m_X10_tellOn [vo 89, vi x2] h (fun y2 h1 => zCv E d m_X10_goOn [vo 89, vi x2] h1 (fun h3 => zWv E (d + 1) m_X10_layFall 49 [vo 89, vn, vi (w32 (x2 + 1))] h3 Q)))))) : zWv E (d + 1) m_X10_layFall 49 [vo 89, vn, vi x2] h Q := by
  refine a_iload_n (pc := 49) dX10_layFall_49 rfl ?_
  refine a_sipush (pc := 50) dX10_layFall_50 (by decide) ?_
  refine a_icmp_gt (pc := 53) (tgt := 73) dX10_layFall_53 (by decide) (fun c => ?_) (fun c => ?_)
  · have H := H.1 c
    exact a_return (pc := 73) dX10_layFall_73 trivial ⟨rfl, rfl, H⟩
  · have H := H.2 c
    refine a_aload_n (pc := 56) dX10_layFall_56 rfl ?_
    refine a_iload_n (pc := 57) dX10_layFall_57 rfl ?_
    refine a_callV (pc := 58) (kc := 0) (ks := 0) (kc' := 0) (ks' := 0) (st := []) [vi x2] dX10_layFall_58 ml_X10_376 (go_89) rfl (Nat.le_of_ble_eq_true rfl) (Nat.le_of_ble_eq_true rfl) (z_post H (fun r G1 h1 q => ?_))
    obtain ⟨y2, rfl, rfl, H⟩ := q
    show zAt E (d + 1) 0 0 m_X10_layFall 61 [vo 89, vn, vi x2] [vi y2] g0 h1 (zPv Q)
    refine a_pop (pc := 61) dX10_layFall_61 rfl ?_
    refine a_aload_n (pc := 62) dX10_layFall_62 rfl ?_
    refine a_iload_n (pc := 63) dX10_layFall_63 rfl ?_
    refine a_callV (pc := 64) (kc := 0) (ks := 0) (kc' := 0) (ks' := 0) (st := []) [vi x2] dX10_layFall_64 ml_X10_379 (go_89) rfl (Nat.le_of_ble_eq_true rfl) (Nat.le_of_ble_eq_true rfl) (z_post H (fun r G1 h3 q => ?_))
    obtain ⟨rfl, rfl, H⟩ := q
    show zAt E (d + 1) 0 0 m_X10_layFall 67 [vo 89, vn, vi x2] [] g0 h3 (zPv Q)
    refine a_iinc (pc := 67) (ls' := [vo 89, vn, vi (w32 (x2 + 1))]) dX10_layFall_67 rfl rfl rfl ?_
    refine a_goto (pc := 70) (tgt := 49) dX10_layFall_70 (by decide) ?_
    exact H
set_option maxRecDepth 20000 in
theorem v_X10_canFall {E : zE} {d : Nat} {h : zS} {Q : Int → zS → Prop} {x1 : Int}  (H : zCi E d m_X10_isOne [vo 89, vi x1] h (fun y2 h1 => ((y2 = 0 → (Q 0 h1)) ∧ (y2 ≠ 0 → ((0 ≤ x1 ∧ x1 < 12) ∧ (((hI h1 98 x1.toNat) = 3 → (Q 0 h1)) ∧ ((hI h1 98 x1.toNat) ≠ 3 → (Q 1 h1)))))))) : zCi E (d + 1) m_X10_canFall [vo 89, vi x1] h Q := by
  show zAt E (d + 1) 0 0 m_X10_canFall 0 [vo 89, vi x1] [] g0 h (zPi Q)
  refine a_aload_n (pc := 0) dX10_canFall_0 rfl ?_
  refine a_iload_n (pc := 1) dX10_canFall_1 rfl ?_
  refine a_callV (pc := 2) (kc := 0) (ks := 0) (kc' := 0) (ks' := 0) (st := []) [vi x1] dX10_canFall_2 ml_X10_311 (go_89) rfl (Nat.le_of_ble_eq_true rfl) (Nat.le_of_ble_eq_true rfl) (z_post H (fun r G1 h1 q => ?_))
  obtain ⟨y2, rfl, rfl, H⟩ := q
  show zAt E (d + 1) 0 0 m_X10_canFall 5 [vo 89, vi x1] [vi y2] g0 h1 (zPi Q)
  refine a_if_eq (pc := 5) (tgt := 22) dX10_canFall_5 (by decide) (fun c => ?_) (fun c => ?_)
  · have H := H.1 c
    refine a_iconst (pc := 22) dX10_canFall_22 (by decide) ?_
    exact a_ireturn (pc := 23) dX10_canFall_23 (.inl rfl) ⟨_, rfl, rfl, H⟩
  · have H := H.2 c
    refine a_aload_n (pc := 8) dX10_canFall_8 rfl ?_
    refine a_getF (pc := 9) dX10_canFall_9 fl_X10_39 (go_89) (gf_89_17) ?_
    refine a_iload_n (pc := 12) dX10_canFall_12 rfl ?_
    obtain ⟨hb3, H⟩ := H
    refine a_iaload (pc := 13) dX10_canFall_13 (ga_98) hb3 ?_
    refine a_iconst (pc := 14) dX10_canFall_14 (by decide) ?_
    refine a_icmp_eq (pc := 15) (tgt := 22) dX10_canFall_15 (by decide) (fun c => ?_) (fun c => ?_)
    · have H := H.1 c
      refine a_iconst (pc := 22) dX10_canFall_22 (by decide) ?_
      exact a_ireturn (pc := 23) dX10_canFall_23 (.inl rfl) ⟨_, rfl, rfl, H⟩
    · have H := H.2 c
      refine a_iconst (pc := 18) dX10_canFall_18 (by decide) ?_
      refine a_goto (pc := 19) (tgt := 23) dX10_canFall_19 (by decide) ?_
      exact a_ireturn (pc := 23) dX10_canFall_23 (.inr rfl) ⟨_, rfl, rfl, H⟩
set_option maxRecDepth 20000 in
theorem v_X10_fall {E : zE} {d : Nat} {h : zS} {Q : Int → zS → Prop} {x1 : Int} {x2 : Int} {x3 : Int}  (H : zCi E d m_X10_canFall [vo 89, vi x1] h (fun y2 h1 => ((y2 = 0 → (Q (-2) h1)) ∧ (y2 ≠ 0 → (zCi E d m_X10_isOne [vo 89, vi x2] h1 (fun y4 h3 => ((y4 = 0 → (Q (-2) h3)) ∧ (y4 ≠ 0 → ((x3 < 0 → (Q (-2) h3)) ∧ (0 ≤ x3 → ((x3 ≤ 1 → (zCv E d m_X10_layFall [vo 89, vi x1] h3 (fun h5 => ((x3 ≠ 0 → ((0 ≤ x2 ∧ x2 < 12) ∧ Q (hI h5 113 x2.toNat) h5)) ∧ (x3 = 0 → ((0 ≤ x2 ∧ x2 < 12) ∧ Q (hI h5 112 x2.toNat) h5)))))) ∧ (1 < x3 → (Q (-2) h3))))))))))))) : zCi E (d + 1) m_X10_fall [vo 89, vi x1, vi x2, vi x3] h Q := by
  show zAt E (d + 1) 0 0 m_X10_fall 0 [vo 89, vi x1, vi x2, vi x3] [] g0 h (zPi Q)
  refine a_aload_n (pc := 0) dX10_fall_0 rfl ?_
  refine a_iload_n (pc := 1) dX10_fall_1 rfl ?_
  refine a_callV (pc := 2) (kc := 0) (ks := 0) (kc' := 0) (ks' := 0) (st := []) [vi x1] dX10_fall_2 ml_X10_382 (go_89) rfl (Nat.le_of_ble_eq_true rfl) (Nat.le_of_ble_eq_true rfl) (z_post H (fun r G1 h1 q => ?_))
  obtain ⟨y2, rfl, rfl, H⟩ := q
  show zAt E (d + 1) 0 0 m_X10_fall 5 [vo 89, vi x1, vi x2, vi x3] [vi y2] g0 h1 (zPi Q)
  refine a_if_eq (pc := 5) (tgt := 25) dX10_fall_5 (by decide) (fun c => ?_) (fun c => ?_)
  · have H := H.1 c
    refine a_bipush (pc := 25) dX10_fall_25 (by decide) ?_
    exact a_ireturn (pc := 27) dX10_fall_27 trivial ⟨_, rfl, rfl, H⟩
  · have H := H.2 c
    refine a_aload_n (pc := 8) dX10_fall_8 rfl ?_
    refine a_iload_n (pc := 9) dX10_fall_9 rfl ?_
    refine a_callV (pc := 10) (kc := 0) (ks := 0) (kc' := 0) (ks' := 0) (st := []) [vi x2] dX10_fall_10 ml_X10_311 (go_89) rfl (Nat.le_of_ble_eq_true rfl) (Nat.le_of_ble_eq_true rfl) (z_post H (fun r G1 h3 q => ?_))
    obtain ⟨y4, rfl, rfl, H⟩ := q
    show zAt E (d + 1) 0 0 m_X10_fall 13 [vo 89, vi x1, vi x2, vi x3] [vi y4] g0 h3 (zPi Q)
    refine a_if_eq (pc := 13) (tgt := 25) dX10_fall_13 (by decide) (fun c => ?_) (fun c => ?_)
    · have H := H.1 c
      refine a_bipush (pc := 25) dX10_fall_25 (by decide) ?_
      exact a_ireturn (pc := 27) dX10_fall_27 trivial ⟨_, rfl, rfl, H⟩
    · have H := H.2 c
      refine a_iload_n (pc := 16) dX10_fall_16 rfl ?_
      refine a_if_lt (pc := 17) (tgt := 25) dX10_fall_17 (by decide) (fun c => ?_) (fun c => ?_)
      · have H := H.1 c
        refine a_bipush (pc := 25) dX10_fall_25 (by decide) ?_
        exact a_ireturn (pc := 27) dX10_fall_27 trivial ⟨_, rfl, rfl, H⟩
      · have H := H.2 c
        refine a_iload_n (pc := 20) dX10_fall_20 rfl ?_
        refine a_iconst (pc := 21) dX10_fall_21 (by decide) ?_
        refine a_icmp_le (pc := 22) (tgt := 28) dX10_fall_22 (by decide) (fun c => ?_) (fun c => ?_)
        · have H := H.1 c
          refine a_aload_n (pc := 28) dX10_fall_28 rfl ?_
          refine a_iload_n (pc := 29) dX10_fall_29 rfl ?_
          refine a_callV (pc := 30) (kc := 0) (ks := 0) (kc' := 0) (ks' := 0) (st := []) [vi x1] dX10_fall_30 ml_X10_385 (go_89) rfl (Nat.le_of_ble_eq_true rfl) (Nat.le_of_ble_eq_true rfl) (z_post H (fun r G1 h5 q => ?_))
          obtain ⟨rfl, rfl, H⟩ := q
          show zAt E (d + 1) 0 0 m_X10_fall 33 [vo 89, vi x1, vi x2, vi x3] [] g0 h5 (zPi Q)
          refine a_iload_n (pc := 33) dX10_fall_33 rfl ?_
          refine a_if_ne (pc := 34) (tgt := 46) dX10_fall_34 (by decide) (fun c => ?_) (fun c => ?_)
          · have H := H.1 c
            refine a_aload_n (pc := 46) dX10_fall_46 rfl ?_
            refine a_getF (pc := 47) dX10_fall_47 fl_X10_84 (go_89) (gf_89_43) ?_
            refine a_iload_n (pc := 50) dX10_fall_50 rfl ?_
            obtain ⟨hb6, H⟩ := H
            refine a_iaload (pc := 51) dX10_fall_51 (ga_113) hb6 ?_
            exact a_ireturn (pc := 52) dX10_fall_52 trivial ⟨_, rfl, rfl, H⟩
          · have H := H.2 c
            refine a_aload_n (pc := 37) dX10_fall_37 rfl ?_
            refine a_getF (pc := 38) dX10_fall_38 fl_X10_81 (go_89) (gf_89_42) ?_
            refine a_iload_n (pc := 41) dX10_fall_41 rfl ?_
            obtain ⟨hb7, H⟩ := H
            refine a_iaload (pc := 42) dX10_fall_42 (ga_112) hb7 ?_
            refine a_goto (pc := 43) (tgt := 52) dX10_fall_43 (by decide) ?_
            exact a_ireturn (pc := 52) dX10_fall_52 trivial ⟨_, rfl, rfl, H⟩
        · have H := H.2 c
          refine a_bipush (pc := 25) dX10_fall_25 (by decide) ?_
          exact a_ireturn (pc := 27) dX10_fall_27 trivial ⟨_, rfl, rfl, H⟩
set_option maxRecDepth 20000 in
theorem v_X10_worst {E : zE} {d : Nat} {h : zS} {Q : Int → zS → Prop} {x1 : Int}  (H : ((x1 < 0 → (Q (-1) h)) ∧ (0 ≤ x1 → ((x1 ≤ 1 → (zWi E (d + 1) m_X10_worst 18 [vo 89, vi x1, vi (-1), vi 0, vi 0, vn, vn] h Q)) ∧ (1 < x1 → (Q (-1) h)))))) : zCi E (d + 1) m_X10_worst [vo 89, vi x1] h Q := by
  show zAt E (d + 1) 0 0 m_X10_worst 0 [vo 89, vi x1, vn, vn, vn, vn, vn] [] g0 h (zPi Q)
  refine a_iload_n (pc := 0) dX10_worst_0 rfl ?_
  refine a_if_lt (pc := 1) (tgt := 9) dX10_worst_1 (by decide) (fun c => ?_) (fun c => ?_)
  · have H := H.1 c
    refine a_iconst (pc := 9) dX10_worst_9 (by decide) ?_
    exact a_ireturn (pc := 10) dX10_worst_10 trivial ⟨_, rfl, rfl, H⟩
  · have H := H.2 c
    refine a_iload_n (pc := 4) dX10_worst_4 rfl ?_
    refine a_iconst (pc := 5) dX10_worst_5 (by decide) ?_
    refine a_icmp_le (pc := 6) (tgt := 11) dX10_worst_6 (by decide) (fun c => ?_) (fun c => ?_)
    · have H := H.1 c
      refine a_iconst (pc := 11) dX10_worst_11 (by decide) ?_
      refine a_istore_n (pc := 12) (ls' := [vo 89, vi x1, vi (-1), vn, vn, vn, vn]) dX10_worst_12 rfl rfl ?_
      refine a_iconst (pc := 13) dX10_worst_13 (by decide) ?_
      refine a_istore_n (pc := 14) (ls' := [vo 89, vi x1, vi (-1), vi 0, vn, vn, vn]) dX10_worst_14 rfl rfl ?_
      refine a_iconst (pc := 15) dX10_worst_15 (by decide) ?_
      refine a_istore (pc := 16) (ls' := [vo 89, vi x1, vi (-1), vi 0, vi 0, vn, vn]) dX10_worst_16 rfl rfl ?_
      exact H
    · have H := H.2 c
      refine a_iconst (pc := 9) dX10_worst_9 (by decide) ?_
      exact a_ireturn (pc := 10) dX10_worst_10 trivial ⟨_, rfl, rfl, H⟩
set_option maxRecDepth 20000 in
theorem r_X10_worst_18 {E : zE} {d : Nat} {h : zS} {Q : Int → zS → Prop} {x1 : Int} {x2 : Int} {x3 : Int} {x4 : Int}  (H : (((hI h 89 29) ≤ x4 → ((0 ≤ x2 → ((x1 ≠ 0 → (Q x3 h)) ∧ (x1 = 0 → (Q x2 h)))) ∧ (x2 < 0 → (Q (-1) h)))) ∧ (x4 < (hI h 89 29) → (zCi E d m_X10_canFall [vo 89, vi x4] h (fun y2 h1 => ((y2 ≠ 0 → (zCv E d m_X10_layFall [vo 89, vi x4] h1 (fun h3 => zWi E (d + 1) m_X10_worst 51 [vo 89, vi x1, vi x2, vi x3, vi x4, vi 0, vi 0] h3 Q))) ∧ (y2 = 0 → (zWi E (d + 1) m_X10_worst 18 [vo 89, vi x1, vi x2, vi x3, vi (w32 (x4 + 1)), vn, vn] h1 Q)))))))) : zWi E (d + 1) m_X10_worst 18 [vo 89, vi x1, vi x2, vi x3, vi x4, vn, vn] h Q := by
  refine a_iload (pc := 18) dX10_worst_18 rfl ?_
  refine a_aload_n (pc := 20) dX10_worst_20 rfl ?_
  refine a_getI (pc := 21) dX10_worst_21 fl_X10_289 (go_89) ?_
  refine a_icmp_ge (pc := 24) (tgt := 107) dX10_worst_24 (by decide) (fun c => ?_) (fun c => ?_)
  · have H := H.1 c
    refine a_iload_n (pc := 107) dX10_worst_107 rfl ?_
    refine a_if_ge (pc := 108) (tgt := 115) dX10_worst_108 (by decide) (fun c => ?_) (fun c => ?_)
    · have H := H.1 c
      refine a_iload_n (pc := 115) dX10_worst_115 rfl ?_
      refine a_if_ne (pc := 116) (tgt := 123) dX10_worst_116 (by decide) (fun c => ?_) (fun c => ?_)
      · have H := H.1 c
        refine a_iload_n (pc := 123) dX10_worst_123 rfl ?_
        exact a_ireturn (pc := 124) dX10_worst_124 trivial ⟨_, rfl, rfl, H⟩
      · have H := H.2 c
        refine a_iload_n (pc := 119) dX10_worst_119 rfl ?_
        refine a_goto (pc := 120) (tgt := 124) dX10_worst_120 (by decide) ?_
        exact a_ireturn (pc := 124) dX10_worst_124 trivial ⟨_, rfl, rfl, H⟩
    · have H := H.2 c
      refine a_iconst (pc := 111) dX10_worst_111 (by decide) ?_
      refine a_goto (pc := 112) (tgt := 124) dX10_worst_112 (by decide) ?_
      exact a_ireturn (pc := 124) dX10_worst_124 trivial ⟨_, rfl, rfl, H⟩
  · have H := H.2 c
    refine a_aload_n (pc := 27) dX10_worst_27 rfl ?_
    refine a_iload (pc := 28) dX10_worst_28 rfl ?_
    refine a_callV (pc := 30) (kc := 0) (ks := 0) (kc' := 0) (ks' := 0) (st := []) [vi x4] dX10_worst_30 ml_X10_382 (go_89) rfl (Nat.le_of_ble_eq_true rfl) (Nat.le_of_ble_eq_true rfl) (z_post H (fun r G1 h1 q => ?_))
    obtain ⟨y2, rfl, rfl, H⟩ := q
    show zAt E (d + 1) 0 0 m_X10_worst 33 [vo 89, vi x1, vi x2, vi x3, vi x4, vn, vn] [vi y2] g0 h1 (zPi Q)
    refine a_if_ne (pc := 33) (tgt := 39) dX10_worst_33 (by decide) (fun c => ?_) (fun c => ?_)
    · have H := H.1 c
      refine a_aload_n (pc := 39) dX10_worst_39 rfl ?_
      refine a_iload (pc := 40) dX10_worst_40 rfl ?_
      refine a_callV (pc := 42) (kc := 0) (ks := 0) (kc' := 0) (ks' := 0) (st := []) [vi x4] dX10_worst_42 ml_X10_385 (go_89) rfl (Nat.le_of_ble_eq_true rfl) (Nat.le_of_ble_eq_true rfl) (z_post H (fun r G1 h3 q => ?_))
      obtain ⟨rfl, rfl, H⟩ := q
      show zAt E (d + 1) 0 0 m_X10_worst 45 [vo 89, vi x1, vi x2, vi x3, vi x4, vn, vn] [] g0 h3 (zPi Q)
      refine a_iconst (pc := 45) dX10_worst_45 (by decide) ?_
      refine a_istore (pc := 46) (ls' := [vo 89, vi x1, vi x2, vi x3, vi x4, vi 0, vn]) dX10_worst_46 rfl rfl ?_
      refine a_iconst (pc := 48) dX10_worst_48 (by decide) ?_
      refine a_istore (pc := 49) (ls' := [vo 89, vi x1, vi x2, vi x3, vi x4, vi 0, vi 0]) dX10_worst_49 rfl rfl ?_
      exact H
    · have H := H.2 c
      refine a_goto (pc := 36) (tgt := 101) dX10_worst_36 (by decide) ?_
      refine a_iinc (pc := 101) (ls' := [vo 89, vi x1, vi x2, vi x3, vi (w32 (x4 + 1)), vn, vn]) dX10_worst_101 rfl rfl rfl ?_
      refine a_goto (pc := 104) (tgt := 18) dX10_worst_104 (by decide) ?_
      exact H
set_option maxRecDepth 20000 in
theorem r_X10_worst_51 {E : zE} {d : Nat} {h : zS} {Q : Int → zS → Prop} {x1 : Int} {x2 : Int} {x3 : Int} {x4 : Int} {x5 : Int} {x6 : Int}  (H : (((hI h 89 29) ≤ x6 → ((x3 < x5 → (zWi E (d + 1) m_X10_worst 18 [vo 89, vi x1, vi x4, vi x5, vi (w32 (x4 + 1)), vn, vn] h Q)) ∧ (x5 ≤ x3 → (zWi E (d + 1) m_X10_worst 18 [vo 89, vi x1, vi x2, vi x3, vi (w32 (x4 + 1)), vn, vn] h Q)))) ∧ (x6 < (hI h 89 29) → ((0 ≤ x6 ∧ x6 < 12) ∧ (∀ y3 : Int, y3 = w32 (x5 + (if (hI h 112 x6.toNat) < 0 then 0 else 1)) → zWi E (d + 1) m_X10_worst 51 [vo 89, vi x1, vi x2, vi x3, vi x4, vi y3, vi (w32 (x6 + 1))] h Q))))) : zWi E (d + 1) m_X10_worst 51 [vo 89, vi x1, vi x2, vi x3, vi x4, vi x5, vi x6] h Q := by
  refine a_iload (pc := 51) dX10_worst_51 rfl ?_
  refine a_aload_n (pc := 53) dX10_worst_53 rfl ?_
  refine a_getI (pc := 54) dX10_worst_54 fl_X10_289 (go_89) ?_
  refine a_icmp_ge (pc := 57) (tgt := 86) dX10_worst_57 (by decide) (fun c => ?_) (fun c => ?_)
  · have H := H.1 c
    refine a_iload (pc := 86) dX10_worst_86 rfl ?_
    refine a_iload_n (pc := 88) dX10_worst_88 rfl ?_
    refine a_icmp_gt (pc := 89) (tgt := 95) dX10_worst_89 (by decide) (fun c => ?_) (fun c => ?_)
    · have H := H.1 c
      refine a_iload (pc := 95) dX10_worst_95 rfl ?_
      refine a_istore_n (pc := 97) (ls' := [vo 89, vi x1, vi x4, vi x3, vi x4, vi x5, vi x6]) dX10_worst_97 rfl rfl ?_
      refine a_iload (pc := 98) dX10_worst_98 rfl ?_
      refine a_istore_n (pc := 100) (ls' := [vo 89, vi x1, vi x4, vi x5, vi x4, vi x5, vi x6]) dX10_worst_100 rfl rfl ?_
      refine a_iinc (pc := 101) (ls' := [vo 89, vi x1, vi x4, vi x5, vi (w32 (x4 + 1)), vi x5, vi x6]) dX10_worst_101 rfl rfl rfl ?_
      refine a_goto (pc := 104) (tgt := 18) dX10_worst_104 (by decide) ?_
      exact z_forget (ls' := [vo 89, vi x1, vi x4, vi x5, vi (w32 (x4 + 1)), vn, vn]) ⟨.inr rfl, .inr rfl, .inr rfl, .inr rfl, .inr rfl, .inl rfl, .inl rfl, trivial⟩ H
    · have H := H.2 c
      refine a_goto (pc := 92) (tgt := 101) dX10_worst_92 (by decide) ?_
      refine a_iinc (pc := 101) (ls' := [vo 89, vi x1, vi x2, vi x3, vi (w32 (x4 + 1)), vi x5, vi x6]) dX10_worst_101 rfl rfl rfl ?_
      refine a_goto (pc := 104) (tgt := 18) dX10_worst_104 (by decide) ?_
      exact z_forget (ls' := [vo 89, vi x1, vi x2, vi x3, vi (w32 (x4 + 1)), vn, vn]) ⟨.inr rfl, .inr rfl, .inr rfl, .inr rfl, .inr rfl, .inl rfl, .inl rfl, trivial⟩ H
  · have H := H.2 c
    refine a_iload (pc := 60) dX10_worst_60 rfl ?_
    refine a_aload_n (pc := 62) dX10_worst_62 rfl ?_
    refine a_getF (pc := 63) dX10_worst_63 fl_X10_81 (go_89) (gf_89_42) ?_
    refine a_iload (pc := 66) dX10_worst_66 rfl ?_
    obtain ⟨hb1, H⟩ := H
    refine a_iaload (pc := 68) dX10_worst_68 (ga_112) hb1 ?_
    have J : zAt E (d + 1) 0 0 m_X10_worst 77 [vo 89, vi x1, vi x2, vi x3, vi x4, vi x5, vi x6] [vi (if (hI h 112 x6.toNat) < 0 then 0 else 1), vi x5] g0 h (zPi Q) := by
      refine a_iadd (pc := 77) dX10_worst_77 ?_
      have H := H _ rfl
      generalize (w32 (x5 + (if (hI h 112 x6.toNat) < 0 then 0 else 1)) : Int) = y3 at H ⊢
      refine a_istore (pc := 78) (ls' := [vo 89, vi x1, vi x2, vi x3, vi x4, vi y3, vi x6]) dX10_worst_78 rfl rfl ?_
      refine a_iinc (pc := 80) (ls' := [vo 89, vi x1, vi x2, vi x3, vi x4, vi y3, vi (w32 (x6 + 1))]) dX10_worst_80 rfl rfl rfl ?_
      refine a_goto (pc := 83) (tgt := 51) dX10_worst_83 (by decide) ?_
      exact H
    refine a_if_lt (pc := 69) (tgt := 76) dX10_worst_69 (by decide) (fun c2 => ?_) (fun c2 => ?_)
    · skip
      refine a_iconst (pc := 76) dX10_worst_76 (by decide) ?_
      exact (z_mergeT c2 J)
    · skip
      refine a_iconst (pc := 72) dX10_worst_72 (by decide) ?_
      refine a_goto (pc := 73) (tgt := 77) dX10_worst_73 (by decide) ?_
      exact (z_mergeF (Int.not_lt.mpr c2) J)
set_option maxRecDepth 20000 in
theorem v_X10_fresh {E : zE} {d : Nat} {h : zS} {Q : zS → Prop}   (H : ∀ h1, h1 = stI h 89 54 0 → ∀ h2, h2 = stI h1 89 55 0 → zWv E d m_X10_fresh 12 [vo 89, vi 0] h2 Q) : zCv E d m_X10_fresh [vo 89] h Q := by
  show zAt E d 0 0 m_X10_fresh 0 [vo 89, vn] [] g0 h (zPv Q)
  refine a_aload_n (pc := 0) dX10_fresh_0 rfl ?_
  refine a_iconst (pc := 1) dX10_fresh_1 (by decide) ?_
  refine a_putI (pc := 2) dX10_fresh_2 fl_X10_388 (go_89) ?_
  have H := H _ rfl
  generalize stI h 89 54 0 = h1 at H ⊢
  refine a_aload_n (pc := 5) dX10_fresh_5 rfl ?_
  refine a_iconst (pc := 6) dX10_fresh_6 (by decide) ?_
  refine a_putI (pc := 7) dX10_fresh_7 fl_X10_391 (go_89) ?_
  have H := H _ rfl
  generalize stI h1 89 55 0 = h2 at H ⊢
  refine a_iconst (pc := 10) dX10_fresh_10 (by decide) ?_
  refine a_istore_n (pc := 11) (ls' := [vo 89, vi 0]) dX10_fresh_11 rfl rfl ?_
  exact H
set_option maxRecDepth 20000 in
theorem r_X10_fresh_12 {E : zE} {d : Nat} {h : zS} {Q : zS → Prop} {x1 : Int}  (H : ((12 ≤ x1 → (zWv E d m_X10_fresh 64 [vo 89, vi 0] h Q)) ∧ (x1 < 12 → ((0 ≤ x1 ∧ x1 < 12) ∧ ∀ h2, h2 = stI h 115 x1.toNat (-1) → ∀ h3, h3 = stI h2 116 x1.toNat (-1) → ((x1 < (hI h3 89 29) → (0 ≤ x1 ∧ x1 < 12))) ∧ (∀ h5, h5 = stI h3 117 x1.toNat (if (hI h3 89 29) ≤ x1 then 0 else (hI h3 104 x1.toNat)) → zWv E d m_X10_fresh 12 [vo 89, vi (w32 (x1 + 1))] h5 Q))))) : zWv E d m_X10_fresh 12 [vo 89, vi x1] h Q := by
  refine a_iload_n (pc := 12) dX10_fresh_12 rfl ?_
  refine a_bipush (pc := 13) dX10_fresh_13 (by decide) ?_
  refine a_icmp_ge (pc := 15) (tgt := 62) dX10_fresh_15 (by decide) (fun c => ?_) (fun c => ?_)
  · have H := H.1 c
    refine a_iconst (pc := 62) dX10_fresh_62 (by decide) ?_
    refine a_istore_n (pc := 63) (ls' := [vo 89, vi 0]) dX10_fresh_63 rfl rfl ?_
    exact H
  · have H := H.2 c
    refine a_aload_n (pc := 18) dX10_fresh_18 rfl ?_
    refine a_getF (pc := 19) dX10_fresh_19 fl_X10_90 (go_89) (gf_89_45) ?_
    refine a_iload_n (pc := 22) dX10_fresh_22 rfl ?_
    refine a_iconst (pc := 23) dX10_fresh_23 (by decide) ?_
    obtain ⟨hb1, H⟩ := H
    refine a_iastore (pc := 24) dX10_fresh_24 (ga_115) hb1 ?_
    have H := H _ rfl
    generalize stI h 115 x1.toNat (-1) = h2 at H ⊢
    refine a_aload_n (pc := 25) dX10_fresh_25 rfl ?_
    refine a_getF (pc := 26) dX10_fresh_26 fl_X10_93 (go_89) (gf_89_46) ?_
    refine a_iload_n (pc := 29) dX10_fresh_29 rfl ?_
    refine a_iconst (pc := 30) dX10_fresh_30 (by decide) ?_
    refine a_iastore (pc := 31) dX10_fresh_31 (ga_116) hb1 ?_
    have H := H _ rfl
    generalize stI h2 116 x1.toNat (-1) = h3 at H ⊢
    refine a_aload_n (pc := 32) dX10_fresh_32 rfl ?_
    refine a_getF (pc := 33) dX10_fresh_33 fl_X10_96 (go_89) (gf_89_47) ?_
    refine a_iload_n (pc := 36) dX10_fresh_36 rfl ?_
    refine a_iload_n (pc := 37) dX10_fresh_37 rfl ?_
    refine a_aload_n (pc := 38) dX10_fresh_38 rfl ?_
    refine a_getI (pc := 39) dX10_fresh_39 fl_X10_289 (go_89) ?_
    obtain ⟨HS, H⟩ := H
    have J : zAt E d 0 0 m_X10_fresh 55 [vo 89, vi x1] [vi (if (hI h3 89 29) ≤ x1 then 0 else (hI h3 104 x1.toNat)), vi x1, vo 117] g0 h3 (zPv Q) := by
      refine a_iastore (pc := 55) dX10_fresh_55 (ga_117) hb1 ?_
      have H := H _ rfl
      generalize stI h3 117 x1.toNat (if (hI h3 89 29) ≤ x1 then 0 else (hI h3 104 x1.toNat)) = h5 at H ⊢
      refine a_iinc (pc := 56) (ls' := [vo 89, vi (w32 (x1 + 1))]) dX10_fresh_56 rfl rfl rfl ?_
      refine a_goto (pc := 59) (tgt := 12) dX10_fresh_59 (by decide) ?_
      exact H
    refine a_icmp_ge (pc := 42) (tgt := 54) dX10_fresh_42 (by decide) (fun c4 => ?_) (fun c4 => ?_)
    · skip
      refine a_iconst (pc := 54) dX10_fresh_54 (by decide) ?_
      exact (z_mergeT c4 J)
    · have HS := HS c4
      refine a_aload_n (pc := 45) dX10_fresh_45 rfl ?_
      refine a_getF (pc := 46) dX10_fresh_46 fl_X10_57 (go_89) (gf_89_23) ?_
      refine a_iload_n (pc := 49) dX10_fresh_49 rfl ?_
      have HB0 := HS
      refine a_iaload (pc := 50) dX10_fresh_50 (ga_104) HB0 ?_
      refine a_goto (pc := 51) (tgt := 55) dX10_fresh_51 (by decide) ?_
      exact (z_mergeF (Int.not_le.mpr c4) J)
set_option maxRecDepth 20000 in
theorem r_X10_fresh_64 {E : zE} {d : Nat} {h : zS} {Q : zS → Prop} {x1 : Int}  (H : ((144 ≤ x1 → (Q h)) ∧ (x1 < 144 → ((0 ≤ x1 ∧ x1 < 144) ∧ ∀ h2, h2 = stI h 118 x1.toNat (hI h 103 x1.toNat) → zWv E d m_X10_fresh 64 [vo 89, vi (w32 (x1 + 1))] h2 Q)))) : zWv E d m_X10_fresh 64 [vo 89, vi x1] h Q := by
  refine a_iload_n (pc := 64) dX10_fresh_64 rfl ?_
  refine a_sipush (pc := 65) dX10_fresh_65 (by decide) ?_
  refine a_icmp_ge (pc := 68) (tgt := 89) dX10_fresh_68 (by decide) (fun c => ?_) (fun c => ?_)
  · have H := H.1 c
    exact a_return (pc := 89) dX10_fresh_89 trivial ⟨rfl, rfl, H⟩
  · have H := H.2 c
    refine a_aload_n (pc := 71) dX10_fresh_71 rfl ?_
    refine a_getF (pc := 72) dX10_fresh_72 fl_X10_99 (go_89) (gf_89_48) ?_
    refine a_iload_n (pc := 75) dX10_fresh_75 rfl ?_
    refine a_aload_n (pc := 76) dX10_fresh_76 rfl ?_
    refine a_getF (pc := 77) dX10_fresh_77 fl_X10_54 (go_89) (gf_89_22) ?_
    refine a_iload_n (pc := 80) dX10_fresh_80 rfl ?_
    obtain ⟨hb1, H⟩ := H
    refine a_iaload (pc := 81) dX10_fresh_81 (ga_103) hb1 ?_
    refine a_iastore (pc := 82) dX10_fresh_82 (ga_118) hb1 ?_
    have H := H _ rfl
    generalize stI h 118 x1.toNat (hI h 103 x1.toNat) = h2 at H ⊢
    refine a_iinc (pc := 83) (ls' := [vo 89, vi (w32 (x1 + 1))]) dX10_fresh_83 rfl rfl rfl ?_
    refine a_goto (pc := 86) (tgt := 64) dX10_fresh_86 (by decide) ?_
    exact H
set_option maxRecDepth 20000 in
theorem v_X10_isThere {E : zE} {d : Nat} {h : zS} {Q : Int → zS → Prop} {x1 : Int}  (H : (0 ≤ x1 ∧ x1 < 12) ∧ ((0 ≤ (hI h 115 x1.toNat) → (Q 0 h)) ∧ ((hI h 115 x1.toNat) < 0 → ((0 ≤ (hI h 116 x1.toNat) → (Q 0 h)) ∧ ((hI h 116 x1.toNat) < 0 → (Q 1 h)))))) : zCi E d m_X10_isThere [vo 89, vi x1] h Q := by
  show zAt E d 0 0 m_X10_isThere 0 [vo 89, vi x1] [] g0 h (zPi Q)
  refine a_aload_n (pc := 0) dX10_isThere_0 rfl ?_
  refine a_getF (pc := 1) dX10_isThere_1 fl_X10_90 (go_89) (gf_89_45) ?_
  refine a_iload_n (pc := 4) dX10_isThere_4 rfl ?_
  obtain ⟨hb1, H⟩ := H
  refine a_iaload (pc := 5) dX10_isThere_5 (ga_115) hb1 ?_
  refine a_if_ge (pc := 6) (tgt := 22) dX10_isThere_6 (by decide) (fun c => ?_) (fun c => ?_)
  · have H := H.1 c
    refine a_iconst (pc := 22) dX10_isThere_22 (by decide) ?_
    exact a_ireturn (pc := 23) dX10_isThere_23 (.inl rfl) ⟨_, rfl, rfl, H⟩
  · have H := H.2 c
    refine a_aload_n (pc := 9) dX10_isThere_9 rfl ?_
    refine a_getF (pc := 10) dX10_isThere_10 fl_X10_93 (go_89) (gf_89_46) ?_
    refine a_iload_n (pc := 13) dX10_isThere_13 rfl ?_
    refine a_iaload (pc := 14) dX10_isThere_14 (ga_116) hb1 ?_
    refine a_if_ge (pc := 15) (tgt := 22) dX10_isThere_15 (by decide) (fun c => ?_) (fun c => ?_)
    · have H := H.1 c
      refine a_iconst (pc := 22) dX10_isThere_22 (by decide) ?_
      exact a_ireturn (pc := 23) dX10_isThere_23 (.inl rfl) ⟨_, rfl, rfl, H⟩
    · have H := H.2 c
      refine a_iconst (pc := 18) dX10_isThere_18 (by decide) ?_
      refine a_goto (pc := 19) (tgt := 23) dX10_isThere_19 (by decide) ?_
      exact a_ireturn (pc := 23) dX10_isThere_23 (.inr rfl) ⟨_, rfl, rfl, H⟩
set_option maxRecDepth 20000 in
theorem v_X10_layDays {E : zE} {d : Nat} {h : zS} {Q : zS → Prop}   (H : zWv E (d + 1) m_X10_layDays 2 [vo 89, vi 0, vn, vn, vn] h Q) : zCv E (d + 1) m_X10_layDays [vo 89] h Q := by
  show zAt E (d + 1) 0 0 m_X10_layDays 0 [vo 89, vn, vn, vn, vn] [] g0 h (zPv Q)
  refine a_iconst (pc := 0) dX10_layDays_0 (by decide) ?_
  refine a_istore_n (pc := 1) (ls' := [vo 89, vi 0, vn, vn, vn]) dX10_layDays_1 rfl rfl ?_
  exact H
set_option maxRecDepth 20000 in
theorem r_X10_layDays_2 {E : zE} {d : Nat} {h : zS} {Q : zS → Prop} {x1 : Int}  (H : ((12 ≤ x1 → (((hI h 89 32) < 0 → (Q h)) ∧ (0 ≤ (hI h 89 32) → (zCi E d m_X10_isThere [vo 89, vi (hI h 89 32)] h (fun y2 h1 => ((y2 ≠ 0 → ((0 ≤ hI h1 89 32 ∧ hI h1 89 32 < 12) ∧ ∀ h4, h4 = stI h1 124 (hI h1 89 32).toNat 0 → zWv E (d + 1) m_X10_layDays 54 [vo 89, vi 0, vn, vn, vn] h4 Q)) ∧ (y2 = 0 → (Q h1)))))))) ∧ (x1 < 12 → ((0 ≤ x1 ∧ x1 < 12) ∧ ∀ h6, h6 = stI h 124 x1.toNat 1000000 → zWv E (d + 1) m_X10_layDays 2 [vo 89, vi (w32 (x1 + 1)), vn, vn, vn] h6 Q)))) : zWv E (d + 1) m_X10_layDays 2 [vo 89, vi x1, vn, vn, vn] h Q := by
  refine a_iload_n (pc := 2) dX10_layDays_2 rfl ?_
  refine a_bipush (pc := 3) dX10_layDays_3 (by decide) ?_
  refine a_icmp_ge (pc := 5) (tgt := 23) dX10_layDays_5 (by decide) (fun c => ?_) (fun c => ?_)
  · have H := H.1 c
    refine a_aload_n (pc := 23) dX10_layDays_23 rfl ?_
    refine a_getI (pc := 24) dX10_layDays_24 fl_X10_154 (go_89) ?_
    refine a_if_lt (pc := 27) (tgt := 41) dX10_layDays_27 (by decide) (fun c => ?_) (fun c => ?_)
    · have H := H.1 c
      exact a_return (pc := 41) dX10_layDays_41 trivial ⟨rfl, rfl, H⟩
    · have H := H.2 c
      refine a_aload_n (pc := 30) dX10_layDays_30 rfl ?_
      refine a_aload_n (pc := 31) dX10_layDays_31 rfl ?_
      refine a_getI (pc := 32) dX10_layDays_32 fl_X10_154 (go_89) ?_
      refine a_callV (pc := 35) (kc := 0) (ks := 0) (kc' := 0) (ks' := 0) (st := []) [vi (hI h 89 32)] dX10_layDays_35 ml_X10_315 (go_89) rfl (Nat.le_of_ble_eq_true rfl) (Nat.le_of_ble_eq_true rfl) (z_post H (fun r G1 h1 q => ?_))
      obtain ⟨y2, rfl, rfl, H⟩ := q
      show zAt E (d + 1) 0 0 m_X10_layDays 38 [vo 89, vi x1, vn, vn, vn] [vi y2] g0 h1 (zPv Q)
      refine a_if_ne (pc := 38) (tgt := 42) dX10_layDays_38 (by decide) (fun c => ?_) (fun c => ?_)
      · have H := H.1 c
        refine a_aload_n (pc := 42) dX10_layDays_42 rfl ?_
        refine a_getF (pc := 43) dX10_layDays_43 fl_X10_117 (go_89) (gf_89_56) ?_
        refine a_aload_n (pc := 46) dX10_layDays_46 rfl ?_
        refine a_getI (pc := 47) dX10_layDays_47 fl_X10_154 (go_89) ?_
        refine a_iconst (pc := 50) dX10_layDays_50 (by decide) ?_
        obtain ⟨hb3, H⟩ := H
        refine a_iastore (pc := 51) dX10_layDays_51 (ga_124) hb3 ?_
        have H := H _ rfl
        generalize stI h1 124 (hI h1 89 32).toNat 0 = h4 at H ⊢
        refine a_iconst (pc := 52) dX10_layDays_52 (by decide) ?_
        refine a_istore_n (pc := 53) (ls' := [vo 89, vi 0, vn, vn, vn]) dX10_layDays_53 rfl rfl ?_
        exact H
      · have H := H.2 c
        exact a_return (pc := 41) dX10_layDays_41 trivial ⟨rfl, rfl, H⟩
  · have H := H.2 c
    refine a_aload_n (pc := 8) dX10_layDays_8 rfl ?_
    refine a_getF (pc := 9) dX10_layDays_9 fl_X10_117 (go_89) (gf_89_56) ?_
    refine a_iload_n (pc := 12) dX10_layDays_12 rfl ?_
    refine a_ldcw (pc := 13) dX10_layDays_13 cl_X10_314 (by decide) ?_
    obtain ⟨hb5, H⟩ := H
    refine a_iastore (pc := 16) dX10_layDays_16 (ga_124) hb5 ?_
    have H := H _ rfl
    generalize stI h 124 x1.toNat 1000000 = h6 at H ⊢
    refine a_iinc (pc := 17) (ls' := [vo 89, vi (w32 (x1 + 1)), vn, vn, vn]) dX10_layDays_17 rfl rfl rfl ?_
    refine a_goto (pc := 20) (tgt := 2) dX10_layDays_20 (by decide) ?_
    exact H
set_option maxRecDepth 20000 in
theorem r_X10_layDays_54 {E : zE} {d : Nat} {h : zS} {Q : zS → Prop} {x1 : Int}  (H : (((hI h 89 29) ≤ x1 → (Q h)) ∧ (x1 < (hI h 89 29) → (zWv E (d + 1) m_X10_layDays 64 [vo 89, vi x1, vi 0, vn, vn] h Q)))) : zWv E (d + 1) m_X10_layDays 54 [vo 89, vi x1, vn, vn, vn] h Q := by
  refine a_iload_n (pc := 54) dX10_layDays_54 rfl ?_
  refine a_aload_n (pc := 55) dX10_layDays_55 rfl ?_
  refine a_getI (pc := 56) dX10_layDays_56 fl_X10_289 (go_89) ?_
  refine a_icmp_ge (pc := 59) (tgt := 171) dX10_layDays_59 (by decide) (fun c => ?_) (fun c => ?_)
  · have H := H.1 c
    exact a_return (pc := 171) dX10_layDays_171 trivial ⟨rfl, rfl, H⟩
  · have H := H.2 c
    refine a_iconst (pc := 62) dX10_layDays_62 (by decide) ?_
    refine a_istore_n (pc := 63) (ls' := [vo 89, vi x1, vi 0, vn, vn]) dX10_layDays_63 rfl rfl ?_
    exact H
set_option maxRecDepth 20000 in
theorem r_X10_layDays_64 {E : zE} {d : Nat} {h : zS} {Q : zS → Prop} {x1 : Int} {x2 : Int}  (H : (((hI h 89 29) ≤ x2 → (zWv E (d + 1) m_X10_layDays 54 [vo 89, vi (w32 (x1 + 1)), vn, vn, vn] h Q)) ∧ (x2 < (hI h 89 29) → (zWv E (d + 1) m_X10_layDays 74 [vo 89, vi x1, vi x2, vi 0, vn] h Q)))) : zWv E (d + 1) m_X10_layDays 64 [vo 89, vi x1, vi x2, vn, vn] h Q := by
  refine a_iload_n (pc := 64) dX10_layDays_64 rfl ?_
  refine a_aload_n (pc := 65) dX10_layDays_65 rfl ?_
  refine a_getI (pc := 66) dX10_layDays_66 fl_X10_289 (go_89) ?_
  refine a_icmp_ge (pc := 69) (tgt := 165) dX10_layDays_69 (by decide) (fun c => ?_) (fun c => ?_)
  · have H := H.1 c
    refine a_iinc (pc := 165) (ls' := [vo 89, vi (w32 (x1 + 1)), vi x2, vn, vn]) dX10_layDays_165 rfl rfl rfl ?_
    refine a_goto (pc := 168) (tgt := 54) dX10_layDays_168 (by decide) ?_
    exact z_forget (ls' := [vo 89, vi (w32 (x1 + 1)), vn, vn, vn]) ⟨.inr rfl, .inr rfl, .inl rfl, .inr rfl, .inr rfl, trivial⟩ H
  · have H := H.2 c
    refine a_iconst (pc := 72) dX10_layDays_72 (by decide) ?_
    refine a_istore_n (pc := 73) (ls' := [vo 89, vi x1, vi x2, vi 0, vn]) dX10_layDays_73 rfl rfl ?_
    exact H
set_option maxRecDepth 20000 in
theorem r_X10_layDays_74 {E : zE} {d : Nat} {h : zS} {Q : zS → Prop} {x1 : Int} {x2 : Int} {x3 : Int}  (H : (((hI h 89 29) ≤ x3 → (zWv E (d + 1) m_X10_layDays 64 [vo 89, vi x1, vi (w32 (x2 + 1)), vn, vn] h Q)) ∧ (x3 < (hI h 89 29) → (zCi E d m_X10_isThere [vo 89, vi x2] h (fun y2 h1 => ((y2 = 0 → (zWv E (d + 1) m_X10_layDays 64 [vo 89, vi x1, vi (w32 (x2 + 1)), vn, vn] h1 Q)) ∧ (y2 ≠ 0 → ((0 ≤ w32 ((w32 (12 * x2)) + x3) ∧ w32 ((w32 (12 * x2)) + x3) < 144) ∧ ∀ y4 : Int, y4 = hI h1 118 (w32 ((w32 (12 * x2)) + x3)).toNat → ((y4 ≤ 0 → (zWv E (d + 1) m_X10_layDays 74 [vo 89, vi x1, vi x2, vi (w32 (x3 + 1)), vn] h1 Q)) ∧ (0 < y4 → ((0 ≤ x3 ∧ x3 < 12) ∧ ((1000000 ≤ (hI h1 124 x3.toNat) → (zWv E (d + 1) m_X10_layDays 74 [vo 89, vi x1, vi x2, vi (w32 (x3 + 1)), vn] h1 Q)) ∧ ((hI h1 124 x3.toNat) < 1000000 → ((0 ≤ x2 ∧ x2 < 12) ∧ (((hI h1 124 x2.toNat) ≤ (w32 ((hI h1 124 x3.toNat) + y4)) → (zWv E (d + 1) m_X10_layDays 74 [vo 89, vi x1, vi x2, vi (w32 (x3 + 1)), vn] h1 Q)) ∧ ((w32 ((hI h1 124 x3.toNat) + y4)) < (hI h1 124 x2.toNat) → (∀ h7, h7 = stI h1 124 x2.toNat (w32 ((hI h1 124 x3.toNat) + y4)) → zWv E (d + 1) m_X10_layDays 74 [vo 89, vi x1, vi x2, vi (w32 (x3 + 1)), vn] h7 Q))))))))))))))))) : zWv E (d + 1) m_X10_layDays 74 [vo 89, vi x1, vi x2, vi x3, vn] h Q := by
  refine a_iload_n (pc := 74) dX10_layDays_74 rfl ?_
  refine a_aload_n (pc := 75) dX10_layDays_75 rfl ?_
  refine a_getI (pc := 76) dX10_layDays_76 fl_X10_289 (go_89) ?_
  refine a_icmp_ge (pc := 79) (tgt := 159) dX10_layDays_79 (by decide) (fun c => ?_) (fun c => ?_)
  · have H := H.1 c
    refine a_iinc (pc := 159) (ls' := [vo 89, vi x1, vi (w32 (x2 + 1)), vi x3, vn]) dX10_layDays_159 rfl rfl rfl ?_
    refine a_goto (pc := 162) (tgt := 64) dX10_layDays_162 (by decide) ?_
    exact z_forget (ls' := [vo 89, vi x1, vi (w32 (x2 + 1)), vn, vn]) ⟨.inr rfl, .inr rfl, .inr rfl, .inl rfl, .inr rfl, trivial⟩ H
  · have H := H.2 c
    refine a_aload_n (pc := 82) dX10_layDays_82 rfl ?_
    refine a_iload_n (pc := 83) dX10_layDays_83 rfl ?_
    refine a_callV (pc := 84) (kc := 0) (ks := 0) (kc' := 0) (ks' := 0) (st := []) [vi x2] dX10_layDays_84 ml_X10_315 (go_89) rfl (Nat.le_of_ble_eq_true rfl) (Nat.le_of_ble_eq_true rfl) (z_post H (fun r G1 h1 q => ?_))
    obtain ⟨y2, rfl, rfl, H⟩ := q
    show zAt E (d + 1) 0 0 m_X10_layDays 87 [vo 89, vi x1, vi x2, vi x3, vn] [vi y2] g0 h1 (zPv Q)
    refine a_if_eq (pc := 87) (tgt := 159) dX10_layDays_87 (by decide) (fun c => ?_) (fun c => ?_)
    · have H := H.1 c
      refine a_iinc (pc := 159) (ls' := [vo 89, vi x1, vi (w32 (x2 + 1)), vi x3, vn]) dX10_layDays_159 rfl rfl rfl ?_
      refine a_goto (pc := 162) (tgt := 64) dX10_layDays_162 (by decide) ?_
      exact z_forget (ls' := [vo 89, vi x1, vi (w32 (x2 + 1)), vn, vn]) ⟨.inr rfl, .inr rfl, .inr rfl, .inl rfl, .inr rfl, trivial⟩ H
    · have H := H.2 c
      refine a_aload_n (pc := 90) dX10_layDays_90 rfl ?_
      refine a_getF (pc := 91) dX10_layDays_91 fl_X10_99 (go_89) (gf_89_48) ?_
      refine a_bipush (pc := 94) dX10_layDays_94 (by decide) ?_
      refine a_iload_n (pc := 96) dX10_layDays_96 rfl ?_
      refine a_imul (pc := 97) dX10_layDays_97 ?_
      refine a_iload_n (pc := 98) dX10_layDays_98 rfl ?_
      refine a_iadd (pc := 99) dX10_layDays_99 ?_
      obtain ⟨hb3, H⟩ := H
      refine a_iaload (pc := 100) dX10_layDays_100 (ga_118) hb3 ?_
      have H := H _ rfl
      generalize (hI h1 118 (w32 ((w32 (12 * x2)) + x3)).toNat : Int) = y4 at H ⊢
      refine a_istore (pc := 101) (ls' := [vo 89, vi x1, vi x2, vi x3, vi y4]) dX10_layDays_101 rfl rfl ?_
      refine a_iload (pc := 103) dX10_layDays_103 rfl ?_
      refine a_if_le (pc := 105) (tgt := 153) dX10_layDays_105 (by decide) (fun c => ?_) (fun c => ?_)
      · have H := H.1 c
        refine a_iinc (pc := 153) (ls' := [vo 89, vi x1, vi x2, vi (w32 (x3 + 1)), vi y4]) dX10_layDays_153 rfl rfl rfl ?_
        refine a_goto (pc := 156) (tgt := 74) dX10_layDays_156 (by decide) ?_
        exact z_forget (ls' := [vo 89, vi x1, vi x2, vi (w32 (x3 + 1)), vn]) ⟨.inr rfl, .inr rfl, .inr rfl, .inr rfl, .inl rfl, trivial⟩ H
      · have H := H.2 c
        refine a_aload_n (pc := 108) dX10_layDays_108 rfl ?_
        refine a_getF (pc := 109) dX10_layDays_109 fl_X10_117 (go_89) (gf_89_56) ?_
        refine a_iload_n (pc := 112) dX10_layDays_112 rfl ?_
        obtain ⟨hb5, H⟩ := H
        refine a_iaload (pc := 113) dX10_layDays_113 (ga_124) hb5 ?_
        refine a_ldcw (pc := 114) dX10_layDays_114 cl_X10_314 (by decide) ?_
        refine a_icmp_ge (pc := 117) (tgt := 153) dX10_layDays_117 (by decide) (fun c => ?_) (fun c => ?_)
        · have H := H.1 c
          refine a_iinc (pc := 153) (ls' := [vo 89, vi x1, vi x2, vi (w32 (x3 + 1)), vi y4]) dX10_layDays_153 rfl rfl rfl ?_
          refine a_goto (pc := 156) (tgt := 74) dX10_layDays_156 (by decide) ?_
          exact z_forget (ls' := [vo 89, vi x1, vi x2, vi (w32 (x3 + 1)), vn]) ⟨.inr rfl, .inr rfl, .inr rfl, .inr rfl, .inl rfl, trivial⟩ H
        · have H := H.2 c
          refine a_aload_n (pc := 120) dX10_layDays_120 rfl ?_
          refine a_getF (pc := 121) dX10_layDays_121 fl_X10_117 (go_89) (gf_89_56) ?_
          refine a_iload_n (pc := 124) dX10_layDays_124 rfl ?_
          refine a_iaload (pc := 125) dX10_layDays_125 (ga_124) hb5 ?_
          refine a_iload (pc := 126) dX10_layDays_126 rfl ?_
          refine a_iadd (pc := 128) dX10_layDays_128 ?_
          refine a_aload_n (pc := 129) dX10_layDays_129 rfl ?_
          refine a_getF (pc := 130) dX10_layDays_130 fl_X10_117 (go_89) (gf_89_56) ?_
          refine a_iload_n (pc := 133) dX10_layDays_133 rfl ?_
          obtain ⟨hb6, H⟩ := H
          refine a_iaload (pc := 134) dX10_layDays_134 (ga_124) hb6 ?_
          refine a_icmp_ge (pc := 135) (tgt := 153) dX10_layDays_135 (by decide) (fun c => ?_) (fun c => ?_)
          · have H := H.1 c
            refine a_iinc (pc := 153) (ls' := [vo 89, vi x1, vi x2, vi (w32 (x3 + 1)), vi y4]) dX10_layDays_153 rfl rfl rfl ?_
            refine a_goto (pc := 156) (tgt := 74) dX10_layDays_156 (by decide) ?_
            exact z_forget (ls' := [vo 89, vi x1, vi x2, vi (w32 (x3 + 1)), vn]) ⟨.inr rfl, .inr rfl, .inr rfl, .inr rfl, .inl rfl, trivial⟩ H
          · have H := H.2 c
            refine a_aload_n (pc := 138) dX10_layDays_138 rfl ?_
            refine a_getF (pc := 139) dX10_layDays_139 fl_X10_117 (go_89) (gf_89_56) ?_
            refine a_iload_n (pc := 142) dX10_layDays_142 rfl ?_
            refine a_aload_n (pc := 143) dX10_layDays_143 rfl ?_
            refine a_getF (pc := 144) dX10_layDays_144 fl_X10_117 (go_89) (gf_89_56) ?_
            refine a_iload_n (pc := 147) dX10_layDays_147 rfl ?_
            refine a_iaload (pc := 148) dX10_layDays_148 (ga_124) hb5 ?_
            refine a_iload (pc := 149) dX10_layDays_149 rfl ?_
            refine a_iadd (pc := 151) dX10_layDays_151 ?_
            refine a_iastore (pc := 152) dX10_layDays_152 (ga_124) hb6 ?_
            have H := H _ rfl
            generalize stI h1 124 x2.toNat (w32 ((hI h1 124 x3.toNat) + y4)) = h7 at H ⊢
            refine a_iinc (pc := 153) (ls' := [vo 89, vi x1, vi x2, vi (w32 (x3 + 1)), vi y4]) dX10_layDays_153 rfl rfl rfl ?_
            refine a_goto (pc := 156) (tgt := 74) dX10_layDays_156 (by decide) ?_
            exact z_forget (ls' := [vo 89, vi x1, vi x2, vi (w32 (x3 + 1)), vn]) ⟨.inr rfl, .inr rfl, .inr rfl, .inr rfl, .inl rfl, trivial⟩ H
set_option maxRecDepth 20000 in
theorem v_X10_chooseFor {E : zE} {d : Nat} {h : zS} {Q : zS → Prop} {x1 : Int}  (H : zCv E d m_X10_layDays [vo 89] h (fun h1 => (0 ≤ x1 ∧ x1 < 12) ∧ ∀ h3, h3 = stI h1 122 x1.toNat (-1) → ∀ h4, h4 = stI h3 123 x1.toNat (-1) → zWv E (d + 1) m_X10_chooseFor 32 [vo 89, vi x1, vi (hI h1 119 x1.toNat), vi 1000000, vi 0, vn] h4 Q)) : zCv E (d + 1) m_X10_chooseFor [vo 89, vi x1] h Q := by
  show zAt E (d + 1) 0 0 m_X10_chooseFor 0 [vo 89, vi x1, vn, vn, vn, vn] [] g0 h (zPv Q)
  refine a_aload_n (pc := 0) dX10_chooseFor_0 rfl ?_
  refine a_callV (pc := 1) (kc := 0) (ks := 0) (kc' := 0) (ks' := 0) (st := []) [] dX10_chooseFor_1 ml_X10_394 (go_89) rfl (Nat.le_of_ble_eq_true rfl) (Nat.le_of_ble_eq_true rfl) (z_post H (fun r G1 h1 q => ?_))
  obtain ⟨rfl, rfl, H⟩ := q
  show zAt E (d + 1) 0 0 m_X10_chooseFor 4 [vo 89, vi x1, vn, vn, vn, vn] [] g0 h1 (zPv Q)
  refine a_aload_n (pc := 4) dX10_chooseFor_4 rfl ?_
  refine a_getF (pc := 5) dX10_chooseFor_5 fl_X10_102 (go_89) (gf_89_49) ?_
  refine a_iload_n (pc := 8) dX10_chooseFor_8 rfl ?_
  obtain ⟨hb2, H⟩ := H
  refine a_iaload (pc := 9) dX10_chooseFor_9 (ga_119) hb2 ?_
  refine a_istore_n (pc := 10) (ls' := [vo 89, vi x1, vi (hI h1 119 x1.toNat), vn, vn, vn]) dX10_chooseFor_10 rfl rfl ?_
  refine a_aload_n (pc := 11) dX10_chooseFor_11 rfl ?_
  refine a_getF (pc := 12) dX10_chooseFor_12 fl_X10_111 (go_89) (gf_89_52) ?_
  refine a_iload_n (pc := 15) dX10_chooseFor_15 rfl ?_
  refine a_iconst (pc := 16) dX10_chooseFor_16 (by decide) ?_
  refine a_iastore (pc := 17) dX10_chooseFor_17 (ga_122) hb2 ?_
  have H := H _ rfl
  generalize stI h1 122 x1.toNat (-1) = h3 at H ⊢
  refine a_aload_n (pc := 18) dX10_chooseFor_18 rfl ?_
  refine a_getF (pc := 19) dX10_chooseFor_19 fl_X10_114 (go_89) (gf_89_53) ?_
  refine a_iload_n (pc := 22) dX10_chooseFor_22 rfl ?_
  refine a_iconst (pc := 23) dX10_chooseFor_23 (by decide) ?_
  refine a_iastore (pc := 24) dX10_chooseFor_24 (ga_123) hb2 ?_
  have H := H _ rfl
  generalize stI h3 123 x1.toNat (-1) = h4 at H ⊢
  refine a_ldcw (pc := 25) dX10_chooseFor_25 cl_X10_314 (by decide) ?_
  refine a_istore_n (pc := 28) (ls' := [vo 89, vi x1, vi (hI h1 119 x1.toNat), vi 1000000, vn, vn]) dX10_chooseFor_28 rfl rfl ?_
  refine a_iconst (pc := 29) dX10_chooseFor_29 (by decide) ?_
  refine a_istore (pc := 30) (ls' := [vo 89, vi x1, vi (hI h1 119 x1.toNat), vi 1000000, vi 0, vn]) dX10_chooseFor_30 rfl rfl ?_
  exact H
set_option maxRecDepth 20000 in
theorem r_X10_chooseFor_32 {E : zE} {d : Nat} {h : zS} {Q : zS → Prop} {x1 : Int} {x2 : Int} {x3 : Int} {x4 : Int}  (H : (((hI h 89 29) ≤ x4 → (Q h)) ∧ (x4 < (hI h 89 29) → ((0 ≤ w32 ((w32 (12 * x2)) + x4) ∧ w32 ((w32 (12 * x2)) + x4) < 144) ∧ ∀ y2 : Int, y2 = hI h 118 (w32 ((w32 (12 * x2)) + x4)).toNat → ((y2 = 0 → (zWv E (d + 1) m_X10_chooseFor 32 [vo 89, vi x1, vi x2, vi x3, vi (w32 (x4 + 1)), vn] h Q)) ∧ (y2 ≠ 0 → ((0 ≤ x4 ∧ x4 < 12) ∧ (((hI h 124 x4.toNat) = 1000000 → (zWv E (d + 1) m_X10_chooseFor 32 [vo 89, vi x1, vi x2, vi x3, vi (w32 (x4 + 1)), vn] h Q)) ∧ ((hI h 124 x4.toNat) ≠ 1000000 → (((w32 ((hI h 124 x4.toNat) + y2)) < x3 → (∀ y4 : Int, y4 = w32 ((hI h 124 x4.toNat) + y2) → (0 ≤ x1 ∧ x1 < 12) ∧ ∀ h6, h6 = stI h 122 x1.toNat x4 → ∀ h7, h7 = stI h6 123 x1.toNat (w32 ((hI h6 89 54) + y2)) → zWv E (d + 1) m_X10_chooseFor 32 [vo 89, vi x1, vi x2, vi y4, vi (w32 (x4 + 1)), vn] h7 Q)) ∧ (x3 ≤ (w32 ((hI h 124 x4.toNat) + y2)) → (zWv E (d + 1) m_X10_chooseFor 32 [vo 89, vi x1, vi x2, vi x3, vi (w32 (x4 + 1)), vn] h Q)))))))))))) : zWv E (d + 1) m_X10_chooseFor 32 [vo 89, vi x1, vi x2, vi x3, vi x4, vn] h Q := by
  refine a_iload (pc := 32) dX10_chooseFor_32 rfl ?_
  refine a_aload_n (pc := 34) dX10_chooseFor_34 rfl ?_
  refine a_getI (pc := 35) dX10_chooseFor_35 fl_X10_289 (go_89) ?_
  refine a_icmp_ge (pc := 38) (tgt := 128) dX10_chooseFor_38 (by decide) (fun c => ?_) (fun c => ?_)
  · have H := H.1 c
    exact a_return (pc := 128) dX10_chooseFor_128 trivial ⟨rfl, rfl, H⟩
  · have H := H.2 c
    refine a_aload_n (pc := 41) dX10_chooseFor_41 rfl ?_
    refine a_getF (pc := 42) dX10_chooseFor_42 fl_X10_99 (go_89) (gf_89_48) ?_
    refine a_bipush (pc := 45) dX10_chooseFor_45 (by decide) ?_
    refine a_iload_n (pc := 47) dX10_chooseFor_47 rfl ?_
    refine a_imul (pc := 48) dX10_chooseFor_48 ?_
    refine a_iload (pc := 49) dX10_chooseFor_49 rfl ?_
    refine a_iadd (pc := 51) dX10_chooseFor_51 ?_
    obtain ⟨hb1, H⟩ := H
    refine a_iaload (pc := 52) dX10_chooseFor_52 (ga_118) hb1 ?_
    have H := H _ rfl
    generalize (hI h 118 (w32 ((w32 (12 * x2)) + x4)).toNat : Int) = y2 at H ⊢
    refine a_istore (pc := 53) (ls' := [vo 89, vi x1, vi x2, vi x3, vi x4, vi y2]) dX10_chooseFor_53 rfl rfl ?_
    refine a_iload (pc := 55) dX10_chooseFor_55 rfl ?_
    refine a_if_eq (pc := 57) (tgt := 122) dX10_chooseFor_57 (by decide) (fun c => ?_) (fun c => ?_)
    · have H := H.1 c
      refine a_iinc (pc := 122) (ls' := [vo 89, vi x1, vi x2, vi x3, vi (w32 (x4 + 1)), vi y2]) dX10_chooseFor_122 rfl rfl rfl ?_
      refine a_goto (pc := 125) (tgt := 32) dX10_chooseFor_125 (by decide) ?_
      exact z_forget (ls' := [vo 89, vi x1, vi x2, vi x3, vi (w32 (x4 + 1)), vn]) ⟨.inr rfl, .inr rfl, .inr rfl, .inr rfl, .inr rfl, .inl rfl, trivial⟩ H
    · have H := H.2 c
      refine a_aload_n (pc := 60) dX10_chooseFor_60 rfl ?_
      refine a_getF (pc := 61) dX10_chooseFor_61 fl_X10_117 (go_89) (gf_89_56) ?_
      refine a_iload (pc := 64) dX10_chooseFor_64 rfl ?_
      obtain ⟨hb3, H⟩ := H
      refine a_iaload (pc := 66) dX10_chooseFor_66 (ga_124) hb3 ?_
      refine a_ldcw (pc := 67) dX10_chooseFor_67 cl_X10_314 (by decide) ?_
      refine a_icmp_eq (pc := 70) (tgt := 122) dX10_chooseFor_70 (by decide) (fun c => ?_) (fun c => ?_)
      · have H := H.1 c
        refine a_iinc (pc := 122) (ls' := [vo 89, vi x1, vi x2, vi x3, vi (w32 (x4 + 1)), vi y2]) dX10_chooseFor_122 rfl rfl rfl ?_
        refine a_goto (pc := 125) (tgt := 32) dX10_chooseFor_125 (by decide) ?_
        exact z_forget (ls' := [vo 89, vi x1, vi x2, vi x3, vi (w32 (x4 + 1)), vn]) ⟨.inr rfl, .inr rfl, .inr rfl, .inr rfl, .inr rfl, .inl rfl, trivial⟩ H
      · have H := H.2 c
        refine a_aload_n (pc := 73) dX10_chooseFor_73 rfl ?_
        refine a_getF (pc := 74) dX10_chooseFor_74 fl_X10_117 (go_89) (gf_89_56) ?_
        refine a_iload (pc := 77) dX10_chooseFor_77 rfl ?_
        refine a_iaload (pc := 79) dX10_chooseFor_79 (ga_124) hb3 ?_
        refine a_iload (pc := 80) dX10_chooseFor_80 rfl ?_
        refine a_iadd (pc := 82) dX10_chooseFor_82 ?_
        refine a_iload_n (pc := 83) dX10_chooseFor_83 rfl ?_
        refine a_icmp_lt (pc := 84) (tgt := 90) dX10_chooseFor_84 (by decide) (fun c => ?_) (fun c => ?_)
        · have H := H.1 c
          refine a_aload_n (pc := 90) dX10_chooseFor_90 rfl ?_
          refine a_getF (pc := 91) dX10_chooseFor_91 fl_X10_117 (go_89) (gf_89_56) ?_
          refine a_iload (pc := 94) dX10_chooseFor_94 rfl ?_
          refine a_iaload (pc := 96) dX10_chooseFor_96 (ga_124) hb3 ?_
          refine a_iload (pc := 97) dX10_chooseFor_97 rfl ?_
          refine a_iadd (pc := 99) dX10_chooseFor_99 ?_
          have H := H _ rfl
          generalize (w32 ((hI h 124 x4.toNat) + y2) : Int) = y4 at H ⊢
          refine a_istore_n (pc := 100) (ls' := [vo 89, vi x1, vi x2, vi y4, vi x4, vi y2]) dX10_chooseFor_100 rfl rfl ?_
          refine a_aload_n (pc := 101) dX10_chooseFor_101 rfl ?_
          refine a_getF (pc := 102) dX10_chooseFor_102 fl_X10_111 (go_89) (gf_89_52) ?_
          refine a_iload_n (pc := 105) dX10_chooseFor_105 rfl ?_
          refine a_iload (pc := 106) dX10_chooseFor_106 rfl ?_
          obtain ⟨hb5, H⟩ := H
          refine a_iastore (pc := 108) dX10_chooseFor_108 (ga_122) hb5 ?_
          have H := H _ rfl
          generalize stI h 122 x1.toNat x4 = h6 at H ⊢
          refine a_aload_n (pc := 109) dX10_chooseFor_109 rfl ?_
          refine a_getF (pc := 110) dX10_chooseFor_110 fl_X10_114 (go_89) (gf_89_53) ?_
          refine a_iload_n (pc := 113) dX10_chooseFor_113 rfl ?_
          refine a_aload_n (pc := 114) dX10_chooseFor_114 rfl ?_
          refine a_getI (pc := 115) dX10_chooseFor_115 fl_X10_388 (go_89) ?_
          refine a_iload (pc := 118) dX10_chooseFor_118 rfl ?_
          refine a_iadd (pc := 120) dX10_chooseFor_120 ?_
          refine a_iastore (pc := 121) dX10_chooseFor_121 (ga_123) hb5 ?_
          have H := H _ rfl
          generalize stI h6 123 x1.toNat (w32 ((hI h6 89 54) + y2)) = h7 at H ⊢
          refine a_iinc (pc := 122) (ls' := [vo 89, vi x1, vi x2, vi y4, vi (w32 (x4 + 1)), vi y2]) dX10_chooseFor_122 rfl rfl rfl ?_
          refine a_goto (pc := 125) (tgt := 32) dX10_chooseFor_125 (by decide) ?_
          exact z_forget (ls' := [vo 89, vi x1, vi x2, vi y4, vi (w32 (x4 + 1)), vn]) ⟨.inr rfl, .inr rfl, .inr rfl, .inr rfl, .inr rfl, .inl rfl, trivial⟩ H
        · have H := H.2 c
          refine a_goto (pc := 87) (tgt := 122) dX10_chooseFor_87 (by decide) ?_
          refine a_iinc (pc := 122) (ls' := [vo 89, vi x1, vi x2, vi x3, vi (w32 (x4 + 1)), vi y2]) dX10_chooseFor_122 rfl rfl rfl ?_
          refine a_goto (pc := 125) (tgt := 32) dX10_chooseFor_125 (by decide) ?_
          exact z_forget (ls' := [vo 89, vi x1, vi x2, vi x3, vi (w32 (x4 + 1)), vn]) ⟨.inr rfl, .inr rfl, .inr rfl, .inr rfl, .inr rfl, .inl rfl, trivial⟩ H
set_option maxRecDepth 20000 in
theorem v_X10_comes {E : zE} {d : Nat} {h : zS} {Q : zS → Prop} {x1 : Int}  (H : (0 ≤ x1 ∧ x1 < 12) ∧ ∀ h2, h2 = stI h 119 x1.toNat (-3) → ∀ h3, h3 = stI h2 121 x1.toNat (hI h2 89 54) → ∀ h4, h4 = stI h3 122 x1.toNat (-1) → ∀ h5, h5 = stI h4 123 x1.toNat (-1) → Q h5) : zCv E d m_X10_comes [vo 89, vi x1] h Q := by
  show zAt E d 0 0 m_X10_comes 0 [vo 89, vi x1] [] g0 h (zPv Q)
  refine a_aload_n (pc := 0) dX10_comes_0 rfl ?_
  refine a_getF (pc := 1) dX10_comes_1 fl_X10_102 (go_89) (gf_89_49) ?_
  refine a_iload_n (pc := 4) dX10_comes_4 rfl ?_
  refine a_bipush (pc := 5) dX10_comes_5 (by decide) ?_
  obtain ⟨hb1, H⟩ := H
  refine a_iastore (pc := 7) dX10_comes_7 (ga_119) hb1 ?_
  have H := H _ rfl
  generalize stI h 119 x1.toNat (-3) = h2 at H ⊢
  refine a_aload_n (pc := 8) dX10_comes_8 rfl ?_
  refine a_getF (pc := 9) dX10_comes_9 fl_X10_108 (go_89) (gf_89_51) ?_
  refine a_iload_n (pc := 12) dX10_comes_12 rfl ?_
  refine a_aload_n (pc := 13) dX10_comes_13 rfl ?_
  refine a_getI (pc := 14) dX10_comes_14 fl_X10_388 (go_89) ?_
  refine a_iastore (pc := 17) dX10_comes_17 (ga_121) hb1 ?_
  have H := H _ rfl
  generalize stI h2 121 x1.toNat (hI h2 89 54) = h3 at H ⊢
  refine a_aload_n (pc := 18) dX10_comes_18 rfl ?_
  refine a_getF (pc := 19) dX10_comes_19 fl_X10_111 (go_89) (gf_89_52) ?_
  refine a_iload_n (pc := 22) dX10_comes_22 rfl ?_
  refine a_iconst (pc := 23) dX10_comes_23 (by decide) ?_
  refine a_iastore (pc := 24) dX10_comes_24 (ga_122) hb1 ?_
  have H := H _ rfl
  generalize stI h3 122 x1.toNat (-1) = h4 at H ⊢
  refine a_aload_n (pc := 25) dX10_comes_25 rfl ?_
  refine a_getF (pc := 26) dX10_comes_26 fl_X10_114 (go_89) (gf_89_53) ?_
  refine a_iload_n (pc := 29) dX10_comes_29 rfl ?_
  refine a_iconst (pc := 30) dX10_comes_30 (by decide) ?_
  refine a_iastore (pc := 31) dX10_comes_31 (ga_123) hb1 ?_
  have H := H _ rfl
  generalize stI h4 123 x1.toNat (-1) = h5 at H ⊢
  exact a_return (pc := 32) dX10_comes_32 trivial ⟨rfl, rfl, H⟩
set_option maxRecDepth 20000 in
theorem v_X10_send {E : zE} {d : Nat} {h : zS} {Q : Int → zS → Prop}   (H : (((hI h 89 31) < 0 → (Q (-1) h)) ∧ (0 ≤ (hI h 89 31) → (zCi E d m_X10_isThere [vo 89, vi (hI h 89 31)] h (fun y2 h1 => ((y2 = 0 → (Q (-1) h1)) ∧ (y2 ≠ 0 → (((hI h1 89 55) ≠ 12 → (∀ h3, h3 = stI h1 89 55 (w32 ((hI h1 89 55) + 1)) → (0 ≤ hI h1 89 55 ∧ hI h1 89 55 < 12) ∧ ∀ h5, h5 = stI h3 119 (hI h1 89 55).toNat (hI h3 89 31) → ∀ h6, h6 = stI h5 120 (hI h1 89 55).toNat (hI h5 89 54) → ∀ h7, h7 = stI h6 121 (hI h1 89 55).toNat (-1) → ∀ h8, h8 = stI h7 122 (hI h1 89 55).toNat (-1) → ∀ h9, h9 = stI h8 123 (hI h1 89 55).toNat (-1) → (((hI h9 89 31) ≠ (hI h9 89 32) → (zCv E d m_X10_chooseFor [vo 89, vi (hI h1 89 55)] h9 (fun h10 => Q (hI h1 89 55) h10))) ∧ ((hI h9 89 31) = (hI h9 89 32) → (zCv E d m_X10_comes [vo 89, vi (hI h1 89 55)] h9 (fun h11 => Q (hI h1 89 55) h11)))))) ∧ ((hI h1 89 55) = 12 → (Q (-1) h1)))))))))) : zCi E (d + 1) m_X10_send [vo 89] h Q := by
  show zAt E (d + 1) 0 0 m_X10_send 0 [vo 89, vn] [] g0 h (zPi Q)
  refine a_aload_n (pc := 0) dX10_send_0 rfl ?_
  refine a_getI (pc := 1) dX10_send_1 fl_X10_151 (go_89) ?_
  refine a_if_lt (pc := 4) (tgt := 27) dX10_send_4 (by decide) (fun c => ?_) (fun c => ?_)
  · have H := H.1 c
    refine a_iconst (pc := 27) dX10_send_27 (by decide) ?_
    exact a_ireturn (pc := 28) dX10_send_28 trivial ⟨_, rfl, rfl, H⟩
  · have H := H.2 c
    refine a_aload_n (pc := 7) dX10_send_7 rfl ?_
    refine a_aload_n (pc := 8) dX10_send_8 rfl ?_
    refine a_getI (pc := 9) dX10_send_9 fl_X10_151 (go_89) ?_
    refine a_callV (pc := 12) (kc := 0) (ks := 0) (kc' := 0) (ks' := 0) (st := []) [vi (hI h 89 31)] dX10_send_12 ml_X10_315 (go_89) rfl (Nat.le_of_ble_eq_true rfl) (Nat.le_of_ble_eq_true rfl) (z_post H (fun r G1 h1 q => ?_))
    obtain ⟨y2, rfl, rfl, H⟩ := q
    show zAt E (d + 1) 0 0 m_X10_send 15 [vo 89, vn] [vi y2] g0 h1 (zPi Q)
    refine a_if_eq (pc := 15) (tgt := 27) dX10_send_15 (by decide) (fun c => ?_) (fun c => ?_)
    · have H := H.1 c
      refine a_iconst (pc := 27) dX10_send_27 (by decide) ?_
      exact a_ireturn (pc := 28) dX10_send_28 trivial ⟨_, rfl, rfl, H⟩
    · have H := H.2 c
      refine a_aload_n (pc := 18) dX10_send_18 rfl ?_
      refine a_getI (pc := 19) dX10_send_19 fl_X10_391 (go_89) ?_
      refine a_bipush (pc := 22) dX10_send_22 (by decide) ?_
      refine a_icmp_ne (pc := 24) (tgt := 29) dX10_send_24 (by decide) (fun c => ?_) (fun c => ?_)
      · have H := H.1 c
        refine a_aload_n (pc := 29) dX10_send_29 rfl ?_
        refine a_getI (pc := 30) dX10_send_30 fl_X10_391 (go_89) ?_
        refine a_istore_n (pc := 33) (ls' := [vo 89, vi (hI h1 89 55)]) dX10_send_33 rfl rfl ?_
        refine a_aload_n (pc := 34) dX10_send_34 rfl ?_
        refine a_dup (pc := 35) dX10_send_35 rfl ?_
        refine a_getI (pc := 36) dX10_send_36 fl_X10_391 (go_89) ?_
        refine a_iconst (pc := 39) dX10_send_39 (by decide) ?_
        refine a_iadd (pc := 40) dX10_send_40 ?_
        refine a_putI (pc := 41) dX10_send_41 fl_X10_391 (go_89) ?_
        have H := H _ rfl
        generalize stI h1 89 55 (w32 ((hI h1 89 55) + 1)) = h3 at H ⊢
        refine a_aload_n (pc := 44) dX10_send_44 rfl ?_
        refine a_getF (pc := 45) dX10_send_45 fl_X10_102 (go_89) (gf_89_49) ?_
        refine a_iload_n (pc := 48) dX10_send_48 rfl ?_
        refine a_aload_n (pc := 49) dX10_send_49 rfl ?_
        refine a_getI (pc := 50) dX10_send_50 fl_X10_151 (go_89) ?_
        obtain ⟨hb4, H⟩ := H
        refine a_iastore (pc := 53) dX10_send_53 (ga_119) hb4 ?_
        have H := H _ rfl
        generalize stI h3 119 (hI h1 89 55).toNat (hI h3 89 31) = h5 at H ⊢
        refine a_aload_n (pc := 54) dX10_send_54 rfl ?_
        refine a_getF (pc := 55) dX10_send_55 fl_X10_105 (go_89) (gf_89_50) ?_
        refine a_iload_n (pc := 58) dX10_send_58 rfl ?_
        refine a_aload_n (pc := 59) dX10_send_59 rfl ?_
        refine a_getI (pc := 60) dX10_send_60 fl_X10_388 (go_89) ?_
        refine a_iastore (pc := 63) dX10_send_63 (ga_120) hb4 ?_
        have H := H _ rfl
        generalize stI h5 120 (hI h1 89 55).toNat (hI h5 89 54) = h6 at H ⊢
        refine a_aload_n (pc := 64) dX10_send_64 rfl ?_
        refine a_getF (pc := 65) dX10_send_65 fl_X10_108 (go_89) (gf_89_51) ?_
        refine a_iload_n (pc := 68) dX10_send_68 rfl ?_
        refine a_iconst (pc := 69) dX10_send_69 (by decide) ?_
        refine a_iastore (pc := 70) dX10_send_70 (ga_121) hb4 ?_
        have H := H _ rfl
        generalize stI h6 121 (hI h1 89 55).toNat (-1) = h7 at H ⊢
        refine a_aload_n (pc := 71) dX10_send_71 rfl ?_
        refine a_getF (pc := 72) dX10_send_72 fl_X10_111 (go_89) (gf_89_52) ?_
        refine a_iload_n (pc := 75) dX10_send_75 rfl ?_
        refine a_iconst (pc := 76) dX10_send_76 (by decide) ?_
        refine a_iastore (pc := 77) dX10_send_77 (ga_122) hb4 ?_
        have H := H _ rfl
        generalize stI h7 122 (hI h1 89 55).toNat (-1) = h8 at H ⊢
        refine a_aload_n (pc := 78) dX10_send_78 rfl ?_
        refine a_getF (pc := 79) dX10_send_79 fl_X10_114 (go_89) (gf_89_53) ?_
        refine a_iload_n (pc := 82) dX10_send_82 rfl ?_
        refine a_iconst (pc := 83) dX10_send_83 (by decide) ?_
        refine a_iastore (pc := 84) dX10_send_84 (ga_123) hb4 ?_
        have H := H _ rfl
        generalize stI h8 123 (hI h1 89 55).toNat (-1) = h9 at H ⊢
        refine a_aload_n (pc := 85) dX10_send_85 rfl ?_
        refine a_getI (pc := 86) dX10_send_86 fl_X10_151 (go_89) ?_
        refine a_aload_n (pc := 89) dX10_send_89 rfl ?_
        refine a_getI (pc := 90) dX10_send_90 fl_X10_154 (go_89) ?_
        refine a_icmp_ne (pc := 93) (tgt := 104) dX10_send_93 (by decide) (fun c => ?_) (fun c => ?_)
        · have H := H.1 c
          refine a_aload_n (pc := 104) dX10_send_104 rfl ?_
          refine a_iload_n (pc := 105) dX10_send_105 rfl ?_
          refine a_callV (pc := 106) (kc := 0) (ks := 0) (kc' := 0) (ks' := 0) (st := []) [vi (hI h1 89 55)] dX10_send_106 ml_X10_400 (go_89) rfl (Nat.le_of_ble_eq_true rfl) (Nat.le_of_ble_eq_true rfl) (z_post H (fun r G1 h10 q => ?_))
          obtain ⟨rfl, rfl, H⟩ := q
          show zAt E (d + 1) 0 0 m_X10_send 109 [vo 89, vi (hI h1 89 55)] [] g0 h10 (zPi Q)
          refine a_iload_n (pc := 109) dX10_send_109 rfl ?_
          exact a_ireturn (pc := 110) dX10_send_110 trivial ⟨_, rfl, rfl, H⟩
        · have H := H.2 c
          refine a_aload_n (pc := 96) dX10_send_96 rfl ?_
          refine a_iload_n (pc := 97) dX10_send_97 rfl ?_
          refine a_callV (pc := 98) (kc := 0) (ks := 0) (kc' := 0) (ks' := 0) (st := []) [vi (hI h1 89 55)] dX10_send_98 ml_X10_397 (go_89) rfl (Nat.le_of_ble_eq_true rfl) (Nat.le_of_ble_eq_true rfl) (z_post H (fun r G1 h11 q => ?_))
          obtain ⟨rfl, rfl, H⟩ := q
          show zAt E (d + 1) 0 0 m_X10_send 101 [vo 89, vi (hI h1 89 55)] [] g0 h11 (zPi Q)
          refine a_goto (pc := 101) (tgt := 109) dX10_send_101 (by decide) ?_
          refine a_iload_n (pc := 109) dX10_send_109 rfl ?_
          exact a_ireturn (pc := 110) dX10_send_110 trivial ⟨_, rfl, rfl, H⟩
      · have H := H.2 c
        refine a_iconst (pc := 27) dX10_send_27 (by decide) ?_
        exact a_ireturn (pc := 28) dX10_send_28 trivial ⟨_, rfl, rfl, H⟩
set_option maxRecDepth 20000 in
theorem v_X10_handOn {E : zE} {d : Nat} {h : zS} {Q : zS → Prop} {x1 : Int}  (H : (0 ≤ x1 ∧ x1 < 12) ∧ (((hI h 119 x1.toNat) < 0 → (Q h)) ∧ (0 ≤ (hI h 119 x1.toNat) → (((hI h 122 x1.toNat) < 0 → (Q h)) ∧ (0 ≤ (hI h 122 x1.toNat) → (((hI h 123 x1.toNat) ≠ (hI h 89 54) → (Q h)) ∧ ((hI h 123 x1.toNat) = (hI h 89 54) → (zCi E d m_X10_isThere [vo 89, vi (hI h 119 x1.toNat)] h (fun y3 h2 => ((y3 = 0 → (Q h2)) ∧ (y3 ≠ 0 → (zCi E d m_X10_isThere [vo 89, vi (hI h2 122 x1.toNat)] h2 (fun y5 h4 => ((y5 ≠ 0 → (∀ h6, h6 = stI h4 119 x1.toNat (hI h4 122 x1.toNat) → ∀ h7, h7 = stI h6 122 x1.toNat (-1) → ∀ h8, h8 = stI h7 123 x1.toNat (-1) → (((hI h8 119 x1.toNat) ≠ (hI h8 89 32) → (Q h8)) ∧ ((hI h8 119 x1.toNat) = (hI h8 89 32) → (zCv E d m_X10_comes [vo 89, vi x1] h8 (fun h9 => Q h9)))))) ∧ (y5 = 0 → (Q h4)))))))))))))))) : zCv E (d + 1) m_X10_handOn [vo 89, vi x1] h Q := by
  show zAt E (d + 1) 0 0 m_X10_handOn 0 [vo 89, vi x1] [] g0 h (zPv Q)
  refine a_aload_n (pc := 0) dX10_handOn_0 rfl ?_
  refine a_getF (pc := 1) dX10_handOn_1 fl_X10_102 (go_89) (gf_89_49) ?_
  refine a_iload_n (pc := 4) dX10_handOn_4 rfl ?_
  obtain ⟨hb1, H⟩ := H
  refine a_iaload (pc := 5) dX10_handOn_5 (ga_119) hb1 ?_
  refine a_if_lt (pc := 6) (tgt := 57) dX10_handOn_6 (by decide) (fun c => ?_) (fun c => ?_)
  · have H := H.1 c
    exact a_return (pc := 57) dX10_handOn_57 trivial ⟨rfl, rfl, H⟩
  · have H := H.2 c
    refine a_aload_n (pc := 9) dX10_handOn_9 rfl ?_
    refine a_getF (pc := 10) dX10_handOn_10 fl_X10_111 (go_89) (gf_89_52) ?_
    refine a_iload_n (pc := 13) dX10_handOn_13 rfl ?_
    refine a_iaload (pc := 14) dX10_handOn_14 (ga_122) hb1 ?_
    refine a_if_lt (pc := 15) (tgt := 57) dX10_handOn_15 (by decide) (fun c => ?_) (fun c => ?_)
    · have H := H.1 c
      exact a_return (pc := 57) dX10_handOn_57 trivial ⟨rfl, rfl, H⟩
    · have H := H.2 c
      refine a_aload_n (pc := 18) dX10_handOn_18 rfl ?_
      refine a_getF (pc := 19) dX10_handOn_19 fl_X10_114 (go_89) (gf_89_53) ?_
      refine a_iload_n (pc := 22) dX10_handOn_22 rfl ?_
      refine a_iaload (pc := 23) dX10_handOn_23 (ga_123) hb1 ?_
      refine a_aload_n (pc := 24) dX10_handOn_24 rfl ?_
      refine a_getI (pc := 25) dX10_handOn_25 fl_X10_388 (go_89) ?_
      refine a_icmp_ne (pc := 28) (tgt := 57) dX10_handOn_28 (by decide) (fun c => ?_) (fun c => ?_)
      · have H := H.1 c
        exact a_return (pc := 57) dX10_handOn_57 trivial ⟨rfl, rfl, H⟩
      · have H := H.2 c
        refine a_aload_n (pc := 31) dX10_handOn_31 rfl ?_
        refine a_aload_n (pc := 32) dX10_handOn_32 rfl ?_
        refine a_getF (pc := 33) dX10_handOn_33 fl_X10_102 (go_89) (gf_89_49) ?_
        refine a_iload_n (pc := 36) dX10_handOn_36 rfl ?_
        refine a_iaload (pc := 37) dX10_handOn_37 (ga_119) hb1 ?_
        refine a_callV (pc := 38) (kc := 0) (ks := 0) (kc' := 0) (ks' := 0) (st := []) [vi (hI h 119 x1.toNat)] dX10_handOn_38 ml_X10_315 (go_89) rfl (Nat.le_of_ble_eq_true rfl) (Nat.le_of_ble_eq_true rfl) (z_post H (fun r G1 h2 q => ?_))
        obtain ⟨y3, rfl, rfl, H⟩ := q
        show zAt E (d + 1) 0 0 m_X10_handOn 41 [vo 89, vi x1] [vi y3] g0 h2 (zPv Q)
        refine a_if_eq (pc := 41) (tgt := 57) dX10_handOn_41 (by decide) (fun c => ?_) (fun c => ?_)
        · have H := H.1 c
          exact a_return (pc := 57) dX10_handOn_57 trivial ⟨rfl, rfl, H⟩
        · have H := H.2 c
          refine a_aload_n (pc := 44) dX10_handOn_44 rfl ?_
          refine a_aload_n (pc := 45) dX10_handOn_45 rfl ?_
          refine a_getF (pc := 46) dX10_handOn_46 fl_X10_111 (go_89) (gf_89_52) ?_
          refine a_iload_n (pc := 49) dX10_handOn_49 rfl ?_
          refine a_iaload (pc := 50) dX10_handOn_50 (ga_122) hb1 ?_
          refine a_callV (pc := 51) (kc := 0) (ks := 0) (kc' := 0) (ks' := 0) (st := []) [vi (hI h2 122 x1.toNat)] dX10_handOn_51 ml_X10_315 (go_89) rfl (Nat.le_of_ble_eq_true rfl) (Nat.le_of_ble_eq_true rfl) (z_post H (fun r G1 h4 q => ?_))
          obtain ⟨y5, rfl, rfl, H⟩ := q
          show zAt E (d + 1) 0 0 m_X10_handOn 54 [vo 89, vi x1] [vi y5] g0 h4 (zPv Q)
          refine a_if_ne (pc := 54) (tgt := 58) dX10_handOn_54 (by decide) (fun c => ?_) (fun c => ?_)
          · have H := H.1 c
            refine a_aload_n (pc := 58) dX10_handOn_58 rfl ?_
            refine a_getF (pc := 59) dX10_handOn_59 fl_X10_102 (go_89) (gf_89_49) ?_
            refine a_iload_n (pc := 62) dX10_handOn_62 rfl ?_
            refine a_aload_n (pc := 63) dX10_handOn_63 rfl ?_
            refine a_getF (pc := 64) dX10_handOn_64 fl_X10_111 (go_89) (gf_89_52) ?_
            refine a_iload_n (pc := 67) dX10_handOn_67 rfl ?_
            refine a_iaload (pc := 68) dX10_handOn_68 (ga_122) hb1 ?_
            refine a_iastore (pc := 69) dX10_handOn_69 (ga_119) hb1 ?_
            have H := H _ rfl
            generalize stI h4 119 x1.toNat (hI h4 122 x1.toNat) = h6 at H ⊢
            refine a_aload_n (pc := 70) dX10_handOn_70 rfl ?_
            refine a_getF (pc := 71) dX10_handOn_71 fl_X10_111 (go_89) (gf_89_52) ?_
            refine a_iload_n (pc := 74) dX10_handOn_74 rfl ?_
            refine a_iconst (pc := 75) dX10_handOn_75 (by decide) ?_
            refine a_iastore (pc := 76) dX10_handOn_76 (ga_122) hb1 ?_
            have H := H _ rfl
            generalize stI h6 122 x1.toNat (-1) = h7 at H ⊢
            refine a_aload_n (pc := 77) dX10_handOn_77 rfl ?_
            refine a_getF (pc := 78) dX10_handOn_78 fl_X10_114 (go_89) (gf_89_53) ?_
            refine a_iload_n (pc := 81) dX10_handOn_81 rfl ?_
            refine a_iconst (pc := 82) dX10_handOn_82 (by decide) ?_
            refine a_iastore (pc := 83) dX10_handOn_83 (ga_123) hb1 ?_
            have H := H _ rfl
            generalize stI h7 123 x1.toNat (-1) = h8 at H ⊢
            refine a_aload_n (pc := 84) dX10_handOn_84 rfl ?_
            refine a_getF (pc := 85) dX10_handOn_85 fl_X10_102 (go_89) (gf_89_49) ?_
            refine a_iload_n (pc := 88) dX10_handOn_88 rfl ?_
            refine a_iaload (pc := 89) dX10_handOn_89 (ga_119) hb1 ?_
            refine a_aload_n (pc := 90) dX10_handOn_90 rfl ?_
            refine a_getI (pc := 91) dX10_handOn_91 fl_X10_154 (go_89) ?_
            refine a_icmp_ne (pc := 94) (tgt := 102) dX10_handOn_94 (by decide) (fun c => ?_) (fun c => ?_)
            · have H := H.1 c
              exact a_return (pc := 102) dX10_handOn_102 trivial ⟨rfl, rfl, H⟩
            · have H := H.2 c
              refine a_aload_n (pc := 97) dX10_handOn_97 rfl ?_
              refine a_iload_n (pc := 98) dX10_handOn_98 rfl ?_
              refine a_callV (pc := 99) (kc := 0) (ks := 0) (kc' := 0) (ks' := 0) (st := []) [vi x1] dX10_handOn_99 ml_X10_397 (go_89) rfl (Nat.le_of_ble_eq_true rfl) (Nat.le_of_ble_eq_true rfl) (z_post H (fun r G1 h9 q => ?_))
              obtain ⟨rfl, rfl, H⟩ := q
              show zAt E (d + 1) 0 0 m_X10_handOn 102 [vo 89, vi x1] [] g0 h9 (zPv Q)
              exact a_return (pc := 102) dX10_handOn_102 trivial ⟨rfl, rfl, H⟩
          · have H := H.2 c
            exact a_return (pc := 57) dX10_handOn_57 trivial ⟨rfl, rfl, H⟩
