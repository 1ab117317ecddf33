/-! by program: the conditions of each method, Earnest -/
set_option maxRecDepth 20000 in
theorem v_X1_begin {E : zE} {d : Nat} {h : zS} {Q : zS → Prop} {k0 : Nat} {k1 : Nat} (hk0 : isEarnest k0) (hk1 : isCity k1) (H : ∀ h1, h1 = stI h k0 0 0 → zCv E d m_X4_clear [vo (k0 + 1), vo k1] h1 (fun h2 => ∀ h3, h3 = stI h2 (k0 + 3) 0 0 → ∀ h4, h4 = stRow h3 (k0 + 9) (fun i => if i < Int.toNat 144 then hI h3 (k1 + 7) i else hI h3 (k0 + 9) i) → ∀ h5, h5 = stRow h4 (k0 + 10) (fun i => if i < Int.toNat 12 then hI h4 (k1 + 9) i else hI h4 (k0 + 10) i) → Q h5)) : zCv E (d + 1) m_X1_begin [vo k0, vo k1] h Q := by
  show zAt E (d + 1) 0 0 m_X1_begin 0 [vo k0, vo k1] [] g0 h (zPv Q)
  refine a_aload_n (pc := 0) dX1_begin_0 rfl ?_
  refine a_iconst (pc := 1) dX1_begin_1 (by decide) ?_
  refine a_putI (pc := 2) dX1_begin_2 fl_X1_35 (goEarnest hk0) ?_
  have H := H _ rfl
  generalize stI h k0 0 0 = h1 at H ⊢
  refine a_aload_n (pc := 5) dX1_begin_5 rfl ?_
  refine a_getF (pc := 6) dX1_begin_6 fl_X1_12 (goEarnest hk0) (gfEarnest_1 hk0) ?_
  refine a_aload_n (pc := 9) dX1_begin_9 rfl ?_
  refine a_callV (pc := 10) (kc := 0) (ks := 0) (kc' := 0) (ks' := 0) (st := []) [vo k1] dX1_begin_10 ml_X1_39 (goFate (giEarnest_1 hk0)) rfl (Nat.le_of_ble_eq_true rfl) (Nat.le_of_ble_eq_true rfl) (z_post H (fun r G1 h2 q => ?_))
  obtain ⟨rfl, rfl, H⟩ := q
  show zAt E (d + 1) 0 0 m_X1_begin 13 [vo k0, vo k1] [] g0 h2 (zPv Q)
  refine a_aload_n (pc := 13) dX1_begin_13 rfl ?_
  refine a_getF (pc := 14) dX1_begin_14 fl_X1_21 (goEarnest hk0) (gfEarnest_2 hk0) ?_
  refine a_iconst (pc := 17) dX1_begin_17 (by decide) ?_
  refine a_putI (pc := 18) dX1_begin_18 fl_X1_43 (goThings (giEarnest_2 hk0)) ?_
  have H := H _ rfl
  generalize stI h2 (k0 + 3) 0 0 = h3 at H ⊢
  refine a_aload_n (pc := 21) dX1_begin_21 rfl ?_
  refine a_getG (pc := 22) dX1_begin_22 fl_X1_46 rfl (goCity hk1) (gfCity_11 hk1) ?_
  refine a_iconst (pc := 25) dX1_begin_25 (by decide) ?_
  refine a_aload_n (pc := 26) dX1_begin_26 rfl ?_
  refine a_getF (pc := 27) dX1_begin_27 fl_X1_25 (goEarnest hk0) (gfEarnest_3 hk0) ?_
  refine a_iconst (pc := 30) dX1_begin_30 (by decide) ?_
  refine a_sipush (pc := 31) dX1_begin_31 (by decide) ?_
  refine a_copy (pc := 34) dX1_begin_34 ml_X1_49 (by omega) (gaCity_11 hk1) (gaEarnest_3 hk0) (by decide) ?_
  have H := H _ rfl
  generalize stRow h3 (k0 + 9) (fun i => if i < Int.toNat 144 then hI h3 (k1 + 7) i else hI h3 (k0 + 9) i) = h4 at H ⊢
  refine a_aload_n (pc := 37) dX1_begin_37 rfl ?_
  refine a_getG (pc := 38) dX1_begin_38 fl_X1_55 rfl (goCity hk1) (gfCity_13 hk1) ?_
  refine a_iconst (pc := 41) dX1_begin_41 (by decide) ?_
  refine a_aload_n (pc := 42) dX1_begin_42 rfl ?_
  refine a_getF (pc := 43) dX1_begin_43 fl_X1_29 (goEarnest hk0) (gfEarnest_4 hk0) ?_
  refine a_iconst (pc := 46) dX1_begin_46 (by decide) ?_
  refine a_bipush (pc := 47) dX1_begin_47 (by decide) ?_
  refine a_copy (pc := 49) dX1_begin_49 ml_X1_49 (by omega) (gaCity_13 hk1) (gaEarnest_4 hk0) (by decide) ?_
  have H := H _ rfl
  generalize stRow h4 (k0 + 10) (fun i => if i < Int.toNat 12 then hI h4 (k1 + 9) i else hI h4 (k0 + 10) i) = h5 at H ⊢
  exact a_return (pc := 52) dX1_begin_52 trivial ⟨rfl, rfl, H⟩
set_option maxRecDepth 20000 in
theorem v_X1_copy {E : zE} {d : Nat} {h : zS} {Q : zS → Prop} {k0 : Nat} {k1 : Nat} (hk0 : isEarnest k0) (hk1 : isEarnest k1) (H : ∀ h1, h1 = stI h k0 0 (hI h k1 0) → zCv E d m_X4_copy [vo (k0 + 1), vo (k1 + 1)] h1 (fun h2 => zCv E d m_X8_copy [vo (k0 + 3), vo (k1 + 3)] h2 (fun h3 => ∀ h4, h4 = stRow h3 (k0 + 9) (fun i => if i < Int.toNat 144 then hI h3 (k1 + 9) i else hI h3 (k0 + 9) i) → ∀ h5, h5 = stRow h4 (k0 + 10) (fun i => if i < Int.toNat 12 then hI h4 (k1 + 10) i else hI h4 (k0 + 10) i) → Q h5))) : zCv E (d + 1) m_X1_copy [vo k0, vo k1] h Q := by
  show zAt E (d + 1) 0 0 m_X1_copy 0 [vo k0, vo k1] [] g0 h (zPv Q)
  refine a_aload_n (pc := 0) dX1_copy_0 rfl ?_
  refine a_aload_n (pc := 1) dX1_copy_1 rfl ?_
  refine a_getI (pc := 2) dX1_copy_2 fl_X1_35 (goEarnest hk1) ?_
  refine a_putI (pc := 5) dX1_copy_5 fl_X1_35 (goEarnest hk0) ?_
  have H := H _ rfl
  generalize stI h k0 0 (hI h k1 0) = h1 at H ⊢
  refine a_aload_n (pc := 8) dX1_copy_8 rfl ?_
  refine a_getF (pc := 9) dX1_copy_9 fl_X1_12 (goEarnest hk0) (gfEarnest_1 hk0) ?_
  refine a_aload_n (pc := 12) dX1_copy_12 rfl ?_
  refine a_getF (pc := 13) dX1_copy_13 fl_X1_12 (goEarnest hk1) (gfEarnest_1 hk1) ?_
  refine a_callV (pc := 16) (kc := 0) (ks := 0) (kc' := 0) (ks' := 0) (st := []) [vo (k1 + 1)] dX1_copy_16 ml_X1_56 (goFate (giEarnest_1 hk0)) rfl (Nat.le_of_ble_eq_true rfl) (Nat.le_of_ble_eq_true rfl) (z_post H (fun r G1 h2 q => ?_))
  obtain ⟨rfl, rfl, H⟩ := q
  show zAt E (d + 1) 0 0 m_X1_copy 19 [vo k0, vo k1] [] g0 h2 (zPv Q)
  refine a_aload_n (pc := 19) dX1_copy_19 rfl ?_
  refine a_getF (pc := 20) dX1_copy_20 fl_X1_21 (goEarnest hk0) (gfEarnest_2 hk0) ?_
  refine a_aload_n (pc := 23) dX1_copy_23 rfl ?_
  refine a_getF (pc := 24) dX1_copy_24 fl_X1_21 (goEarnest hk1) (gfEarnest_2 hk1) ?_
  refine a_callV (pc := 27) (kc := 0) (ks := 0) (kc' := 0) (ks' := 0) (st := []) [vo (k1 + 3)] dX1_copy_27 ml_X1_60 (goThings (giEarnest_2 hk0)) rfl (Nat.le_of_ble_eq_true rfl) (Nat.le_of_ble_eq_true rfl) (z_post H (fun r G1 h3 q => ?_))
  obtain ⟨rfl, rfl, H⟩ := q
  show zAt E (d + 1) 0 0 m_X1_copy 30 [vo k0, vo k1] [] g0 h3 (zPv Q)
  refine a_aload_n (pc := 30) dX1_copy_30 rfl ?_
  refine a_getF (pc := 31) dX1_copy_31 fl_X1_25 (goEarnest hk1) (gfEarnest_3 hk1) ?_
  refine a_iconst (pc := 34) dX1_copy_34 (by decide) ?_
  refine a_aload_n (pc := 35) dX1_copy_35 rfl ?_
  refine a_getF (pc := 36) dX1_copy_36 fl_X1_25 (goEarnest hk0) (gfEarnest_3 hk0) ?_
  refine a_iconst (pc := 39) dX1_copy_39 (by decide) ?_
  refine a_sipush (pc := 40) dX1_copy_40 (by decide) ?_
  refine a_copy (pc := 43) dX1_copy_43 ml_X1_49 (by omega) (gaEarnest_3 hk1) (gaEarnest_3 hk0) (by decide) ?_
  have H := H _ rfl
  generalize stRow h3 (k0 + 9) (fun i => if i < Int.toNat 144 then hI h3 (k1 + 9) i else hI h3 (k0 + 9) i) = h4 at H ⊢
  refine a_aload_n (pc := 46) dX1_copy_46 rfl ?_
  refine a_getF (pc := 47) dX1_copy_47 fl_X1_29 (goEarnest hk1) (gfEarnest_4 hk1) ?_
  refine a_iconst (pc := 50) dX1_copy_50 (by decide) ?_
  refine a_aload_n (pc := 51) dX1_copy_51 rfl ?_
  refine a_getF (pc := 52) dX1_copy_52 fl_X1_29 (goEarnest hk0) (gfEarnest_4 hk0) ?_
  refine a_iconst (pc := 55) dX1_copy_55 (by decide) ?_
  refine a_bipush (pc := 56) dX1_copy_56 (by decide) ?_
  refine a_copy (pc := 58) dX1_copy_58 ml_X1_49 (by omega) (gaEarnest_4 hk1) (gaEarnest_4 hk0) (by decide) ?_
  have H := H _ rfl
  generalize stRow h4 (k0 + 10) (fun i => if i < Int.toNat 12 then hI h4 (k1 + 10) i else hI h4 (k0 + 10) i) = h5 at H ⊢
  exact a_return (pc := 61) dX1_copy_61 trivial ⟨rfl, rfl, H⟩
set_option maxRecDepth 20000 in
theorem v_X1_dispatch {E : zE} {d : Nat} {h : zS} {Q : Int → zS → Prop} {k0 : Nat} {k1 : Nat} (hk0 : isEarnest k0) (hk1 : isCity k1) (H : zCi E d m_X0_has [vo k1, vi (hI h k1 2)] h (fun y2 h1 => ((y2 = 0 → (Q (-1) h1)) ∧ (y2 ≠ 0 → (zCi E d m_X4_isThere [vo (k0 + 1), vi (hI h1 k1 2)] h1 (fun y4 h3 => ((y4 = 0 → (Q (-1) h3)) ∧ (y4 ≠ 0 → (((hI h3 (k0 + 3) 0) < 12 → (zCi E d m_X8_add [vo (k0 + 3), vi (hI h3 k0 0)] h3 (fun y6 h5 => zCv E d m_X8_giveTo [vo (k0 + 3), vi y6, vi (hI h5 k1 2), vo k1, vi (hI h5 k0 0)] h5 (fun h7 => zCi E d m_X8_isHeld [vo (k0 + 3), vi y6] h7 (fun y9 h8 => ((y9 = 0 → (Q y6 h8)) ∧ (y9 ≠ 0 → (zCv E d m_X1_measure [vo k0, vo k1] h8 (fun h10 => zCv E d m_X1_choose [vo k0, vo k1, vi y6] h10 (fun h11 => Q y6 h11)))))))))) ∧ (12 ≤ (hI h3 (k0 + 3) 0) → (Q (-1) h3))))))))))) : zCi E (d + 1) m_X1_dispatch [vo k0, vo k1] h Q := by
  show zAt E (d + 1) 0 0 m_X1_dispatch 0 [vo k0, vo k1, vn] [] g0 h (zPi Q)
  refine a_aload_n (pc := 0) dX1_dispatch_0 rfl ?_
  refine a_aload_n (pc := 1) dX1_dispatch_1 rfl ?_
  refine a_getI (pc := 2) dX1_dispatch_2 fl_X1_63 (goCity hk1) ?_
  refine a_callV (pc := 5) (kc := 0) (ks := 0) (kc' := 0) (ks' := 0) (st := []) [vi (hI h k1 2)] dX1_dispatch_5 ml_X1_66 (goCity hk1) rfl (Nat.le_of_ble_eq_true rfl) (Nat.le_of_ble_eq_true rfl) (z_post H (fun r G1 h1 q => ?_))
  obtain ⟨y2, rfl, rfl, H⟩ := q
  show zAt E (d + 1) 0 0 m_X1_dispatch 8 [vo k0, vo k1, vn] [vi y2] g0 h1 (zPi Q)
  refine a_if_eq (pc := 8) (tgt := 37) dX1_dispatch_8 (by decide) (fun c => ?_) (fun c => ?_)
  · have H := H.1 c
    refine a_iconst (pc := 37) dX1_dispatch_37 (by decide) ?_
    exact a_ireturn (pc := 38) dX1_dispatch_38 trivial ⟨_, rfl, rfl, H⟩
  · have H := H.2 c
    refine a_aload_n (pc := 11) dX1_dispatch_11 rfl ?_
    refine a_getF (pc := 12) dX1_dispatch_12 fl_X1_12 (goEarnest hk0) (gfEarnest_1 hk0) ?_
    refine a_aload_n (pc := 15) dX1_dispatch_15 rfl ?_
    refine a_getI (pc := 16) dX1_dispatch_16 fl_X1_63 (goCity hk1) ?_
    refine a_callV (pc := 19) (kc := 0) (ks := 0) (kc' := 0) (ks' := 0) (st := []) [vi (hI h1 k1 2)] dX1_dispatch_19 ml_X1_70 (goFate (giEarnest_1 hk0)) rfl (Nat.le_of_ble_eq_true rfl) (Nat.le_of_ble_eq_true rfl) (z_post H (fun r G1 h3 q => ?_))
    obtain ⟨y4, rfl, rfl, H⟩ := q
    show zAt E (d + 1) 0 0 m_X1_dispatch 22 [vo k0, vo k1, vn] [vi y4] g0 h3 (zPi Q)
    refine a_if_eq (pc := 22) (tgt := 37) dX1_dispatch_22 (by decide) (fun c => ?_) (fun c => ?_)
    · have H := H.1 c
      refine a_iconst (pc := 37) dX1_dispatch_37 (by decide) ?_
      exact a_ireturn (pc := 38) dX1_dispatch_38 trivial ⟨_, rfl, rfl, H⟩
    · have H := H.2 c
      refine a_aload_n (pc := 25) dX1_dispatch_25 rfl ?_
      refine a_getF (pc := 26) dX1_dispatch_26 fl_X1_21 (goEarnest hk0) (gfEarnest_2 hk0) ?_
      refine a_getI (pc := 29) dX1_dispatch_29 fl_X1_43 (goThings (giEarnest_2 hk0)) ?_
      refine a_bipush (pc := 32) dX1_dispatch_32 (by decide) ?_
      refine a_icmp_lt (pc := 34) (tgt := 39) dX1_dispatch_34 (by decide) (fun c => ?_) (fun c => ?_)
      · have H := H.1 c
        refine a_aload_n (pc := 39) dX1_dispatch_39 rfl ?_
        refine a_getF (pc := 40) dX1_dispatch_40 fl_X1_21 (goEarnest hk0) (gfEarnest_2 hk0) ?_
        refine a_aload_n (pc := 43) dX1_dispatch_43 rfl ?_
        refine a_getI (pc := 44) dX1_dispatch_44 fl_X1_35 (goEarnest hk0) ?_
        refine a_callV (pc := 47) (kc := 0) (ks := 0) (kc' := 0) (ks' := 0) (st := []) [vi (hI h3 k0 0)] dX1_dispatch_47 ml_X1_73 (goThings (giEarnest_2 hk0)) rfl (Nat.le_of_ble_eq_true rfl) (Nat.le_of_ble_eq_true rfl) (z_post H (fun r G1 h5 q => ?_))
        obtain ⟨y6, rfl, rfl, H⟩ := q
        show zAt E (d + 1) 0 0 m_X1_dispatch 50 [vo k0, vo k1, vn] [vi y6] g0 h5 (zPi Q)
        refine a_istore_n (pc := 50) (ls' := [vo k0, vo k1, vi y6]) dX1_dispatch_50 rfl rfl ?_
        refine a_aload_n (pc := 51) dX1_dispatch_51 rfl ?_
        refine a_getF (pc := 52) dX1_dispatch_52 fl_X1_21 (goEarnest hk0) (gfEarnest_2 hk0) ?_
        refine a_iload_n (pc := 55) dX1_dispatch_55 rfl ?_
        refine a_aload_n (pc := 56) dX1_dispatch_56 rfl ?_
        refine a_getI (pc := 57) dX1_dispatch_57 fl_X1_63 (goCity hk1) ?_
        refine a_aload_n (pc := 60) dX1_dispatch_60 rfl ?_
        refine a_aload_n (pc := 61) dX1_dispatch_61 rfl ?_
        refine a_getI (pc := 62) dX1_dispatch_62 fl_X1_35 (goEarnest hk0) ?_
        refine a_callV (pc := 65) (kc := 0) (ks := 0) (kc' := 0) (ks' := 0) (st := []) [vi y6, vi (hI h5 k1 2), vo k1, vi (hI h5 k0 0)] dX1_dispatch_65 ml_X1_77 (goThings (giEarnest_2 hk0)) rfl (Nat.le_of_ble_eq_true rfl) (Nat.le_of_ble_eq_true rfl) (z_post H (fun r G1 h7 q => ?_))
        obtain ⟨rfl, rfl, H⟩ := q
        show zAt E (d + 1) 0 0 m_X1_dispatch 68 [vo k0, vo k1, vi y6] [] g0 h7 (zPi Q)
        refine a_aload_n (pc := 68) dX1_dispatch_68 rfl ?_
        refine a_getF (pc := 69) dX1_dispatch_69 fl_X1_21 (goEarnest hk0) (gfEarnest_2 hk0) ?_
        refine a_iload_n (pc := 72) dX1_dispatch_72 rfl ?_
        refine a_callV (pc := 73) (kc := 0) (ks := 0) (kc' := 0) (ks' := 0) (st := []) [vi y6] dX1_dispatch_73 ml_X1_81 (goThings (giEarnest_2 hk0)) rfl (Nat.le_of_ble_eq_true rfl) (Nat.le_of_ble_eq_true rfl) (z_post H (fun r G1 h8 q => ?_))
        obtain ⟨y9, rfl, rfl, H⟩ := q
        show zAt E (d + 1) 0 0 m_X1_dispatch 76 [vo k0, vo k1, vi y6] [vi y9] g0 h8 (zPi Q)
        refine a_if_eq (pc := 76) (tgt := 90) dX1_dispatch_76 (by decide) (fun c => ?_) (fun c => ?_)
        · have H := H.1 c
          refine a_iload_n (pc := 90) dX1_dispatch_90 rfl ?_
          exact a_ireturn (pc := 91) dX1_dispatch_91 trivial ⟨_, rfl, rfl, H⟩
        · have H := H.2 c
          refine a_aload_n (pc := 79) dX1_dispatch_79 rfl ?_
          refine a_aload_n (pc := 80) dX1_dispatch_80 rfl ?_
          refine a_callV (pc := 81) (kc := 0) (ks := 0) (kc' := 0) (ks' := 0) (st := []) [vo k1] dX1_dispatch_81 ml_X1_84 (goEarnest hk0) rfl (Nat.le_of_ble_eq_true rfl) (Nat.le_of_ble_eq_true rfl) (z_post H (fun r G1 h10 q => ?_))
          obtain ⟨rfl, rfl, H⟩ := q
          show zAt E (d + 1) 0 0 m_X1_dispatch 84 [vo k0, vo k1, vi y6] [] g0 h10 (zPi Q)
          refine a_aload_n (pc := 84) dX1_dispatch_84 rfl ?_
          refine a_aload_n (pc := 85) dX1_dispatch_85 rfl ?_
          refine a_iload_n (pc := 86) dX1_dispatch_86 rfl ?_
          refine a_callV (pc := 87) (kc := 0) (ks := 0) (kc' := 0) (ks' := 0) (st := []) [vo k1, vi y6] dX1_dispatch_87 ml_X1_87 (goEarnest hk0) rfl (Nat.le_of_ble_eq_true rfl) (Nat.le_of_ble_eq_true rfl) (z_post H (fun r G1 h11 q => ?_))
          obtain ⟨rfl, rfl, H⟩ := q
          show zAt E (d + 1) 0 0 m_X1_dispatch 90 [vo k0, vo k1, vi y6] [] g0 h11 (zPi Q)
          refine a_iload_n (pc := 90) dX1_dispatch_90 rfl ?_
          exact a_ireturn (pc := 91) dX1_dispatch_91 trivial ⟨_, rfl, rfl, H⟩
      · have H := H.2 c
        refine a_iconst (pc := 37) dX1_dispatch_37 (by decide) ?_
        exact a_ireturn (pc := 38) dX1_dispatch_38 trivial ⟨_, rfl, rfl, H⟩
set_option maxRecDepth 20000 in
theorem v_X1_pass {E : zE} {d : Nat} {h : zS} {Q : zS → Prop} {k0 : Nat} {k1 : Nat} (hk0 : isEarnest k0) (hk1 : isCity k1) (H : ∀ h1, h1 = stI h k0 0 (w32 ((hI h k0 0) + 1)) → zCv E d m_X1_handOn [vo k0, vo k1] h1 (fun h2 => zCv E d m_X4_tellOn [vo (k0 + 1), vo k1, vo (k0 + 10), vi (hI h2 k0 0)] h2 (fun h3 => zCv E d m_X4_fleeOn [vo (k0 + 1), vo k1, vo (k0 + 10), vi (hI h3 k0 0)] h3 (fun h4 => zCv E d m_X1_loseThings [vo k0] h4 (fun h5 => zCv E d m_X1_chooseAnew [vo k0, vo k1] h5 (fun h6 => Q h6)))))) : zCv E (d + 1) m_X1_pass [vo k0, vo k1] h Q := by
  show zAt E (d + 1) 0 0 m_X1_pass 0 [vo k0, vo k1] [] g0 h (zPv Q)
  refine a_aload_n (pc := 0) dX1_pass_0 rfl ?_
  refine a_dup (pc := 1) dX1_pass_1 rfl ?_
  refine a_getI (pc := 2) dX1_pass_2 fl_X1_35 (goEarnest hk0) ?_
  refine a_iconst (pc := 5) dX1_pass_5 (by decide) ?_
  refine a_iadd (pc := 6) dX1_pass_6 ?_
  refine a_putI (pc := 7) dX1_pass_7 fl_X1_35 (goEarnest hk0) ?_
  have H := H _ rfl
  generalize stI h k0 0 (w32 ((hI h k0 0) + 1)) = h1 at H ⊢
  refine a_aload_n (pc := 10) dX1_pass_10 rfl ?_
  refine a_aload_n (pc := 11) dX1_pass_11 rfl ?_
  refine a_callV (pc := 12) (kc := 0) (ks := 0) (kc' := 0) (ks' := 0) (st := []) [vo k1] dX1_pass_12 ml_X1_91 (goEarnest hk0) rfl (Nat.le_of_ble_eq_true rfl) (Nat.le_of_ble_eq_true rfl) (z_post H (fun r G1 h2 q => ?_))
  obtain ⟨rfl, rfl, H⟩ := q
  show zAt E (d + 1) 0 0 m_X1_pass 15 [vo k0, vo k1] [] g0 h2 (zPv Q)
  refine a_aload_n (pc := 15) dX1_pass_15 rfl ?_
  refine a_getF (pc := 16) dX1_pass_16 fl_X1_12 (goEarnest hk0) (gfEarnest_1 hk0) ?_
  refine a_aload_n (pc := 19) dX1_pass_19 rfl ?_
  refine a_aload_n (pc := 20) dX1_pass_20 rfl ?_
  refine a_getF (pc := 21) dX1_pass_21 fl_X1_29 (goEarnest hk0) (gfEarnest_4 hk0) ?_
  refine a_aload_n (pc := 24) dX1_pass_24 rfl ?_
  refine a_getI (pc := 25) dX1_pass_25 fl_X1_35 (goEarnest hk0) ?_
  refine a_callV (pc := 28) (kc := 0) (ks := 0) (kc' := 0) (ks' := 0) (st := []) [vo k1, vo (k0 + 10), vi (hI h2 k0 0)] dX1_pass_28 ml_X1_94 (goFate (giEarnest_1 hk0)) rfl (Nat.le_of_ble_eq_true rfl) (Nat.le_of_ble_eq_true rfl) (z_post H (fun r G1 h3 q => ?_))
  obtain ⟨rfl, rfl, H⟩ := q
  show zAt E (d + 1) 0 0 m_X1_pass 31 [vo k0, vo k1] [] g0 h3 (zPv Q)
  refine a_aload_n (pc := 31) dX1_pass_31 rfl ?_
  refine a_getF (pc := 32) dX1_pass_32 fl_X1_12 (goEarnest hk0) (gfEarnest_1 hk0) ?_
  refine a_aload_n (pc := 35) dX1_pass_35 rfl ?_
  refine a_aload_n (pc := 36) dX1_pass_36 rfl ?_
  refine a_getF (pc := 37) dX1_pass_37 fl_X1_29 (goEarnest hk0) (gfEarnest_4 hk0) ?_
  refine a_aload_n (pc := 40) dX1_pass_40 rfl ?_
  refine a_getI (pc := 41) dX1_pass_41 fl_X1_35 (goEarnest hk0) ?_
  refine a_callV (pc := 44) (kc := 0) (ks := 0) (kc' := 0) (ks' := 0) (st := []) [vo k1, vo (k0 + 10), vi (hI h3 k0 0)] dX1_pass_44 ml_X1_98 (goFate (giEarnest_1 hk0)) rfl (Nat.le_of_ble_eq_true rfl) (Nat.le_of_ble_eq_true rfl) (z_post H (fun r G1 h4 q => ?_))
  obtain ⟨rfl, rfl, H⟩ := q
  show zAt E (d + 1) 0 0 m_X1_pass 47 [vo k0, vo k1] [] g0 h4 (zPv Q)
  refine a_aload_n (pc := 47) dX1_pass_47 rfl ?_
  refine a_callV (pc := 48) (kc := 0) (ks := 0) (kc' := 0) (ks' := 0) (st := []) [] dX1_pass_48 ml_X1_101 (goEarnest hk0) rfl (Nat.le_of_ble_eq_true rfl) (Nat.le_of_ble_eq_true rfl) (z_post H (fun r G1 h5 q => ?_))
  obtain ⟨rfl, rfl, H⟩ := q
  show zAt E (d + 1) 0 0 m_X1_pass 51 [vo k0, vo k1] [] g0 h5 (zPv Q)
  refine a_aload_n (pc := 51) dX1_pass_51 rfl ?_
  refine a_aload_n (pc := 52) dX1_pass_52 rfl ?_
  refine a_callV (pc := 53) (kc := 0) (ks := 0) (kc' := 0) (ks' := 0) (st := []) [vo k1] dX1_pass_53 ml_X1_104 (goEarnest hk0) rfl (Nat.le_of_ble_eq_true rfl) (Nat.le_of_ble_eq_true rfl) (z_post H (fun r G1 h6 q => ?_))
  obtain ⟨rfl, rfl, H⟩ := q
  show zAt E (d + 1) 0 0 m_X1_pass 56 [vo k0, vo k1] [] g0 h6 (zPv Q)
  exact a_return (pc := 56) dX1_pass_56 trivial ⟨rfl, rfl, H⟩
set_option maxRecDepth 20000 in
theorem v_X1_handOn {E : zE} {d : Nat} {h : zS} {Q : zS → Prop} {k0 : Nat} {k1 : Nat} (hk0 : isEarnest k0) (hk1 : isCity k1) (H : zWv E (d + 1) m_X1_handOn 2 [vo k0, vo k1, vi 0, vn] h Q) : zCv E (d + 1) m_X1_handOn [vo k0, vo k1] h Q := by
  show zAt E (d + 1) 0 0 m_X1_handOn 0 [vo k0, vo k1, vn, vn] [] g0 h (zPv Q)
  refine a_iconst (pc := 0) dX1_handOn_0 (by decide) ?_
  refine a_istore_n (pc := 1) (ls' := [vo k0, vo k1, vi 0, vn]) dX1_handOn_1 rfl rfl ?_
  exact H
set_option maxRecDepth 20000 in
theorem r_X1_handOn_2 {E : zE} {d : Nat} {h : zS} {Q : zS → Prop} {k0 : Nat} {k1 : Nat} {x2 : Int} (hk0 : isEarnest k0) (hk1 : isCity k1) (H : (((hI h (k0 + 3) 0) ≤ x2 → (Q h)) ∧ (x2 < (hI h (k0 + 3) 0) → ((0 ≤ x2 ∧ x2 < 12) ∧ ∀ y2 : Int, y2 = hI h (k0 + 3 + 4) x2.toNat → zCi E d m_X8_isHeld [vo (k0 + 3), vi x2] h (fun y4 h3 => ((y4 = 0 → (zWv E (d + 1) m_X1_handOn 2 [vo k0, vo k1, vi (w32 (x2 + 1)), vn] h3 Q)) ∧ (y4 ≠ 0 → ((y2 = (-1) → (zWv E (d + 1) m_X1_handOn 2 [vo k0, vo k1, vi (w32 (x2 + 1)), vn] h3 Q)) ∧ (y2 ≠ (-1) → (((hI h3 (k0 + 3 + 5) x2.toNat) ≠ (hI h3 k0 0) → (zWv E (d + 1) m_X1_handOn 2 [vo k0, vo k1, vi (w32 (x2 + 1)), vn] h3 Q)) ∧ ((hI h3 (k0 + 3 + 5) x2.toNat) = (hI h3 k0 0) → (zCi E d m_X4_isThere [vo (k0 + 1), vi (hI h3 (k0 + 3 + 1) x2.toNat)] h3 (fun y6 h5 => ((y6 = 0 → (zWv E (d + 1) m_X1_handOn 2 [vo k0, vo k1, vi (w32 (x2 + 1)), vn] h5 Q)) ∧ (y6 ≠ 0 → (zCi E d m_X4_isThere [vo (k0 + 1), vi y2] h5 (fun y8 h7 => ((y8 = 0 → (zWv E (d + 1) m_X1_handOn 2 [vo k0, vo k1, vi (w32 (x2 + 1)), vn] h7 Q)) ∧ (y8 ≠ 0 → (zCv E d m_X8_giveTo [vo (k0 + 3), vi x2, vi y2, vo k1, vi (hI h7 k0 0)] h7 (fun h9 => zWv E (d + 1) m_X1_handOn 2 [vo k0, vo k1, vi (w32 (x2 + 1)), vn] h9 Q))))))))))))))))))))) : zWv E (d + 1) m_X1_handOn 2 [vo k0, vo k1, vi x2, vn] h Q := by
  refine a_iload_n (pc := 2) dX1_handOn_2 rfl ?_
  refine a_aload_n (pc := 3) dX1_handOn_3 rfl ?_
  refine a_getF (pc := 4) dX1_handOn_4 fl_X1_21 (goEarnest hk0) (gfEarnest_2 hk0) ?_
  refine a_getI (pc := 7) dX1_handOn_7 fl_X1_43 (goThings (giEarnest_2 hk0)) ?_
  refine a_icmp_ge (pc := 10) (tgt := 105) dX1_handOn_10 (by decide) (fun c => ?_) (fun c => ?_)
  · have H := H.1 c
    exact a_return (pc := 105) dX1_handOn_105 trivial ⟨rfl, rfl, H⟩
  · have H := H.2 c
    refine a_aload_n (pc := 13) dX1_handOn_13 rfl ?_
    refine a_getF (pc := 14) dX1_handOn_14 fl_X1_21 (goEarnest hk0) (gfEarnest_2 hk0) ?_
    refine a_getG (pc := 17) dX1_handOn_17 fl_X1_107 rfl (goThings (giEarnest_2 hk0)) (gfThings_4 (giEarnest_2 hk0)) ?_
    refine a_iload_n (pc := 20) dX1_handOn_20 rfl ?_
    obtain ⟨hb1, H⟩ := H
    refine a_iaload (pc := 21) dX1_handOn_21 (gaThings_4 (giEarnest_2 hk0)) hb1 ?_
    have H := H _ rfl
    generalize (hI h (k0 + 3 + 4) x2.toNat : Int) = y2 at H ⊢
    refine a_istore_n (pc := 22) (ls' := [vo k0, vo k1, vi x2, vi y2]) dX1_handOn_22 rfl rfl ?_
    refine a_aload_n (pc := 23) dX1_handOn_23 rfl ?_
    refine a_getF (pc := 24) dX1_handOn_24 fl_X1_21 (goEarnest hk0) (gfEarnest_2 hk0) ?_
    refine a_iload_n (pc := 27) dX1_handOn_27 rfl ?_
    refine a_callV (pc := 28) (kc := 0) (ks := 0) (kc' := 0) (ks' := 0) (st := []) [vi x2] dX1_handOn_28 ml_X1_81 (goThings (giEarnest_2 hk0)) rfl (Nat.le_of_ble_eq_true rfl) (Nat.le_of_ble_eq_true rfl) (z_post H (fun r G1 h3 q => ?_))
    obtain ⟨y4, rfl, rfl, H⟩ := q
    show zAt E (d + 1) 0 0 m_X1_handOn 31 [vo k0, vo k1, vi x2, vi y2] [vi y4] g0 h3 (zPv Q)
    refine a_if_eq (pc := 31) (tgt := 99) dX1_handOn_31 (by decide) (fun c => ?_) (fun c => ?_)
    · have H := H.1 c
      refine a_iinc (pc := 99) (ls' := [vo k0, vo k1, vi (w32 (x2 + 1)), vi y2]) dX1_handOn_99 rfl rfl rfl ?_
      refine a_goto (pc := 102) (tgt := 2) dX1_handOn_102 (by decide) ?_
      exact z_forget (ls' := [vo k0, vo k1, vi (w32 (x2 + 1)), vn]) ⟨.inr rfl, .inr rfl, .inr rfl, .inl rfl, trivial⟩ H
    · have H := H.2 c
      refine a_iload_n (pc := 34) dX1_handOn_34 rfl ?_
      refine a_iconst (pc := 35) dX1_handOn_35 (by decide) ?_
      refine a_icmp_eq (pc := 36) (tgt := 99) dX1_handOn_36 (by decide) (fun c => ?_) (fun c => ?_)
      · have H := H.1 c
        refine a_iinc (pc := 99) (ls' := [vo k0, vo k1, vi (w32 (x2 + 1)), vi y2]) dX1_handOn_99 rfl rfl rfl ?_
        refine a_goto (pc := 102) (tgt := 2) dX1_handOn_102 (by decide) ?_
        exact z_forget (ls' := [vo k0, vo k1, vi (w32 (x2 + 1)), vn]) ⟨.inr rfl, .inr rfl, .inr rfl, .inl rfl, trivial⟩ H
      · have H := H.2 c
        refine a_aload_n (pc := 39) dX1_handOn_39 rfl ?_
        refine a_getF (pc := 40) dX1_handOn_40 fl_X1_21 (goEarnest hk0) (gfEarnest_2 hk0) ?_
        refine a_getG (pc := 43) dX1_handOn_43 fl_X1_110 rfl (goThings (giEarnest_2 hk0)) (gfThings_5 (giEarnest_2 hk0)) ?_
        refine a_iload_n (pc := 46) dX1_handOn_46 rfl ?_
        refine a_iaload (pc := 47) dX1_handOn_47 (gaThings_5 (giEarnest_2 hk0)) hb1 ?_
        refine a_aload_n (pc := 48) dX1_handOn_48 rfl ?_
        refine a_getI (pc := 49) dX1_handOn_49 fl_X1_35 (goEarnest hk0) ?_
        refine a_icmp_ne (pc := 52) (tgt := 99) dX1_handOn_52 (by decide) (fun c => ?_) (fun c => ?_)
        · have H := H.1 c
          refine a_iinc (pc := 99) (ls' := [vo k0, vo k1, vi (w32 (x2 + 1)), vi y2]) dX1_handOn_99 rfl rfl rfl ?_
          refine a_goto (pc := 102) (tgt := 2) dX1_handOn_102 (by decide) ?_
          exact z_forget (ls' := [vo k0, vo k1, vi (w32 (x2 + 1)), vn]) ⟨.inr rfl, .inr rfl, .inr rfl, .inl rfl, trivial⟩ H
        · have H := H.2 c
          refine a_aload_n (pc := 55) dX1_handOn_55 rfl ?_
          refine a_getF (pc := 56) dX1_handOn_56 fl_X1_12 (goEarnest hk0) (gfEarnest_1 hk0) ?_
          refine a_aload_n (pc := 59) dX1_handOn_59 rfl ?_
          refine a_getF (pc := 60) dX1_handOn_60 fl_X1_21 (goEarnest hk0) (gfEarnest_2 hk0) ?_
          refine a_getG (pc := 63) dX1_handOn_63 fl_X1_113 rfl (goThings (giEarnest_2 hk0)) (gfThings_1 (giEarnest_2 hk0)) ?_
          refine a_iload_n (pc := 66) dX1_handOn_66 rfl ?_
          refine a_iaload (pc := 67) dX1_handOn_67 (gaThings_1 (giEarnest_2 hk0)) hb1 ?_
          refine a_callV (pc := 68) (kc := 0) (ks := 0) (kc' := 0) (ks' := 0) (st := []) [vi (hI h3 (k0 + 3 + 1) x2.toNat)] dX1_handOn_68 ml_X1_70 (goFate (giEarnest_1 hk0)) rfl (Nat.le_of_ble_eq_true rfl) (Nat.le_of_ble_eq_true rfl) (z_post H (fun r G1 h5 q => ?_))
          obtain ⟨y6, rfl, rfl, H⟩ := q
          show zAt E (d + 1) 0 0 m_X1_handOn 71 [vo k0, vo k1, vi x2, vi y2] [vi y6] g0 h5 (zPv Q)
          refine a_if_eq (pc := 71) (tgt := 99) dX1_handOn_71 (by decide) (fun c => ?_) (fun c => ?_)
          · have H := H.1 c
            refine a_iinc (pc := 99) (ls' := [vo k0, vo k1, vi (w32 (x2 + 1)), vi y2]) dX1_handOn_99 rfl rfl rfl ?_
            refine a_goto (pc := 102) (tgt := 2) dX1_handOn_102 (by decide) ?_
            exact z_forget (ls' := [vo k0, vo k1, vi (w32 (x2 + 1)), vn]) ⟨.inr rfl, .inr rfl, .inr rfl, .inl rfl, trivial⟩ H
          · have H := H.2 c
            refine a_aload_n (pc := 74) dX1_handOn_74 rfl ?_
            refine a_getF (pc := 75) dX1_handOn_75 fl_X1_12 (goEarnest hk0) (gfEarnest_1 hk0) ?_
            refine a_iload_n (pc := 78) dX1_handOn_78 rfl ?_
            refine a_callV (pc := 79) (kc := 0) (ks := 0) (kc' := 0) (ks' := 0) (st := []) [vi y2] dX1_handOn_79 ml_X1_70 (goFate (giEarnest_1 hk0)) rfl (Nat.le_of_ble_eq_true rfl) (Nat.le_of_ble_eq_true rfl) (z_post H (fun r G1 h7 q => ?_))
            obtain ⟨y8, rfl, rfl, H⟩ := q
            show zAt E (d + 1) 0 0 m_X1_handOn 82 [vo k0, vo k1, vi x2, vi y2] [vi y8] g0 h7 (zPv Q)
            refine a_if_eq (pc := 82) (tgt := 99) dX1_handOn_82 (by decide) (fun c => ?_) (fun c => ?_)
            · have H := H.1 c
              refine a_iinc (pc := 99) (ls' := [vo k0, vo k1, vi (w32 (x2 + 1)), vi y2]) dX1_handOn_99 rfl rfl rfl ?_
              refine a_goto (pc := 102) (tgt := 2) dX1_handOn_102 (by decide) ?_
              exact z_forget (ls' := [vo k0, vo k1, vi (w32 (x2 + 1)), vn]) ⟨.inr rfl, .inr rfl, .inr rfl, .inl rfl, trivial⟩ H
            · have H := H.2 c
              refine a_aload_n (pc := 85) dX1_handOn_85 rfl ?_
              refine a_getF (pc := 86) dX1_handOn_86 fl_X1_21 (goEarnest hk0) (gfEarnest_2 hk0) ?_
              refine a_iload_n (pc := 89) dX1_handOn_89 rfl ?_
              refine a_iload_n (pc := 90) dX1_handOn_90 rfl ?_
              refine a_aload_n (pc := 91) dX1_handOn_91 rfl ?_
              refine a_aload_n (pc := 92) dX1_handOn_92 rfl ?_
              refine a_getI (pc := 93) dX1_handOn_93 fl_X1_35 (goEarnest hk0) ?_
              refine a_callV (pc := 96) (kc := 0) (ks := 0) (kc' := 0) (ks' := 0) (st := []) [vi x2, vi y2, vo k1, vi (hI h7 k0 0)] dX1_handOn_96 ml_X1_77 (goThings (giEarnest_2 hk0)) rfl (Nat.le_of_ble_eq_true rfl) (Nat.le_of_ble_eq_true rfl) (z_post H (fun r G1 h9 q => ?_))
              obtain ⟨rfl, rfl, H⟩ := q
              show zAt E (d + 1) 0 0 m_X1_handOn 99 [vo k0, vo k1, vi x2, vi y2] [] g0 h9 (zPv Q)
              refine a_iinc (pc := 99) (ls' := [vo k0, vo k1, vi (w32 (x2 + 1)), vi y2]) dX1_handOn_99 rfl rfl rfl ?_
              refine a_goto (pc := 102) (tgt := 2) dX1_handOn_102 (by decide) ?_
              exact z_forget (ls' := [vo k0, vo k1, vi (w32 (x2 + 1)), vn]) ⟨.inr rfl, .inr rfl, .inr rfl, .inl rfl, trivial⟩ H
set_option maxRecDepth 20000 in
theorem v_X1_loseThings {E : zE} {d : Nat} {h : zS} {Q : zS → Prop} {k0 : Nat} (hk0 : isEarnest k0) (H : zWv E (d + 1) m_X1_loseThings 2 [vo k0, vi 0] h Q) : zCv E (d + 1) m_X1_loseThings [vo k0] h Q := by
  show zAt E (d + 1) 0 0 m_X1_loseThings 0 [vo k0, vn] [] g0 h (zPv Q)
  refine a_iconst (pc := 0) dX1_loseThings_0 (by decide) ?_
  refine a_istore_n (pc := 1) (ls' := [vo k0, vi 0]) dX1_loseThings_1 rfl rfl ?_
  exact H
set_option maxRecDepth 20000 in
theorem r_X1_loseThings_2 {E : zE} {d : Nat} {h : zS} {Q : zS → Prop} {k0 : Nat} {x1 : Int} (hk0 : isEarnest k0) (H : (((hI h (k0 + 3) 0) ≤ x1 → (Q h)) ∧ (x1 < (hI h (k0 + 3) 0) → (zCi E d m_X8_isHeld [vo (k0 + 3), vi x1] h (fun y2 h1 => ((y2 = 0 → (zWv E (d + 1) m_X1_loseThings 2 [vo k0, vi (w32 (x1 + 1))] h1 Q)) ∧ (y2 ≠ 0 → ((0 ≤ x1 ∧ x1 < 12) ∧ zCi E d m_X4_isThere [vo (k0 + 1), vi (hI h1 (k0 + 3 + 1) x1.toNat)] h1 (fun y5 h4 => ((y5 ≠ 0 → (zWv E (d + 1) m_X1_loseThings 2 [vo k0, vi (w32 (x1 + 1))] h4 Q)) ∧ (y5 = 0 → (zCv E d m_X8_finish [vo (k0 + 3), vi x1, vi (-2), vi (hI h4 k0 0)] h4 (fun h6 => zWv E (d + 1) m_X1_loseThings 2 [vo k0, vi (w32 (x1 + 1))] h6 Q))))))))))))) : zWv E (d + 1) m_X1_loseThings 2 [vo k0, vi x1] h Q := by
  refine a_iload_n (pc := 2) dX1_loseThings_2 rfl ?_
  refine a_aload_n (pc := 3) dX1_loseThings_3 rfl ?_
  refine a_getF (pc := 4) dX1_loseThings_4 fl_X1_21 (goEarnest hk0) (gfEarnest_2 hk0) ?_
  refine a_getI (pc := 7) dX1_loseThings_7 fl_X1_43 (goThings (giEarnest_2 hk0)) ?_
  refine a_icmp_ge (pc := 10) (tgt := 63) dX1_loseThings_10 (by decide) (fun c => ?_) (fun c => ?_)
  · have H := H.1 c
    exact a_return (pc := 63) dX1_loseThings_63 trivial ⟨rfl, rfl, H⟩
  · have H := H.2 c
    refine a_aload_n (pc := 13) dX1_loseThings_13 rfl ?_
    refine a_getF (pc := 14) dX1_loseThings_14 fl_X1_21 (goEarnest hk0) (gfEarnest_2 hk0) ?_
    refine a_iload_n (pc := 17) dX1_loseThings_17 rfl ?_
    refine a_callV (pc := 18) (kc := 0) (ks := 0) (kc' := 0) (ks' := 0) (st := []) [vi x1] dX1_loseThings_18 ml_X1_81 (goThings (giEarnest_2 hk0)) rfl (Nat.le_of_ble_eq_true rfl) (Nat.le_of_ble_eq_true rfl) (z_post H (fun r G1 h1 q => ?_))
    obtain ⟨y2, rfl, rfl, H⟩ := q
    show zAt E (d + 1) 0 0 m_X1_loseThings 21 [vo k0, vi x1] [vi y2] g0 h1 (zPv Q)
    refine a_if_eq (pc := 21) (tgt := 57) dX1_loseThings_21 (by decide) (fun c => ?_) (fun c => ?_)
    · have H := H.1 c
      refine a_iinc (pc := 57) (ls' := [vo k0, vi (w32 (x1 + 1))]) dX1_loseThings_57 rfl rfl rfl ?_
      refine a_goto (pc := 60) (tgt := 2) dX1_loseThings_60 (by decide) ?_
      exact H
    · have H := H.2 c
      refine a_aload_n (pc := 24) dX1_loseThings_24 rfl ?_
      refine a_getF (pc := 25) dX1_loseThings_25 fl_X1_12 (goEarnest hk0) (gfEarnest_1 hk0) ?_
      refine a_aload_n (pc := 28) dX1_loseThings_28 rfl ?_
      refine a_getF (pc := 29) dX1_loseThings_29 fl_X1_21 (goEarnest hk0) (gfEarnest_2 hk0) ?_
      refine a_getG (pc := 32) dX1_loseThings_32 fl_X1_113 rfl (goThings (giEarnest_2 hk0)) (gfThings_1 (giEarnest_2 hk0)) ?_
      refine a_iload_n (pc := 35) dX1_loseThings_35 rfl ?_
      obtain ⟨hb3, H⟩ := H
      refine a_iaload (pc := 36) dX1_loseThings_36 (gaThings_1 (giEarnest_2 hk0)) hb3 ?_
      refine a_callV (pc := 37) (kc := 0) (ks := 0) (kc' := 0) (ks' := 0) (st := []) [vi (hI h1 (k0 + 3 + 1) x1.toNat)] dX1_loseThings_37 ml_X1_70 (goFate (giEarnest_1 hk0)) rfl (Nat.le_of_ble_eq_true rfl) (Nat.le_of_ble_eq_true rfl) (z_post H (fun r G1 h4 q => ?_))
      obtain ⟨y5, rfl, rfl, H⟩ := q
      show zAt E (d + 1) 0 0 m_X1_loseThings 40 [vo k0, vi x1] [vi y5] g0 h4 (zPv Q)
      refine a_if_ne (pc := 40) (tgt := 57) dX1_loseThings_40 (by decide) (fun c => ?_) (fun c => ?_)
      · have H := H.1 c
        refine a_iinc (pc := 57) (ls' := [vo k0, vi (w32 (x1 + 1))]) dX1_loseThings_57 rfl rfl rfl ?_
        refine a_goto (pc := 60) (tgt := 2) dX1_loseThings_60 (by decide) ?_
        exact H
      · have H := H.2 c
        refine a_aload_n (pc := 43) dX1_loseThings_43 rfl ?_
        refine a_getF (pc := 44) dX1_loseThings_44 fl_X1_21 (goEarnest hk0) (gfEarnest_2 hk0) ?_
        refine a_iload_n (pc := 47) dX1_loseThings_47 rfl ?_
        refine a_bipush (pc := 48) dX1_loseThings_48 (by decide) ?_
        refine a_aload_n (pc := 50) dX1_loseThings_50 rfl ?_
        refine a_getI (pc := 51) dX1_loseThings_51 fl_X1_35 (goEarnest hk0) ?_
        refine a_callV (pc := 54) (kc := 0) (ks := 0) (kc' := 0) (ks' := 0) (st := []) [vi x1, vi (-2), vi (hI h4 k0 0)] dX1_loseThings_54 ml_X1_116 (goThings (giEarnest_2 hk0)) rfl (Nat.le_of_ble_eq_true rfl) (Nat.le_of_ble_eq_true rfl) (z_post H (fun r G1 h6 q => ?_))
        obtain ⟨rfl, rfl, H⟩ := q
        show zAt E (d + 1) 0 0 m_X1_loseThings 57 [vo k0, vi x1] [] g0 h6 (zPv Q)
        refine a_iinc (pc := 57) (ls' := [vo k0, vi (w32 (x1 + 1))]) dX1_loseThings_57 rfl rfl rfl ?_
        refine a_goto (pc := 60) (tgt := 2) dX1_loseThings_60 (by decide) ?_
        exact H
set_option maxRecDepth 20000 in
theorem v_X1_chooseAnew {E : zE} {d : Nat} {h : zS} {Q : zS → Prop} {k0 : Nat} {k1 : Nat} (hk0 : isEarnest k0) (hk1 : isCity k1) (H : zWv E (d + 1) m_X1_chooseAnew 4 [vo k0, vo k1, vi 0, vi 0, vn] h Q) : zCv E (d + 1) m_X1_chooseAnew [vo k0, vo k1] h Q := by
  show zAt E (d + 1) 0 0 m_X1_chooseAnew 0 [vo k0, vo k1, vn, vn, vn] [] g0 h (zPv Q)
  refine a_iconst (pc := 0) dX1_chooseAnew_0 (by decide) ?_
  refine a_istore_n (pc := 1) (ls' := [vo k0, vo k1, vi 0, vn, vn]) dX1_chooseAnew_1 rfl rfl ?_
  refine a_iconst (pc := 2) dX1_chooseAnew_2 (by decide) ?_
  refine a_istore_n (pc := 3) (ls' := [vo k0, vo k1, vi 0, vi 0, vn]) dX1_chooseAnew_3 rfl rfl ?_
  exact H
set_option maxRecDepth 20000 in
theorem r_X1_chooseAnew_4 {E : zE} {d : Nat} {h : zS} {Q : zS → Prop} {k0 : Nat} {k1 : Nat} {x2 : Int} {x3 : Int} (hk0 : isEarnest k0) (hk1 : isCity k1) (H : (((hI h (k0 + 3) 0) ≤ x3 → (Q h)) ∧ (x3 < (hI h (k0 + 3) 0) → ((0 ≤ x3 ∧ x3 < 12) ∧ ∀ y2 : Int, y2 = hI h (k0 + 3 + 4) x3.toNat → zCi E d m_X8_isHeld [vo (k0 + 3), vi x3] h (fun y4 h3 => ((y4 = 0 → (zWv E (d + 1) m_X1_chooseAnew 4 [vo k0, vo k1, vi x2, vi (w32 (x3 + 1)), vn] h3 Q)) ∧ (y4 ≠ 0 → ((y2 = (-1) → ((x2 ≠ 0 → (zCv E d m_X1_choose [vo k0, vo k1, vi x3] h3 (fun h5 => zWv E (d + 1) m_X1_chooseAnew 4 [vo k0, vo k1, vi x2, vi (w32 (x3 + 1)), vn] h5 Q))) ∧ (x2 = 0 → (zCv E d m_X1_measure [vo k0, vo k1] h3 (fun h6 => zCv E d m_X1_choose [vo k0, vo k1, vi x3] h6 (fun h7 => zWv E (d + 1) m_X1_chooseAnew 4 [vo k0, vo k1, vi 1, vi (w32 (x3 + 1)), vn] h7 Q)))))) ∧ (y2 ≠ (-1) → (zCi E d m_X4_isThere [vo (k0 + 1), vi y2] h3 (fun y9 h8 => ((y9 ≠ 0 → (zWv E (d + 1) m_X1_chooseAnew 4 [vo k0, vo k1, vi x2, vi (w32 (x3 + 1)), vn] h8 Q)) ∧ (y9 = 0 → ((x2 ≠ 0 → (zCv E d m_X1_choose [vo k0, vo k1, vi x3] h8 (fun h10 => zWv E (d + 1) m_X1_chooseAnew 4 [vo k0, vo k1, vi x2, vi (w32 (x3 + 1)), vn] h10 Q))) ∧ (x2 = 0 → (zCv E d m_X1_measure [vo k0, vo k1] h8 (fun h11 => zCv E d m_X1_choose [vo k0, vo k1, vi x3] h11 (fun h12 => zWv E (d + 1) m_X1_chooseAnew 4 [vo k0, vo k1, vi 1, vi (w32 (x3 + 1)), vn] h12 Q)))))))))))))))))) : zWv E (d + 1) m_X1_chooseAnew 4 [vo k0, vo k1, vi x2, vi x3, vn] h Q := by
  refine a_iload_n (pc := 4) dX1_chooseAnew_4 rfl ?_
  refine a_aload_n (pc := 5) dX1_chooseAnew_5 rfl ?_
  refine a_getF (pc := 6) dX1_chooseAnew_6 fl_X1_21 (goEarnest hk0) (gfEarnest_2 hk0) ?_
  refine a_getI (pc := 9) dX1_chooseAnew_9 fl_X1_43 (goThings (giEarnest_2 hk0)) ?_
  refine a_icmp_ge (pc := 12) (tgt := 78) dX1_chooseAnew_12 (by decide) (fun c => ?_) (fun c => ?_)
  · have H := H.1 c
    exact a_return (pc := 78) dX1_chooseAnew_78 trivial ⟨rfl, rfl, H⟩
  · have H := H.2 c
    refine a_aload_n (pc := 15) dX1_chooseAnew_15 rfl ?_
    refine a_getF (pc := 16) dX1_chooseAnew_16 fl_X1_21 (goEarnest hk0) (gfEarnest_2 hk0) ?_
    refine a_getG (pc := 19) dX1_chooseAnew_19 fl_X1_107 rfl (goThings (giEarnest_2 hk0)) (gfThings_4 (giEarnest_2 hk0)) ?_
    refine a_iload_n (pc := 22) dX1_chooseAnew_22 rfl ?_
    obtain ⟨hb1, H⟩ := H
    refine a_iaload (pc := 23) dX1_chooseAnew_23 (gaThings_4 (giEarnest_2 hk0)) hb1 ?_
    have H := H _ rfl
    generalize (hI h (k0 + 3 + 4) x3.toNat : Int) = y2 at H ⊢
    refine a_istore (pc := 24) (ls' := [vo k0, vo k1, vi x2, vi x3, vi y2]) dX1_chooseAnew_24 rfl rfl ?_
    refine a_aload_n (pc := 26) dX1_chooseAnew_26 rfl ?_
    refine a_getF (pc := 27) dX1_chooseAnew_27 fl_X1_21 (goEarnest hk0) (gfEarnest_2 hk0) ?_
    refine a_iload_n (pc := 30) dX1_chooseAnew_30 rfl ?_
    refine a_callV (pc := 31) (kc := 0) (ks := 0) (kc' := 0) (ks' := 0) (st := []) [vi x3] dX1_chooseAnew_31 ml_X1_81 (goThings (giEarnest_2 hk0)) rfl (Nat.le_of_ble_eq_true rfl) (Nat.le_of_ble_eq_true rfl) (z_post H (fun r G1 h3 q => ?_))
    obtain ⟨y4, rfl, rfl, H⟩ := q
    show zAt E (d + 1) 0 0 m_X1_chooseAnew 34 [vo k0, vo k1, vi x2, vi x3, vi y2] [vi y4] g0 h3 (zPv Q)
    refine a_if_eq (pc := 34) (tgt := 72) dX1_chooseAnew_34 (by decide) (fun c => ?_) (fun c => ?_)
    · have H := H.1 c
      refine a_iinc (pc := 72) (ls' := [vo k0, vo k1, vi x2, vi (w32 (x3 + 1)), vi y2]) dX1_chooseAnew_72 rfl rfl rfl ?_
      refine a_goto (pc := 75) (tgt := 4) dX1_chooseAnew_75 (by decide) ?_
      exact z_forget (ls' := [vo k0, vo k1, vi x2, vi (w32 (x3 + 1)), vn]) ⟨.inr rfl, .inr rfl, .inr rfl, .inr rfl, .inl rfl, trivial⟩ H
    · have H := H.2 c
      refine a_iload (pc := 37) dX1_chooseAnew_37 rfl ?_
      refine a_iconst (pc := 39) dX1_chooseAnew_39 (by decide) ?_
      refine a_icmp_eq (pc := 40) (tgt := 55) dX1_chooseAnew_40 (by decide) (fun c => ?_) (fun c => ?_)
      · have H := H.1 c
        refine a_iload_n (pc := 55) dX1_chooseAnew_55 rfl ?_
        refine a_if_ne (pc := 56) (tgt := 66) dX1_chooseAnew_56 (by decide) (fun c => ?_) (fun c => ?_)
        · have H := H.1 c
          refine a_aload_n (pc := 66) dX1_chooseAnew_66 rfl ?_
          refine a_aload_n (pc := 67) dX1_chooseAnew_67 rfl ?_
          refine a_iload_n (pc := 68) dX1_chooseAnew_68 rfl ?_
          refine a_callV (pc := 69) (kc := 0) (ks := 0) (kc' := 0) (ks' := 0) (st := []) [vo k1, vi x3] dX1_chooseAnew_69 ml_X1_87 (goEarnest hk0) rfl (Nat.le_of_ble_eq_true rfl) (Nat.le_of_ble_eq_true rfl) (z_post H (fun r G1 h5 q => ?_))
          obtain ⟨rfl, rfl, H⟩ := q
          show zAt E (d + 1) 0 0 m_X1_chooseAnew 72 [vo k0, vo k1, vi x2, vi x3, vi y2] [] g0 h5 (zPv Q)
          refine a_iinc (pc := 72) (ls' := [vo k0, vo k1, vi x2, vi (w32 (x3 + 1)), vi y2]) dX1_chooseAnew_72 rfl rfl rfl ?_
          refine a_goto (pc := 75) (tgt := 4) dX1_chooseAnew_75 (by decide) ?_
          exact z_forget (ls' := [vo k0, vo k1, vi x2, vi (w32 (x3 + 1)), vn]) ⟨.inr rfl, .inr rfl, .inr rfl, .inr rfl, .inl rfl, trivial⟩ H
        · have H := H.2 c
          refine a_aload_n (pc := 59) dX1_chooseAnew_59 rfl ?_
          refine a_aload_n (pc := 60) dX1_chooseAnew_60 rfl ?_
          refine a_callV (pc := 61) (kc := 0) (ks := 0) (kc' := 0) (ks' := 0) (st := []) [vo k1] dX1_chooseAnew_61 ml_X1_84 (goEarnest hk0) rfl (Nat.le_of_ble_eq_true rfl) (Nat.le_of_ble_eq_true rfl) (z_post H (fun r G1 h6 q => ?_))
          obtain ⟨rfl, rfl, H⟩ := q
          show zAt E (d + 1) 0 0 m_X1_chooseAnew 64 [vo k0, vo k1, vi x2, vi x3, vi y2] [] g0 h6 (zPv Q)
          refine a_iconst (pc := 64) dX1_chooseAnew_64 (by decide) ?_
          refine a_istore_n (pc := 65) (ls' := [vo k0, vo k1, vi 1, vi x3, vi y2]) dX1_chooseAnew_65 rfl rfl ?_
          refine a_aload_n (pc := 66) dX1_chooseAnew_66 rfl ?_
          refine a_aload_n (pc := 67) dX1_chooseAnew_67 rfl ?_
          refine a_iload_n (pc := 68) dX1_chooseAnew_68 rfl ?_
          refine a_callV (pc := 69) (kc := 0) (ks := 0) (kc' := 0) (ks' := 0) (st := []) [vo k1, vi x3] dX1_chooseAnew_69 ml_X1_87 (goEarnest hk0) rfl (Nat.le_of_ble_eq_true rfl) (Nat.le_of_ble_eq_true rfl) (z_post H (fun r G1 h7 q => ?_))
          obtain ⟨rfl, rfl, H⟩ := q
          show zAt E (d + 1) 0 0 m_X1_chooseAnew 72 [vo k0, vo k1, vi 1, vi x3, vi y2] [] g0 h7 (zPv Q)
          refine a_iinc (pc := 72) (ls' := [vo k0, vo k1, vi 1, vi (w32 (x3 + 1)), vi y2]) dX1_chooseAnew_72 rfl rfl rfl ?_
          refine a_goto (pc := 75) (tgt := 4) dX1_chooseAnew_75 (by decide) ?_
          exact z_forget (ls' := [vo k0, vo k1, vi 1, vi (w32 (x3 + 1)), vn]) ⟨.inr rfl, .inr rfl, .inr rfl, .inr rfl, .inl rfl, trivial⟩ H
      · have H := H.2 c
        refine a_aload_n (pc := 43) dX1_chooseAnew_43 rfl ?_
        refine a_getF (pc := 44) dX1_chooseAnew_44 fl_X1_12 (goEarnest hk0) (gfEarnest_1 hk0) ?_
        refine a_iload (pc := 47) dX1_chooseAnew_47 rfl ?_
        refine a_callV (pc := 49) (kc := 0) (ks := 0) (kc' := 0) (ks' := 0) (st := []) [vi y2] dX1_chooseAnew_49 ml_X1_70 (goFate (giEarnest_1 hk0)) rfl (Nat.le_of_ble_eq_true rfl) (Nat.le_of_ble_eq_true rfl) (z_post H (fun r G1 h8 q => ?_))
        obtain ⟨y9, rfl, rfl, H⟩ := q
        show zAt E (d + 1) 0 0 m_X1_chooseAnew 52 [vo k0, vo k1, vi x2, vi x3, vi y2] [vi y9] g0 h8 (zPv Q)
        refine a_if_ne (pc := 52) (tgt := 72) dX1_chooseAnew_52 (by decide) (fun c => ?_) (fun c => ?_)
        · have H := H.1 c
          refine a_iinc (pc := 72) (ls' := [vo k0, vo k1, vi x2, vi (w32 (x3 + 1)), vi y2]) dX1_chooseAnew_72 rfl rfl rfl ?_
          refine a_goto (pc := 75) (tgt := 4) dX1_chooseAnew_75 (by decide) ?_
          exact z_forget (ls' := [vo k0, vo k1, vi x2, vi (w32 (x3 + 1)), vn]) ⟨.inr rfl, .inr rfl, .inr rfl, .inr rfl, .inl rfl, trivial⟩ H
        · have H := H.2 c
          refine a_iload_n (pc := 55) dX1_chooseAnew_55 rfl ?_
          refine a_if_ne (pc := 56) (tgt := 66) dX1_chooseAnew_56 (by decide) (fun c => ?_) (fun c => ?_)
          · have H := H.1 c
            refine a_aload_n (pc := 66) dX1_chooseAnew_66 rfl ?_
            refine a_aload_n (pc := 67) dX1_chooseAnew_67 rfl ?_
            refine a_iload_n (pc := 68) dX1_chooseAnew_68 rfl ?_
            refine a_callV (pc := 69) (kc := 0) (ks := 0) (kc' := 0) (ks' := 0) (st := []) [vo k1, vi x3] dX1_chooseAnew_69 ml_X1_87 (goEarnest hk0) rfl (Nat.le_of_ble_eq_true rfl) (Nat.le_of_ble_eq_true rfl) (z_post H (fun r G1 h10 q => ?_))
            obtain ⟨rfl, rfl, H⟩ := q
            show zAt E (d + 1) 0 0 m_X1_chooseAnew 72 [vo k0, vo k1, vi x2, vi x3, vi y2] [] g0 h10 (zPv Q)
            refine a_iinc (pc := 72) (ls' := [vo k0, vo k1, vi x2, vi (w32 (x3 + 1)), vi y2]) dX1_chooseAnew_72 rfl rfl rfl ?_
            refine a_goto (pc := 75) (tgt := 4) dX1_chooseAnew_75 (by decide) ?_
            exact z_forget (ls' := [vo k0, vo k1, vi x2, vi (w32 (x3 + 1)), vn]) ⟨.inr rfl, .inr rfl, .inr rfl, .inr rfl, .inl rfl, trivial⟩ H
          · have H := H.2 c
            refine a_aload_n (pc := 59) dX1_chooseAnew_59 rfl ?_
            refine a_aload_n (pc := 60) dX1_chooseAnew_60 rfl ?_
            refine a_callV (pc := 61) (kc := 0) (ks := 0) (kc' := 0) (ks' := 0) (st := []) [vo k1] dX1_chooseAnew_61 ml_X1_84 (goEarnest hk0) rfl (Nat.le_of_ble_eq_true rfl) (Nat.le_of_ble_eq_true rfl) (z_post H (fun r G1 h11 q => ?_))
            obtain ⟨rfl, rfl, H⟩ := q
            show zAt E (d + 1) 0 0 m_X1_chooseAnew 64 [vo k0, vo k1, vi x2, vi x3, vi y2] [] g0 h11 (zPv Q)
            refine a_iconst (pc := 64) dX1_chooseAnew_64 (by decide) ?_
            refine a_istore_n (pc := 65) (ls' := [vo k0, vo k1, vi 1, vi x3, vi y2]) dX1_chooseAnew_65 rfl rfl ?_
            refine a_aload_n (pc := 66) dX1_chooseAnew_66 rfl ?_
            refine a_aload_n (pc := 67) dX1_chooseAnew_67 rfl ?_
            refine a_iload_n (pc := 68) dX1_chooseAnew_68 rfl ?_
            refine a_callV (pc := 69) (kc := 0) (ks := 0) (kc' := 0) (ks' := 0) (st := []) [vo k1, vi x3] dX1_chooseAnew_69 ml_X1_87 (goEarnest hk0) rfl (Nat.le_of_ble_eq_true rfl) (Nat.le_of_ble_eq_true rfl) (z_post H (fun r G1 h12 q => ?_))
            obtain ⟨rfl, rfl, H⟩ := q
            show zAt E (d + 1) 0 0 m_X1_chooseAnew 72 [vo k0, vo k1, vi 1, vi x3, vi y2] [] g0 h12 (zPv Q)
            refine a_iinc (pc := 72) (ls' := [vo k0, vo k1, vi 1, vi (w32 (x3 + 1)), vi y2]) dX1_chooseAnew_72 rfl rfl rfl ?_
            refine a_goto (pc := 75) (tgt := 4) dX1_chooseAnew_75 (by decide) ?_
            exact z_forget (ls' := [vo k0, vo k1, vi 1, vi (w32 (x3 + 1)), vn]) ⟨.inr rfl, .inr rfl, .inr rfl, .inr rfl, .inl rfl, trivial⟩ H
set_option maxRecDepth 20000 in
theorem v_X1_measure {E : zE} {d : Nat} {h : zS} {Q : zS → Prop} {k0 : Nat} {k1 : Nat} (hk0 : isEarnest k0) (hk1 : isCity k1) (H : zCv E d m_J7_fill_53178 [vo (k0 + 11), vi 1000000] h (fun h1 => zCi E d m_X0_has [vo k1, vi (hI h1 k1 3)] h1 (fun y3 h2 => ((y3 = 0 → (Q h2)) ∧ (y3 ≠ 0 → (zCi E d m_X4_isThere [vo (k0 + 1), vi (hI h2 k1 3)] h2 (fun y5 h4 => ((y5 ≠ 0 → ((0 ≤ hI h4 k1 3 ∧ hI h4 k1 3 < 12) ∧ ∀ h7, h7 = stI h4 (k0 + 11) (hI h4 k1 3).toNat 0 → zWv E (d + 1) m_X1_measure 49 [vo k0, vo k1, vi 1, vi 0, vn, vn] h7 Q)) ∧ (y5 = 0 → (Q h4)))))))))) : zCv E (d + 1) m_X1_measure [vo k0, vo k1] h Q := by
  show zAt E (d + 1) 0 0 m_X1_measure 0 [vo k0, vo k1, vn, vn, vn, vn] [] g0 h (zPv Q)
  refine a_aload_n (pc := 0) dX1_measure_0 rfl ?_
  refine a_getF (pc := 1) dX1_measure_1 fl_X1_32 (goEarnest hk0) (gfEarnest_5 hk0) ?_
  refine a_ldc (pc := 4) dX1_measure_4 cl_X1_120 (by decide) ?_
  refine a_callS (pc := 6) (kc := 0) (ks := 0) (kc' := 0) (ks' := 0) (st := []) [vo (k0 + 11), vi 1000000] dX1_measure_6 ml_X1_121 rfl (Nat.le_of_ble_eq_true rfl) (Nat.le_of_ble_eq_true rfl) (z_post H (fun r G1 h1 q => ?_))
  obtain ⟨rfl, rfl, H⟩ := q
  show zAt E (d + 1) 0 0 m_X1_measure 9 [vo k0, vo k1, vn, vn, vn, vn] [] g0 h1 (zPv Q)
  refine a_aload_n (pc := 9) dX1_measure_9 rfl ?_
  refine a_aload_n (pc := 10) dX1_measure_10 rfl ?_
  refine a_getI (pc := 11) dX1_measure_11 fl_X1_127 (goCity hk1) ?_
  refine a_callV (pc := 14) (kc := 0) (ks := 0) (kc' := 0) (ks' := 0) (st := []) [vi (hI h1 k1 3)] dX1_measure_14 ml_X1_66 (goCity hk1) rfl (Nat.le_of_ble_eq_true rfl) (Nat.le_of_ble_eq_true rfl) (z_post H (fun r G1 h2 q => ?_))
  obtain ⟨y3, rfl, rfl, H⟩ := q
  show zAt E (d + 1) 0 0 m_X1_measure 17 [vo k0, vo k1, vn, vn, vn, vn] [vi y3] g0 h2 (zPv Q)
  refine a_if_eq (pc := 17) (tgt := 34) dX1_measure_17 (by decide) (fun c => ?_) (fun c => ?_)
  · have H := H.1 c
    exact a_return (pc := 34) dX1_measure_34 trivial ⟨rfl, rfl, H⟩
  · have H := H.2 c
    refine a_aload_n (pc := 20) dX1_measure_20 rfl ?_
    refine a_getF (pc := 21) dX1_measure_21 fl_X1_12 (goEarnest hk0) (gfEarnest_1 hk0) ?_
    refine a_aload_n (pc := 24) dX1_measure_24 rfl ?_
    refine a_getI (pc := 25) dX1_measure_25 fl_X1_127 (goCity hk1) ?_
    refine a_callV (pc := 28) (kc := 0) (ks := 0) (kc' := 0) (ks' := 0) (st := []) [vi (hI h2 k1 3)] dX1_measure_28 ml_X1_70 (goFate (giEarnest_1 hk0)) rfl (Nat.le_of_ble_eq_true rfl) (Nat.le_of_ble_eq_true rfl) (z_post H (fun r G1 h4 q => ?_))
    obtain ⟨y5, rfl, rfl, H⟩ := q
    show zAt E (d + 1) 0 0 m_X1_measure 31 [vo k0, vo k1, vn, vn, vn, vn] [vi y5] g0 h4 (zPv Q)
    refine a_if_ne (pc := 31) (tgt := 35) dX1_measure_31 (by decide) (fun c => ?_) (fun c => ?_)
    · have H := H.1 c
      refine a_aload_n (pc := 35) dX1_measure_35 rfl ?_
      refine a_getF (pc := 36) dX1_measure_36 fl_X1_32 (goEarnest hk0) (gfEarnest_5 hk0) ?_
      refine a_aload_n (pc := 39) dX1_measure_39 rfl ?_
      refine a_getI (pc := 40) dX1_measure_40 fl_X1_127 (goCity hk1) ?_
      refine a_iconst (pc := 43) dX1_measure_43 (by decide) ?_
      obtain ⟨hb6, H⟩ := H
      refine a_iastore (pc := 44) dX1_measure_44 (gaEarnest_5 hk0) hb6 ?_
      have H := H _ rfl
      generalize stI h4 (k0 + 11) (hI h4 k1 3).toNat 0 = h7 at H ⊢
      refine a_iconst (pc := 45) dX1_measure_45 (by decide) ?_
      refine a_istore_n (pc := 46) (ls' := [vo k0, vo k1, vi 1, vn, vn, vn]) dX1_measure_46 rfl rfl ?_
      refine a_iconst (pc := 47) dX1_measure_47 (by decide) ?_
      refine a_istore_n (pc := 48) (ls' := [vo k0, vo k1, vi 1, vi 0, vn, vn]) dX1_measure_48 rfl rfl ?_
      exact H
    · have H := H.2 c
      exact a_return (pc := 34) dX1_measure_34 trivial ⟨rfl, rfl, H⟩
set_option maxRecDepth 20000 in
theorem r_X1_measure_49 {E : zE} {d : Nat} {h : zS} {Q : zS → Prop} {k0 : Nat} {k1 : Nat} {x2 : Int} {x3 : Int} (hk0 : isEarnest k0) (hk1 : isCity k1) (H : ((12 ≤ x3 → (Q h)) ∧ (x3 < 12 → ((x2 = 0 → (Q h)) ∧ (x2 ≠ 0 → (zWv E (d + 1) m_X1_measure 64 [vo k0, vo k1, vi 0, vi x3, vi 0, vn] h Q)))))) : zWv E (d + 1) m_X1_measure 49 [vo k0, vo k1, vi x2, vi x3, vn, vn] h Q := by
  refine a_iload_n (pc := 49) dX1_measure_49 rfl ?_
  refine a_bipush (pc := 50) dX1_measure_50 (by decide) ?_
  refine a_icmp_ge (pc := 52) (tgt := 134) dX1_measure_52 (by decide) (fun c => ?_) (fun c => ?_)
  · have H := H.1 c
    exact a_return (pc := 134) dX1_measure_134 trivial ⟨rfl, rfl, H⟩
  · have H := H.2 c
    refine a_iload_n (pc := 55) dX1_measure_55 rfl ?_
    refine a_if_eq (pc := 56) (tgt := 134) dX1_measure_56 (by decide) (fun c => ?_) (fun c => ?_)
    · have H := H.1 c
      exact a_return (pc := 134) dX1_measure_134 trivial ⟨rfl, rfl, H⟩
    · have H := H.2 c
      refine a_iconst (pc := 59) dX1_measure_59 (by decide) ?_
      refine a_istore_n (pc := 60) (ls' := [vo k0, vo k1, vi 0, vi x3, vn, vn]) dX1_measure_60 rfl rfl ?_
      refine a_iconst (pc := 61) dX1_measure_61 (by decide) ?_
      refine a_istore (pc := 62) (ls' := [vo k0, vo k1, vi 0, vi x3, vi 0, vn]) dX1_measure_62 rfl rfl ?_
      exact H
set_option maxRecDepth 20000 in
theorem r_X1_measure_64 {E : zE} {d : Nat} {h : zS} {Q : zS → Prop} {k0 : Nat} {k1 : Nat} {x2 : Int} {x3 : Int} {x4 : Int} (hk0 : isEarnest k0) (hk1 : isCity k1) (H : (((hI h k1 0) ≤ x4 → (zWv E (d + 1) m_X1_measure 49 [vo k0, vo k1, vi x2, vi (w32 (x3 + 1)), vn, vn] h Q)) ∧ (x4 < (hI h k1 0) → (zCi E d m_X4_isThere [vo (k0 + 1), vi x4] h (fun y2 h1 => ((y2 = 0 → ((0 ≤ x4 ∧ x4 < 12) ∧ (((hI h1 (k0 + 11) x4.toNat) ≤ 1000000 → (zWv E (d + 1) m_X1_measure 64 [vo k0, vo k1, vi x2, vi x3, vi (w32 (x4 + 1)), vn] h1 Q)) ∧ (1000000 < (hI h1 (k0 + 11) x4.toNat) → (∀ h4, h4 = stI h1 (k0 + 11) x4.toNat 1000000 → zWv E (d + 1) m_X1_measure 64 [vo k0, vo k1, vi 1, vi x3, vi (w32 (x4 + 1)), vn] h4 Q))))) ∧ (y2 ≠ 0 → (zCi E d m_X1_leastBy [vo k0, vo k1, vi x4] h1 (fun y6 h5 => (0 ≤ x4 ∧ x4 < 12) ∧ (((hI h5 (k0 + 11) x4.toNat) ≤ y6 → (zWv E (d + 1) m_X1_measure 64 [vo k0, vo k1, vi x2, vi x3, vi (w32 (x4 + 1)), vn] h5 Q)) ∧ (y6 < (hI h5 (k0 + 11) x4.toNat) → (∀ h8, h8 = stI h5 (k0 + 11) x4.toNat y6 → zWv E (d + 1) m_X1_measure 64 [vo k0, vo k1, vi 1, vi x3, vi (w32 (x4 + 1)), vn] h8 Q)))))))))))) : zWv E (d + 1) m_X1_measure 64 [vo k0, vo k1, vi x2, vi x3, vi x4, vn] h Q := by
  refine a_iload (pc := 64) dX1_measure_64 rfl ?_
  refine a_aload_n (pc := 66) dX1_measure_66 rfl ?_
  refine a_getI (pc := 67) dX1_measure_67 fl_X1_130 (goCity hk1) ?_
  refine a_icmp_ge (pc := 70) (tgt := 128) dX1_measure_70 (by decide) (fun c => ?_) (fun c => ?_)
  · have H := H.1 c
    refine a_iinc (pc := 128) (ls' := [vo k0, vo k1, vi x2, vi (w32 (x3 + 1)), vi x4, vn]) dX1_measure_128 rfl rfl rfl ?_
    refine a_goto (pc := 131) (tgt := 49) dX1_measure_131 (by decide) ?_
    exact z_forget (ls' := [vo k0, vo k1, vi x2, vi (w32 (x3 + 1)), vn, vn]) ⟨.inr rfl, .inr rfl, .inr rfl, .inr rfl, .inl rfl, .inr rfl, trivial⟩ H
  · have H := H.2 c
    refine a_aload_n (pc := 73) dX1_measure_73 rfl ?_
    refine a_getF (pc := 74) dX1_measure_74 fl_X1_12 (goEarnest hk0) (gfEarnest_1 hk0) ?_
    refine a_iload (pc := 77) dX1_measure_77 rfl ?_
    refine a_callV (pc := 79) (kc := 0) (ks := 0) (kc' := 0) (ks' := 0) (st := []) [vi x4] dX1_measure_79 ml_X1_70 (goFate (giEarnest_1 hk0)) rfl (Nat.le_of_ble_eq_true rfl) (Nat.le_of_ble_eq_true rfl) (z_post H (fun r G1 h1 q => ?_))
    obtain ⟨y2, rfl, rfl, H⟩ := q
    show zAt E (d + 1) 0 0 m_X1_measure 82 [vo k0, vo k1, vi x2, vi x3, vi x4, vn] [vi y2] g0 h1 (zPv Q)
    refine a_if_eq (pc := 82) (tgt := 95) dX1_measure_82 (by decide) (fun c => ?_) (fun c => ?_)
    · have H := H.1 c
      refine a_ldc (pc := 95) dX1_measure_95 cl_X1_120 (by decide) ?_
      refine a_istore (pc := 97) (ls' := [vo k0, vo k1, vi x2, vi x3, vi x4, vi 1000000]) dX1_measure_97 rfl rfl ?_
      refine a_iload (pc := 99) dX1_measure_99 rfl ?_
      refine a_aload_n (pc := 101) dX1_measure_101 rfl ?_
      refine a_getF (pc := 102) dX1_measure_102 fl_X1_32 (goEarnest hk0) (gfEarnest_5 hk0) ?_
      refine a_iload (pc := 105) dX1_measure_105 rfl ?_
      obtain ⟨hb3, H⟩ := H
      refine a_iaload (pc := 107) dX1_measure_107 (gaEarnest_5 hk0) hb3 ?_
      refine a_icmp_ge (pc := 108) (tgt := 122) dX1_measure_108 (by decide) (fun c => ?_) (fun c => ?_)
      · have H := H.1 c
        refine a_iinc (pc := 122) (ls' := [vo k0, vo k1, vi x2, vi x3, vi (w32 (x4 + 1)), vi 1000000]) dX1_measure_122 rfl rfl rfl ?_
        refine a_goto (pc := 125) (tgt := 64) dX1_measure_125 (by decide) ?_
        exact z_forget (ls' := [vo k0, vo k1, vi x2, vi x3, vi (w32 (x4 + 1)), vn]) ⟨.inr rfl, .inr rfl, .inr rfl, .inr rfl, .inr rfl, .inl rfl, trivial⟩ H
      · have H := H.2 c
        refine a_aload_n (pc := 111) dX1_measure_111 rfl ?_
        refine a_getF (pc := 112) dX1_measure_112 fl_X1_32 (goEarnest hk0) (gfEarnest_5 hk0) ?_
        refine a_iload (pc := 115) dX1_measure_115 rfl ?_
        refine a_iload (pc := 117) dX1_measure_117 rfl ?_
        refine a_iastore (pc := 119) dX1_measure_119 (gaEarnest_5 hk0) hb3 ?_
        have H := H _ rfl
        generalize stI h1 (k0 + 11) x4.toNat 1000000 = h4 at H ⊢
        refine a_iconst (pc := 120) dX1_measure_120 (by decide) ?_
        refine a_istore_n (pc := 121) (ls' := [vo k0, vo k1, vi 1, vi x3, vi x4, vi 1000000]) dX1_measure_121 rfl rfl ?_
        refine a_iinc (pc := 122) (ls' := [vo k0, vo k1, vi 1, vi x3, vi (w32 (x4 + 1)), vi 1000000]) dX1_measure_122 rfl rfl rfl ?_
        refine a_goto (pc := 125) (tgt := 64) dX1_measure_125 (by decide) ?_
        exact z_forget (ls' := [vo k0, vo k1, vi 1, vi x3, vi (w32 (x4 + 1)), vn]) ⟨.inr rfl, .inr rfl, .inr rfl, .inr rfl, .inr rfl, .inl rfl, trivial⟩ H
    · have H := H.2 c
      refine a_aload_n (pc := 85) dX1_measure_85 rfl ?_
      refine a_aload_n (pc := 86) dX1_measure_86 rfl ?_
      refine a_iload (pc := 87) dX1_measure_87 rfl ?_
      refine a_callV (pc := 89) (kc := 0) (ks := 0) (kc' := 0) (ks' := 0) (st := []) [vo k1, vi x4] dX1_measure_89 ml_X1_133 (goEarnest hk0) rfl (Nat.le_of_ble_eq_true rfl) (Nat.le_of_ble_eq_true rfl) (z_post H (fun r G1 h5 q => ?_))
      obtain ⟨y6, rfl, rfl, H⟩ := q
      show zAt E (d + 1) 0 0 m_X1_measure 92 [vo k0, vo k1, vi x2, vi x3, vi x4, vn] [vi y6] g0 h5 (zPv Q)
      refine a_goto (pc := 92) (tgt := 97) dX1_measure_92 (by decide) ?_
      refine a_istore (pc := 97) (ls' := [vo k0, vo k1, vi x2, vi x3, vi x4, vi y6]) dX1_measure_97 rfl rfl ?_
      refine a_iload (pc := 99) dX1_measure_99 rfl ?_
      refine a_aload_n (pc := 101) dX1_measure_101 rfl ?_
      refine a_getF (pc := 102) dX1_measure_102 fl_X1_32 (goEarnest hk0) (gfEarnest_5 hk0) ?_
      refine a_iload (pc := 105) dX1_measure_105 rfl ?_
      obtain ⟨hb7, H⟩ := H
      refine a_iaload (pc := 107) dX1_measure_107 (gaEarnest_5 hk0) hb7 ?_
      refine a_icmp_ge (pc := 108) (tgt := 122) dX1_measure_108 (by decide) (fun c => ?_) (fun c => ?_)
      · have H := H.1 c
        refine a_iinc (pc := 122) (ls' := [vo k0, vo k1, vi x2, vi x3, vi (w32 (x4 + 1)), vi y6]) dX1_measure_122 rfl rfl rfl ?_
        refine a_goto (pc := 125) (tgt := 64) dX1_measure_125 (by decide) ?_
        exact z_forget (ls' := [vo k0, vo k1, vi x2, vi x3, vi (w32 (x4 + 1)), vn]) ⟨.inr rfl, .inr rfl, .inr rfl, .inr rfl, .inr rfl, .inl rfl, trivial⟩ H
      · have H := H.2 c
        refine a_aload_n (pc := 111) dX1_measure_111 rfl ?_
        refine a_getF (pc := 112) dX1_measure_112 fl_X1_32 (goEarnest hk0) (gfEarnest_5 hk0) ?_
        refine a_iload (pc := 115) dX1_measure_115 rfl ?_
        refine a_iload (pc := 117) dX1_measure_117 rfl ?_
        refine a_iastore (pc := 119) dX1_measure_119 (gaEarnest_5 hk0) hb7 ?_
        have H := H _ rfl
        generalize stI h5 (k0 + 11) x4.toNat y6 = h8 at H ⊢
        refine a_iconst (pc := 120) dX1_measure_120 (by decide) ?_
        refine a_istore_n (pc := 121) (ls' := [vo k0, vo k1, vi 1, vi x3, vi x4, vi y6]) dX1_measure_121 rfl rfl ?_
        refine a_iinc (pc := 122) (ls' := [vo k0, vo k1, vi 1, vi x3, vi (w32 (x4 + 1)), vi y6]) dX1_measure_122 rfl rfl rfl ?_
        refine a_goto (pc := 125) (tgt := 64) dX1_measure_125 (by decide) ?_
        exact z_forget (ls' := [vo k0, vo k1, vi 1, vi x3, vi (w32 (x4 + 1)), vn]) ⟨.inr rfl, .inr rfl, .inr rfl, .inr rfl, .inr rfl, .inl rfl, trivial⟩ H
set_option maxRecDepth 20000 in
theorem v_X1_leastBy {E : zE} {d : Nat} {h : zS} {Q : Int → zS → Prop} {k0 : Nat} {k1 : Nat} {x2 : Int} (hk0 : isEarnest k0) (hk1 : isCity k1) (H : zWi E (d + 1) m_X1_leastBy 6 [vo k0, vo k1, vi x2, vi 1000000, vi 0] h Q) : zCi E (d + 1) m_X1_leastBy [vo k0, vo k1, vi x2] h Q := by
  show zAt E (d + 1) 0 0 m_X1_leastBy 0 [vo k0, vo k1, vi x2, vn, vn] [] g0 h (zPi Q)
  refine a_ldc (pc := 0) dX1_leastBy_0 cl_X1_120 (by decide) ?_
  refine a_istore_n (pc := 2) (ls' := [vo k0, vo k1, vi x2, vi 1000000, vn]) dX1_leastBy_2 rfl rfl ?_
  refine a_iconst (pc := 3) dX1_leastBy_3 (by decide) ?_
  refine a_istore (pc := 4) (ls' := [vo k0, vo k1, vi x2, vi 1000000, vi 0]) dX1_leastBy_4 rfl rfl ?_
  exact H
set_option maxRecDepth 20000 in
theorem r_X1_leastBy_6 {E : zE} {d : Nat} {h : zS} {Q : Int → zS → Prop} {k0 : Nat} {k1 : Nat} {x2 : Int} {x3 : Int} {x4 : Int} (hk0 : isEarnest k0) (hk1 : isCity k1) (H : (((hI h k1 0) ≤ x4 → (Q x3 h)) ∧ (x4 < (hI h k1 0) → (zCi E d m_X1_by [vo k0, vi x2, vi x4] h (fun y2 h1 => ∀ y3 : Int, y3 = (if y2 < x3 then y2 else x3) → zWi E (d + 1) m_X1_leastBy 6 [vo k0, vo k1, vi x2, vi y3, vi (w32 (x4 + 1))] h1 Q))))) : zWi E (d + 1) m_X1_leastBy 6 [vo k0, vo k1, vi x2, vi x3, vi x4] h Q := by
  refine a_iload (pc := 6) dX1_leastBy_6 rfl ?_
  refine a_aload_n (pc := 8) dX1_leastBy_8 rfl ?_
  refine a_getI (pc := 9) dX1_leastBy_9 fl_X1_130 (goCity hk1) ?_
  refine a_icmp_ge (pc := 12) (tgt := 33) dX1_leastBy_12 (by decide) (fun c => ?_) (fun c => ?_)
  · have H := H.1 c
    refine a_iload_n (pc := 33) dX1_leastBy_33 rfl ?_
    exact a_ireturn (pc := 34) dX1_leastBy_34 trivial ⟨_, rfl, rfl, H⟩
  · have H := H.2 c
    refine a_iload_n (pc := 15) dX1_leastBy_15 rfl ?_
    refine a_aload_n (pc := 16) dX1_leastBy_16 rfl ?_
    refine a_iload_n (pc := 17) dX1_leastBy_17 rfl ?_
    refine a_iload (pc := 18) dX1_leastBy_18 rfl ?_
    refine a_callV (pc := 20) (kc := 0) (ks := 0) (kc' := 0) (ks' := 0) (st := [vi x3]) [vi x2, vi x4] dX1_leastBy_20 ml_X1_137 (goEarnest hk0) rfl (Nat.le_of_ble_eq_true rfl) (Nat.le_of_ble_eq_true rfl) (z_post H (fun r G1 h1 q => ?_))
    obtain ⟨y2, rfl, rfl, H⟩ := q
    show zAt E (d + 1) 0 0 m_X1_leastBy 23 [vo k0, vo k1, vi x2, vi x3, vi x4] [vi y2, vi x3] g0 h1 (zPi Q)
    refine a_minI (pc := 23) dX1_leastBy_23 ml_X1_141 (by omega) (Nat.le_of_ble_eq_true rfl) ?_
    have H := H _ rfl
    generalize ((if y2 < x3 then y2 else x3) : Int) = y3 at H ⊢
    refine a_istore_n (pc := 26) (ls' := [vo k0, vo k1, vi x2, vi y3, vi x4]) dX1_leastBy_26 rfl rfl ?_
    refine a_iinc (pc := 27) (ls' := [vo k0, vo k1, vi x2, vi y3, vi (w32 (x4 + 1))]) dX1_leastBy_27 rfl rfl rfl ?_
    refine a_goto (pc := 30) (tgt := 6) dX1_leastBy_30 (by decide) ?_
    exact H
set_option maxRecDepth 20000 in
theorem v_X1_by {E : zE} {d : Nat} {h : zS} {Q : Int → zS → Prop} {k0 : Nat} {x1 : Int} {x2 : Int} (hk0 : isEarnest k0) (H : zCi E d m_X9_pair [vi x1, vi x2] h (fun y2 h1 => (0 ≤ y2 ∧ y2 < 144) ∧ (((hI h1 (k0 + 9) y2.toNat) ≤ 0 → (Q 1000000 h1)) ∧ (0 < (hI h1 (k0 + 9) y2.toNat) → (zCi E d m_X9_isIn [vi (hI h1 (k0 + 1) 0), vi x2] h1 (fun y5 h4 => ((y5 = 0 → (Q 1000000 h4)) ∧ (y5 ≠ 0 → ((0 ≤ x2 ∧ x2 < 12) ∧ Q (w32 ((hI h1 (k0 + 9) y2.toNat) + (hI h4 (k0 + 11) x2.toNat))) h4))))))))) : zCi E (d + 1) m_X1_by [vo k0, vi x1, vi x2] h Q := by
  show zAt E (d + 1) 0 0 m_X1_by 0 [vo k0, vi x1, vi x2, vn] [] g0 h (zPi Q)
  refine a_aload_n (pc := 0) dX1_by_0 rfl ?_
  refine a_getF (pc := 1) dX1_by_1 fl_X1_25 (goEarnest hk0) (gfEarnest_3 hk0) ?_
  refine a_iload_n (pc := 4) dX1_by_4 rfl ?_
  refine a_iload_n (pc := 5) dX1_by_5 rfl ?_
  refine a_callSN (pc := 6) (kc := 0) (ks := 0) (kc' := 0) (ks' := 0) (st := [vo (k0 + 9)]) [vi x1, vi x2] dX1_by_6 ml_X1_146 rfl (Nat.le_of_ble_eq_true rfl) (Nat.le_of_ble_eq_true rfl) (z_post H (fun r G1 h1 q => ?_))
  obtain ⟨y2, rfl, rfl, H⟩ := q
  show zAt E (d + 1) 0 0 m_X1_by 9 [vo k0, vi x1, vi x2, vn] [vi y2, vo (k0 + 9)] g0 h1 (zPi Q)
  obtain ⟨hb3, H⟩ := H
  refine a_iaload (pc := 9) dX1_by_9 (gaEarnest_3 hk0) hb3 ?_
  refine a_istore_n (pc := 10) (ls' := [vo k0, vi x1, vi x2, vi (hI h1 (k0 + 9) y2.toNat)]) dX1_by_10 rfl rfl ?_
  refine a_iload_n (pc := 11) dX1_by_11 rfl ?_
  refine a_if_le (pc := 12) (tgt := 40) dX1_by_12 (by decide) (fun c => ?_) (fun c => ?_)
  · have H := H.1 c
    refine a_ldc (pc := 40) dX1_by_40 cl_X1_120 (by decide) ?_
    exact a_ireturn (pc := 42) dX1_by_42 trivial ⟨_, rfl, rfl, H⟩
  · have H := H.2 c
    refine a_aload_n (pc := 15) dX1_by_15 rfl ?_
    refine a_getF (pc := 16) dX1_by_16 fl_X1_12 (goEarnest hk0) (gfEarnest_1 hk0) ?_
    refine a_getI (pc := 19) dX1_by_19 fl_X1_149 (goFate (giEarnest_1 hk0)) ?_
    refine a_iload_n (pc := 22) dX1_by_22 rfl ?_
    refine a_callSN (pc := 23) (kc := 0) (ks := 0) (kc' := 0) (ks' := 0) (st := []) [vi (hI h1 (k0 + 1) 0), vi x2] dX1_by_23 ml_X1_152 rfl (Nat.le_of_ble_eq_true rfl) (Nat.le_of_ble_eq_true rfl) (z_post H (fun r G1 h4 q => ?_))
    obtain ⟨y5, rfl, rfl, H⟩ := q
    show zAt E (d + 1) 0 0 m_X1_by 26 [vo k0, vi x1, vi x2, vi (hI h1 (k0 + 9) y2.toNat)] [vi y5] g0 h4 (zPi Q)
    refine a_if_eq (pc := 26) (tgt := 40) dX1_by_26 (by decide) (fun c => ?_) (fun c => ?_)
    · have H := H.1 c
      refine a_ldc (pc := 40) dX1_by_40 cl_X1_120 (by decide) ?_
      exact a_ireturn (pc := 42) dX1_by_42 trivial ⟨_, rfl, rfl, H⟩
    · have H := H.2 c
      refine a_iload_n (pc := 29) dX1_by_29 rfl ?_
      refine a_aload_n (pc := 30) dX1_by_30 rfl ?_
      refine a_getF (pc := 31) dX1_by_31 fl_X1_32 (goEarnest hk0) (gfEarnest_5 hk0) ?_
      refine a_iload_n (pc := 34) dX1_by_34 rfl ?_
      obtain ⟨hb6, H⟩ := H
      refine a_iaload (pc := 35) dX1_by_35 (gaEarnest_5 hk0) hb6 ?_
      refine a_iadd (pc := 36) dX1_by_36 ?_
      refine a_goto (pc := 37) (tgt := 42) dX1_by_37 (by decide) ?_
      exact a_ireturn (pc := 42) dX1_by_42 trivial ⟨_, rfl, rfl, H⟩
set_option maxRecDepth 20000 in
theorem v_X1_choose {E : zE} {d : Nat} {h : zS} {Q : zS → Prop} {k0 : Nat} {k1 : Nat} {x2 : Int} (hk0 : isEarnest k0) (hk1 : isCity k1) (H : (0 ≤ x2 ∧ x2 < 12) ∧ ∀ y2 : Int, y2 = hI h (k0 + 3 + 1) x2.toNat → ∀ h3, h3 = stI h (k0 + 3 + 4) x2.toNat (-1) → ∀ h4, h4 = stI h3 (k0 + 3 + 5) x2.toNat (-1) → zWv E (d + 1) m_X1_choose 37 [vo k0, vo k1, vi x2, vi y2, vi 1000000, vi 0] h4 Q) : zCv E (d + 1) m_X1_choose [vo k0, vo k1, vi x2] h Q := by
  show zAt E (d + 1) 0 0 m_X1_choose 0 [vo k0, vo k1, vi x2, vn, vn, vn] [] g0 h (zPv Q)
  refine a_aload_n (pc := 0) dX1_choose_0 rfl ?_
  refine a_getF (pc := 1) dX1_choose_1 fl_X1_21 (goEarnest hk0) (gfEarnest_2 hk0) ?_
  refine a_getG (pc := 4) dX1_choose_4 fl_X1_113 rfl (goThings (giEarnest_2 hk0)) (gfThings_1 (giEarnest_2 hk0)) ?_
  refine a_iload_n (pc := 7) dX1_choose_7 rfl ?_
  obtain ⟨hb1, H⟩ := H
  refine a_iaload (pc := 8) dX1_choose_8 (gaThings_1 (giEarnest_2 hk0)) hb1 ?_
  have H := H _ rfl
  generalize (hI h (k0 + 3 + 1) x2.toNat : Int) = y2 at H ⊢
  refine a_istore_n (pc := 9) (ls' := [vo k0, vo k1, vi x2, vi y2, vn, vn]) dX1_choose_9 rfl rfl ?_
  refine a_ldc (pc := 10) dX1_choose_10 cl_X1_120 (by decide) ?_
  refine a_istore (pc := 12) (ls' := [vo k0, vo k1, vi x2, vi y2, vi 1000000, vn]) dX1_choose_12 rfl rfl ?_
  refine a_aload_n (pc := 14) dX1_choose_14 rfl ?_
  refine a_getF (pc := 15) dX1_choose_15 fl_X1_21 (goEarnest hk0) (gfEarnest_2 hk0) ?_
  refine a_getG (pc := 18) dX1_choose_18 fl_X1_107 rfl (goThings (giEarnest_2 hk0)) (gfThings_4 (giEarnest_2 hk0)) ?_
  refine a_iload_n (pc := 21) dX1_choose_21 rfl ?_
  refine a_iconst (pc := 22) dX1_choose_22 (by decide) ?_
  refine a_iastore (pc := 23) dX1_choose_23 (gaThings_4 (giEarnest_2 hk0)) hb1 ?_
  have H := H _ rfl
  generalize stI h (k0 + 3 + 4) x2.toNat (-1) = h3 at H ⊢
  refine a_aload_n (pc := 24) dX1_choose_24 rfl ?_
  refine a_getF (pc := 25) dX1_choose_25 fl_X1_21 (goEarnest hk0) (gfEarnest_2 hk0) ?_
  refine a_getG (pc := 28) dX1_choose_28 fl_X1_110 rfl (goThings (giEarnest_2 hk0)) (gfThings_5 (giEarnest_2 hk0)) ?_
  refine a_iload_n (pc := 31) dX1_choose_31 rfl ?_
  refine a_iconst (pc := 32) dX1_choose_32 (by decide) ?_
  refine a_iastore (pc := 33) dX1_choose_33 (gaThings_5 (giEarnest_2 hk0)) hb1 ?_
  have H := H _ rfl
  generalize stI h3 (k0 + 3 + 5) x2.toNat (-1) = h4 at H ⊢
  refine a_iconst (pc := 34) dX1_choose_34 (by decide) ?_
  refine a_istore (pc := 35) (ls' := [vo k0, vo k1, vi x2, vi y2, vi 1000000, vi 0]) dX1_choose_35 rfl rfl ?_
  exact H
set_option maxRecDepth 20000 in
theorem r_X1_choose_37 {E : zE} {d : Nat} {h : zS} {Q : zS → Prop} {k0 : Nat} {k1 : Nat} {x2 : Int} {x3 : Int} {x4 : Int} {x5 : Int} (hk0 : isEarnest k0) (hk1 : isCity k1) (H : (((hI h k1 0) ≤ x5 → (Q h)) ∧ (x5 < (hI h k1 0) → (zCi E d m_X1_by [vo k0, vi x3, vi x5] h (fun y2 h1 => ((x4 ≤ y2 → (zWv E (d + 1) m_X1_choose 37 [vo k0, vo k1, vi x2, vi x3, vi x4, vi (w32 (x5 + 1))] h1 Q)) ∧ (y2 < x4 → (zCi E d m_X1_by [vo k0, vi x3, vi x5] h1 (fun y4 h3 => (0 ≤ x2 ∧ x2 < 12) ∧ ∀ h6, h6 = stI h3 (k0 + 3 + 4) x2.toNat x5 → zCi E d m_X9_pair [vi x3, vi x5] h6 (fun y8 h7 => (0 ≤ y8 ∧ y8 < 144) ∧ ∀ h10, h10 = stI h7 (k0 + 3 + 5) x2.toNat (w32 ((hI h6 k0 0) + (hI h7 (k0 + 9) y8.toNat))) → zWv E (d + 1) m_X1_choose 37 [vo k0, vo k1, vi x2, vi x3, vi y4, vi (w32 (x5 + 1))] h10 Q)))))))))) : zWv E (d + 1) m_X1_choose 37 [vo k0, vo k1, vi x2, vi x3, vi x4, vi x5] h Q := by
  refine a_iload (pc := 37) dX1_choose_37 rfl ?_
  refine a_aload_n (pc := 39) dX1_choose_39 rfl ?_
  refine a_getI (pc := 40) dX1_choose_40 fl_X1_130 (goCity hk1) ?_
  refine a_icmp_ge (pc := 43) (tgt := 109) dX1_choose_43 (by decide) (fun c => ?_) (fun c => ?_)
  · have H := H.1 c
    exact a_return (pc := 109) dX1_choose_109 trivial ⟨rfl, rfl, H⟩
  · have H := H.2 c
    refine a_aload_n (pc := 46) dX1_choose_46 rfl ?_
    refine a_iload_n (pc := 47) dX1_choose_47 rfl ?_
    refine a_iload (pc := 48) dX1_choose_48 rfl ?_
    refine a_callV (pc := 50) (kc := 0) (ks := 0) (kc' := 0) (ks' := 0) (st := []) [vi x3, vi x5] dX1_choose_50 ml_X1_137 (goEarnest hk0) rfl (Nat.le_of_ble_eq_true rfl) (Nat.le_of_ble_eq_true rfl) (z_post H (fun r G1 h1 q => ?_))
    obtain ⟨y2, rfl, rfl, H⟩ := q
    show zAt E (d + 1) 0 0 m_X1_choose 53 [vo k0, vo k1, vi x2, vi x3, vi x4, vi x5] [vi y2] g0 h1 (zPv Q)
    refine a_iload (pc := 53) dX1_choose_53 rfl ?_
    refine a_icmp_ge (pc := 55) (tgt := 103) dX1_choose_55 (by decide) (fun c => ?_) (fun c => ?_)
    · have H := H.1 c
      refine a_iinc (pc := 103) (ls' := [vo k0, vo k1, vi x2, vi x3, vi x4, vi (w32 (x5 + 1))]) dX1_choose_103 rfl rfl rfl ?_
      refine a_goto (pc := 106) (tgt := 37) dX1_choose_106 (by decide) ?_
      exact H
    · have H := H.2 c
      refine a_aload_n (pc := 58) dX1_choose_58 rfl ?_
      refine a_iload_n (pc := 59) dX1_choose_59 rfl ?_
      refine a_iload (pc := 60) dX1_choose_60 rfl ?_
      refine a_callV (pc := 62) (kc := 0) (ks := 0) (kc' := 0) (ks' := 0) (st := []) [vi x3, vi x5] dX1_choose_62 ml_X1_137 (goEarnest hk0) rfl (Nat.le_of_ble_eq_true rfl) (Nat.le_of_ble_eq_true rfl) (z_post H (fun r G1 h3 q => ?_))
      obtain ⟨y4, rfl, rfl, H⟩ := q
      show zAt E (d + 1) 0 0 m_X1_choose 65 [vo k0, vo k1, vi x2, vi x3, vi x4, vi x5] [vi y4] g0 h3 (zPv Q)
      refine a_istore (pc := 65) (ls' := [vo k0, vo k1, vi x2, vi x3, vi y4, vi x5]) dX1_choose_65 rfl rfl ?_
      refine a_aload_n (pc := 67) dX1_choose_67 rfl ?_
      refine a_getF (pc := 68) dX1_choose_68 fl_X1_21 (goEarnest hk0) (gfEarnest_2 hk0) ?_
      refine a_getG (pc := 71) dX1_choose_71 fl_X1_107 rfl (goThings (giEarnest_2 hk0)) (gfThings_4 (giEarnest_2 hk0)) ?_
      refine a_iload_n (pc := 74) dX1_choose_74 rfl ?_
      refine a_iload (pc := 75) dX1_choose_75 rfl ?_
      obtain ⟨hb5, H⟩ := H
      refine a_iastore (pc := 77) dX1_choose_77 (gaThings_4 (giEarnest_2 hk0)) hb5 ?_
      have H := H _ rfl
      generalize stI h3 (k0 + 3 + 4) x2.toNat x5 = h6 at H ⊢
      refine a_aload_n (pc := 78) dX1_choose_78 rfl ?_
      refine a_getF (pc := 79) dX1_choose_79 fl_X1_21 (goEarnest hk0) (gfEarnest_2 hk0) ?_
      refine a_getG (pc := 82) dX1_choose_82 fl_X1_110 rfl (goThings (giEarnest_2 hk0)) (gfThings_5 (giEarnest_2 hk0)) ?_
      refine a_iload_n (pc := 85) dX1_choose_85 rfl ?_
      refine a_aload_n (pc := 86) dX1_choose_86 rfl ?_
      refine a_getI (pc := 87) dX1_choose_87 fl_X1_35 (goEarnest hk0) ?_
      refine a_aload_n (pc := 90) dX1_choose_90 rfl ?_
      refine a_getF (pc := 91) dX1_choose_91 fl_X1_25 (goEarnest hk0) (gfEarnest_3 hk0) ?_
      refine a_iload_n (pc := 94) dX1_choose_94 rfl ?_
      refine a_iload (pc := 95) dX1_choose_95 rfl ?_
      refine a_callSN (pc := 97) (kc := 0) (ks := 0) (kc' := 0) (ks' := 0) (st := [vo (k0 + 9), vi (hI h6 k0 0), vi x2, vo (k0 + 3 + 5)]) [vi x3, vi x5] dX1_choose_97 ml_X1_146 rfl (Nat.le_of_ble_eq_true rfl) (Nat.le_of_ble_eq_true rfl) (z_post H (fun r G1 h7 q => ?_))
      obtain ⟨y8, rfl, rfl, H⟩ := q
      show zAt E (d + 1) 0 0 m_X1_choose 100 [vo k0, vo k1, vi x2, vi x3, vi y4, vi x5] [vi y8, vo (k0 + 9), vi (hI h6 k0 0), vi x2, vo (k0 + 3 + 5)] g0 h7 (zPv Q)
      obtain ⟨hb9, H⟩ := H
      refine a_iaload (pc := 100) dX1_choose_100 (gaEarnest_3 hk0) hb9 ?_
      refine a_iadd (pc := 101) dX1_choose_101 ?_
      refine a_iastore (pc := 102) dX1_choose_102 (gaThings_5 (giEarnest_2 hk0)) hb5 ?_
      have H := H _ rfl
      generalize stI h7 (k0 + 3 + 5) x2.toNat (w32 ((hI h6 k0 0) + (hI h7 (k0 + 9) y8.toNat))) = h10 at H ⊢
      refine a_iinc (pc := 103) (ls' := [vo k0, vo k1, vi x2, vi x3, vi y4, vi (w32 (x5 + 1))]) dX1_choose_103 rfl rfl rfl ?_
      refine a_goto (pc := 106) (tgt := 37) dX1_choose_106 (by decide) ?_
      exact H
set_option maxRecDepth 20000 in
theorem v_X1_canMeet {E : zE} {d : Nat} {h : zS} {Q : Int → zS → Prop} {k0 : Nat} {x1 : Int} {x2 : Int} {x3 : Int} (hk0 : isEarnest k0) (H : ((x1 = x2 → (Q 0 h)) ∧ (x1 ≠ x2 → ((x1 = x3 → (Q 0 h)) ∧ (x1 ≠ x3 → ((x2 = x3 → (Q 0 h)) ∧ (x2 ≠ x3 → (zCi E d m_X9_pair [vi x1, vi x2] h (fun y2 h1 => (0 ≤ y2 ∧ y2 < 144) ∧ (((hI h1 (k0 + 9) y2.toNat) ≠ 0 → (Q 0 h1)) ∧ ((hI h1 (k0 + 9) y2.toNat) = 0 → (zCi E d m_X4_isThere [vo (k0 + 1), vi x1] h1 (fun y5 h4 => ((y5 = 0 → (Q 0 h4)) ∧ (y5 ≠ 0 → (zCi E d m_X4_isThere [vo (k0 + 1), vi x2] h4 (fun y7 h6 => ((y7 = 0 → (Q 0 h6)) ∧ (y7 ≠ 0 → (zCi E d m_X4_isThere [vo (k0 + 1), vi x3] h6 (fun y9 h8 => ((y9 = 0 → (Q 0 h8)) ∧ (y9 ≠ 0 → ((0 ≤ x3 ∧ x3 < 12) ∧ zCi E d m_X9_isIn [vi (hI h8 (k0 + 10) x3.toNat), vi x1] h8 (fun y12 h11 => ((y12 = 0 → (Q 0 h11)) ∧ (y12 ≠ 0 → (zCi E d m_X9_isIn [vi (hI h11 (k0 + 10) x3.toNat), vi x2] h11 (fun y14 h13 => ((y14 = 0 → (Q 0 h13)) ∧ (y14 ≠ 0 → (Q 1 h13)))))))))))))))))))))))))))))))) : zCi E (d + 1) m_X1_canMeet [vo k0, vi x1, vi x2, vi x3] h Q := by
  show zAt E (d + 1) 0 0 m_X1_canMeet 0 [vo k0, vi x1, vi x2, vi x3] [] g0 h (zPi Q)
  refine a_iload_n (pc := 0) dX1_canMeet_0 rfl ?_
  refine a_iload_n (pc := 1) dX1_canMeet_1 rfl ?_
  refine a_icmp_eq (pc := 2) (tgt := 91) dX1_canMeet_2 (by decide) (fun c => ?_) (fun c => ?_)
  · have H := H.1 c
    refine a_iconst (pc := 91) dX1_canMeet_91 (by decide) ?_
    exact a_ireturn (pc := 92) dX1_canMeet_92 (.inl rfl) ⟨_, rfl, rfl, H⟩
  · have H := H.2 c
    refine a_iload_n (pc := 5) dX1_canMeet_5 rfl ?_
    refine a_iload_n (pc := 6) dX1_canMeet_6 rfl ?_
    refine a_icmp_eq (pc := 7) (tgt := 91) dX1_canMeet_7 (by decide) (fun c => ?_) (fun c => ?_)
    · have H := H.1 c
      refine a_iconst (pc := 91) dX1_canMeet_91 (by decide) ?_
      exact a_ireturn (pc := 92) dX1_canMeet_92 (.inl rfl) ⟨_, rfl, rfl, H⟩
    · have H := H.2 c
      refine a_iload_n (pc := 10) dX1_canMeet_10 rfl ?_
      refine a_iload_n (pc := 11) dX1_canMeet_11 rfl ?_
      refine a_icmp_eq (pc := 12) (tgt := 91) dX1_canMeet_12 (by decide) (fun c => ?_) (fun c => ?_)
      · have H := H.1 c
        refine a_iconst (pc := 91) dX1_canMeet_91 (by decide) ?_
        exact a_ireturn (pc := 92) dX1_canMeet_92 (.inl rfl) ⟨_, rfl, rfl, H⟩
      · have H := H.2 c
        refine a_aload_n (pc := 15) dX1_canMeet_15 rfl ?_
        refine a_getF (pc := 16) dX1_canMeet_16 fl_X1_25 (goEarnest hk0) (gfEarnest_3 hk0) ?_
        refine a_iload_n (pc := 19) dX1_canMeet_19 rfl ?_
        refine a_iload_n (pc := 20) dX1_canMeet_20 rfl ?_
        refine a_callSN (pc := 21) (kc := 0) (ks := 0) (kc' := 0) (ks' := 0) (st := [vo (k0 + 9)]) [vi x1, vi x2] dX1_canMeet_21 ml_X1_146 rfl (Nat.le_of_ble_eq_true rfl) (Nat.le_of_ble_eq_true rfl) (z_post H (fun r G1 h1 q => ?_))
        obtain ⟨y2, rfl, rfl, H⟩ := q
        show zAt E (d + 1) 0 0 m_X1_canMeet 24 [vo k0, vi x1, vi x2, vi x3] [vi y2, vo (k0 + 9)] g0 h1 (zPi Q)
        obtain ⟨hb3, H⟩ := H
        refine a_iaload (pc := 24) dX1_canMeet_24 (gaEarnest_3 hk0) hb3 ?_
        refine a_if_ne (pc := 25) (tgt := 91) dX1_canMeet_25 (by decide) (fun c => ?_) (fun c => ?_)
        · have H := H.1 c
          refine a_iconst (pc := 91) dX1_canMeet_91 (by decide) ?_
          exact a_ireturn (pc := 92) dX1_canMeet_92 (.inl rfl) ⟨_, rfl, rfl, H⟩
        · have H := H.2 c
          refine a_aload_n (pc := 28) dX1_canMeet_28 rfl ?_
          refine a_getF (pc := 29) dX1_canMeet_29 fl_X1_12 (goEarnest hk0) (gfEarnest_1 hk0) ?_
          refine a_iload_n (pc := 32) dX1_canMeet_32 rfl ?_
          refine a_callV (pc := 33) (kc := 0) (ks := 0) (kc' := 0) (ks' := 0) (st := []) [vi x1] dX1_canMeet_33 ml_X1_70 (goFate (giEarnest_1 hk0)) rfl (Nat.le_of_ble_eq_true rfl) (Nat.le_of_ble_eq_true rfl) (z_post H (fun r G1 h4 q => ?_))
          obtain ⟨y5, rfl, rfl, H⟩ := q
          show zAt E (d + 1) 0 0 m_X1_canMeet 36 [vo k0, vi x1, vi x2, vi x3] [vi y5] g0 h4 (zPi Q)
          refine a_if_eq (pc := 36) (tgt := 91) dX1_canMeet_36 (by decide) (fun c => ?_) (fun c => ?_)
          · have H := H.1 c
            refine a_iconst (pc := 91) dX1_canMeet_91 (by decide) ?_
            exact a_ireturn (pc := 92) dX1_canMeet_92 (.inl rfl) ⟨_, rfl, rfl, H⟩
          · have H := H.2 c
            refine a_aload_n (pc := 39) dX1_canMeet_39 rfl ?_
            refine a_getF (pc := 40) dX1_canMeet_40 fl_X1_12 (goEarnest hk0) (gfEarnest_1 hk0) ?_
            refine a_iload_n (pc := 43) dX1_canMeet_43 rfl ?_
            refine a_callV (pc := 44) (kc := 0) (ks := 0) (kc' := 0) (ks' := 0) (st := []) [vi x2] dX1_canMeet_44 ml_X1_70 (goFate (giEarnest_1 hk0)) rfl (Nat.le_of_ble_eq_true rfl) (Nat.le_of_ble_eq_true rfl) (z_post H (fun r G1 h6 q => ?_))
            obtain ⟨y7, rfl, rfl, H⟩ := q
            show zAt E (d + 1) 0 0 m_X1_canMeet 47 [vo k0, vi x1, vi x2, vi x3] [vi y7] g0 h6 (zPi Q)
            refine a_if_eq (pc := 47) (tgt := 91) dX1_canMeet_47 (by decide) (fun c => ?_) (fun c => ?_)
            · have H := H.1 c
              refine a_iconst (pc := 91) dX1_canMeet_91 (by decide) ?_
              exact a_ireturn (pc := 92) dX1_canMeet_92 (.inl rfl) ⟨_, rfl, rfl, H⟩
            · have H := H.2 c
              refine a_aload_n (pc := 50) dX1_canMeet_50 rfl ?_
              refine a_getF (pc := 51) dX1_canMeet_51 fl_X1_12 (goEarnest hk0) (gfEarnest_1 hk0) ?_
              refine a_iload_n (pc := 54) dX1_canMeet_54 rfl ?_
              refine a_callV (pc := 55) (kc := 0) (ks := 0) (kc' := 0) (ks' := 0) (st := []) [vi x3] dX1_canMeet_55 ml_X1_70 (goFate (giEarnest_1 hk0)) rfl (Nat.le_of_ble_eq_true rfl) (Nat.le_of_ble_eq_true rfl) (z_post H (fun r G1 h8 q => ?_))
              obtain ⟨y9, rfl, rfl, H⟩ := q
              show zAt E (d + 1) 0 0 m_X1_canMeet 58 [vo k0, vi x1, vi x2, vi x3] [vi y9] g0 h8 (zPi Q)
              refine a_if_eq (pc := 58) (tgt := 91) dX1_canMeet_58 (by decide) (fun c => ?_) (fun c => ?_)
              · have H := H.1 c
                refine a_iconst (pc := 91) dX1_canMeet_91 (by decide) ?_
                exact a_ireturn (pc := 92) dX1_canMeet_92 (.inl rfl) ⟨_, rfl, rfl, H⟩
              · have H := H.2 c
                refine a_aload_n (pc := 61) dX1_canMeet_61 rfl ?_
                refine a_getF (pc := 62) dX1_canMeet_62 fl_X1_29 (goEarnest hk0) (gfEarnest_4 hk0) ?_
                refine a_iload_n (pc := 65) dX1_canMeet_65 rfl ?_
                obtain ⟨hb10, H⟩ := H
                refine a_iaload (pc := 66) dX1_canMeet_66 (gaEarnest_4 hk0) hb10 ?_
                refine a_iload_n (pc := 67) dX1_canMeet_67 rfl ?_
                refine a_callSN (pc := 68) (kc := 0) (ks := 0) (kc' := 0) (ks' := 0) (st := []) [vi (hI h8 (k0 + 10) x3.toNat), vi x1] dX1_canMeet_68 ml_X1_152 rfl (Nat.le_of_ble_eq_true rfl) (Nat.le_of_ble_eq_true rfl) (z_post H (fun r G1 h11 q => ?_))
                obtain ⟨y12, rfl, rfl, H⟩ := q
                show zAt E (d + 1) 0 0 m_X1_canMeet 71 [vo k0, vi x1, vi x2, vi x3] [vi y12] g0 h11 (zPi Q)
                refine a_if_eq (pc := 71) (tgt := 91) dX1_canMeet_71 (by decide) (fun c => ?_) (fun c => ?_)
                · have H := H.1 c
                  refine a_iconst (pc := 91) dX1_canMeet_91 (by decide) ?_
                  exact a_ireturn (pc := 92) dX1_canMeet_92 (.inl rfl) ⟨_, rfl, rfl, H⟩
                · have H := H.2 c
                  refine a_aload_n (pc := 74) dX1_canMeet_74 rfl ?_
                  refine a_getF (pc := 75) dX1_canMeet_75 fl_X1_29 (goEarnest hk0) (gfEarnest_4 hk0) ?_
                  refine a_iload_n (pc := 78) dX1_canMeet_78 rfl ?_
                  refine a_iaload (pc := 79) dX1_canMeet_79 (gaEarnest_4 hk0) hb10 ?_
                  refine a_iload_n (pc := 80) dX1_canMeet_80 rfl ?_
                  refine a_callSN (pc := 81) (kc := 0) (ks := 0) (kc' := 0) (ks' := 0) (st := []) [vi (hI h11 (k0 + 10) x3.toNat), vi x2] dX1_canMeet_81 ml_X1_152 rfl (Nat.le_of_ble_eq_true rfl) (Nat.le_of_ble_eq_true rfl) (z_post H (fun r G1 h13 q => ?_))
                  obtain ⟨y14, rfl, rfl, H⟩ := q
                  show zAt E (d + 1) 0 0 m_X1_canMeet 84 [vo k0, vi x1, vi x2, vi x3] [vi y14] g0 h13 (zPi Q)
                  refine a_if_eq (pc := 84) (tgt := 91) dX1_canMeet_84 (by decide) (fun c => ?_) (fun c => ?_)
                  · have H := H.1 c
                    refine a_iconst (pc := 91) dX1_canMeet_91 (by decide) ?_
                    exact a_ireturn (pc := 92) dX1_canMeet_92 (.inl rfl) ⟨_, rfl, rfl, H⟩
                  · have H := H.2 c
                    refine a_iconst (pc := 87) dX1_canMeet_87 (by decide) ?_
                    refine a_goto (pc := 88) (tgt := 92) dX1_canMeet_88 (by decide) ?_
                    exact a_ireturn (pc := 92) dX1_canMeet_92 (.inr rfl) ⟨_, rfl, rfl, H⟩
set_option maxRecDepth 20000 in
theorem v_X1_acquaint {E : zE} {d : Nat} {h : zS} {Q : zS → Prop} {k0 : Nat} {x1 : Int} {x2 : Int} (hk0 : isEarnest k0) (H : zCi E d m_X9_pair [vi x1, vi x2] h (fun y2 h1 => (0 ≤ y2 ∧ y2 < 144) ∧ ∀ h4, h4 = stI h1 (k0 + 9) y2.toNat 1 → (0 ≤ x1 ∧ x1 < 12) ∧ ∀ h6, h6 = stI h4 (k0 + 10) x1.toNat (z_or (hI h4 (k0 + 10) x1.toNat) (z_shl 1 x2)) → (0 ≤ x2 ∧ x2 < 12) ∧ ∀ h8, h8 = stI h6 (k0 + 10) x2.toNat (z_or (hI h6 (k0 + 10) x2.toNat) (z_shl 1 x1)) → Q h8)) : zCv E (d + 1) m_X1_acquaint [vo k0, vi x1, vi x2] h Q := by
  show zAt E (d + 1) 0 0 m_X1_acquaint 0 [vo k0, vi x1, vi x2] [] g0 h (zPv Q)
  refine a_aload_n (pc := 0) dX1_acquaint_0 rfl ?_
  refine a_getF (pc := 1) dX1_acquaint_1 fl_X1_25 (goEarnest hk0) (gfEarnest_3 hk0) ?_
  refine a_iload_n (pc := 4) dX1_acquaint_4 rfl ?_
  refine a_iload_n (pc := 5) dX1_acquaint_5 rfl ?_
  refine a_callSN (pc := 6) (kc := 0) (ks := 0) (kc' := 0) (ks' := 0) (st := [vo (k0 + 9)]) [vi x1, vi x2] dX1_acquaint_6 ml_X1_146 rfl (Nat.le_of_ble_eq_true rfl) (Nat.le_of_ble_eq_true rfl) (z_post H (fun r G1 h1 q => ?_))
  obtain ⟨y2, rfl, rfl, H⟩ := q
  show zAt E (d + 1) 0 0 m_X1_acquaint 9 [vo k0, vi x1, vi x2] [vi y2, vo (k0 + 9)] g0 h1 (zPv Q)
  refine a_iconst (pc := 9) dX1_acquaint_9 (by decide) ?_
  obtain ⟨hb3, H⟩ := H
  refine a_iastore (pc := 10) dX1_acquaint_10 (gaEarnest_3 hk0) hb3 ?_
  have H := H _ rfl
  generalize stI h1 (k0 + 9) y2.toNat 1 = h4 at H ⊢
  refine a_aload_n (pc := 11) dX1_acquaint_11 rfl ?_
  refine a_getF (pc := 12) dX1_acquaint_12 fl_X1_29 (goEarnest hk0) (gfEarnest_4 hk0) ?_
  refine a_iload_n (pc := 15) dX1_acquaint_15 rfl ?_
  refine a_dup2 (pc := 16) dX1_acquaint_16 rfl rfl ?_
  obtain ⟨hb5, H⟩ := H
  refine a_iaload (pc := 17) dX1_acquaint_17 (gaEarnest_4 hk0) hb5 ?_
  refine a_iconst (pc := 18) dX1_acquaint_18 (by decide) ?_
  refine a_iload_n (pc := 19) dX1_acquaint_19 rfl ?_
  refine a_ishl (pc := 20) dX1_acquaint_20 ?_
  refine a_ior (pc := 21) dX1_acquaint_21 ?_
  refine a_iastore (pc := 22) dX1_acquaint_22 (gaEarnest_4 hk0) hb5 ?_
  have H := H _ rfl
  generalize stI h4 (k0 + 10) x1.toNat (z_or (hI h4 (k0 + 10) x1.toNat) (z_shl 1 x2)) = h6 at H ⊢
  refine a_aload_n (pc := 23) dX1_acquaint_23 rfl ?_
  refine a_getF (pc := 24) dX1_acquaint_24 fl_X1_29 (goEarnest hk0) (gfEarnest_4 hk0) ?_
  refine a_iload_n (pc := 27) dX1_acquaint_27 rfl ?_
  refine a_dup2 (pc := 28) dX1_acquaint_28 rfl rfl ?_
  obtain ⟨hb7, H⟩ := H
  refine a_iaload (pc := 29) dX1_acquaint_29 (gaEarnest_4 hk0) hb7 ?_
  refine a_iconst (pc := 30) dX1_acquaint_30 (by decide) ?_
  refine a_iload_n (pc := 31) dX1_acquaint_31 rfl ?_
  refine a_ishl (pc := 32) dX1_acquaint_32 ?_
  refine a_ior (pc := 33) dX1_acquaint_33 ?_
  refine a_iastore (pc := 34) dX1_acquaint_34 (gaEarnest_4 hk0) hb7 ?_
  have H := H _ rfl
  generalize stI h6 (k0 + 10) x2.toNat (z_or (hI h6 (k0 + 10) x2.toNat) (z_shl 1 x1)) = h8 at H ⊢
  exact a_return (pc := 35) dX1_acquaint_35 trivial ⟨rfl, rfl, H⟩
set_option maxRecDepth 20000 in
theorem v_X1_acquaintancesFor {E : zE} {d : Nat} {h : zS} {Q : Int → zS → Prop} {k0 : Nat} {k1 : Nat} {x2 : Int} {x3 : Int} (hk0 : isEarnest k0) (hk1 : isCity k1) (H : zCi E d m_X4_isThere [vo (k0 + 1), vi x2] h (fun y2 h1 => ((y2 = 0 → (Q (-1) h1)) ∧ (y2 ≠ 0 → (zCi E d m_X4_isThere [vo (k0 + 1), vi x3] h1 (fun y4 h3 => ((y4 ≠ 0 → (zCi E d m_X9_pair [vi x2, vi x3] h3 (fun y6 h5 => (0 ≤ y6 ∧ y6 < 144) ∧ (((hI h5 (k0 + 9) y6.toNat) ≤ 0 → (zWi E (d + 1) m_X1_acquaintancesFor 42 [vo k0, vo k1, vi x2, vi x3, vi 0] h5 Q)) ∧ (0 < (hI h5 (k0 + 9) y6.toNat) → (Q 0 h5)))))) ∧ (y4 = 0 → (Q (-1) h3))))))))) : zCi E (d + 1) m_X1_acquaintancesFor [vo k0, vo k1, vi x2, vi x3] h Q := by
  show zAt E (d + 1) 0 0 m_X1_acquaintancesFor 0 [vo k0, vo k1, vi x2, vi x3, vn] [] g0 h (zPi Q)
  refine a_aload_n (pc := 0) dX1_acquaintancesFor_0 rfl ?_
  refine a_getF (pc := 1) dX1_acquaintancesFor_1 fl_X1_12 (goEarnest hk0) (gfEarnest_1 hk0) ?_
  refine a_iload_n (pc := 4) dX1_acquaintancesFor_4 rfl ?_
  refine a_callV (pc := 5) (kc := 0) (ks := 0) (kc' := 0) (ks' := 0) (st := []) [vi x2] dX1_acquaintancesFor_5 ml_X1_70 (goFate (giEarnest_1 hk0)) rfl (Nat.le_of_ble_eq_true rfl) (Nat.le_of_ble_eq_true rfl) (z_post H (fun r G1 h1 q => ?_))
  obtain ⟨y2, rfl, rfl, H⟩ := q
  show zAt E (d + 1) 0 0 m_X1_acquaintancesFor 8 [vo k0, vo k1, vi x2, vi x3, vn] [vi y2] g0 h1 (zPi Q)
  refine a_if_eq (pc := 8) (tgt := 22) dX1_acquaintancesFor_8 (by decide) (fun c => ?_) (fun c => ?_)
  · have H := H.1 c
    refine a_iconst (pc := 22) dX1_acquaintancesFor_22 (by decide) ?_
    exact a_ireturn (pc := 23) dX1_acquaintancesFor_23 trivial ⟨_, rfl, rfl, H⟩
  · have H := H.2 c
    refine a_aload_n (pc := 11) dX1_acquaintancesFor_11 rfl ?_
    refine a_getF (pc := 12) dX1_acquaintancesFor_12 fl_X1_12 (goEarnest hk0) (gfEarnest_1 hk0) ?_
    refine a_iload_n (pc := 15) dX1_acquaintancesFor_15 rfl ?_
    refine a_callV (pc := 16) (kc := 0) (ks := 0) (kc' := 0) (ks' := 0) (st := []) [vi x3] dX1_acquaintancesFor_16 ml_X1_70 (goFate (giEarnest_1 hk0)) rfl (Nat.le_of_ble_eq_true rfl) (Nat.le_of_ble_eq_true rfl) (z_post H (fun r G1 h3 q => ?_))
    obtain ⟨y4, rfl, rfl, H⟩ := q
    show zAt E (d + 1) 0 0 m_X1_acquaintancesFor 19 [vo k0, vo k1, vi x2, vi x3, vn] [vi y4] g0 h3 (zPi Q)
    refine a_if_ne (pc := 19) (tgt := 24) dX1_acquaintancesFor_19 (by decide) (fun c => ?_) (fun c => ?_)
    · have H := H.1 c
      refine a_aload_n (pc := 24) dX1_acquaintancesFor_24 rfl ?_
      refine a_getF (pc := 25) dX1_acquaintancesFor_25 fl_X1_25 (goEarnest hk0) (gfEarnest_3 hk0) ?_
      refine a_iload_n (pc := 28) dX1_acquaintancesFor_28 rfl ?_
      refine a_iload_n (pc := 29) dX1_acquaintancesFor_29 rfl ?_
      refine a_callSN (pc := 30) (kc := 0) (ks := 0) (kc' := 0) (ks' := 0) (st := [vo (k0 + 9)]) [vi x2, vi x3] dX1_acquaintancesFor_30 ml_X1_146 rfl (Nat.le_of_ble_eq_true rfl) (Nat.le_of_ble_eq_true rfl) (z_post H (fun r G1 h5 q => ?_))
      obtain ⟨y6, rfl, rfl, H⟩ := q
      show zAt E (d + 1) 0 0 m_X1_acquaintancesFor 33 [vo k0, vo k1, vi x2, vi x3, vn] [vi y6, vo (k0 + 9)] g0 h5 (zPi Q)
      obtain ⟨hb7, H⟩ := H
      refine a_iaload (pc := 33) dX1_acquaintancesFor_33 (gaEarnest_3 hk0) hb7 ?_
      refine a_if_le (pc := 34) (tgt := 39) dX1_acquaintancesFor_34 (by decide) (fun c => ?_) (fun c => ?_)
      · have H := H.1 c
        refine a_iconst (pc := 39) dX1_acquaintancesFor_39 (by decide) ?_
        refine a_istore (pc := 40) (ls' := [vo k0, vo k1, vi x2, vi x3, vi 0]) dX1_acquaintancesFor_40 rfl rfl ?_
        exact H
      · have H := H.2 c
        refine a_iconst (pc := 37) dX1_acquaintancesFor_37 (by decide) ?_
        exact a_ireturn (pc := 38) dX1_acquaintancesFor_38 trivial ⟨_, rfl, rfl, H⟩
    · have H := H.2 c
      refine a_iconst (pc := 22) dX1_acquaintancesFor_22 (by decide) ?_
      exact a_ireturn (pc := 23) dX1_acquaintancesFor_23 trivial ⟨_, rfl, rfl, H⟩
set_option maxRecDepth 20000 in
theorem r_X1_acquaintancesFor_42 {E : zE} {d : Nat} {h : zS} {Q : Int → zS → Prop} {k0 : Nat} {k1 : Nat} {x2 : Int} {x3 : Int} {x4 : Int} (hk0 : isEarnest k0) (hk1 : isCity k1) (H : (((hI h k1 0) ≤ x4 → (Q (-1) h)) ∧ (x4 < (hI h k1 0) → (zCi E d m_X1_canMeet [vo k0, vi x2, vi x3, vi x4] h (fun y2 h1 => ((y2 = 0 → (zWi E (d + 1) m_X1_acquaintancesFor 42 [vo k0, vo k1, vi x2, vi x3, vi (w32 (x4 + 1))] h1 Q)) ∧ (y2 ≠ 0 → (Q 1 h1)))))))) : zWi E (d + 1) m_X1_acquaintancesFor 42 [vo k0, vo k1, vi x2, vi x3, vi x4] h Q := by
  refine a_iload (pc := 42) dX1_acquaintancesFor_42 rfl ?_
  refine a_aload_n (pc := 44) dX1_acquaintancesFor_44 rfl ?_
  refine a_getI (pc := 45) dX1_acquaintancesFor_45 fl_X1_130 (goCity hk1) ?_
  refine a_icmp_ge (pc := 48) (tgt := 70) dX1_acquaintancesFor_48 (by decide) (fun c => ?_) (fun c => ?_)
  · have H := H.1 c
    refine a_iconst (pc := 70) dX1_acquaintancesFor_70 (by decide) ?_
    exact a_ireturn (pc := 71) dX1_acquaintancesFor_71 trivial ⟨_, rfl, rfl, H⟩
  · have H := H.2 c
    refine a_aload_n (pc := 51) dX1_acquaintancesFor_51 rfl ?_
    refine a_iload_n (pc := 52) dX1_acquaintancesFor_52 rfl ?_
    refine a_iload_n (pc := 53) dX1_acquaintancesFor_53 rfl ?_
    refine a_iload (pc := 54) dX1_acquaintancesFor_54 rfl ?_
    refine a_callV (pc := 56) (kc := 0) (ks := 0) (kc' := 0) (ks' := 0) (st := []) [vi x2, vi x3, vi x4] dX1_acquaintancesFor_56 ml_X1_156 (goEarnest hk0) rfl (Nat.le_of_ble_eq_true rfl) (Nat.le_of_ble_eq_true rfl) (z_post H (fun r G1 h1 q => ?_))
    obtain ⟨y2, rfl, rfl, H⟩ := q
    show zAt E (d + 1) 0 0 m_X1_acquaintancesFor 59 [vo k0, vo k1, vi x2, vi x3, vi x4] [vi y2] g0 h1 (zPi Q)
    refine a_if_eq (pc := 59) (tgt := 64) dX1_acquaintancesFor_59 (by decide) (fun c => ?_) (fun c => ?_)
    · have H := H.1 c
      refine a_iinc (pc := 64) (ls' := [vo k0, vo k1, vi x2, vi x3, vi (w32 (x4 + 1))]) dX1_acquaintancesFor_64 rfl rfl rfl ?_
      refine a_goto (pc := 67) (tgt := 42) dX1_acquaintancesFor_67 (by decide) ?_
      exact H
    · have H := H.2 c
      refine a_iconst (pc := 62) dX1_acquaintancesFor_62 (by decide) ?_
      exact a_ireturn (pc := 63) dX1_acquaintancesFor_63 trivial ⟨_, rfl, rfl, H⟩
