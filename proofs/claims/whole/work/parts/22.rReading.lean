/-! by program: the conditions of each method, Reading -/
set_option maxRecDepth 20000 in
theorem v_X5_open {E : zE} {d : Nat} {h : zS} {Q : zS → Prop} {k1 : Nat} {x2 : Int} (hk1 : zArr g0 k1 1 1600) (H : ∀ h1, h1 = stR h 3 0 (some k1) → ∀ h2, h2 = stI h1 3 1 (if 1600 < x2 then 1600 else x2) → ∀ h3, h3 = stI h2 3 2 0 → zCv E d m_X5_advance [vo 3] h3 (fun h4 => Q h4)) : zCv E (d + 1) m_X5_open [vo 3, vo k1, vi x2] h Q := by
  show zAt E (d + 1) 0 0 m_X5_open 0 [vo 3, vo k1, vi x2] [] g0 h (zPv Q)
  refine a_aload_n (pc := 0) dX5_open_0 rfl ?_
  refine a_aload_n (pc := 1) dX5_open_1 rfl ?_
  refine a_putR (pc := 2) dX5_open_2 fl_X5_13 (go_3) ?_
  have H := H _ rfl
  generalize stR h 3 0 (some k1) = h1 at H ⊢
  refine a_aload_n (pc := 5) dX5_open_5 rfl ?_
  refine a_aload_n (pc := 6) dX5_open_6 rfl ?_
  refine a_ifnonnull (pc := 7) (tgt := 14) dX5_open_7 (by decide) ?_
  refine a_iload_n (pc := 14) dX5_open_14 rfl ?_
  refine a_aload_n (pc := 15) dX5_open_15 rfl ?_
  refine a_alen (pc := 16) dX5_open_16 (hk1) (by decide) (by decide) ?_
  refine a_minI (pc := 17) dX5_open_17 ml_X5_17 (by omega) (Nat.le_of_ble_eq_true rfl) ?_
  refine a_putI (pc := 20) dX5_open_20 fl_X5_23 (go_3) ?_
  have H := H _ rfl
  generalize stI h1 3 1 (if 1600 < x2 then 1600 else x2) = h2 at H ⊢
  refine a_aload_n (pc := 23) dX5_open_23 rfl ?_
  refine a_iconst (pc := 24) dX5_open_24 (by decide) ?_
  refine a_putI (pc := 25) dX5_open_25 fl_X5_26 (go_3) ?_
  have H := H _ rfl
  generalize stI h2 3 2 0 = h3 at H ⊢
  refine a_aload_n (pc := 28) dX5_open_28 rfl ?_
  refine a_callV (pc := 29) (kc := 0) (ks := 0) (kc' := 0) (ks' := 0) (st := []) [] dX5_open_29 ml_X5_29 (go_3) rfl (Nat.le_of_ble_eq_true rfl) (Nat.le_of_ble_eq_true rfl) (z_post H (fun r G1 h4 q => ?_))
  obtain ⟨rfl, rfl, H⟩ := q
  show zAt E (d + 1) 0 0 m_X5_open 32 [vo 3, vo k1, vi x2] [] g0 h4 (zPv Q)
  exact a_return (pc := 32) dX5_open_32 trivial ⟨rfl, rfl, H⟩
set_option maxRecDepth 20000 in
theorem v_X5_advance {E : zE} {d : Nat} {h : zS} {Q : zS → Prop}   (H : zWv E (d + 1) m_X5_advance 0 [vo 3, vn, vn] h Q) : zCv E (d + 1) m_X5_advance [vo 3] h Q := by
  show zAt E (d + 1) 0 0 m_X5_advance 0 [vo 3, vn, vn] [] g0 h (zPv Q)
  exact H
set_option maxRecDepth 20000 in
theorem r_X5_advance_0 {E : zE} {d : Nat} {h : zS} {Q : zS → Prop}   (H : (((hI h 3 1) ≤ (hI h 3 2) → (∀ h1, h1 = stI h 3 4 (hI h 3 2) → zCi E d m_X5_runOf [vo 3, vi 97, vi 122] h1 (fun y3 h2 => zCi E d m_X5_runOf [vo 3, vi 48, vi 57] h2 (fun y5 h4 => (((hI h4 3 2) < (hI h4 3 1) → ((y3 ≤ 0 → ((y5 ≤ 0 → (∃ t6, hR h4 3 0 = some t6 ∧ zArr g0 t6 1 1600 ∧ (0 ≤ hI h4 3 2 ∧ hI h4 3 2 < 1600) ∧ (∀ h9, h9 = stI h4 3 3 (if (hI h4 t6 (hI h4 3 2).toNat) ≠ 59 then 17 else 15) → ∀ h10, h10 = stI h9 3 2 (w32 ((hI h9 3 2) + 1)) → Q h10))) ∧ (0 < y5 → (zCi E d m_X5_valueOf [vo 3, vi y5] h4 (fun y12 h11 => ∀ h13, h13 = stI h11 3 6 y12 → ∀ h14, h14 = stI h13 3 2 (w32 ((hI h13 3 2) + y5)) → ((4 < y5 → (∀ h15, h15 = stI h14 3 3 17 → Q h15)) ∧ (y5 ≤ 4 → (zCi E d m_X5_runOf [vo 3, vi 97, vi 122] h14 (fun y17 h16 => (∀ h19, h19 = stI h16 3 3 (if y17 ≤ 0 then 14 else 17) → Q h19)))))))))) ∧ (0 < y3 → (zCl E d m_X5_packed [vo 3, vi y3] h4 (fun y21 h20 => ∀ h22, h22 = stL h20 3 5 y21 → ∀ h23, h23 = stI h22 3 2 (w32 ((hI h22 3 2) + y3)) → ((y3 ≤ 8 → (zCi E d m_X5_meaningOf [vl (hL h23 3 5)] h23 (fun y25 h24 => ∀ h26, h26 = stI h24 3 3 y25 → Q h26))) ∧ (8 < y3 → (∀ h27, h27 = stI h23 3 3 17 → Q h27)))))))) ∧ ((hI h4 3 1) ≤ (hI h4 3 2) → (∀ h28, h28 = stI h4 3 3 16 → Q h28))))))) ∧ ((hI h 3 2) < (hI h 3 1) → (∃ t29, hR h 3 0 = some t29 ∧ zArr g0 t29 1 1600 ∧ (0 ≤ hI h 3 2 ∧ hI h 3 2 < 1600) ∧ (((hI h t29 (hI h 3 2).toNat) = 32 → (∀ h31, h31 = stI h 3 2 (w32 ((hI h 3 2) + 1)) → zWv E (d + 1) m_X5_advance 0 [vo 3, vn, vn] h31 Q)) ∧ ((hI h t29 (hI h 3 2).toNat) ≠ 32 → (∃ t32, hR h 3 0 = some t32 ∧ zArr g0 t32 1 1600 ∧ (((hI h t32 (hI h 3 2).toNat) ≠ 10 → (∀ h33, h33 = stI h 3 4 (hI h 3 2) → zCi E d m_X5_runOf [vo 3, vi 97, vi 122] h33 (fun y35 h34 => zCi E d m_X5_runOf [vo 3, vi 48, vi 57] h34 (fun y37 h36 => (((hI h36 3 2) < (hI h36 3 1) → ((y35 ≤ 0 → ((y37 ≤ 0 → (∃ t38, hR h36 3 0 = some t38 ∧ zArr g0 t38 1 1600 ∧ (0 ≤ hI h36 3 2 ∧ hI h36 3 2 < 1600) ∧ (∀ h41, h41 = stI h36 3 3 (if (hI h36 t38 (hI h36 3 2).toNat) ≠ 59 then 17 else 15) → ∀ h42, h42 = stI h41 3 2 (w32 ((hI h41 3 2) + 1)) → Q h42))) ∧ (0 < y37 → (zCi E d m_X5_valueOf [vo 3, vi y37] h36 (fun y44 h43 => ∀ h45, h45 = stI h43 3 6 y44 → ∀ h46, h46 = stI h45 3 2 (w32 ((hI h45 3 2) + y37)) → ((4 < y37 → (∀ h47, h47 = stI h46 3 3 17 → Q h47)) ∧ (y37 ≤ 4 → (zCi E d m_X5_runOf [vo 3, vi 97, vi 122] h46 (fun y49 h48 => (∀ h51, h51 = stI h48 3 3 (if y49 ≤ 0 then 14 else 17) → Q h51)))))))))) ∧ (0 < y35 → (zCl E d m_X5_packed [vo 3, vi y35] h36 (fun y53 h52 => ∀ h54, h54 = stL h52 3 5 y53 → ∀ h55, h55 = stI h54 3 2 (w32 ((hI h54 3 2) + y35)) → ((y35 ≤ 8 → (zCi E d m_X5_meaningOf [vl (hL h55 3 5)] h55 (fun y57 h56 => ∀ h58, h58 = stI h56 3 3 y57 → Q h58))) ∧ (8 < y35 → (∀ h59, h59 = stI h55 3 3 17 → Q h59)))))))) ∧ ((hI h36 3 1) ≤ (hI h36 3 2) → (∀ h60, h60 = stI h36 3 3 16 → Q h60))))))) ∧ ((hI h t32 (hI h 3 2).toNat) = 10 → (∀ h61, h61 = stI h 3 2 (w32 ((hI h 3 2) + 1)) → zWv E (d + 1) m_X5_advance 0 [vo 3, vn, vn] h61 Q)))))))))) : zWv E (d + 1) m_X5_advance 0 [vo 3, vn, vn] h Q := by
  refine a_aload_n (pc := 0) dX5_advance_0 rfl ?_
  refine a_getI (pc := 1) dX5_advance_1 fl_X5_26 (go_3) ?_
  refine a_aload_n (pc := 4) dX5_advance_4 rfl ?_
  refine a_getI (pc := 5) dX5_advance_5 fl_X5_23 (go_3) ?_
  refine a_icmp_ge (pc := 8) (tgt := 52) dX5_advance_8 (by decide) (fun c => ?_) (fun c => ?_)
  · have H := H.1 c
    refine a_aload_n (pc := 52) dX5_advance_52 rfl ?_
    refine a_aload_n (pc := 53) dX5_advance_53 rfl ?_
    refine a_getI (pc := 54) dX5_advance_54 fl_X5_26 (go_3) ?_
    refine a_putI (pc := 57) dX5_advance_57 fl_X5_32 (go_3) ?_
    have H := H _ rfl
    generalize stI h 3 4 (hI h 3 2) = h1 at H ⊢
    refine a_aload_n (pc := 60) dX5_advance_60 rfl ?_
    refine a_bipush (pc := 61) dX5_advance_61 (by decide) ?_
    refine a_bipush (pc := 63) dX5_advance_63 (by decide) ?_
    refine a_callV (pc := 65) (kc := 0) (ks := 0) (kc' := 0) (ks' := 0) (st := []) [vi 97, vi 122] dX5_advance_65 ml_X5_35 (go_3) rfl (Nat.le_of_ble_eq_true rfl) (Nat.le_of_ble_eq_true rfl) (z_post H (fun r G1 h2 q => ?_))
    obtain ⟨y3, rfl, rfl, H⟩ := q
    show zAt E (d + 1) 0 0 m_X5_advance 68 [vo 3, vn, vn] [vi y3] g0 h2 (zPv Q)
    refine a_istore_n (pc := 68) (ls' := [vo 3, vi y3, vn]) dX5_advance_68 rfl rfl ?_
    refine a_aload_n (pc := 69) dX5_advance_69 rfl ?_
    refine a_bipush (pc := 70) dX5_advance_70 (by decide) ?_
    refine a_bipush (pc := 72) dX5_advance_72 (by decide) ?_
    refine a_callV (pc := 74) (kc := 0) (ks := 0) (kc' := 0) (ks' := 0) (st := []) [vi 48, vi 57] dX5_advance_74 ml_X5_35 (go_3) rfl (Nat.le_of_ble_eq_true rfl) (Nat.le_of_ble_eq_true rfl) (z_post H (fun r G1 h4 q => ?_))
    obtain ⟨y5, rfl, rfl, H⟩ := q
    show zAt E (d + 1) 0 0 m_X5_advance 77 [vo 3, vi y3, vn] [vi y5] g0 h4 (zPv Q)
    refine a_istore_n (pc := 77) (ls' := [vo 3, vi y3, vi y5]) dX5_advance_77 rfl rfl ?_
    refine a_aload_n (pc := 78) dX5_advance_78 rfl ?_
    refine a_getI (pc := 79) dX5_advance_79 fl_X5_26 (go_3) ?_
    refine a_aload_n (pc := 82) dX5_advance_82 rfl ?_
    refine a_getI (pc := 83) dX5_advance_83 fl_X5_23 (go_3) ?_
    refine a_icmp_lt (pc := 86) (tgt := 98) dX5_advance_86 (by decide) (fun c => ?_) (fun c => ?_)
    · have H := H.1 c
      refine a_iload_n (pc := 98) dX5_advance_98 rfl ?_
      refine a_if_le (pc := 99) (tgt := 146) dX5_advance_99 (by decide) (fun c => ?_) (fun c => ?_)
      · have H := H.1 c
        refine a_iload_n (pc := 146) dX5_advance_146 rfl ?_
        refine a_if_le (pc := 147) (tgt := 199) dX5_advance_147 (by decide) (fun c => ?_) (fun c => ?_)
        · have H := H.1 c
          refine a_aload_n (pc := 199) dX5_advance_199 rfl ?_
          refine a_aload_n (pc := 200) dX5_advance_200 rfl ?_
          obtain ⟨t6, het6, hct6, H⟩ := H
          refine a_getR (pc := 201) dX5_advance_201 fl_X5_13 (go_3) het6 ?_
          refine a_aload_n (pc := 204) dX5_advance_204 rfl ?_
          refine a_getI (pc := 205) dX5_advance_205 fl_X5_26 (go_3) ?_
          obtain ⟨hb7, H⟩ := H
          refine a_baload (pc := 208) dX5_advance_208 (hct6) hb7 ?_
          refine a_bipush (pc := 209) dX5_advance_209 (by decide) ?_
          have J : zAt E (d + 1) 0 0 m_X5_advance 221 [vo 3, vi y3, vi y5] [vi (if (hI h4 t6 (hI h4 3 2).toNat) ≠ 59 then 17 else 15), vo 3] g0 h4 (zPv Q) := by
            refine a_putI (pc := 221) dX5_advance_221 fl_X5_9 (go_3) ?_
            have H := H _ rfl
            generalize stI h4 3 3 (if (hI h4 t6 (hI h4 3 2).toNat) ≠ 59 then 17 else 15) = h9 at H ⊢
            refine a_aload_n (pc := 224) dX5_advance_224 rfl ?_
            refine a_dup (pc := 225) dX5_advance_225 rfl ?_
            refine a_getI (pc := 226) dX5_advance_226 fl_X5_26 (go_3) ?_
            refine a_iconst (pc := 229) dX5_advance_229 (by decide) ?_
            refine a_iadd (pc := 230) dX5_advance_230 ?_
            refine a_putI (pc := 231) dX5_advance_231 fl_X5_26 (go_3) ?_
            have H := H _ rfl
            generalize stI h9 3 2 (w32 ((hI h9 3 2) + 1)) = h10 at H ⊢
            exact a_return (pc := 234) dX5_advance_234 trivial ⟨rfl, rfl, H⟩
          refine a_icmp_ne (pc := 211) (tgt := 219) dX5_advance_211 (by decide) (fun c8 => ?_) (fun c8 => ?_)
          · skip
            refine a_bipush (pc := 219) dX5_advance_219 (by decide) ?_
            exact (z_mergeT c8 J)
          · skip
            refine a_bipush (pc := 214) dX5_advance_214 (by decide) ?_
            refine a_goto (pc := 216) (tgt := 221) dX5_advance_216 (by decide) ?_
            exact (z_mergeF (fun n => n c8) J)
        · have H := H.2 c
          refine a_aload_n (pc := 150) dX5_advance_150 rfl ?_
          refine a_aload_n (pc := 151) dX5_advance_151 rfl ?_
          refine a_iload_n (pc := 152) dX5_advance_152 rfl ?_
          refine a_callV (pc := 153) (kc := 0) (ks := 0) (kc' := 0) (ks' := 0) (st := [vo 3]) [vi y5] dX5_advance_153 ml_X5_50 (go_3) rfl (Nat.le_of_ble_eq_true rfl) (Nat.le_of_ble_eq_true rfl) (z_post H (fun r G1 h11 q => ?_))
          obtain ⟨y12, rfl, rfl, H⟩ := q
          show zAt E (d + 1) 0 0 m_X5_advance 156 [vo 3, vi y3, vi y5] [vi y12, vo 3] g0 h11 (zPv Q)
          refine a_putI (pc := 156) dX5_advance_156 fl_X5_54 (go_3) ?_
          have H := H _ rfl
          generalize stI h11 3 6 y12 = h13 at H ⊢
          refine a_aload_n (pc := 159) dX5_advance_159 rfl ?_
          refine a_dup (pc := 160) dX5_advance_160 rfl ?_
          refine a_getI (pc := 161) dX5_advance_161 fl_X5_26 (go_3) ?_
          refine a_iload_n (pc := 164) dX5_advance_164 rfl ?_
          refine a_iadd (pc := 165) dX5_advance_165 ?_
          refine a_putI (pc := 166) dX5_advance_166 fl_X5_26 (go_3) ?_
          have H := H _ rfl
          generalize stI h13 3 2 (w32 ((hI h13 3 2) + y5)) = h14 at H ⊢
          refine a_aload_n (pc := 169) dX5_advance_169 rfl ?_
          refine a_iload_n (pc := 170) dX5_advance_170 rfl ?_
          refine a_iconst (pc := 171) dX5_advance_171 (by decide) ?_
          refine a_icmp_gt (pc := 172) (tgt := 186) dX5_advance_172 (by decide) (fun c => ?_) (fun c => ?_)
          · have H := H.1 c
            refine a_bipush (pc := 186) dX5_advance_186 (by decide) ?_
            refine a_goto (pc := 188) (tgt := 193) dX5_advance_188 (by decide) ?_
            refine a_putI (pc := 193) dX5_advance_193 fl_X5_9 (go_3) ?_
            have H := H _ rfl
            generalize stI h14 3 3 17 = h15 at H ⊢
            refine a_goto (pc := 196) (tgt := 234) dX5_advance_196 (by decide) ?_
            exact a_return (pc := 234) dX5_advance_234 trivial ⟨rfl, rfl, H⟩
          · have H := H.2 c
            refine a_aload_n (pc := 175) dX5_advance_175 rfl ?_
            refine a_bipush (pc := 176) dX5_advance_176 (by decide) ?_
            refine a_bipush (pc := 178) dX5_advance_178 (by decide) ?_
            refine a_callV (pc := 180) (kc := 0) (ks := 0) (kc' := 0) (ks' := 0) (st := [vo 3]) [vi 97, vi 122] dX5_advance_180 ml_X5_35 (go_3) rfl (Nat.le_of_ble_eq_true rfl) (Nat.le_of_ble_eq_true rfl) (z_post H (fun r G1 h16 q => ?_))
            obtain ⟨y17, rfl, rfl, H⟩ := q
            show zAt E (d + 1) 0 0 m_X5_advance 183 [vo 3, vi y3, vi y5] [vi y17, vo 3] g0 h16 (zPv Q)
            have J : zAt E (d + 1) 0 0 m_X5_advance 193 [vo 3, vi y3, vi y5] [vi (if y17 ≤ 0 then 14 else 17), vo 3] g0 h16 (zPv Q) := by
              refine a_putI (pc := 193) dX5_advance_193 fl_X5_9 (go_3) ?_
              have H := H _ rfl
              generalize stI h16 3 3 (if y17 ≤ 0 then 14 else 17) = h19 at H ⊢
              refine a_goto (pc := 196) (tgt := 234) dX5_advance_196 (by decide) ?_
              exact a_return (pc := 234) dX5_advance_234 trivial ⟨rfl, rfl, H⟩
            refine a_if_le (pc := 183) (tgt := 191) dX5_advance_183 (by decide) (fun c18 => ?_) (fun c18 => ?_)
            · skip
              refine a_bipush (pc := 191) dX5_advance_191 (by decide) ?_
              exact (z_mergeT c18 J)
            · skip
              refine a_bipush (pc := 186) dX5_advance_186 (by decide) ?_
              refine a_goto (pc := 188) (tgt := 193) dX5_advance_188 (by decide) ?_
              exact (z_mergeF (Int.not_le.mpr c18) J)
      · have H := H.2 c
        refine a_aload_n (pc := 102) dX5_advance_102 rfl ?_
        refine a_aload_n (pc := 103) dX5_advance_103 rfl ?_
        refine a_iload_n (pc := 104) dX5_advance_104 rfl ?_
        refine a_callV (pc := 105) (kc := 0) (ks := 0) (kc' := 0) (ks' := 0) (st := [vo 3]) [vi y3] dX5_advance_105 ml_X5_38 (go_3) rfl (Nat.le_of_ble_eq_true rfl) (Nat.le_of_ble_eq_true rfl) (z_post H (fun r G1 h20 q => ?_))
        obtain ⟨y21, rfl, rfl, H⟩ := q
        show zAt E (d + 1) 0 0 m_X5_advance 108 [vo 3, vi y3, vi y5] [vl y21, vo 3] g0 h20 (zPv Q)
        refine a_putL (pc := 108) dX5_advance_108 fl_X5_42 (go_3) ?_
        have H := H _ rfl
        generalize stL h20 3 5 y21 = h22 at H ⊢
        refine a_aload_n (pc := 111) dX5_advance_111 rfl ?_
        refine a_dup (pc := 112) dX5_advance_112 rfl ?_
        refine a_getI (pc := 113) dX5_advance_113 fl_X5_26 (go_3) ?_
        refine a_iload_n (pc := 116) dX5_advance_116 rfl ?_
        refine a_iadd (pc := 117) dX5_advance_117 ?_
        refine a_putI (pc := 118) dX5_advance_118 fl_X5_26 (go_3) ?_
        have H := H _ rfl
        generalize stI h22 3 2 (w32 ((hI h22 3 2) + y3)) = h23 at H ⊢
        refine a_aload_n (pc := 121) dX5_advance_121 rfl ?_
        refine a_iload_n (pc := 122) dX5_advance_122 rfl ?_
        refine a_bipush (pc := 123) dX5_advance_123 (by decide) ?_
        refine a_icmp_le (pc := 125) (tgt := 133) dX5_advance_125 (by decide) (fun c => ?_) (fun c => ?_)
        · have H := H.1 c
          refine a_aload_n (pc := 133) dX5_advance_133 rfl ?_
          refine a_getL (pc := 134) dX5_advance_134 fl_X5_42 (go_3) ?_
          refine a_callS (pc := 137) (kc := 0) (ks := 0) (kc' := 0) (ks' := 0) (st := [vo 3]) [vl (hL h23 3 5)] dX5_advance_137 ml_X5_46 rfl (Nat.le_of_ble_eq_true rfl) (Nat.le_of_ble_eq_true rfl) (z_post H (fun r G1 h24 q => ?_))
          obtain ⟨y25, rfl, rfl, H⟩ := q
          show zAt E (d + 1) 0 0 m_X5_advance 140 [vo 3, vi y3, vi y5] [vi y25, vo 3] g0 h24 (zPv Q)
          refine a_putI (pc := 140) dX5_advance_140 fl_X5_9 (go_3) ?_
          have H := H _ rfl
          generalize stI h24 3 3 y25 = h26 at H ⊢
          refine a_goto (pc := 143) (tgt := 234) dX5_advance_143 (by decide) ?_
          exact a_return (pc := 234) dX5_advance_234 trivial ⟨rfl, rfl, H⟩
        · have H := H.2 c
          refine a_bipush (pc := 128) dX5_advance_128 (by decide) ?_
          refine a_goto (pc := 130) (tgt := 140) dX5_advance_130 (by decide) ?_
          refine a_putI (pc := 140) dX5_advance_140 fl_X5_9 (go_3) ?_
          have H := H _ rfl
          generalize stI h23 3 3 17 = h27 at H ⊢
          refine a_goto (pc := 143) (tgt := 234) dX5_advance_143 (by decide) ?_
          exact a_return (pc := 234) dX5_advance_234 trivial ⟨rfl, rfl, H⟩
    · have H := H.2 c
      refine a_aload_n (pc := 89) dX5_advance_89 rfl ?_
      refine a_bipush (pc := 90) dX5_advance_90 (by decide) ?_
      refine a_putI (pc := 92) dX5_advance_92 fl_X5_9 (go_3) ?_
      have H := H _ rfl
      generalize stI h4 3 3 16 = h28 at H ⊢
      refine a_goto (pc := 95) (tgt := 234) dX5_advance_95 (by decide) ?_
      exact a_return (pc := 234) dX5_advance_234 trivial ⟨rfl, rfl, H⟩
  · have H := H.2 c
    refine a_aload_n (pc := 11) dX5_advance_11 rfl ?_
    obtain ⟨t29, het29, hct29, H⟩ := H
    refine a_getR (pc := 12) dX5_advance_12 fl_X5_13 (go_3) het29 ?_
    refine a_aload_n (pc := 15) dX5_advance_15 rfl ?_
    refine a_getI (pc := 16) dX5_advance_16 fl_X5_26 (go_3) ?_
    obtain ⟨hb30, H⟩ := H
    refine a_baload (pc := 19) dX5_advance_19 (hct29) hb30 ?_
    refine a_bipush (pc := 20) dX5_advance_20 (by decide) ?_
    refine a_icmp_eq (pc := 22) (tgt := 39) dX5_advance_22 (by decide) (fun c => ?_) (fun c => ?_)
    · have H := H.1 c
      refine a_aload_n (pc := 39) dX5_advance_39 rfl ?_
      refine a_dup (pc := 40) dX5_advance_40 rfl ?_
      refine a_getI (pc := 41) dX5_advance_41 fl_X5_26 (go_3) ?_
      refine a_iconst (pc := 44) dX5_advance_44 (by decide) ?_
      refine a_iadd (pc := 45) dX5_advance_45 ?_
      refine a_putI (pc := 46) dX5_advance_46 fl_X5_26 (go_3) ?_
      have H := H _ rfl
      generalize stI h 3 2 (w32 ((hI h 3 2) + 1)) = h31 at H ⊢
      refine a_goto (pc := 49) (tgt := 0) dX5_advance_49 (by decide) ?_
      exact H
    · have H := H.2 c
      refine a_aload_n (pc := 25) dX5_advance_25 rfl ?_
      obtain ⟨t32, het32, hct32, H⟩ := H
      refine a_getR (pc := 26) dX5_advance_26 fl_X5_13 (go_3) het32 ?_
      refine a_aload_n (pc := 29) dX5_advance_29 rfl ?_
      refine a_getI (pc := 30) dX5_advance_30 fl_X5_26 (go_3) ?_
      refine a_baload (pc := 33) dX5_advance_33 (hct32) hb30 ?_
      refine a_bipush (pc := 34) dX5_advance_34 (by decide) ?_
      refine a_icmp_ne (pc := 36) (tgt := 52) dX5_advance_36 (by decide) (fun c => ?_) (fun c => ?_)
      · have H := H.1 c
        refine a_aload_n (pc := 52) dX5_advance_52 rfl ?_
        refine a_aload_n (pc := 53) dX5_advance_53 rfl ?_
        refine a_getI (pc := 54) dX5_advance_54 fl_X5_26 (go_3) ?_
        refine a_putI (pc := 57) dX5_advance_57 fl_X5_32 (go_3) ?_
        have H := H _ rfl
        generalize stI h 3 4 (hI h 3 2) = h33 at H ⊢
        refine a_aload_n (pc := 60) dX5_advance_60 rfl ?_
        refine a_bipush (pc := 61) dX5_advance_61 (by decide) ?_
        refine a_bipush (pc := 63) dX5_advance_63 (by decide) ?_
        refine a_callV (pc := 65) (kc := 0) (ks := 0) (kc' := 0) (ks' := 0) (st := []) [vi 97, vi 122] dX5_advance_65 ml_X5_35 (go_3) rfl (Nat.le_of_ble_eq_true rfl) (Nat.le_of_ble_eq_true rfl) (z_post H (fun r G1 h34 q => ?_))
        obtain ⟨y35, rfl, rfl, H⟩ := q
        show zAt E (d + 1) 0 0 m_X5_advance 68 [vo 3, vn, vn] [vi y35] g0 h34 (zPv Q)
        refine a_istore_n (pc := 68) (ls' := [vo 3, vi y35, vn]) dX5_advance_68 rfl rfl ?_
        refine a_aload_n (pc := 69) dX5_advance_69 rfl ?_
        refine a_bipush (pc := 70) dX5_advance_70 (by decide) ?_
        refine a_bipush (pc := 72) dX5_advance_72 (by decide) ?_
        refine a_callV (pc := 74) (kc := 0) (ks := 0) (kc' := 0) (ks' := 0) (st := []) [vi 48, vi 57] dX5_advance_74 ml_X5_35 (go_3) rfl (Nat.le_of_ble_eq_true rfl) (Nat.le_of_ble_eq_true rfl) (z_post H (fun r G1 h36 q => ?_))
        obtain ⟨y37, rfl, rfl, H⟩ := q
        show zAt E (d + 1) 0 0 m_X5_advance 77 [vo 3, vi y35, vn] [vi y37] g0 h36 (zPv Q)
        refine a_istore_n (pc := 77) (ls' := [vo 3, vi y35, vi y37]) dX5_advance_77 rfl rfl ?_
        refine a_aload_n (pc := 78) dX5_advance_78 rfl ?_
        refine a_getI (pc := 79) dX5_advance_79 fl_X5_26 (go_3) ?_
        refine a_aload_n (pc := 82) dX5_advance_82 rfl ?_
        refine a_getI (pc := 83) dX5_advance_83 fl_X5_23 (go_3) ?_
        refine a_icmp_lt (pc := 86) (tgt := 98) dX5_advance_86 (by decide) (fun c => ?_) (fun c => ?_)
        · have H := H.1 c
          refine a_iload_n (pc := 98) dX5_advance_98 rfl ?_
          refine a_if_le (pc := 99) (tgt := 146) dX5_advance_99 (by decide) (fun c => ?_) (fun c => ?_)
          · have H := H.1 c
            refine a_iload_n (pc := 146) dX5_advance_146 rfl ?_
            refine a_if_le (pc := 147) (tgt := 199) dX5_advance_147 (by decide) (fun c => ?_) (fun c => ?_)
            · have H := H.1 c
              refine a_aload_n (pc := 199) dX5_advance_199 rfl ?_
              refine a_aload_n (pc := 200) dX5_advance_200 rfl ?_
              obtain ⟨t38, het38, hct38, H⟩ := H
              refine a_getR (pc := 201) dX5_advance_201 fl_X5_13 (go_3) het38 ?_
              refine a_aload_n (pc := 204) dX5_advance_204 rfl ?_
              refine a_getI (pc := 205) dX5_advance_205 fl_X5_26 (go_3) ?_
              obtain ⟨hb39, H⟩ := H
              refine a_baload (pc := 208) dX5_advance_208 (hct38) hb39 ?_
              refine a_bipush (pc := 209) dX5_advance_209 (by decide) ?_
              have J : zAt E (d + 1) 0 0 m_X5_advance 221 [vo 3, vi y35, vi y37] [vi (if (hI h36 t38 (hI h36 3 2).toNat) ≠ 59 then 17 else 15), vo 3] g0 h36 (zPv Q) := by
                refine a_putI (pc := 221) dX5_advance_221 fl_X5_9 (go_3) ?_
                have H := H _ rfl
                generalize stI h36 3 3 (if (hI h36 t38 (hI h36 3 2).toNat) ≠ 59 then 17 else 15) = h41 at H ⊢
                refine a_aload_n (pc := 224) dX5_advance_224 rfl ?_
                refine a_dup (pc := 225) dX5_advance_225 rfl ?_
                refine a_getI (pc := 226) dX5_advance_226 fl_X5_26 (go_3) ?_
                refine a_iconst (pc := 229) dX5_advance_229 (by decide) ?_
                refine a_iadd (pc := 230) dX5_advance_230 ?_
                refine a_putI (pc := 231) dX5_advance_231 fl_X5_26 (go_3) ?_
                have H := H _ rfl
                generalize stI h41 3 2 (w32 ((hI h41 3 2) + 1)) = h42 at H ⊢
                exact a_return (pc := 234) dX5_advance_234 trivial ⟨rfl, rfl, H⟩
              refine a_icmp_ne (pc := 211) (tgt := 219) dX5_advance_211 (by decide) (fun c40 => ?_) (fun c40 => ?_)
              · skip
                refine a_bipush (pc := 219) dX5_advance_219 (by decide) ?_
                exact (z_mergeT c40 J)
              · skip
                refine a_bipush (pc := 214) dX5_advance_214 (by decide) ?_
                refine a_goto (pc := 216) (tgt := 221) dX5_advance_216 (by decide) ?_
                exact (z_mergeF (fun n => n c40) J)
            · have H := H.2 c
              refine a_aload_n (pc := 150) dX5_advance_150 rfl ?_
              refine a_aload_n (pc := 151) dX5_advance_151 rfl ?_
              refine a_iload_n (pc := 152) dX5_advance_152 rfl ?_
              refine a_callV (pc := 153) (kc := 0) (ks := 0) (kc' := 0) (ks' := 0) (st := [vo 3]) [vi y37] dX5_advance_153 ml_X5_50 (go_3) rfl (Nat.le_of_ble_eq_true rfl) (Nat.le_of_ble_eq_true rfl) (z_post H (fun r G1 h43 q => ?_))
              obtain ⟨y44, rfl, rfl, H⟩ := q
              show zAt E (d + 1) 0 0 m_X5_advance 156 [vo 3, vi y35, vi y37] [vi y44, vo 3] g0 h43 (zPv Q)
              refine a_putI (pc := 156) dX5_advance_156 fl_X5_54 (go_3) ?_
              have H := H _ rfl
              generalize stI h43 3 6 y44 = h45 at H ⊢
              refine a_aload_n (pc := 159) dX5_advance_159 rfl ?_
              refine a_dup (pc := 160) dX5_advance_160 rfl ?_
              refine a_getI (pc := 161) dX5_advance_161 fl_X5_26 (go_3) ?_
              refine a_iload_n (pc := 164) dX5_advance_164 rfl ?_
              refine a_iadd (pc := 165) dX5_advance_165 ?_
              refine a_putI (pc := 166) dX5_advance_166 fl_X5_26 (go_3) ?_
              have H := H _ rfl
              generalize stI h45 3 2 (w32 ((hI h45 3 2) + y37)) = h46 at H ⊢
              refine a_aload_n (pc := 169) dX5_advance_169 rfl ?_
              refine a_iload_n (pc := 170) dX5_advance_170 rfl ?_
              refine a_iconst (pc := 171) dX5_advance_171 (by decide) ?_
              refine a_icmp_gt (pc := 172) (tgt := 186) dX5_advance_172 (by decide) (fun c => ?_) (fun c => ?_)
              · have H := H.1 c
                refine a_bipush (pc := 186) dX5_advance_186 (by decide) ?_
                refine a_goto (pc := 188) (tgt := 193) dX5_advance_188 (by decide) ?_
                refine a_putI (pc := 193) dX5_advance_193 fl_X5_9 (go_3) ?_
                have H := H _ rfl
                generalize stI h46 3 3 17 = h47 at H ⊢
                refine a_goto (pc := 196) (tgt := 234) dX5_advance_196 (by decide) ?_
                exact a_return (pc := 234) dX5_advance_234 trivial ⟨rfl, rfl, H⟩
              · have H := H.2 c
                refine a_aload_n (pc := 175) dX5_advance_175 rfl ?_
                refine a_bipush (pc := 176) dX5_advance_176 (by decide) ?_
                refine a_bipush (pc := 178) dX5_advance_178 (by decide) ?_
                refine a_callV (pc := 180) (kc := 0) (ks := 0) (kc' := 0) (ks' := 0) (st := [vo 3]) [vi 97, vi 122] dX5_advance_180 ml_X5_35 (go_3) rfl (Nat.le_of_ble_eq_true rfl) (Nat.le_of_ble_eq_true rfl) (z_post H (fun r G1 h48 q => ?_))
                obtain ⟨y49, rfl, rfl, H⟩ := q
                show zAt E (d + 1) 0 0 m_X5_advance 183 [vo 3, vi y35, vi y37] [vi y49, vo 3] g0 h48 (zPv Q)
                have J : zAt E (d + 1) 0 0 m_X5_advance 193 [vo 3, vi y35, vi y37] [vi (if y49 ≤ 0 then 14 else 17), vo 3] g0 h48 (zPv Q) := by
                  refine a_putI (pc := 193) dX5_advance_193 fl_X5_9 (go_3) ?_
                  have H := H _ rfl
                  generalize stI h48 3 3 (if y49 ≤ 0 then 14 else 17) = h51 at H ⊢
                  refine a_goto (pc := 196) (tgt := 234) dX5_advance_196 (by decide) ?_
                  exact a_return (pc := 234) dX5_advance_234 trivial ⟨rfl, rfl, H⟩
                refine a_if_le (pc := 183) (tgt := 191) dX5_advance_183 (by decide) (fun c50 => ?_) (fun c50 => ?_)
                · skip
                  refine a_bipush (pc := 191) dX5_advance_191 (by decide) ?_
                  exact (z_mergeT c50 J)
                · skip
                  refine a_bipush (pc := 186) dX5_advance_186 (by decide) ?_
                  refine a_goto (pc := 188) (tgt := 193) dX5_advance_188 (by decide) ?_
                  exact (z_mergeF (Int.not_le.mpr c50) J)
          · have H := H.2 c
            refine a_aload_n (pc := 102) dX5_advance_102 rfl ?_
            refine a_aload_n (pc := 103) dX5_advance_103 rfl ?_
            refine a_iload_n (pc := 104) dX5_advance_104 rfl ?_
            refine a_callV (pc := 105) (kc := 0) (ks := 0) (kc' := 0) (ks' := 0) (st := [vo 3]) [vi y35] dX5_advance_105 ml_X5_38 (go_3) rfl (Nat.le_of_ble_eq_true rfl) (Nat.le_of_ble_eq_true rfl) (z_post H (fun r G1 h52 q => ?_))
            obtain ⟨y53, rfl, rfl, H⟩ := q
            show zAt E (d + 1) 0 0 m_X5_advance 108 [vo 3, vi y35, vi y37] [vl y53, vo 3] g0 h52 (zPv Q)
            refine a_putL (pc := 108) dX5_advance_108 fl_X5_42 (go_3) ?_
            have H := H _ rfl
            generalize stL h52 3 5 y53 = h54 at H ⊢
            refine a_aload_n (pc := 111) dX5_advance_111 rfl ?_
            refine a_dup (pc := 112) dX5_advance_112 rfl ?_
            refine a_getI (pc := 113) dX5_advance_113 fl_X5_26 (go_3) ?_
            refine a_iload_n (pc := 116) dX5_advance_116 rfl ?_
            refine a_iadd (pc := 117) dX5_advance_117 ?_
            refine a_putI (pc := 118) dX5_advance_118 fl_X5_26 (go_3) ?_
            have H := H _ rfl
            generalize stI h54 3 2 (w32 ((hI h54 3 2) + y35)) = h55 at H ⊢
            refine a_aload_n (pc := 121) dX5_advance_121 rfl ?_
            refine a_iload_n (pc := 122) dX5_advance_122 rfl ?_
            refine a_bipush (pc := 123) dX5_advance_123 (by decide) ?_
            refine a_icmp_le (pc := 125) (tgt := 133) dX5_advance_125 (by decide) (fun c => ?_) (fun c => ?_)
            · have H := H.1 c
              refine a_aload_n (pc := 133) dX5_advance_133 rfl ?_
              refine a_getL (pc := 134) dX5_advance_134 fl_X5_42 (go_3) ?_
              refine a_callS (pc := 137) (kc := 0) (ks := 0) (kc' := 0) (ks' := 0) (st := [vo 3]) [vl (hL h55 3 5)] dX5_advance_137 ml_X5_46 rfl (Nat.le_of_ble_eq_true rfl) (Nat.le_of_ble_eq_true rfl) (z_post H (fun r G1 h56 q => ?_))
              obtain ⟨y57, rfl, rfl, H⟩ := q
              show zAt E (d + 1) 0 0 m_X5_advance 140 [vo 3, vi y35, vi y37] [vi y57, vo 3] g0 h56 (zPv Q)
              refine a_putI (pc := 140) dX5_advance_140 fl_X5_9 (go_3) ?_
              have H := H _ rfl
              generalize stI h56 3 3 y57 = h58 at H ⊢
              refine a_goto (pc := 143) (tgt := 234) dX5_advance_143 (by decide) ?_
              exact a_return (pc := 234) dX5_advance_234 trivial ⟨rfl, rfl, H⟩
            · have H := H.2 c
              refine a_bipush (pc := 128) dX5_advance_128 (by decide) ?_
              refine a_goto (pc := 130) (tgt := 140) dX5_advance_130 (by decide) ?_
              refine a_putI (pc := 140) dX5_advance_140 fl_X5_9 (go_3) ?_
              have H := H _ rfl
              generalize stI h55 3 3 17 = h59 at H ⊢
              refine a_goto (pc := 143) (tgt := 234) dX5_advance_143 (by decide) ?_
              exact a_return (pc := 234) dX5_advance_234 trivial ⟨rfl, rfl, H⟩
        · have H := H.2 c
          refine a_aload_n (pc := 89) dX5_advance_89 rfl ?_
          refine a_bipush (pc := 90) dX5_advance_90 (by decide) ?_
          refine a_putI (pc := 92) dX5_advance_92 fl_X5_9 (go_3) ?_
          have H := H _ rfl
          generalize stI h36 3 3 16 = h60 at H ⊢
          refine a_goto (pc := 95) (tgt := 234) dX5_advance_95 (by decide) ?_
          exact a_return (pc := 234) dX5_advance_234 trivial ⟨rfl, rfl, H⟩
      · have H := H.2 c
        refine a_aload_n (pc := 39) dX5_advance_39 rfl ?_
        refine a_dup (pc := 40) dX5_advance_40 rfl ?_
        refine a_getI (pc := 41) dX5_advance_41 fl_X5_26 (go_3) ?_
        refine a_iconst (pc := 44) dX5_advance_44 (by decide) ?_
        refine a_iadd (pc := 45) dX5_advance_45 ?_
        refine a_putI (pc := 46) dX5_advance_46 fl_X5_26 (go_3) ?_
        have H := H _ rfl
        generalize stI h 3 2 (w32 ((hI h 3 2) + 1)) = h61 at H ⊢
        refine a_goto (pc := 49) (tgt := 0) dX5_advance_49 (by decide) ?_
        exact H
set_option maxRecDepth 20000 in
theorem v_X5_runOf {E : zE} {d : Nat} {h : zS} {Q : Int → zS → Prop} {x1 : Int} {x2 : Int}  (H : zWi E d m_X5_runOf 5 [vo 3, vi x1, vi x2, vi (hI h 3 2)] h Q) : zCi E d m_X5_runOf [vo 3, vi x1, vi x2] h Q := by
  show zAt E d 0 0 m_X5_runOf 0 [vo 3, vi x1, vi x2, vn] [] g0 h (zPi Q)
  refine a_aload_n (pc := 0) dX5_runOf_0 rfl ?_
  refine a_getI (pc := 1) dX5_runOf_1 fl_X5_26 (go_3) ?_
  refine a_istore_n (pc := 4) (ls' := [vo 3, vi x1, vi x2, vi (hI h 3 2)]) dX5_runOf_4 rfl rfl ?_
  exact H
set_option maxRecDepth 20000 in
theorem r_X5_runOf_5 {E : zE} {d : Nat} {h : zS} {Q : Int → zS → Prop} {x1 : Int} {x2 : Int} {x3 : Int}  (H : (((hI h 3 1) ≤ x3 → (Q (w32 (x3 - (hI h 3 2))) h)) ∧ (x3 < (hI h 3 1) → (∃ t1, hR h 3 0 = some t1 ∧ zArr g0 t1 1 1600 ∧ (0 ≤ x3 ∧ x3 < 1600) ∧ (((hI h t1 x3.toNat) < x1 → (Q (w32 (x3 - (hI h 3 2))) h)) ∧ (x1 ≤ (hI h t1 x3.toNat) → (∃ t3, hR h 3 0 = some t3 ∧ zArr g0 t3 1 1600 ∧ ((x2 < (hI h t3 x3.toNat) → (Q (w32 (x3 - (hI h 3 2))) h)) ∧ ((hI h t3 x3.toNat) ≤ x2 → (zWi E d m_X5_runOf 5 [vo 3, vi x1, vi x2, vi (w32 (x3 + 1))] h Q)))))))))) : zWi E d m_X5_runOf 5 [vo 3, vi x1, vi x2, vi x3] h Q := by
  refine a_iload_n (pc := 5) dX5_runOf_5 rfl ?_
  refine a_aload_n (pc := 6) dX5_runOf_6 rfl ?_
  refine a_getI (pc := 7) dX5_runOf_7 fl_X5_23 (go_3) ?_
  refine a_icmp_ge (pc := 10) (tgt := 39) dX5_runOf_10 (by decide) (fun c => ?_) (fun c => ?_)
  · have H := H.1 c
    refine a_iload_n (pc := 39) dX5_runOf_39 rfl ?_
    refine a_aload_n (pc := 40) dX5_runOf_40 rfl ?_
    refine a_getI (pc := 41) dX5_runOf_41 fl_X5_26 (go_3) ?_
    refine a_isub (pc := 44) dX5_runOf_44 ?_
    exact a_ireturn (pc := 45) dX5_runOf_45 trivial ⟨_, rfl, rfl, H⟩
  · have H := H.2 c
    refine a_aload_n (pc := 13) dX5_runOf_13 rfl ?_
    obtain ⟨t1, het1, hct1, H⟩ := H
    refine a_getR (pc := 14) dX5_runOf_14 fl_X5_13 (go_3) het1 ?_
    refine a_iload_n (pc := 17) dX5_runOf_17 rfl ?_
    obtain ⟨hb2, H⟩ := H
    refine a_baload (pc := 18) dX5_runOf_18 (hct1) hb2 ?_
    refine a_iload_n (pc := 19) dX5_runOf_19 rfl ?_
    refine a_icmp_lt (pc := 20) (tgt := 39) dX5_runOf_20 (by decide) (fun c => ?_) (fun c => ?_)
    · have H := H.1 c
      refine a_iload_n (pc := 39) dX5_runOf_39 rfl ?_
      refine a_aload_n (pc := 40) dX5_runOf_40 rfl ?_
      refine a_getI (pc := 41) dX5_runOf_41 fl_X5_26 (go_3) ?_
      refine a_isub (pc := 44) dX5_runOf_44 ?_
      exact a_ireturn (pc := 45) dX5_runOf_45 trivial ⟨_, rfl, rfl, H⟩
    · have H := H.2 c
      refine a_aload_n (pc := 23) dX5_runOf_23 rfl ?_
      obtain ⟨t3, het3, hct3, H⟩ := H
      refine a_getR (pc := 24) dX5_runOf_24 fl_X5_13 (go_3) het3 ?_
      refine a_iload_n (pc := 27) dX5_runOf_27 rfl ?_
      refine a_baload (pc := 28) dX5_runOf_28 (hct3) hb2 ?_
      refine a_iload_n (pc := 29) dX5_runOf_29 rfl ?_
      refine a_icmp_gt (pc := 30) (tgt := 39) dX5_runOf_30 (by decide) (fun c => ?_) (fun c => ?_)
      · have H := H.1 c
        refine a_iload_n (pc := 39) dX5_runOf_39 rfl ?_
        refine a_aload_n (pc := 40) dX5_runOf_40 rfl ?_
        refine a_getI (pc := 41) dX5_runOf_41 fl_X5_26 (go_3) ?_
        refine a_isub (pc := 44) dX5_runOf_44 ?_
        exact a_ireturn (pc := 45) dX5_runOf_45 trivial ⟨_, rfl, rfl, H⟩
      · have H := H.2 c
        refine a_iinc (pc := 33) (ls' := [vo 3, vi x1, vi x2, vi (w32 (x3 + 1))]) dX5_runOf_33 rfl rfl rfl ?_
        refine a_goto (pc := 36) (tgt := 5) dX5_runOf_36 (by decide) ?_
        exact H
set_option maxRecDepth 20000 in
theorem v_X5_packed {E : zE} {d : Nat} {h : zS} {Q : Int → zS → Prop} {x1 : Int}  (H : zWl E d m_X5_packed 8 [vo 3, vi x1, vl 0, vn, vi (hI h 3 2)] h Q) : zCl E d m_X5_packed [vo 3, vi x1] h Q := by
  show zAt E d 0 0 m_X5_packed 0 [vo 3, vi x1, vn, vn, vn] [] g0 h (zPl Q)
  refine a_lconst0 (pc := 0) dX5_packed_0 ?_
  refine a_lstore_n (pc := 1) (ls' := [vo 3, vi x1, vl 0, vn, vn]) dX5_packed_1 rfl rfl ?_
  refine a_aload_n (pc := 2) dX5_packed_2 rfl ?_
  refine a_getI (pc := 3) dX5_packed_3 fl_X5_26 (go_3) ?_
  refine a_istore (pc := 6) (ls' := [vo 3, vi x1, vl 0, vn, vi (hI h 3 2)]) dX5_packed_6 rfl rfl ?_
  exact H
set_option maxRecDepth 20000 in
theorem r_X5_packed_8 {E : zE} {d : Nat} {h : zS} {Q : Int → zS → Prop} {x1 : Int} {x2 : Int} {x4 : Int}  (H : (((w32 ((hI h 3 2) + x1)) ≤ x4 → (Q x2 h)) ∧ (x4 < (w32 ((hI h 3 2) + x1)) → (((hI h 3 1) ≤ x4 → (Q x2 h)) ∧ (x4 < (hI h 3 1) → (∃ t1, hR h 3 0 = some t1 ∧ zArr g0 t1 1 1600 ∧ (0 ≤ x4 ∧ x4 < 1600) ∧ ∀ y3 : Int, y3 = z_lor (z_lshl x2 8) (hI h t1 x4.toNat) → zWl E d m_X5_packed 8 [vo 3, vi x1, vl y3, vn, vi (w32 (x4 + 1))] h Q)))))) : zWl E d m_X5_packed 8 [vo 3, vi x1, vl x2, vn, vi x4] h Q := by
  refine a_iload (pc := 8) dX5_packed_8 rfl ?_
  refine a_aload_n (pc := 10) dX5_packed_10 rfl ?_
  refine a_getI (pc := 11) dX5_packed_11 fl_X5_26 (go_3) ?_
  refine a_iload_n (pc := 14) dX5_packed_14 rfl ?_
  refine a_iadd (pc := 15) dX5_packed_15 ?_
  refine a_icmp_ge (pc := 16) (tgt := 48) dX5_packed_16 (by decide) (fun c => ?_) (fun c => ?_)
  · have H := H.1 c
    refine a_lload_n (pc := 48) dX5_packed_48 rfl ?_
    exact a_lreturn (pc := 49) dX5_packed_49 trivial ⟨_, rfl, rfl, H⟩
  · have H := H.2 c
    refine a_iload (pc := 19) dX5_packed_19 rfl ?_
    refine a_aload_n (pc := 21) dX5_packed_21 rfl ?_
    refine a_getI (pc := 22) dX5_packed_22 fl_X5_23 (go_3) ?_
    refine a_icmp_ge (pc := 25) (tgt := 48) dX5_packed_25 (by decide) (fun c => ?_) (fun c => ?_)
    · have H := H.1 c
      refine a_lload_n (pc := 48) dX5_packed_48 rfl ?_
      exact a_lreturn (pc := 49) dX5_packed_49 trivial ⟨_, rfl, rfl, H⟩
    · have H := H.2 c
      refine a_lload_n (pc := 28) dX5_packed_28 rfl ?_
      refine a_bipush (pc := 29) dX5_packed_29 (by decide) ?_
      refine a_lshl (pc := 31) dX5_packed_31 ?_
      refine a_aload_n (pc := 32) dX5_packed_32 rfl ?_
      obtain ⟨t1, het1, hct1, H⟩ := H
      refine a_getR (pc := 33) dX5_packed_33 fl_X5_13 (go_3) het1 ?_
      refine a_iload (pc := 36) dX5_packed_36 rfl ?_
      obtain ⟨hb2, H⟩ := H
      refine a_baload (pc := 38) dX5_packed_38 (hct1) hb2 ?_
      refine a_i2l (pc := 39) dX5_packed_39 ?_
      refine a_lor (pc := 40) dX5_packed_40 ?_
      have H := H _ rfl
      generalize (z_lor (z_lshl x2 8) (hI h t1 x4.toNat) : Int) = y3 at H ⊢
      refine a_lstore_n (pc := 41) (ls' := [vo 3, vi x1, vl y3, vn, vi x4]) dX5_packed_41 rfl rfl ?_
      refine a_iinc (pc := 42) (ls' := [vo 3, vi x1, vl y3, vn, vi (w32 (x4 + 1))]) dX5_packed_42 rfl rfl rfl ?_
      refine a_goto (pc := 45) (tgt := 8) dX5_packed_45 (by decide) ?_
      exact H
set_option maxRecDepth 20000 in
theorem v_X5_valueOf {E : zE} {d : Nat} {h : zS} {Q : Int → zS → Prop} {x1 : Int}  (H : zWi E d m_X5_valueOf 7 [vo 3, vi x1, vi 0, vi (hI h 3 2)] h Q) : zCi E d m_X5_valueOf [vo 3, vi x1] h Q := by
  show zAt E d 0 0 m_X5_valueOf 0 [vo 3, vi x1, vn, vn] [] g0 h (zPi Q)
  refine a_iconst (pc := 0) dX5_valueOf_0 (by decide) ?_
  refine a_istore_n (pc := 1) (ls' := [vo 3, vi x1, vi 0, vn]) dX5_valueOf_1 rfl rfl ?_
  refine a_aload_n (pc := 2) dX5_valueOf_2 rfl ?_
  refine a_getI (pc := 3) dX5_valueOf_3 fl_X5_26 (go_3) ?_
  refine a_istore_n (pc := 6) (ls' := [vo 3, vi x1, vi 0, vi (hI h 3 2)]) dX5_valueOf_6 rfl rfl ?_
  exact H
set_option maxRecDepth 20000 in
theorem r_X5_valueOf_7 {E : zE} {d : Nat} {h : zS} {Q : Int → zS → Prop} {x1 : Int} {x2 : Int} {x3 : Int}  (H : (((w32 ((hI h 3 2) + x1)) ≤ x3 → (Q x2 h)) ∧ (x3 < (w32 ((hI h 3 2) + x1)) → (((hI h 3 1) ≤ x3 → (Q x2 h)) ∧ (x3 < (hI h 3 1) → (∃ t1, hR h 3 0 = some t1 ∧ zArr g0 t1 1 1600 ∧ (0 ≤ x3 ∧ x3 < 1600) ∧ ∀ y3 : Int, y3 = w32 ((w32 (x2 * 10)) + (w32 ((hI h t1 x3.toNat) - 48))) → zWi E d m_X5_valueOf 7 [vo 3, vi x1, vi y3, vi (w32 (x3 + 1))] h Q)))))) : zWi E d m_X5_valueOf 7 [vo 3, vi x1, vi x2, vi x3] h Q := by
  refine a_iload_n (pc := 7) dX5_valueOf_7 rfl ?_
  refine a_aload_n (pc := 8) dX5_valueOf_8 rfl ?_
  refine a_getI (pc := 9) dX5_valueOf_9 fl_X5_26 (go_3) ?_
  refine a_iload_n (pc := 12) dX5_valueOf_12 rfl ?_
  refine a_iadd (pc := 13) dX5_valueOf_13 ?_
  refine a_icmp_ge (pc := 14) (tgt := 46) dX5_valueOf_14 (by decide) (fun c => ?_) (fun c => ?_)
  · have H := H.1 c
    refine a_iload_n (pc := 46) dX5_valueOf_46 rfl ?_
    exact a_ireturn (pc := 47) dX5_valueOf_47 trivial ⟨_, rfl, rfl, H⟩
  · have H := H.2 c
    refine a_iload_n (pc := 17) dX5_valueOf_17 rfl ?_
    refine a_aload_n (pc := 18) dX5_valueOf_18 rfl ?_
    refine a_getI (pc := 19) dX5_valueOf_19 fl_X5_23 (go_3) ?_
    refine a_icmp_ge (pc := 22) (tgt := 46) dX5_valueOf_22 (by decide) (fun c => ?_) (fun c => ?_)
    · have H := H.1 c
      refine a_iload_n (pc := 46) dX5_valueOf_46 rfl ?_
      exact a_ireturn (pc := 47) dX5_valueOf_47 trivial ⟨_, rfl, rfl, H⟩
    · have H := H.2 c
      refine a_iload_n (pc := 25) dX5_valueOf_25 rfl ?_
      refine a_bipush (pc := 26) dX5_valueOf_26 (by decide) ?_
      refine a_imul (pc := 28) dX5_valueOf_28 ?_
      refine a_aload_n (pc := 29) dX5_valueOf_29 rfl ?_
      obtain ⟨t1, het1, hct1, H⟩ := H
      refine a_getR (pc := 30) dX5_valueOf_30 fl_X5_13 (go_3) het1 ?_
      refine a_iload_n (pc := 33) dX5_valueOf_33 rfl ?_
      obtain ⟨hb2, H⟩ := H
      refine a_baload (pc := 34) dX5_valueOf_34 (hct1) hb2 ?_
      refine a_bipush (pc := 35) dX5_valueOf_35 (by decide) ?_
      refine a_isub (pc := 37) dX5_valueOf_37 ?_
      refine a_iadd (pc := 38) dX5_valueOf_38 ?_
      have H := H _ rfl
      generalize (w32 ((w32 (x2 * 10)) + (w32 ((hI h t1 x3.toNat) - 48))) : Int) = y3 at H ⊢
      refine a_istore_n (pc := 39) (ls' := [vo 3, vi x1, vi y3, vi x3]) dX5_valueOf_39 rfl rfl ?_
      refine a_iinc (pc := 40) (ls' := [vo 3, vi x1, vi y3, vi (w32 (x3 + 1))]) dX5_valueOf_40 rfl rfl rfl ?_
      refine a_goto (pc := 43) (tgt := 7) dX5_valueOf_43 (by decide) ?_
      exact H
set_option maxRecDepth 20000 in
theorem v_X5_meaningOf {E : zE} {d : Nat} {h : zS} {Q : Int → zS → Prop} {x0 : Int}  (H : zWi E d m_X5_meaningOf 2 [vl x0, vn, vi 0] h Q) : zCi E d m_X5_meaningOf [vl x0] h Q := by
  show zAt E d 0 0 m_X5_meaningOf 0 [vl x0, vn, vn] [] g0 h (zPi Q)
  refine a_iconst (pc := 0) dX5_meaningOf_0 (by decide) ?_
  refine a_istore_n (pc := 1) (ls' := [vl x0, vn, vi 0]) dX5_meaningOf_1 rfl rfl ?_
  exact H
set_option maxRecDepth 20000 in
theorem r_X5_meaningOf_2 {E : zE} {d : Nat} {h : zS} {Q : Int → zS → Prop} {x0 : Int} {x2 : Int}  (H : ((13 ≤ x2 → (Q 13 h)) ∧ (x2 < 13 → ((0 ≤ x2 ∧ x2 < 13) ∧ (((z_lcmp (z_own.getD x2.toNat 0) x0) ≠ 0 → (zWi E d m_X5_meaningOf 2 [vl x0, vn, vi (w32 (x2 + 1))] h Q)) ∧ ((z_lcmp (z_own.getD x2.toNat 0) x0) = 0 → (Q x2 h))))))) : zWi E d m_X5_meaningOf 2 [vl x0, vn, vi x2] h Q := by
  refine a_iload_n (pc := 2) dX5_meaningOf_2 rfl ?_
  refine a_getstatic (pc := 3) dX5_meaningOf_3 sl_X5_57 ?_
  refine a_olen (pc := 6) dX5_meaningOf_6 ?_
  refine a_icmp_ge (pc := 7) (tgt := 28) dX5_meaningOf_7 (by decide) (fun c => ?_) (fun c => ?_)
  · have H := H.1 c
    refine a_bipush (pc := 28) dX5_meaningOf_28 (by decide) ?_
    exact a_ireturn (pc := 30) dX5_meaningOf_30 trivial ⟨_, rfl, rfl, H⟩
  · have H := H.2 c
    refine a_getstatic (pc := 10) dX5_meaningOf_10 sl_X5_57 ?_
    refine a_iload_n (pc := 13) dX5_meaningOf_13 rfl ?_
    obtain ⟨hb1, H⟩ := H
    refine a_oload (pc := 14) dX5_meaningOf_14 hb1 ?_
    refine a_lload_n (pc := 15) dX5_meaningOf_15 rfl ?_
    refine a_lcmp (pc := 16) dX5_meaningOf_16 ?_
    refine a_if_ne (pc := 17) (tgt := 22) dX5_meaningOf_17 (by decide) (fun c => ?_) (fun c => ?_)
    · have H := H.1 c
      refine a_iinc (pc := 22) (ls' := [vl x0, vn, vi (w32 (x2 + 1))]) dX5_meaningOf_22 rfl rfl rfl ?_
      refine a_goto (pc := 25) (tgt := 2) dX5_meaningOf_25 (by decide) ?_
      exact H
    · have H := H.2 c
      refine a_iload_n (pc := 20) dX5_meaningOf_20 rfl ?_
      exact a_ireturn (pc := 21) dX5_meaningOf_21 trivial ⟨_, rfl, rfl, H⟩
set_option maxRecDepth 20000 in
theorem v_X6_read {E : zE} {d : Nat} {h : zS} {Q : Int → zS → Prop} {k1 : Nat} {x2 : Int} {k3 : Nat} (hk1 : zArr g0 k1 1 1600) (hk3 : isCity k3) (H : ∀ h1, h1 = stR h 2 1 (some k3) → ∃ t2, hR h1 2 1 = some t2 ∧ isCity t2 ∧ zCv E d m_X0_clear [vo t2] h1 (fun h3 => ∀ h4, h4 = stI h3 2 2 0 → ∀ h5, h5 = stI h4 2 3 0 → ∀ h6, h6 = stI h5 2 4 (-1) → zCv E d m_X5_open [vo 3, vo k1, vi x2] h6 (fun h7 => zWi E (d + 1) m_X6_read 39 [vo 2, vn, vn, vn, vi 0] h7 Q))) : zCi E (d + 1) m_X6_read [vo 2, vo k1, vi x2, vo k3] h Q := by
  show zAt E (d + 1) 0 0 m_X6_read 0 [vo 2, vo k1, vi x2, vo k3, vn] [] g0 h (zPi Q)
  refine a_aload_n (pc := 0) dX6_read_0 rfl ?_
  refine a_aload_n (pc := 1) dX6_read_1 rfl ?_
  refine a_putR (pc := 2) dX6_read_2 fl_X6_22 (go_2) ?_
  have H := H _ rfl
  generalize stR h 2 1 (some k3) = h1 at H ⊢
  refine a_aload_n (pc := 5) dX6_read_5 rfl ?_
  obtain ⟨t2, het2, hct2, H⟩ := H
  refine a_getR (pc := 6) dX6_read_6 fl_X6_22 (go_2) het2 ?_
  refine a_callV (pc := 9) (kc := 0) (ks := 0) (kc' := 0) (ks' := 0) (st := []) [] dX6_read_9 ml_X6_26 (goCity hct2) rfl (Nat.le_of_ble_eq_true rfl) (Nat.le_of_ble_eq_true rfl) (z_post H (fun r G1 h3 q => ?_))
  obtain ⟨rfl, rfl, H⟩ := q
  show zAt E (d + 1) 0 0 m_X6_read 12 [vo 2, vo k1, vi x2, vo k3, vn] [] g0 h3 (zPi Q)
  refine a_aload_n (pc := 12) dX6_read_12 rfl ?_
  refine a_iconst (pc := 13) dX6_read_13 (by decide) ?_
  refine a_putZ (pc := 14) dX6_read_14 fl_X6_31 (go_2) (by decide) ?_
  have H := H _ rfl
  generalize stI h3 2 2 0 = h4 at H ⊢
  refine a_aload_n (pc := 17) dX6_read_17 rfl ?_
  refine a_iconst (pc := 18) dX6_read_18 (by decide) ?_
  refine a_putI (pc := 19) dX6_read_19 fl_X6_35 (go_2) ?_
  have H := H _ rfl
  generalize stI h4 2 3 0 = h5 at H ⊢
  refine a_aload_n (pc := 22) dX6_read_22 rfl ?_
  refine a_iconst (pc := 23) dX6_read_23 (by decide) ?_
  refine a_putI (pc := 24) dX6_read_24 fl_X6_18 (go_2) ?_
  have H := H _ rfl
  generalize stI h5 2 4 (-1) = h6 at H ⊢
  refine a_aload_n (pc := 27) dX6_read_27 rfl ?_
  refine a_getF (pc := 28) dX6_read_28 fl_X6_12 (go_2) (gf_2_0) ?_
  refine a_aload_n (pc := 31) dX6_read_31 rfl ?_
  refine a_iload_n (pc := 32) dX6_read_32 rfl ?_
  refine a_callV (pc := 33) (kc := 0) (ks := 0) (kc' := 0) (ks' := 0) (st := []) [vo k1, vi x2] dX6_read_33 ml_X6_38 (go_3) rfl (Nat.le_of_ble_eq_true rfl) (Nat.le_of_ble_eq_true rfl) (z_post H (fun r G1 h7 q => ?_))
  obtain ⟨rfl, rfl, H⟩ := q
  show zAt E (d + 1) 0 0 m_X6_read 36 [vo 2, vo k1, vi x2, vo k3, vn] [] g0 h7 (zPi Q)
  refine a_iconst (pc := 36) dX6_read_36 (by decide) ?_
  refine a_istore (pc := 37) (ls' := [vo 2, vo k1, vi x2, vo k3, vi 0]) dX6_read_37 rfl rfl ?_
  exact z_forget (ls' := [vo 2, vn, vn, vn, vi 0]) ⟨.inr rfl, .inl rfl, .inl rfl, .inl rfl, .inr rfl, trivial⟩ H
set_option maxRecDepth 20000 in
theorem r_X6_read_39 {E : zE} {d : Nat} {h : zS} {Q : Int → zS → Prop} {k1 : Nat} {k3 : Nat} {x4 : Int} (hk1 : zArr g0 k1 1 1600) (hk3 : isCity k3) (H : ((1600 < x4 → (((hI h 2 3) ≠ 0 → (((hI h 2 3) ≠ 0 → (Q 0 h)) ∧ ((hI h 2 3) = 0 → (Q 1 h)))) ∧ ((hI h 2 3) = 0 → (∃ t1, hR h 2 1 = some t1 ∧ isCity t1 ∧ zCv E d m_X0_settle [vo t1] h (fun h2 => (((hI h2 2 3) ≠ 0 → (Q 0 h2)) ∧ ((hI h2 2 3) = 0 → (Q 1 h2)))))))) ∧ (x4 ≤ 1600 → (((hI h 2 3) ≠ 0 → (((hI h 2 3) ≠ 0 → (((hI h 2 3) ≠ 0 → (Q 0 h)) ∧ ((hI h 2 3) = 0 → (Q 1 h)))) ∧ ((hI h 2 3) = 0 → (∃ t3, hR h 2 1 = some t3 ∧ isCity t3 ∧ zCv E d m_X0_settle [vo t3] h (fun h4 => (((hI h4 2 3) ≠ 0 → (Q 0 h4)) ∧ ((hI h4 2 3) = 0 → (Q 1 h4)))))))) ∧ ((hI h 2 3) = 0 → (((hI h 3 3) = 16 → (((hI h 2 3) ≠ 0 → (((hI h 2 3) ≠ 0 → (Q 0 h)) ∧ ((hI h 2 3) = 0 → (Q 1 h)))) ∧ ((hI h 2 3) = 0 → (∃ t5, hR h 2 1 = some t5 ∧ isCity t5 ∧ zCv E d m_X0_settle [vo t5] h (fun h6 => (((hI h6 2 3) ≠ 0 → (Q 0 h6)) ∧ ((hI h6 2 3) = 0 → (Q 1 h6)))))))) ∧ ((hI h 3 3) ≠ 16 → (zCv E d m_X6_readLine [vo 2] h (fun h7 => zWi E (d + 1) m_X6_read 39 [vo 2, vn, vn, vn, vi (w32 (x4 + 1))] h7 Q))))))))) : zWi E (d + 1) m_X6_read 39 [vo 2, vn, vn, vn, vi x4] h Q := by
  refine a_iload (pc := 39) dX6_read_39 rfl ?_
  refine a_sipush (pc := 41) dX6_read_41 (by decide) ?_
  refine a_icmp_gt (pc := 44) (tgt := 76) dX6_read_44 (by decide) (fun c => ?_) (fun c => ?_)
  · have H := H.1 c
    refine a_aload_n (pc := 76) dX6_read_76 rfl ?_
    refine a_getI (pc := 77) dX6_read_77 fl_X6_35 (go_2) ?_
    refine a_if_ne (pc := 80) (tgt := 90) dX6_read_80 (by decide) (fun c => ?_) (fun c => ?_)
    · have H := H.1 c
      refine a_aload_n (pc := 90) dX6_read_90 rfl ?_
      refine a_getI (pc := 91) dX6_read_91 fl_X6_35 (go_2) ?_
      refine a_if_ne (pc := 94) (tgt := 101) dX6_read_94 (by decide) (fun c => ?_) (fun c => ?_)
      · have H := H.1 c
        refine a_iconst (pc := 101) dX6_read_101 (by decide) ?_
        exact a_ireturn (pc := 102) dX6_read_102 (.inl rfl) ⟨_, rfl, rfl, H⟩
      · have H := H.2 c
        refine a_iconst (pc := 97) dX6_read_97 (by decide) ?_
        refine a_goto (pc := 98) (tgt := 102) dX6_read_98 (by decide) ?_
        exact a_ireturn (pc := 102) dX6_read_102 (.inr rfl) ⟨_, rfl, rfl, H⟩
    · have H := H.2 c
      refine a_aload_n (pc := 83) dX6_read_83 rfl ?_
      obtain ⟨t1, het1, hct1, H⟩ := H
      refine a_getR (pc := 84) dX6_read_84 fl_X6_22 (go_2) het1 ?_
      refine a_callV (pc := 87) (kc := 0) (ks := 0) (kc' := 0) (ks' := 0) (st := []) [] dX6_read_87 ml_X6_48 (goCity hct1) rfl (Nat.le_of_ble_eq_true rfl) (Nat.le_of_ble_eq_true rfl) (z_post H (fun r G1 h2 q => ?_))
      obtain ⟨rfl, rfl, H⟩ := q
      show zAt E (d + 1) 0 0 m_X6_read 90 [vo 2, vn, vn, vn, vi x4] [] g0 h2 (zPi Q)
      refine a_aload_n (pc := 90) dX6_read_90 rfl ?_
      refine a_getI (pc := 91) dX6_read_91 fl_X6_35 (go_2) ?_
      refine a_if_ne (pc := 94) (tgt := 101) dX6_read_94 (by decide) (fun c => ?_) (fun c => ?_)
      · have H := H.1 c
        refine a_iconst (pc := 101) dX6_read_101 (by decide) ?_
        exact a_ireturn (pc := 102) dX6_read_102 (.inl rfl) ⟨_, rfl, rfl, H⟩
      · have H := H.2 c
        refine a_iconst (pc := 97) dX6_read_97 (by decide) ?_
        refine a_goto (pc := 98) (tgt := 102) dX6_read_98 (by decide) ?_
        exact a_ireturn (pc := 102) dX6_read_102 (.inr rfl) ⟨_, rfl, rfl, H⟩
  · have H := H.2 c
    refine a_aload_n (pc := 47) dX6_read_47 rfl ?_
    refine a_getI (pc := 48) dX6_read_48 fl_X6_35 (go_2) ?_
    refine a_if_ne (pc := 51) (tgt := 76) dX6_read_51 (by decide) (fun c => ?_) (fun c => ?_)
    · have H := H.1 c
      refine a_aload_n (pc := 76) dX6_read_76 rfl ?_
      refine a_getI (pc := 77) dX6_read_77 fl_X6_35 (go_2) ?_
      refine a_if_ne (pc := 80) (tgt := 90) dX6_read_80 (by decide) (fun c => ?_) (fun c => ?_)
      · have H := H.1 c
        refine a_aload_n (pc := 90) dX6_read_90 rfl ?_
        refine a_getI (pc := 91) dX6_read_91 fl_X6_35 (go_2) ?_
        refine a_if_ne (pc := 94) (tgt := 101) dX6_read_94 (by decide) (fun c => ?_) (fun c => ?_)
        · have H := H.1 c
          refine a_iconst (pc := 101) dX6_read_101 (by decide) ?_
          exact a_ireturn (pc := 102) dX6_read_102 (.inl rfl) ⟨_, rfl, rfl, H⟩
        · have H := H.2 c
          refine a_iconst (pc := 97) dX6_read_97 (by decide) ?_
          refine a_goto (pc := 98) (tgt := 102) dX6_read_98 (by decide) ?_
          exact a_ireturn (pc := 102) dX6_read_102 (.inr rfl) ⟨_, rfl, rfl, H⟩
      · have H := H.2 c
        refine a_aload_n (pc := 83) dX6_read_83 rfl ?_
        obtain ⟨t3, het3, hct3, H⟩ := H
        refine a_getR (pc := 84) dX6_read_84 fl_X6_22 (go_2) het3 ?_
        refine a_callV (pc := 87) (kc := 0) (ks := 0) (kc' := 0) (ks' := 0) (st := []) [] dX6_read_87 ml_X6_48 (goCity hct3) rfl (Nat.le_of_ble_eq_true rfl) (Nat.le_of_ble_eq_true rfl) (z_post H (fun r G1 h4 q => ?_))
        obtain ⟨rfl, rfl, H⟩ := q
        show zAt E (d + 1) 0 0 m_X6_read 90 [vo 2, vn, vn, vn, vi x4] [] g0 h4 (zPi Q)
        refine a_aload_n (pc := 90) dX6_read_90 rfl ?_
        refine a_getI (pc := 91) dX6_read_91 fl_X6_35 (go_2) ?_
        refine a_if_ne (pc := 94) (tgt := 101) dX6_read_94 (by decide) (fun c => ?_) (fun c => ?_)
        · have H := H.1 c
          refine a_iconst (pc := 101) dX6_read_101 (by decide) ?_
          exact a_ireturn (pc := 102) dX6_read_102 (.inl rfl) ⟨_, rfl, rfl, H⟩
        · have H := H.2 c
          refine a_iconst (pc := 97) dX6_read_97 (by decide) ?_
          refine a_goto (pc := 98) (tgt := 102) dX6_read_98 (by decide) ?_
          exact a_ireturn (pc := 102) dX6_read_102 (.inr rfl) ⟨_, rfl, rfl, H⟩
    · have H := H.2 c
      refine a_aload_n (pc := 54) dX6_read_54 rfl ?_
      refine a_getF (pc := 55) dX6_read_55 fl_X6_12 (go_2) (gf_2_0) ?_
      refine a_getI (pc := 58) dX6_read_58 fl_X6_42 (go_3) ?_
      refine a_bipush (pc := 61) dX6_read_61 (by decide) ?_
      refine a_icmp_eq (pc := 63) (tgt := 76) dX6_read_63 (by decide) (fun c => ?_) (fun c => ?_)
      · have H := H.1 c
        refine a_aload_n (pc := 76) dX6_read_76 rfl ?_
        refine a_getI (pc := 77) dX6_read_77 fl_X6_35 (go_2) ?_
        refine a_if_ne (pc := 80) (tgt := 90) dX6_read_80 (by decide) (fun c => ?_) (fun c => ?_)
        · have H := H.1 c
          refine a_aload_n (pc := 90) dX6_read_90 rfl ?_
          refine a_getI (pc := 91) dX6_read_91 fl_X6_35 (go_2) ?_
          refine a_if_ne (pc := 94) (tgt := 101) dX6_read_94 (by decide) (fun c => ?_) (fun c => ?_)
          · have H := H.1 c
            refine a_iconst (pc := 101) dX6_read_101 (by decide) ?_
            exact a_ireturn (pc := 102) dX6_read_102 (.inl rfl) ⟨_, rfl, rfl, H⟩
          · have H := H.2 c
            refine a_iconst (pc := 97) dX6_read_97 (by decide) ?_
            refine a_goto (pc := 98) (tgt := 102) dX6_read_98 (by decide) ?_
            exact a_ireturn (pc := 102) dX6_read_102 (.inr rfl) ⟨_, rfl, rfl, H⟩
        · have H := H.2 c
          refine a_aload_n (pc := 83) dX6_read_83 rfl ?_
          obtain ⟨t5, het5, hct5, H⟩ := H
          refine a_getR (pc := 84) dX6_read_84 fl_X6_22 (go_2) het5 ?_
          refine a_callV (pc := 87) (kc := 0) (ks := 0) (kc' := 0) (ks' := 0) (st := []) [] dX6_read_87 ml_X6_48 (goCity hct5) rfl (Nat.le_of_ble_eq_true rfl) (Nat.le_of_ble_eq_true rfl) (z_post H (fun r G1 h6 q => ?_))
          obtain ⟨rfl, rfl, H⟩ := q
          show zAt E (d + 1) 0 0 m_X6_read 90 [vo 2, vn, vn, vn, vi x4] [] g0 h6 (zPi Q)
          refine a_aload_n (pc := 90) dX6_read_90 rfl ?_
          refine a_getI (pc := 91) dX6_read_91 fl_X6_35 (go_2) ?_
          refine a_if_ne (pc := 94) (tgt := 101) dX6_read_94 (by decide) (fun c => ?_) (fun c => ?_)
          · have H := H.1 c
            refine a_iconst (pc := 101) dX6_read_101 (by decide) ?_
            exact a_ireturn (pc := 102) dX6_read_102 (.inl rfl) ⟨_, rfl, rfl, H⟩
          · have H := H.2 c
            refine a_iconst (pc := 97) dX6_read_97 (by decide) ?_
            refine a_goto (pc := 98) (tgt := 102) dX6_read_98 (by decide) ?_
            exact a_ireturn (pc := 102) dX6_read_102 (.inr rfl) ⟨_, rfl, rfl, H⟩
      · have H := H.2 c
        refine a_aload_n (pc := 66) dX6_read_66 rfl ?_
        refine a_callV (pc := 67) (kc := 0) (ks := 0) (kc' := 0) (ks' := 0) (st := []) [] dX6_read_67 ml_X6_45 (go_2) rfl (Nat.le_of_ble_eq_true rfl) (Nat.le_of_ble_eq_true rfl) (z_post H (fun r G1 h7 q => ?_))
        obtain ⟨rfl, rfl, H⟩ := q
        show zAt E (d + 1) 0 0 m_X6_read 70 [vo 2, vn, vn, vn, vi x4] [] g0 h7 (zPi Q)
        refine a_iinc (pc := 70) (ls' := [vo 2, vn, vn, vn, vi (w32 (x4 + 1))]) dX6_read_70 rfl rfl rfl ?_
        refine a_goto (pc := 73) (tgt := 39) dX6_read_73 (by decide) ?_
        exact H
set_option maxRecDepth 20000 in
theorem v_X6_readLine {E : zE} {d : Nat} {h : zS} {Q : zS → Prop}   (H : zCi E d m_X6_mayBegin [vo 2, vi (hI h 3 3)] h (fun y2 h1 => ((y2 ≠ 0 → (zCv E d m_X5_advance [vo 3] h1 (fun h3 => (((hI h 3 3) = 0 → (zCv E d m_X6_readOne [vo 2] h3 (fun h4 => zCv E d m_X6_pass [vo 2, vi 15] h4 (fun h5 => Q h5)))) ∧ ((hI h 3 3) = 8 → (zCv E d m_X6_readGives [vo 2] h3 (fun h6 => zCv E d m_X6_pass [vo 2, vi 15] h6 (fun h7 => Q h7)))) ∧ ((hI h 3 3) = 10 → (∃ t8, hR h3 2 1 = some t8 ∧ isCity t8 ∧ zCi E d m_X6_readKnown [vo 2] h3 (fun y10 h9 => ∀ h11, h11 = stI h9 t8 2 y10 → zCv E d m_X6_pass [vo 2, vi 15] h11 (fun h12 => Q h12)))) ∧ ((hI h 3 3) = 11 → (∃ t13, hR h3 2 1 = some t13 ∧ isCity t13 ∧ zCi E d m_X6_readKnown [vo 2] h3 (fun y15 h14 => ∀ h16, h16 = stI h14 t13 3 y15 → zCv E d m_X6_pass [vo 2, vi 15] h16 (fun h17 => Q h17)))) ∧ ((hI h 3 3) ≠ 0 ∧ (hI h 3 3) ≠ 8 ∧ (hI h 3 3) ≠ 10 ∧ (hI h 3 3) ≠ 11 → (∃ t18, hR h3 2 1 = some t18 ∧ isCity t18 ∧ zCi E d m_X6_readNumber [vo 2, vi 0, vi 9] h3 (fun y20 h19 => ∀ h21, h21 = stI h19 t18 4 y20 → ∀ h22, h22 = stI h21 2 2 1 → zCv E d m_X6_pass [vo 2, vi 15] h22 (fun h23 => Q h23)))))))) ∧ (y2 = 0 → (zCv E d m_X6_refuse [vo 2, vi 2] h1 (fun h24 => Q h24)))))) : zCv E (d + 1) m_X6_readLine [vo 2] h Q := by
  show zAt E (d + 1) 0 0 m_X6_readLine 0 [vo 2, vn] [] g0 h (zPv Q)
  refine a_aload_n (pc := 0) dX6_readLine_0 rfl ?_
  refine a_getF (pc := 1) dX6_readLine_1 fl_X6_12 (go_2) (gf_2_0) ?_
  refine a_getI (pc := 4) dX6_readLine_4 fl_X6_42 (go_3) ?_
  refine a_istore_n (pc := 7) (ls' := [vo 2, vi (hI h 3 3)]) dX6_readLine_7 rfl rfl ?_
  refine a_aload_n (pc := 8) dX6_readLine_8 rfl ?_
  refine a_iload_n (pc := 9) dX6_readLine_9 rfl ?_
  refine a_callV (pc := 10) (kc := 0) (ks := 0) (kc' := 0) (ks' := 0) (st := []) [vi (hI h 3 3)] dX6_readLine_10 ml_X6_51 (go_2) rfl (Nat.le_of_ble_eq_true rfl) (Nat.le_of_ble_eq_true rfl) (z_post H (fun r G1 h1 q => ?_))
  obtain ⟨y2, rfl, rfl, H⟩ := q
  show zAt E (d + 1) 0 0 m_X6_readLine 13 [vo 2, vi (hI h 3 3)] [vi y2] g0 h1 (zPv Q)
  refine a_if_ne (pc := 13) (tgt := 22) dX6_readLine_13 (by decide) (fun c => ?_) (fun c => ?_)
  · have H := H.1 c
    refine a_aload_n (pc := 22) dX6_readLine_22 rfl ?_
    refine a_getF (pc := 23) dX6_readLine_23 fl_X6_12 (go_2) (gf_2_0) ?_
    refine a_callV (pc := 26) (kc := 0) (ks := 0) (kc' := 0) (ks' := 0) (st := []) [] dX6_readLine_26 ml_X6_59 (go_3) rfl (Nat.le_of_ble_eq_true rfl) (Nat.le_of_ble_eq_true rfl) (z_post H (fun r G1 h3 q => ?_))
    obtain ⟨rfl, rfl, H⟩ := q
    show zAt E (d + 1) 0 0 m_X6_readLine 29 [vo 2, vi (hI h 3 3)] [] g0 h3 (zPv Q)
    refine a_iload_n (pc := 29) dX6_readLine_29 rfl ?_
    refine a_lsw (pc := 30) dX6_readLine_30 (by decide) ?_
    by_cases c0 : hI h 3 3 = 0
    · have H := H.1 c0
      refine ⟨72, by rw [c0]; decide, ?_⟩
      refine a_aload_n (pc := 72) dX6_readLine_72 rfl ?_
      refine a_callV (pc := 73) (kc := 0) (ks := 0) (kc' := 0) (ks' := 0) (st := []) [] dX6_readLine_73 ml_X6_62 (go_2) rfl (Nat.le_of_ble_eq_true rfl) (Nat.le_of_ble_eq_true rfl) (z_post H (fun r G1 h4 q => ?_))
      obtain ⟨rfl, rfl, H⟩ := q
      show zAt E (d + 1) 0 0 m_X6_readLine 76 [vo 2, vi (hI h 3 3)] [] g0 h4 (zPv Q)
      refine a_goto (pc := 76) (tgt := 133) dX6_readLine_76 (by decide) ?_
      refine a_aload_n (pc := 133) dX6_readLine_133 rfl ?_
      refine a_bipush (pc := 134) dX6_readLine_134 (by decide) ?_
      refine a_callV (pc := 136) (kc := 0) (ks := 0) (kc' := 0) (ks' := 0) (st := []) [vi 15] dX6_readLine_136 ml_X6_85 (go_2) rfl (Nat.le_of_ble_eq_true rfl) (Nat.le_of_ble_eq_true rfl) (z_post H (fun r G1 h5 q => ?_))
      obtain ⟨rfl, rfl, H⟩ := q
      show zAt E (d + 1) 0 0 m_X6_readLine 139 [vo 2, vi (hI h 3 3)] [] g0 h5 (zPv Q)
      exact a_return (pc := 139) dX6_readLine_139 trivial ⟨rfl, rfl, H⟩
    by_cases c1 : hI h 3 3 = 8
    · have H := H.2.1 c1
      refine ⟨79, by rw [c1]; decide, ?_⟩
      refine a_aload_n (pc := 79) dX6_readLine_79 rfl ?_
      refine a_callV (pc := 80) (kc := 0) (ks := 0) (kc' := 0) (ks' := 0) (st := []) [] dX6_readLine_80 ml_X6_65 (go_2) rfl (Nat.le_of_ble_eq_true rfl) (Nat.le_of_ble_eq_true rfl) (z_post H (fun r G1 h6 q => ?_))
      obtain ⟨rfl, rfl, H⟩ := q
      show zAt E (d + 1) 0 0 m_X6_readLine 83 [vo 2, vi (hI h 3 3)] [] g0 h6 (zPv Q)
      refine a_goto (pc := 83) (tgt := 133) dX6_readLine_83 (by decide) ?_
      refine a_aload_n (pc := 133) dX6_readLine_133 rfl ?_
      refine a_bipush (pc := 134) dX6_readLine_134 (by decide) ?_
      refine a_callV (pc := 136) (kc := 0) (ks := 0) (kc' := 0) (ks' := 0) (st := []) [vi 15] dX6_readLine_136 ml_X6_85 (go_2) rfl (Nat.le_of_ble_eq_true rfl) (Nat.le_of_ble_eq_true rfl) (z_post H (fun r G1 h7 q => ?_))
      obtain ⟨rfl, rfl, H⟩ := q
      show zAt E (d + 1) 0 0 m_X6_readLine 139 [vo 2, vi (hI h 3 3)] [] g0 h7 (zPv Q)
      exact a_return (pc := 139) dX6_readLine_139 trivial ⟨rfl, rfl, H⟩
    by_cases c2 : hI h 3 3 = 10
    · have H := H.2.2.1 c2
      refine ⟨86, by rw [c2]; decide, ?_⟩
      refine a_aload_n (pc := 86) dX6_readLine_86 rfl ?_
      obtain ⟨t8, het8, hct8, H⟩ := H
      refine a_getR (pc := 87) dX6_readLine_87 fl_X6_22 (go_2) het8 ?_
      refine a_aload_n (pc := 90) dX6_readLine_90 rfl ?_
      refine a_callV (pc := 91) (kc := 0) (ks := 0) (kc' := 0) (ks' := 0) (st := [vo t8]) [] dX6_readLine_91 ml_X6_68 (go_2) rfl (Nat.le_of_ble_eq_true rfl) (Nat.le_of_ble_eq_true rfl) (z_post H (fun r G1 h9 q => ?_))
      obtain ⟨y10, rfl, rfl, H⟩ := q
      show zAt E (d + 1) 0 0 m_X6_readLine 94 [vo 2, vi (hI h 3 3)] [vi y10, vo t8] g0 h9 (zPv Q)
      refine a_putI (pc := 94) dX6_readLine_94 fl_X6_72 (goCity hct8) ?_
      have H := H _ rfl
      generalize stI h9 t8 2 y10 = h11 at H ⊢
      refine a_goto (pc := 97) (tgt := 133) dX6_readLine_97 (by decide) ?_
      refine a_aload_n (pc := 133) dX6_readLine_133 rfl ?_
      refine a_bipush (pc := 134) dX6_readLine_134 (by decide) ?_
      refine a_callV (pc := 136) (kc := 0) (ks := 0) (kc' := 0) (ks' := 0) (st := []) [vi 15] dX6_readLine_136 ml_X6_85 (go_2) rfl (Nat.le_of_ble_eq_true rfl) (Nat.le_of_ble_eq_true rfl) (z_post H (fun r G1 h12 q => ?_))
      obtain ⟨rfl, rfl, H⟩ := q
      show zAt E (d + 1) 0 0 m_X6_readLine 139 [vo 2, vi (hI h 3 3)] [] g0 h12 (zPv Q)
      exact a_return (pc := 139) dX6_readLine_139 trivial ⟨rfl, rfl, H⟩
    by_cases c3 : hI h 3 3 = 11
    · have H := H.2.2.2.1 c3
      refine ⟨100, by rw [c3]; decide, ?_⟩
      refine a_aload_n (pc := 100) dX6_readLine_100 rfl ?_
      obtain ⟨t13, het13, hct13, H⟩ := H
      refine a_getR (pc := 101) dX6_readLine_101 fl_X6_22 (go_2) het13 ?_
      refine a_aload_n (pc := 104) dX6_readLine_104 rfl ?_
      refine a_callV (pc := 105) (kc := 0) (ks := 0) (kc' := 0) (ks' := 0) (st := [vo t13]) [] dX6_readLine_105 ml_X6_68 (go_2) rfl (Nat.le_of_ble_eq_true rfl) (Nat.le_of_ble_eq_true rfl) (z_post H (fun r G1 h14 q => ?_))
      obtain ⟨y15, rfl, rfl, H⟩ := q
      show zAt E (d + 1) 0 0 m_X6_readLine 108 [vo 2, vi (hI h 3 3)] [vi y15, vo t13] g0 h14 (zPv Q)
      refine a_putI (pc := 108) dX6_readLine_108 fl_X6_75 (goCity hct13) ?_
      have H := H _ rfl
      generalize stI h14 t13 3 y15 = h16 at H ⊢
      refine a_goto (pc := 111) (tgt := 133) dX6_readLine_111 (by decide) ?_
      refine a_aload_n (pc := 133) dX6_readLine_133 rfl ?_
      refine a_bipush (pc := 134) dX6_readLine_134 (by decide) ?_
      refine a_callV (pc := 136) (kc := 0) (ks := 0) (kc' := 0) (ks' := 0) (st := []) [vi 15] dX6_readLine_136 ml_X6_85 (go_2) rfl (Nat.le_of_ble_eq_true rfl) (Nat.le_of_ble_eq_true rfl) (z_post H (fun r G1 h17 q => ?_))
      obtain ⟨rfl, rfl, H⟩ := q
      show zAt E (d + 1) 0 0 m_X6_readLine 139 [vo 2, vi (hI h 3 3)] [] g0 h17 (zPv Q)
      exact a_return (pc := 139) dX6_readLine_139 trivial ⟨rfl, rfl, H⟩
    have H := H.2.2.2.2 ⟨c0, c1, c2, c3⟩
    refine ⟨114, by simp [Op.lookupswitch.offset, c0, c1, c2, c3, Ne.symm, eq_comm]; try omega, ?_⟩
    refine a_aload_n (pc := 114) dX6_readLine_114 rfl ?_
    obtain ⟨t18, het18, hct18, H⟩ := H
    refine a_getR (pc := 115) dX6_readLine_115 fl_X6_22 (go_2) het18 ?_
    refine a_aload_n (pc := 118) dX6_readLine_118 rfl ?_
    refine a_iconst (pc := 119) dX6_readLine_119 (by decide) ?_
    refine a_bipush (pc := 120) dX6_readLine_120 (by decide) ?_
    refine a_callV (pc := 122) (kc := 0) (ks := 0) (kc' := 0) (ks' := 0) (st := [vo t18]) [vi 0, vi 9] dX6_readLine_122 ml_X6_78 (go_2) rfl (Nat.le_of_ble_eq_true rfl) (Nat.le_of_ble_eq_true rfl) (z_post H (fun r G1 h19 q => ?_))
    obtain ⟨y20, rfl, rfl, H⟩ := q
    show zAt E (d + 1) 0 0 m_X6_readLine 125 [vo 2, vi (hI h 3 3)] [vi y20, vo t18] g0 h19 (zPv Q)
    refine a_putI (pc := 125) dX6_readLine_125 fl_X6_82 (goCity hct18) ?_
    have H := H _ rfl
    generalize stI h19 t18 4 y20 = h21 at H ⊢
    refine a_aload_n (pc := 128) dX6_readLine_128 rfl ?_
    refine a_iconst (pc := 129) dX6_readLine_129 (by decide) ?_
    refine a_putZ (pc := 130) dX6_readLine_130 fl_X6_31 (go_2) (by decide) ?_
    have H := H _ rfl
    generalize stI h21 2 2 1 = h22 at H ⊢
    refine a_aload_n (pc := 133) dX6_readLine_133 rfl ?_
    refine a_bipush (pc := 134) dX6_readLine_134 (by decide) ?_
    refine a_callV (pc := 136) (kc := 0) (ks := 0) (kc' := 0) (ks' := 0) (st := []) [vi 15] dX6_readLine_136 ml_X6_85 (go_2) rfl (Nat.le_of_ble_eq_true rfl) (Nat.le_of_ble_eq_true rfl) (z_post H (fun r G1 h23 q => ?_))
    obtain ⟨rfl, rfl, H⟩ := q
    show zAt E (d + 1) 0 0 m_X6_readLine 139 [vo 2, vi (hI h 3 3)] [] g0 h23 (zPv Q)
    exact a_return (pc := 139) dX6_readLine_139 trivial ⟨rfl, rfl, H⟩
  · have H := H.2 c
    refine a_aload_n (pc := 16) dX6_readLine_16 rfl ?_
    refine a_iconst (pc := 17) dX6_readLine_17 (by decide) ?_
    refine a_callV (pc := 18) (kc := 0) (ks := 0) (kc' := 0) (ks' := 0) (st := []) [vi 2] dX6_readLine_18 ml_X6_55 (go_2) rfl (Nat.le_of_ble_eq_true rfl) (Nat.le_of_ble_eq_true rfl) (z_post H (fun r G1 h24 q => ?_))
    obtain ⟨rfl, rfl, H⟩ := q
    show zAt E (d + 1) 0 0 m_X6_readLine 21 [vo 2, vi (hI h 3 3)] [] g0 h24 (zPv Q)
    exact a_return (pc := 21) dX6_readLine_21 trivial ⟨rfl, rfl, H⟩
set_option maxRecDepth 20000 in
theorem v_X6_mayBegin {E : zE} {d : Nat} {h : zS} {Q : Int → zS → Prop} {x1 : Int}  (H : ((x1 = 0 → (∃ t1, hR h 2 1 = some t1 ∧ isCity t1 ∧ ((12 ≤ (hI h t1 0) → (Q 0 h)) ∧ ((hI h t1 0) < 12 → (Q 1 h))))) ∧ (x1 = 8 → (∃ t2, hR h 2 1 = some t2 ∧ isCity t2 ∧ ((30 ≤ (hI h t2 1) → (Q 0 h)) ∧ ((hI h t2 1) < 30 → (Q 1 h))))) ∧ (x1 = 10 → (∃ t3, hR h 2 1 = some t3 ∧ isCity t3 ∧ (((hI h t3 2) ≠ (-1) → (Q 0 h)) ∧ ((hI h t3 2) = (-1) → (Q 1 h))))) ∧ (x1 = 11 → (∃ t4, hR h 2 1 = some t4 ∧ isCity t4 ∧ (((hI h t4 3) ≠ (-1) → (Q 0 h)) ∧ ((hI h t4 3) = (-1) → (Q 1 h))))) ∧ (x1 ≠ 0 ∧ x1 ≠ 8 ∧ x1 ≠ 10 ∧ x1 ≠ 11 → ((x1 ≠ 12 → (Q 0 h)) ∧ (x1 = 12 → (((hI h 2 2) ≠ 0 → (Q 0 h)) ∧ ((hI h 2 2) = 0 → (Q 1 h)))))))) : zCi E d m_X6_mayBegin [vo 2, vi x1] h Q := by
  show zAt E d 0 0 m_X6_mayBegin 0 [vo 2, vi x1] [] g0 h (zPi Q)
  refine a_iload_n (pc := 0) dX6_mayBegin_0 rfl ?_
  refine a_lsw (pc := 1) dX6_mayBegin_1 (by decide) ?_
  by_cases c0 : x1 = 0
  · have H := H.1 c0
    refine ⟨44, by rw [c0]; decide, ?_⟩
    refine a_aload_n (pc := 44) dX6_mayBegin_44 rfl ?_
    obtain ⟨t1, het1, hct1, H⟩ := H
    refine a_getR (pc := 45) dX6_mayBegin_45 fl_X6_22 (go_2) het1 ?_
    refine a_getI (pc := 48) dX6_mayBegin_48 fl_X6_88 (goCity hct1) ?_
    refine a_bipush (pc := 51) dX6_mayBegin_51 (by decide) ?_
    refine a_icmp_ge (pc := 53) (tgt := 60) dX6_mayBegin_53 (by decide) (fun c => ?_) (fun c => ?_)
    · have H := H.1 c
      refine a_iconst (pc := 60) dX6_mayBegin_60 (by decide) ?_
      exact a_ireturn (pc := 61) dX6_mayBegin_61 (.inl rfl) ⟨_, rfl, rfl, H⟩
    · have H := H.2 c
      refine a_iconst (pc := 56) dX6_mayBegin_56 (by decide) ?_
      refine a_goto (pc := 57) (tgt := 61) dX6_mayBegin_57 (by decide) ?_
      exact a_ireturn (pc := 61) dX6_mayBegin_61 (.inr rfl) ⟨_, rfl, rfl, H⟩
  by_cases c1 : x1 = 8
  · have H := H.2.1 c1
    refine ⟨62, by rw [c1]; decide, ?_⟩
    refine a_aload_n (pc := 62) dX6_mayBegin_62 rfl ?_
    obtain ⟨t2, het2, hct2, H⟩ := H
    refine a_getR (pc := 63) dX6_mayBegin_63 fl_X6_22 (go_2) het2 ?_
    refine a_getI (pc := 66) dX6_mayBegin_66 fl_X6_91 (goCity hct2) ?_
    refine a_bipush (pc := 69) dX6_mayBegin_69 (by decide) ?_
    refine a_icmp_ge (pc := 71) (tgt := 78) dX6_mayBegin_71 (by decide) (fun c => ?_) (fun c => ?_)
    · have H := H.1 c
      refine a_iconst (pc := 78) dX6_mayBegin_78 (by decide) ?_
      exact a_ireturn (pc := 79) dX6_mayBegin_79 (.inl rfl) ⟨_, rfl, rfl, H⟩
    · have H := H.2 c
      refine a_iconst (pc := 74) dX6_mayBegin_74 (by decide) ?_
      refine a_goto (pc := 75) (tgt := 79) dX6_mayBegin_75 (by decide) ?_
      exact a_ireturn (pc := 79) dX6_mayBegin_79 (.inr rfl) ⟨_, rfl, rfl, H⟩
  by_cases c2 : x1 = 10
  · have H := H.2.2.1 c2
    refine ⟨80, by rw [c2]; decide, ?_⟩
    refine a_aload_n (pc := 80) dX6_mayBegin_80 rfl ?_
    obtain ⟨t3, het3, hct3, H⟩ := H
    refine a_getR (pc := 81) dX6_mayBegin_81 fl_X6_22 (go_2) het3 ?_
    refine a_getI (pc := 84) dX6_mayBegin_84 fl_X6_72 (goCity hct3) ?_
    refine a_iconst (pc := 87) dX6_mayBegin_87 (by decide) ?_
    refine a_icmp_ne (pc := 88) (tgt := 95) dX6_mayBegin_88 (by decide) (fun c => ?_) (fun c => ?_)
    · have H := H.1 c
      refine a_iconst (pc := 95) dX6_mayBegin_95 (by decide) ?_
      exact a_ireturn (pc := 96) dX6_mayBegin_96 (.inl rfl) ⟨_, rfl, rfl, H⟩
    · have H := H.2 c
      refine a_iconst (pc := 91) dX6_mayBegin_91 (by decide) ?_
      refine a_goto (pc := 92) (tgt := 96) dX6_mayBegin_92 (by decide) ?_
      exact a_ireturn (pc := 96) dX6_mayBegin_96 (.inr rfl) ⟨_, rfl, rfl, H⟩
  by_cases c3 : x1 = 11
  · have H := H.2.2.2.1 c3
    refine ⟨97, by rw [c3]; decide, ?_⟩
    refine a_aload_n (pc := 97) dX6_mayBegin_97 rfl ?_
    obtain ⟨t4, het4, hct4, H⟩ := H
    refine a_getR (pc := 98) dX6_mayBegin_98 fl_X6_22 (go_2) het4 ?_
    refine a_getI (pc := 101) dX6_mayBegin_101 fl_X6_75 (goCity hct4) ?_
    refine a_iconst (pc := 104) dX6_mayBegin_104 (by decide) ?_
    refine a_icmp_ne (pc := 105) (tgt := 112) dX6_mayBegin_105 (by decide) (fun c => ?_) (fun c => ?_)
    · have H := H.1 c
      refine a_iconst (pc := 112) dX6_mayBegin_112 (by decide) ?_
      exact a_ireturn (pc := 113) dX6_mayBegin_113 (.inl rfl) ⟨_, rfl, rfl, H⟩
    · have H := H.2 c
      refine a_iconst (pc := 108) dX6_mayBegin_108 (by decide) ?_
      refine a_goto (pc := 109) (tgt := 113) dX6_mayBegin_109 (by decide) ?_
      exact a_ireturn (pc := 113) dX6_mayBegin_113 (.inr rfl) ⟨_, rfl, rfl, H⟩
  have H := H.2.2.2.2 ⟨c0, c1, c2, c3⟩
  refine ⟨114, by simp [Op.lookupswitch.offset, c0, c1, c2, c3, Ne.symm, eq_comm]; try omega, ?_⟩
  refine a_iload_n (pc := 114) dX6_mayBegin_114 rfl ?_
  refine a_bipush (pc := 115) dX6_mayBegin_115 (by decide) ?_
  refine a_icmp_ne (pc := 117) (tgt := 131) dX6_mayBegin_117 (by decide) (fun c => ?_) (fun c => ?_)
  · have H := H.1 c
    refine a_iconst (pc := 131) dX6_mayBegin_131 (by decide) ?_
    exact a_ireturn (pc := 132) dX6_mayBegin_132 (.inl rfl) ⟨_, rfl, rfl, H⟩
  · have H := H.2 c
    refine a_aload_n (pc := 120) dX6_mayBegin_120 rfl ?_
    refine a_getZ (pc := 121) dX6_mayBegin_121 fl_X6_31 (go_2) ?_
    refine a_if_ne (pc := 124) (tgt := 131) dX6_mayBegin_124 (by decide) (fun c => ?_) (fun c => ?_)
    · have H := H.1 c
      refine a_iconst (pc := 131) dX6_mayBegin_131 (by decide) ?_
      exact a_ireturn (pc := 132) dX6_mayBegin_132 (.inl rfl) ⟨_, rfl, rfl, H⟩
    · have H := H.2 c
      refine a_iconst (pc := 127) dX6_mayBegin_127 (by decide) ?_
      refine a_goto (pc := 128) (tgt := 132) dX6_mayBegin_128 (by decide) ?_
      exact a_ireturn (pc := 132) dX6_mayBegin_132 (.inr rfl) ⟨_, rfl, rfl, H⟩
set_option maxRecDepth 20000 in
theorem v_X6_readOne {E : zE} {d : Nat} {h : zS} {Q : zS → Prop}   (H : (((hI h 3 3) = 13 → (∃ t1, hR h 2 1 = some t1 ∧ isCity t1 ∧ zCi E d m_X0_called [vo t1, vl (hL h 3 5)] h (fun y3 h2 => ((y3 = (-1) → (∃ t4, hR h2 2 1 = some t4 ∧ isCity t4 ∧ ∃ t5, hR h2 2 1 = some t5 ∧ isCity t5 ∧ ∀ h6, h6 = stI h2 t5 0 (w32 ((hI h2 t5 0) + 1)) → ∃ t7, hR h6 2 1 = some t7 ∧ isCity t7 ∧ (0 ≤ hI h2 t4 0 ∧ hI h2 t4 0 < 12) ∧ ∀ h9, h9 = stL h6 (t7 + 1) (hI h2 t4 0).toNat (hL h6 3 5) → zCv E d m_X5_advance [vo 3] h9 (fun h10 => ∃ t11, hR h10 2 1 = some t11 ∧ isCity t11 ∧ ∀ h12, h12 = stI h10 (t11 + 2) (hI h2 t4 0).toNat 0 → (((hI h12 3 3) = 1 → (zWv E (d + 1) m_X6_readOne 129 [vo 2, vi (hI h2 t4 0)] h12 Q)) ∧ ((hI h12 3 3) ≠ 1 → (((hI h12 3 3) = 2 → (zWv E (d + 1) m_X6_readOne 129 [vo 2, vi (hI h2 t4 0)] h12 Q)) ∧ ((hI h12 3 3) ≠ 2 → (((hI h12 3 3) ≠ 3 → (zWv E (d + 1) m_X6_readOne 152 [vo 2, vi (hI h2 t4 0)] h12 Q)) ∧ ((hI h12 3 3) = 3 → (zWv E (d + 1) m_X6_readOne 129 [vo 2, vi (hI h2 t4 0)] h12 Q)))))))))) ∧ (y3 ≠ (-1) → (zCv E d m_X6_refuse [vo 2, vi 3] h2 (fun h13 => Q h13))))))) ∧ ((hI h 3 3) ≠ 13 → (zCv E d m_X6_refuse [vo 2, vi 2] h (fun h14 => Q h14))))) : zCv E (d + 1) m_X6_readOne [vo 2] h Q := by
  show zAt E (d + 1) 0 0 m_X6_readOne 0 [vo 2, vn] [] g0 h (zPv Q)
  refine a_aload_n (pc := 0) dX6_readOne_0 rfl ?_
  refine a_getF (pc := 1) dX6_readOne_1 fl_X6_12 (go_2) (gf_2_0) ?_
  refine a_getI (pc := 4) dX6_readOne_4 fl_X6_42 (go_3) ?_
  refine a_bipush (pc := 7) dX6_readOne_7 (by decide) ?_
  refine a_icmp_eq (pc := 9) (tgt := 18) dX6_readOne_9 (by decide) (fun c => ?_) (fun c => ?_)
  · have H := H.1 c
    refine a_aload_n (pc := 18) dX6_readOne_18 rfl ?_
    obtain ⟨t1, het1, hct1, H⟩ := H
    refine a_getR (pc := 19) dX6_readOne_19 fl_X6_22 (go_2) het1 ?_
    refine a_aload_n (pc := 22) dX6_readOne_22 rfl ?_
    refine a_getF (pc := 23) dX6_readOne_23 fl_X6_12 (go_2) (gf_2_0) ?_
    refine a_getL (pc := 26) dX6_readOne_26 fl_X6_94 (go_3) ?_
    refine a_callV (pc := 29) (kc := 0) (ks := 0) (kc' := 0) (ks' := 0) (st := []) [vl (hL h 3 5)] dX6_readOne_29 ml_X6_98 (goCity hct1) rfl (Nat.le_of_ble_eq_true rfl) (Nat.le_of_ble_eq_true rfl) (z_post H (fun r G1 h2 q => ?_))
    obtain ⟨y3, rfl, rfl, H⟩ := q
    show zAt E (d + 1) 0 0 m_X6_readOne 32 [vo 2, vn] [vi y3] g0 h2 (zPv Q)
    refine a_iconst (pc := 32) dX6_readOne_32 (by decide) ?_
    refine a_icmp_eq (pc := 33) (tgt := 42) dX6_readOne_33 (by decide) (fun c => ?_) (fun c => ?_)
    · have H := H.1 c
      refine a_aload_n (pc := 42) dX6_readOne_42 rfl ?_
      obtain ⟨t4, het4, hct4, H⟩ := H
      refine a_getR (pc := 43) dX6_readOne_43 fl_X6_22 (go_2) het4 ?_
      refine a_getI (pc := 46) dX6_readOne_46 fl_X6_88 (goCity hct4) ?_
      refine a_istore_n (pc := 49) (ls' := [vo 2, vi (hI h2 t4 0)]) dX6_readOne_49 rfl rfl ?_
      refine a_aload_n (pc := 50) dX6_readOne_50 rfl ?_
      obtain ⟨t5, het5, hct5, H⟩ := H
      refine a_getR (pc := 51) dX6_readOne_51 fl_X6_22 (go_2) het5 ?_
      refine a_dup (pc := 54) dX6_readOne_54 rfl ?_
      refine a_getI (pc := 55) dX6_readOne_55 fl_X6_88 (goCity hct5) ?_
      refine a_iconst (pc := 58) dX6_readOne_58 (by decide) ?_
      refine a_iadd (pc := 59) dX6_readOne_59 ?_
      refine a_putI (pc := 60) dX6_readOne_60 fl_X6_88 (goCity hct5) ?_
      have H := H _ rfl
      generalize stI h2 t5 0 (w32 ((hI h2 t5 0) + 1)) = h6 at H ⊢
      refine a_aload_n (pc := 63) dX6_readOne_63 rfl ?_
      obtain ⟨t7, het7, hct7, H⟩ := H
      refine a_getR (pc := 64) dX6_readOne_64 fl_X6_22 (go_2) het7 ?_
      refine a_getG (pc := 67) dX6_readOne_67 fl_X6_102 rfl (goCity hct7) (gfCity_5 hct7) ?_
      refine a_iload_n (pc := 70) dX6_readOne_70 rfl ?_
      refine a_aload_n (pc := 71) dX6_readOne_71 rfl ?_
      refine a_getF (pc := 72) dX6_readOne_72 fl_X6_12 (go_2) (gf_2_0) ?_
      refine a_getL (pc := 75) dX6_readOne_75 fl_X6_94 (go_3) ?_
      obtain ⟨hb8, H⟩ := H
      refine a_lastore (pc := 78) dX6_readOne_78 (gaCity_5 hct7) hb8 ?_
      have H := H _ rfl
      generalize stL h6 (t7 + 1) (hI h2 t4 0).toNat (hL h6 3 5) = h9 at H ⊢
      refine a_aload_n (pc := 79) dX6_readOne_79 rfl ?_
      refine a_getF (pc := 80) dX6_readOne_80 fl_X6_12 (go_2) (gf_2_0) ?_
      refine a_callV (pc := 83) (kc := 0) (ks := 0) (kc' := 0) (ks' := 0) (st := []) [] dX6_readOne_83 ml_X6_59 (go_3) rfl (Nat.le_of_ble_eq_true rfl) (Nat.le_of_ble_eq_true rfl) (z_post H (fun r G1 h10 q => ?_))
      obtain ⟨rfl, rfl, H⟩ := q
      show zAt E (d + 1) 0 0 m_X6_readOne 86 [vo 2, vi (hI h2 t4 0)] [] g0 h10 (zPv Q)
      refine a_aload_n (pc := 86) dX6_readOne_86 rfl ?_
      obtain ⟨t11, het11, hct11, H⟩ := H
      refine a_getR (pc := 87) dX6_readOne_87 fl_X6_22 (go_2) het11 ?_
      refine a_getG (pc := 90) dX6_readOne_90 fl_X6_106 rfl (goCity hct11) (gfCity_6 hct11) ?_
      refine a_iload_n (pc := 93) dX6_readOne_93 rfl ?_
      refine a_iconst (pc := 94) dX6_readOne_94 (by decide) ?_
      refine a_iastore (pc := 95) dX6_readOne_95 (gaCity_6 hct11) hb8 ?_
      have H := H _ rfl
      generalize stI h10 (t11 + 2) (hI h2 t4 0).toNat 0 = h12 at H ⊢
      refine a_aload_n (pc := 96) dX6_readOne_96 rfl ?_
      refine a_getF (pc := 97) dX6_readOne_97 fl_X6_12 (go_2) (gf_2_0) ?_
      refine a_getI (pc := 100) dX6_readOne_100 fl_X6_42 (go_3) ?_
      refine a_iconst (pc := 103) dX6_readOne_103 (by decide) ?_
      refine a_icmp_eq (pc := 104) (tgt := 129) dX6_readOne_104 (by decide) (fun c => ?_) (fun c => ?_)
      · have H := H.1 c
        exact H
      · have H := H.2 c
        refine a_aload_n (pc := 107) dX6_readOne_107 rfl ?_
        refine a_getF (pc := 108) dX6_readOne_108 fl_X6_12 (go_2) (gf_2_0) ?_
        refine a_getI (pc := 111) dX6_readOne_111 fl_X6_42 (go_3) ?_
        refine a_iconst (pc := 114) dX6_readOne_114 (by decide) ?_
        refine a_icmp_eq (pc := 115) (tgt := 129) dX6_readOne_115 (by decide) (fun c => ?_) (fun c => ?_)
        · have H := H.1 c
          exact H
        · have H := H.2 c
          refine a_aload_n (pc := 118) dX6_readOne_118 rfl ?_
          refine a_getF (pc := 119) dX6_readOne_119 fl_X6_12 (go_2) (gf_2_0) ?_
          refine a_getI (pc := 122) dX6_readOne_122 fl_X6_42 (go_3) ?_
          refine a_iconst (pc := 125) dX6_readOne_125 (by decide) ?_
          refine a_icmp_ne (pc := 126) (tgt := 152) dX6_readOne_126 (by decide) (fun c => ?_) (fun c => ?_)
          · have H := H.1 c
            exact H
          · have H := H.2 c
            exact H
    · have H := H.2 c
      refine a_aload_n (pc := 36) dX6_readOne_36 rfl ?_
      refine a_iconst (pc := 37) dX6_readOne_37 (by decide) ?_
      refine a_callV (pc := 38) (kc := 0) (ks := 0) (kc' := 0) (ks' := 0) (st := []) [vi 3] dX6_readOne_38 ml_X6_55 (go_2) rfl (Nat.le_of_ble_eq_true rfl) (Nat.le_of_ble_eq_true rfl) (z_post H (fun r G1 h13 q => ?_))
      obtain ⟨rfl, rfl, H⟩ := q
      show zAt E (d + 1) 0 0 m_X6_readOne 41 [vo 2, vn] [] g0 h13 (zPv Q)
      exact a_return (pc := 41) dX6_readOne_41 trivial ⟨rfl, rfl, H⟩
  · have H := H.2 c
    refine a_aload_n (pc := 12) dX6_readOne_12 rfl ?_
    refine a_iconst (pc := 13) dX6_readOne_13 (by decide) ?_
    refine a_callV (pc := 14) (kc := 0) (ks := 0) (kc' := 0) (ks' := 0) (st := []) [vi 2] dX6_readOne_14 ml_X6_55 (go_2) rfl (Nat.le_of_ble_eq_true rfl) (Nat.le_of_ble_eq_true rfl) (z_post H (fun r G1 h14 q => ?_))
    obtain ⟨rfl, rfl, H⟩ := q
    show zAt E (d + 1) 0 0 m_X6_readOne 17 [vo 2, vn] [] g0 h14 (zPv Q)
    exact a_return (pc := 17) dX6_readOne_17 trivial ⟨rfl, rfl, H⟩
set_option maxRecDepth 20000 in
theorem r_X6_readOne_129 {E : zE} {d : Nat} {h : zS} {Q : zS → Prop} {x1 : Int}  (H : ∃ t1, hR h 2 1 = some t1 ∧ isCity t1 ∧ (0 ≤ x1 ∧ x1 < 12) ∧ ∀ h3, h3 = stI h (t1 + 2) x1.toNat (hI h 3 3) → zCv E d m_X5_advance [vo 3] h3 (fun h4 => zWv E (d + 1) m_X6_readOne 152 [vo 2, vi x1] h4 Q)) : zWv E (d + 1) m_X6_readOne 129 [vo 2, vi x1] h Q := by
  refine a_aload_n (pc := 129) dX6_readOne_129 rfl ?_
  obtain ⟨t1, het1, hct1, H⟩ := H
  refine a_getR (pc := 130) dX6_readOne_130 fl_X6_22 (go_2) het1 ?_
  refine a_getG (pc := 133) dX6_readOne_133 fl_X6_106 rfl (goCity hct1) (gfCity_6 hct1) ?_
  refine a_iload_n (pc := 136) dX6_readOne_136 rfl ?_
  refine a_aload_n (pc := 137) dX6_readOne_137 rfl ?_
  refine a_getF (pc := 138) dX6_readOne_138 fl_X6_12 (go_2) (gf_2_0) ?_
  refine a_getI (pc := 141) dX6_readOne_141 fl_X6_42 (go_3) ?_
  obtain ⟨hb2, H⟩ := H
  refine a_iastore (pc := 144) dX6_readOne_144 (gaCity_6 hct1) hb2 ?_
  have H := H _ rfl
  generalize stI h (t1 + 2) x1.toNat (hI h 3 3) = h3 at H ⊢
  refine a_aload_n (pc := 145) dX6_readOne_145 rfl ?_
  refine a_getF (pc := 146) dX6_readOne_146 fl_X6_12 (go_2) (gf_2_0) ?_
  refine a_callV (pc := 149) (kc := 0) (ks := 0) (kc' := 0) (ks' := 0) (st := []) [] dX6_readOne_149 ml_X6_59 (go_3) rfl (Nat.le_of_ble_eq_true rfl) (Nat.le_of_ble_eq_true rfl) (z_post H (fun r G1 h4 q => ?_))
  obtain ⟨rfl, rfl, H⟩ := q
  show zAt E (d + 1) 0 0 m_X6_readOne 152 [vo 2, vi x1] [] g0 h4 (zPv Q)
  exact H
set_option maxRecDepth 20000 in
theorem r_X6_readOne_152 {E : zE} {d : Nat} {h : zS} {Q : zS → Prop} {x1 : Int}  (H : zCv E d m_X6_pass [vo 2, vi 4] h (fun h1 => ∃ t2, hR h1 2 1 = some t2 ∧ isCity t2 ∧ zCi E d m_X6_readNumber [vo 2, vi 0, vi 9] h1 (fun y4 h3 => (0 ≤ x1 ∧ x1 < 12) ∧ ∀ h6, h6 = stI h3 (t2 + 3) x1.toNat y4 → zCv E d m_X6_pass [vo 2, vi 5] h6 (fun h7 => ∃ t8, hR h7 2 1 = some t8 ∧ isCity t8 ∧ zCi E d m_X6_readNumber [vo 2, vi 0, vi 9] h7 (fun y10 h9 => ∀ h11, h11 = stI h9 (t8 + 4) x1.toNat y10 → zCv E d m_X6_pass [vo 2, vi 6] h11 (fun h12 => ∃ t13, hR h12 2 1 = some t13 ∧ isCity t13 ∧ zCi E d m_X6_readNumber [vo 2, vi 0, vi 99] h12 (fun y15 h14 => ∀ h16, h16 = stI h14 (t13 + 5) x1.toNat y15 → zCv E d m_X6_pass [vo 2, vi 7] h16 (fun h17 => ∃ t18, hR h17 2 1 = some t18 ∧ isCity t18 ∧ zCi E d m_X6_readNumber [vo 2, vi 0, vi 999] h17 (fun y20 h19 => ∀ h21, h21 = stI h19 (t18 + 6) x1.toNat y20 → Q h21))))))))) : zWv E (d + 1) m_X6_readOne 152 [vo 2, vi x1] h Q := by
  refine a_aload_n (pc := 152) dX6_readOne_152 rfl ?_
  refine a_iconst (pc := 153) dX6_readOne_153 (by decide) ?_
  refine a_callV (pc := 154) (kc := 0) (ks := 0) (kc' := 0) (ks' := 0) (st := []) [vi 4] dX6_readOne_154 ml_X6_85 (go_2) rfl (Nat.le_of_ble_eq_true rfl) (Nat.le_of_ble_eq_true rfl) (z_post H (fun r G1 h1 q => ?_))
  obtain ⟨rfl, rfl, H⟩ := q
  show zAt E (d + 1) 0 0 m_X6_readOne 157 [vo 2, vi x1] [] g0 h1 (zPv Q)
  refine a_aload_n (pc := 157) dX6_readOne_157 rfl ?_
  obtain ⟨t2, het2, hct2, H⟩ := H
  refine a_getR (pc := 158) dX6_readOne_158 fl_X6_22 (go_2) het2 ?_
  refine a_getG (pc := 161) dX6_readOne_161 fl_X6_110 rfl (goCity hct2) (gfCity_7 hct2) ?_
  refine a_iload_n (pc := 164) dX6_readOne_164 rfl ?_
  refine a_aload_n (pc := 165) dX6_readOne_165 rfl ?_
  refine a_iconst (pc := 166) dX6_readOne_166 (by decide) ?_
  refine a_bipush (pc := 167) dX6_readOne_167 (by decide) ?_
  refine a_callV (pc := 169) (kc := 0) (ks := 0) (kc' := 0) (ks' := 0) (st := [vi x1, vo (t2 + 3)]) [vi 0, vi 9] dX6_readOne_169 ml_X6_78 (go_2) rfl (Nat.le_of_ble_eq_true rfl) (Nat.le_of_ble_eq_true rfl) (z_post H (fun r G1 h3 q => ?_))
  obtain ⟨y4, rfl, rfl, H⟩ := q
  show zAt E (d + 1) 0 0 m_X6_readOne 172 [vo 2, vi x1] [vi y4, vi x1, vo (t2 + 3)] g0 h3 (zPv Q)
  obtain ⟨hb5, H⟩ := H
  refine a_iastore (pc := 172) dX6_readOne_172 (gaCity_7 hct2) hb5 ?_
  have H := H _ rfl
  generalize stI h3 (t2 + 3) x1.toNat y4 = h6 at H ⊢
  refine a_aload_n (pc := 173) dX6_readOne_173 rfl ?_
  refine a_iconst (pc := 174) dX6_readOne_174 (by decide) ?_
  refine a_callV (pc := 175) (kc := 0) (ks := 0) (kc' := 0) (ks' := 0) (st := []) [vi 5] dX6_readOne_175 ml_X6_85 (go_2) rfl (Nat.le_of_ble_eq_true rfl) (Nat.le_of_ble_eq_true rfl) (z_post H (fun r G1 h7 q => ?_))
  obtain ⟨rfl, rfl, H⟩ := q
  show zAt E (d + 1) 0 0 m_X6_readOne 178 [vo 2, vi x1] [] g0 h7 (zPv Q)
  refine a_aload_n (pc := 178) dX6_readOne_178 rfl ?_
  obtain ⟨t8, het8, hct8, H⟩ := H
  refine a_getR (pc := 179) dX6_readOne_179 fl_X6_22 (go_2) het8 ?_
  refine a_getG (pc := 182) dX6_readOne_182 fl_X6_113 rfl (goCity hct8) (gfCity_8 hct8) ?_
  refine a_iload_n (pc := 185) dX6_readOne_185 rfl ?_
  refine a_aload_n (pc := 186) dX6_readOne_186 rfl ?_
  refine a_iconst (pc := 187) dX6_readOne_187 (by decide) ?_
  refine a_bipush (pc := 188) dX6_readOne_188 (by decide) ?_
  refine a_callV (pc := 190) (kc := 0) (ks := 0) (kc' := 0) (ks' := 0) (st := [vi x1, vo (t8 + 4)]) [vi 0, vi 9] dX6_readOne_190 ml_X6_78 (go_2) rfl (Nat.le_of_ble_eq_true rfl) (Nat.le_of_ble_eq_true rfl) (z_post H (fun r G1 h9 q => ?_))
  obtain ⟨y10, rfl, rfl, H⟩ := q
  show zAt E (d + 1) 0 0 m_X6_readOne 193 [vo 2, vi x1] [vi y10, vi x1, vo (t8 + 4)] g0 h9 (zPv Q)
  refine a_iastore (pc := 193) dX6_readOne_193 (gaCity_8 hct8) hb5 ?_
  have H := H _ rfl
  generalize stI h9 (t8 + 4) x1.toNat y10 = h11 at H ⊢
  refine a_aload_n (pc := 194) dX6_readOne_194 rfl ?_
  refine a_bipush (pc := 195) dX6_readOne_195 (by decide) ?_
  refine a_callV (pc := 197) (kc := 0) (ks := 0) (kc' := 0) (ks' := 0) (st := []) [vi 6] dX6_readOne_197 ml_X6_85 (go_2) rfl (Nat.le_of_ble_eq_true rfl) (Nat.le_of_ble_eq_true rfl) (z_post H (fun r G1 h12 q => ?_))
  obtain ⟨rfl, rfl, H⟩ := q
  show zAt E (d + 1) 0 0 m_X6_readOne 200 [vo 2, vi x1] [] g0 h12 (zPv Q)
  refine a_aload_n (pc := 200) dX6_readOne_200 rfl ?_
  obtain ⟨t13, het13, hct13, H⟩ := H
  refine a_getR (pc := 201) dX6_readOne_201 fl_X6_22 (go_2) het13 ?_
  refine a_getG (pc := 204) dX6_readOne_204 fl_X6_116 rfl (goCity hct13) (gfCity_9 hct13) ?_
  refine a_iload_n (pc := 207) dX6_readOne_207 rfl ?_
  refine a_aload_n (pc := 208) dX6_readOne_208 rfl ?_
  refine a_iconst (pc := 209) dX6_readOne_209 (by decide) ?_
  refine a_bipush (pc := 210) dX6_readOne_210 (by decide) ?_
  refine a_callV (pc := 212) (kc := 0) (ks := 0) (kc' := 0) (ks' := 0) (st := [vi x1, vo (t13 + 5)]) [vi 0, vi 99] dX6_readOne_212 ml_X6_78 (go_2) rfl (Nat.le_of_ble_eq_true rfl) (Nat.le_of_ble_eq_true rfl) (z_post H (fun r G1 h14 q => ?_))
  obtain ⟨y15, rfl, rfl, H⟩ := q
  show zAt E (d + 1) 0 0 m_X6_readOne 215 [vo 2, vi x1] [vi y15, vi x1, vo (t13 + 5)] g0 h14 (zPv Q)
  refine a_iastore (pc := 215) dX6_readOne_215 (gaCity_9 hct13) hb5 ?_
  have H := H _ rfl
  generalize stI h14 (t13 + 5) x1.toNat y15 = h16 at H ⊢
  refine a_aload_n (pc := 216) dX6_readOne_216 rfl ?_
  refine a_bipush (pc := 217) dX6_readOne_217 (by decide) ?_
  refine a_callV (pc := 219) (kc := 0) (ks := 0) (kc' := 0) (ks' := 0) (st := []) [vi 7] dX6_readOne_219 ml_X6_85 (go_2) rfl (Nat.le_of_ble_eq_true rfl) (Nat.le_of_ble_eq_true rfl) (z_post H (fun r G1 h17 q => ?_))
  obtain ⟨rfl, rfl, H⟩ := q
  show zAt E (d + 1) 0 0 m_X6_readOne 222 [vo 2, vi x1] [] g0 h17 (zPv Q)
  refine a_aload_n (pc := 222) dX6_readOne_222 rfl ?_
  obtain ⟨t18, het18, hct18, H⟩ := H
  refine a_getR (pc := 223) dX6_readOne_223 fl_X6_22 (go_2) het18 ?_
  refine a_getG (pc := 226) dX6_readOne_226 fl_X6_119 rfl (goCity hct18) (gfCity_10 hct18) ?_
  refine a_iload_n (pc := 229) dX6_readOne_229 rfl ?_
  refine a_aload_n (pc := 230) dX6_readOne_230 rfl ?_
  refine a_iconst (pc := 231) dX6_readOne_231 (by decide) ?_
  refine a_sipush (pc := 232) dX6_readOne_232 (by decide) ?_
  refine a_callV (pc := 235) (kc := 0) (ks := 0) (kc' := 0) (ks' := 0) (st := [vi x1, vo (t18 + 6)]) [vi 0, vi 999] dX6_readOne_235 ml_X6_78 (go_2) rfl (Nat.le_of_ble_eq_true rfl) (Nat.le_of_ble_eq_true rfl) (z_post H (fun r G1 h19 q => ?_))
  obtain ⟨y20, rfl, rfl, H⟩ := q
  show zAt E (d + 1) 0 0 m_X6_readOne 238 [vo 2, vi x1] [vi y20, vi x1, vo (t18 + 6)] g0 h19 (zPv Q)
  refine a_iastore (pc := 238) dX6_readOne_238 (gaCity_10 hct18) hb5 ?_
  have H := H _ rfl
  generalize stI h19 (t18 + 6) x1.toNat y20 = h21 at H ⊢
  exact a_return (pc := 239) dX6_readOne_239 trivial ⟨rfl, rfl, H⟩
set_option maxRecDepth 20000 in
theorem v_X6_readGives {E : zE} {d : Nat} {h : zS} {Q : zS → Prop}   (H : zCi E d m_X6_readKnown [vo 2] h (fun y2 h1 => (((hI h1 2 3) = 0 → (((hI h1 3 3) ≠ 13 → (zAt E (d + 1) 0 0 m_X6_readGives 43 [vo 2, vi y2, vn, vn] [vi (-1)] g0 h1 (zPv Q))) ∧ ((hI h1 3 3) = 13 → (∃ t3, hR h1 2 1 = some t3 ∧ isCity t3 ∧ zCi E d m_X0_called [vo t3, vl (hL h1 3 5)] h1 (fun y5 h4 => zAt E (d + 1) 0 0 m_X6_readGives 43 [vo 2, vi y2, vn, vn] [vi y5] g0 h4 (zPv Q)))))) ∧ ((hI h1 2 3) ≠ 0 → (Q h1))))) : zCv E (d + 1) m_X6_readGives [vo 2] h Q := by
  show zAt E (d + 1) 0 0 m_X6_readGives 0 [vo 2, vn, vn, vn] [] g0 h (zPv Q)
  refine a_aload_n (pc := 0) dX6_readGives_0 rfl ?_
  refine a_callV (pc := 1) (kc := 0) (ks := 0) (kc' := 0) (ks' := 0) (st := []) [] dX6_readGives_1 ml_X6_68 (go_2) rfl (Nat.le_of_ble_eq_true rfl) (Nat.le_of_ble_eq_true rfl) (z_post H (fun r G1 h1 q => ?_))
  obtain ⟨y2, rfl, rfl, H⟩ := q
  show zAt E (d + 1) 0 0 m_X6_readGives 4 [vo 2, vn, vn, vn] [vi y2] g0 h1 (zPv Q)
  refine a_istore_n (pc := 4) (ls' := [vo 2, vi y2, vn, vn]) dX6_readGives_4 rfl rfl ?_
  refine a_aload_n (pc := 5) dX6_readGives_5 rfl ?_
  refine a_getI (pc := 6) dX6_readGives_6 fl_X6_35 (go_2) ?_
  refine a_if_eq (pc := 9) (tgt := 13) dX6_readGives_9 (by decide) (fun c => ?_) (fun c => ?_)
  · have H := H.1 c
    refine a_aload_n (pc := 13) dX6_readGives_13 rfl ?_
    refine a_getF (pc := 14) dX6_readGives_14 fl_X6_12 (go_2) (gf_2_0) ?_
    refine a_getI (pc := 17) dX6_readGives_17 fl_X6_42 (go_3) ?_
    refine a_bipush (pc := 20) dX6_readGives_20 (by decide) ?_
    refine a_icmp_ne (pc := 22) (tgt := 42) dX6_readGives_22 (by decide) (fun c => ?_) (fun c => ?_)
    · have H := H.1 c
      refine a_iconst (pc := 42) dX6_readGives_42 (by decide) ?_
      exact H
    · have H := H.2 c
      refine a_aload_n (pc := 25) dX6_readGives_25 rfl ?_
      obtain ⟨t3, het3, hct3, H⟩ := H
      refine a_getR (pc := 26) dX6_readGives_26 fl_X6_22 (go_2) het3 ?_
      refine a_aload_n (pc := 29) dX6_readGives_29 rfl ?_
      refine a_getF (pc := 30) dX6_readGives_30 fl_X6_12 (go_2) (gf_2_0) ?_
      refine a_getL (pc := 33) dX6_readGives_33 fl_X6_94 (go_3) ?_
      refine a_callV (pc := 36) (kc := 0) (ks := 0) (kc' := 0) (ks' := 0) (st := []) [vl (hL h1 3 5)] dX6_readGives_36 ml_X6_98 (goCity hct3) rfl (Nat.le_of_ble_eq_true rfl) (Nat.le_of_ble_eq_true rfl) (z_post H (fun r G1 h4 q => ?_))
      obtain ⟨y5, rfl, rfl, H⟩ := q
      show zAt E (d + 1) 0 0 m_X6_readGives 39 [vo 2, vi y2, vn, vn] [vi y5] g0 h4 (zPv Q)
      refine a_goto (pc := 39) (tgt := 43) dX6_readGives_39 (by decide) ?_
      exact H
  · have H := H.2 c
    exact a_return (pc := 12) dX6_readGives_12 trivial ⟨rfl, rfl, H⟩
set_option maxRecDepth 20000 in
theorem r_X6_readGives_43 {E : zE} {d : Nat} {h : zS} {Q : zS → Prop} {x1 : Int} {u0 : Int}  (H : ((u0 = (-1) → (zWv E (d + 1) m_X6_readGives 72 [vo 2, vi x1, vn, vn] h Q)) ∧ (u0 ≠ (-1) → ((u0 = x1 → (zWv E (d + 1) m_X6_readGives 66 [vo 2, vn, vn, vn] h Q)) ∧ (u0 ≠ x1 → (∃ t1, hR h 2 1 = some t1 ∧ isCity t1 ∧ zCi E d m_X0_gives [vo t1, vi x1, vi u0] h (fun y3 h2 => ((y3 = 0 → (zWv E (d + 1) m_X6_readGives 72 [vo 2, vi x1, vn, vn] h2 Q)) ∧ (y3 ≠ 0 → (zWv E (d + 1) m_X6_readGives 66 [vo 2, vn, vn, vn] h2 Q)))))))))) : zAt E (d + 1) 0 0 m_X6_readGives 43 [vo 2, vi x1, vn, vn] [vi u0] g0 h (zPv Q) := by
  refine a_istore_n (pc := 43) (ls' := [vo 2, vi x1, vi u0, vn]) dX6_readGives_43 rfl rfl ?_
  refine a_iload_n (pc := 44) dX6_readGives_44 rfl ?_
  refine a_iconst (pc := 45) dX6_readGives_45 (by decide) ?_
  refine a_icmp_eq (pc := 46) (tgt := 72) dX6_readGives_46 (by decide) (fun c => ?_) (fun c => ?_)
  · have H := H.1 c
    exact z_forget (ls' := [vo 2, vi x1, vn, vn]) ⟨.inr rfl, .inr rfl, .inl rfl, .inr rfl, trivial⟩ H
  · have H := H.2 c
    refine a_iload_n (pc := 49) dX6_readGives_49 rfl ?_
    refine a_iload_n (pc := 50) dX6_readGives_50 rfl ?_
    refine a_icmp_eq (pc := 51) (tgt := 66) dX6_readGives_51 (by decide) (fun c => ?_) (fun c => ?_)
    · have H := H.1 c
      exact z_forget (ls' := [vo 2, vn, vn, vn]) ⟨.inr rfl, .inl rfl, .inl rfl, .inr rfl, trivial⟩ H
    · have H := H.2 c
      refine a_aload_n (pc := 54) dX6_readGives_54 rfl ?_
      obtain ⟨t1, het1, hct1, H⟩ := H
      refine a_getR (pc := 55) dX6_readGives_55 fl_X6_22 (go_2) het1 ?_
      refine a_iload_n (pc := 58) dX6_readGives_58 rfl ?_
      refine a_iload_n (pc := 59) dX6_readGives_59 rfl ?_
      refine a_callV (pc := 60) (kc := 0) (ks := 0) (kc' := 0) (ks' := 0) (st := []) [vi x1, vi u0] dX6_readGives_60 ml_X6_122 (goCity hct1) rfl (Nat.le_of_ble_eq_true rfl) (Nat.le_of_ble_eq_true rfl) (z_post H (fun r G1 h2 q => ?_))
      obtain ⟨y3, rfl, rfl, H⟩ := q
      show zAt E (d + 1) 0 0 m_X6_readGives 63 [vo 2, vi x1, vi u0, vn] [vi y3] g0 h2 (zPv Q)
      refine a_if_eq (pc := 63) (tgt := 72) dX6_readGives_63 (by decide) (fun c => ?_) (fun c => ?_)
      · have H := H.1 c
        exact z_forget (ls' := [vo 2, vi x1, vn, vn]) ⟨.inr rfl, .inr rfl, .inl rfl, .inr rfl, trivial⟩ H
      · have H := H.2 c
        exact z_forget (ls' := [vo 2, vn, vn, vn]) ⟨.inr rfl, .inl rfl, .inl rfl, .inr rfl, trivial⟩ H
set_option maxRecDepth 20000 in
theorem r_X6_readGives_72 {E : zE} {d : Nat} {h : zS} {Q : zS → Prop} {x1 : Int}  (H : zCi E d m_X6_readKnown [vo 2] h (fun y2 h1 => zCv E d m_X6_pass [vo 2, vi 9] h1 (fun h3 => zCi E d m_X6_readNumber [vo 2, vi 1, vi 9] h3 (fun y5 h4 => (((hI h4 2 3) ≠ 0 → (zWv E (d + 1) m_X6_readGives 125 [vn, vn, vn, vn] h4 Q)) ∧ ((hI h4 2 3) = 0 → (∃ t6, hR h4 2 1 = some t6 ∧ isCity t6 ∧ zCi E d m_X9_pair [vi x1, vi y2] h4 (fun y8 h7 => (0 ≤ y8 ∧ y8 < 144) ∧ ∀ h10, h10 = stI h7 (t6 + 7) y8.toNat y5 → ∃ t11, hR h10 2 1 = some t11 ∧ isCity t11 ∧ ∀ h12, h12 = stI h10 t11 1 (w32 ((hI h10 t11 1) + 1)) → zWv E (d + 1) m_X6_readGives 125 [vn, vn, vn, vn] h12 Q)))))))) : zWv E (d + 1) m_X6_readGives 72 [vo 2, vi x1, vn, vn] h Q := by
  refine a_aload_n (pc := 72) dX6_readGives_72 rfl ?_
  refine a_callV (pc := 73) (kc := 0) (ks := 0) (kc' := 0) (ks' := 0) (st := []) [] dX6_readGives_73 ml_X6_68 (go_2) rfl (Nat.le_of_ble_eq_true rfl) (Nat.le_of_ble_eq_true rfl) (z_post H (fun r G1 h1 q => ?_))
  obtain ⟨y2, rfl, rfl, H⟩ := q
  show zAt E (d + 1) 0 0 m_X6_readGives 76 [vo 2, vi x1, vn, vn] [vi y2] g0 h1 (zPv Q)
  refine a_istore_n (pc := 76) (ls' := [vo 2, vi x1, vi y2, vn]) dX6_readGives_76 rfl rfl ?_
  refine a_aload_n (pc := 77) dX6_readGives_77 rfl ?_
  refine a_bipush (pc := 78) dX6_readGives_78 (by decide) ?_
  refine a_callV (pc := 80) (kc := 0) (ks := 0) (kc' := 0) (ks' := 0) (st := []) [vi 9] dX6_readGives_80 ml_X6_85 (go_2) rfl (Nat.le_of_ble_eq_true rfl) (Nat.le_of_ble_eq_true rfl) (z_post H (fun r G1 h3 q => ?_))
  obtain ⟨rfl, rfl, H⟩ := q
  show zAt E (d + 1) 0 0 m_X6_readGives 83 [vo 2, vi x1, vi y2, vn] [] g0 h3 (zPv Q)
  refine a_aload_n (pc := 83) dX6_readGives_83 rfl ?_
  refine a_iconst (pc := 84) dX6_readGives_84 (by decide) ?_
  refine a_bipush (pc := 85) dX6_readGives_85 (by decide) ?_
  refine a_callV (pc := 87) (kc := 0) (ks := 0) (kc' := 0) (ks' := 0) (st := []) [vi 1, vi 9] dX6_readGives_87 ml_X6_78 (go_2) rfl (Nat.le_of_ble_eq_true rfl) (Nat.le_of_ble_eq_true rfl) (z_post H (fun r G1 h4 q => ?_))
  obtain ⟨y5, rfl, rfl, H⟩ := q
  show zAt E (d + 1) 0 0 m_X6_readGives 90 [vo 2, vi x1, vi y2, vn] [vi y5] g0 h4 (zPv Q)
  refine a_istore_n (pc := 90) (ls' := [vo 2, vi x1, vi y2, vi y5]) dX6_readGives_90 rfl rfl ?_
  refine a_aload_n (pc := 91) dX6_readGives_91 rfl ?_
  refine a_getI (pc := 92) dX6_readGives_92 fl_X6_35 (go_2) ?_
  refine a_if_ne (pc := 95) (tgt := 125) dX6_readGives_95 (by decide) (fun c => ?_) (fun c => ?_)
  · have H := H.1 c
    exact z_forget (ls' := [vn, vn, vn, vn]) ⟨.inl rfl, .inl rfl, .inl rfl, .inl rfl, trivial⟩ H
  · have H := H.2 c
    refine a_aload_n (pc := 98) dX6_readGives_98 rfl ?_
    obtain ⟨t6, het6, hct6, H⟩ := H
    refine a_getR (pc := 99) dX6_readGives_99 fl_X6_22 (go_2) het6 ?_
    refine a_getG (pc := 102) dX6_readGives_102 fl_X6_126 rfl (goCity hct6) (gfCity_11 hct6) ?_
    refine a_iload_n (pc := 105) dX6_readGives_105 rfl ?_
    refine a_iload_n (pc := 106) dX6_readGives_106 rfl ?_
    refine a_callSN (pc := 107) (kc := 0) (ks := 0) (kc' := 0) (ks' := 0) (st := [vo (t6 + 7)]) [vi x1, vi y2] dX6_readGives_107 ml_X6_129 rfl (Nat.le_of_ble_eq_true rfl) (Nat.le_of_ble_eq_true rfl) (z_post H (fun r G1 h7 q => ?_))
    obtain ⟨y8, rfl, rfl, H⟩ := q
    show zAt E (d + 1) 0 0 m_X6_readGives 110 [vo 2, vi x1, vi y2, vi y5] [vi y8, vo (t6 + 7)] g0 h7 (zPv Q)
    refine a_iload_n (pc := 110) dX6_readGives_110 rfl ?_
    obtain ⟨hb9, H⟩ := H
    refine a_iastore (pc := 111) dX6_readGives_111 (gaCity_11 hct6) hb9 ?_
    have H := H _ rfl
    generalize stI h7 (t6 + 7) y8.toNat y5 = h10 at H ⊢
    refine a_aload_n (pc := 112) dX6_readGives_112 rfl ?_
    obtain ⟨t11, het11, hct11, H⟩ := H
    refine a_getR (pc := 113) dX6_readGives_113 fl_X6_22 (go_2) het11 ?_
    refine a_dup (pc := 116) dX6_readGives_116 rfl ?_
    refine a_getI (pc := 117) dX6_readGives_117 fl_X6_91 (goCity hct11) ?_
    refine a_iconst (pc := 120) dX6_readGives_120 (by decide) ?_
    refine a_iadd (pc := 121) dX6_readGives_121 ?_
    refine a_putI (pc := 122) dX6_readGives_122 fl_X6_91 (goCity hct11) ?_
    have H := H _ rfl
    generalize stI h10 t11 1 (w32 ((hI h10 t11 1) + 1)) = h12 at H ⊢
    exact z_forget (ls' := [vn, vn, vn, vn]) ⟨.inl rfl, .inl rfl, .inl rfl, .inl rfl, trivial⟩ H
set_option maxRecDepth 20000 in
theorem r_X6_readGives_66 {E : zE} {d : Nat} {h : zS} {Q : zS → Prop}   (H : zCv E d m_X6_refuse [vo 2, vi 3] h (fun h1 => Q h1)) : zWv E (d + 1) m_X6_readGives 66 [vo 2, vn, vn, vn] h Q := by
  refine a_aload_n (pc := 66) dX6_readGives_66 rfl ?_
  refine a_iconst (pc := 67) dX6_readGives_67 (by decide) ?_
  refine a_callV (pc := 68) (kc := 0) (ks := 0) (kc' := 0) (ks' := 0) (st := []) [vi 3] dX6_readGives_68 ml_X6_55 (go_2) rfl (Nat.le_of_ble_eq_true rfl) (Nat.le_of_ble_eq_true rfl) (z_post H (fun r G1 h1 q => ?_))
  obtain ⟨rfl, rfl, H⟩ := q
  show zAt E (d + 1) 0 0 m_X6_readGives 71 [vo 2, vn, vn, vn] [] g0 h1 (zPv Q)
  exact a_return (pc := 71) dX6_readGives_71 trivial ⟨rfl, rfl, H⟩
set_option maxRecDepth 20000 in
theorem r_X6_readGives_125 {E : zE} {d : Nat} {h : zS} {Q : zS → Prop}   (H : Q h) : zWv E (d + 1) m_X6_readGives 125 [vn, vn, vn, vn] h Q := by
  exact a_return (pc := 125) dX6_readGives_125 trivial ⟨rfl, rfl, H⟩
set_option maxRecDepth 20000 in
theorem v_X6_readKnown {E : zE} {d : Nat} {h : zS} {Q : Int → zS → Prop}   (H : (((hI h 2 3) = 0 → (((hI h 3 3) = 13 → (∃ t1, hR h 2 1 = some t1 ∧ isCity t1 ∧ zCi E d m_X0_called [vo t1, vl (hL h 3 5)] h (fun y3 h2 => ((y3 ≠ (-1) → (zCv E d m_X5_advance [vo 3] h2 (fun h4 => Q y3 h4))) ∧ (y3 = (-1) → (zCv E d m_X6_refuse [vo 2, vi 5] h2 (fun h5 => Q (-1) h5))))))) ∧ ((hI h 3 3) ≠ 13 → (zCv E d m_X6_refuse [vo 2, vi 2] h (fun h6 => Q (-1) h6))))) ∧ ((hI h 2 3) ≠ 0 → (Q (-1) h)))) : zCi E (d + 1) m_X6_readKnown [vo 2] h Q := by
  show zAt E (d + 1) 0 0 m_X6_readKnown 0 [vo 2, vn] [] g0 h (zPi Q)
  refine a_aload_n (pc := 0) dX6_readKnown_0 rfl ?_
  refine a_getI (pc := 1) dX6_readKnown_1 fl_X6_35 (go_2) ?_
  refine a_if_eq (pc := 4) (tgt := 9) dX6_readKnown_4 (by decide) (fun c => ?_) (fun c => ?_)
  · have H := H.1 c
    refine a_aload_n (pc := 9) dX6_readKnown_9 rfl ?_
    refine a_getF (pc := 10) dX6_readKnown_10 fl_X6_12 (go_2) (gf_2_0) ?_
    refine a_getI (pc := 13) dX6_readKnown_13 fl_X6_42 (go_3) ?_
    refine a_bipush (pc := 16) dX6_readKnown_16 (by decide) ?_
    refine a_icmp_eq (pc := 18) (tgt := 28) dX6_readKnown_18 (by decide) (fun c => ?_) (fun c => ?_)
    · have H := H.1 c
      refine a_aload_n (pc := 28) dX6_readKnown_28 rfl ?_
      obtain ⟨t1, het1, hct1, H⟩ := H
      refine a_getR (pc := 29) dX6_readKnown_29 fl_X6_22 (go_2) het1 ?_
      refine a_aload_n (pc := 32) dX6_readKnown_32 rfl ?_
      refine a_getF (pc := 33) dX6_readKnown_33 fl_X6_12 (go_2) (gf_2_0) ?_
      refine a_getL (pc := 36) dX6_readKnown_36 fl_X6_94 (go_3) ?_
      refine a_callV (pc := 39) (kc := 0) (ks := 0) (kc' := 0) (ks' := 0) (st := []) [vl (hL h 3 5)] dX6_readKnown_39 ml_X6_98 (goCity hct1) rfl (Nat.le_of_ble_eq_true rfl) (Nat.le_of_ble_eq_true rfl) (z_post H (fun r G1 h2 q => ?_))
      obtain ⟨y3, rfl, rfl, H⟩ := q
      show zAt E (d + 1) 0 0 m_X6_readKnown 42 [vo 2, vn] [vi y3] g0 h2 (zPi Q)
      refine a_istore_n (pc := 42) (ls' := [vo 2, vi y3]) dX6_readKnown_42 rfl rfl ?_
      refine a_iload_n (pc := 43) dX6_readKnown_43 rfl ?_
      refine a_iconst (pc := 44) dX6_readKnown_44 (by decide) ?_
      refine a_icmp_ne (pc := 45) (tgt := 55) dX6_readKnown_45 (by decide) (fun c => ?_) (fun c => ?_)
      · have H := H.1 c
        refine a_aload_n (pc := 55) dX6_readKnown_55 rfl ?_
        refine a_getF (pc := 56) dX6_readKnown_56 fl_X6_12 (go_2) (gf_2_0) ?_
        refine a_callV (pc := 59) (kc := 0) (ks := 0) (kc' := 0) (ks' := 0) (st := []) [] dX6_readKnown_59 ml_X6_59 (go_3) rfl (Nat.le_of_ble_eq_true rfl) (Nat.le_of_ble_eq_true rfl) (z_post H (fun r G1 h4 q => ?_))
        obtain ⟨rfl, rfl, H⟩ := q
        show zAt E (d + 1) 0 0 m_X6_readKnown 62 [vo 2, vi y3] [] g0 h4 (zPi Q)
        refine a_iload_n (pc := 62) dX6_readKnown_62 rfl ?_
        exact a_ireturn (pc := 63) dX6_readKnown_63 trivial ⟨_, rfl, rfl, H⟩
      · have H := H.2 c
        refine a_aload_n (pc := 48) dX6_readKnown_48 rfl ?_
        refine a_iconst (pc := 49) dX6_readKnown_49 (by decide) ?_
        refine a_callV (pc := 50) (kc := 0) (ks := 0) (kc' := 0) (ks' := 0) (st := []) [vi 5] dX6_readKnown_50 ml_X6_55 (go_2) rfl (Nat.le_of_ble_eq_true rfl) (Nat.le_of_ble_eq_true rfl) (z_post H (fun r G1 h5 q => ?_))
        obtain ⟨rfl, rfl, H⟩ := q
        show zAt E (d + 1) 0 0 m_X6_readKnown 53 [vo 2, vi y3] [] g0 h5 (zPi Q)
        refine a_iconst (pc := 53) dX6_readKnown_53 (by decide) ?_
        exact a_ireturn (pc := 54) dX6_readKnown_54 trivial ⟨_, rfl, rfl, H⟩
    · have H := H.2 c
      refine a_aload_n (pc := 21) dX6_readKnown_21 rfl ?_
      refine a_iconst (pc := 22) dX6_readKnown_22 (by decide) ?_
      refine a_callV (pc := 23) (kc := 0) (ks := 0) (kc' := 0) (ks' := 0) (st := []) [vi 2] dX6_readKnown_23 ml_X6_55 (go_2) rfl (Nat.le_of_ble_eq_true rfl) (Nat.le_of_ble_eq_true rfl) (z_post H (fun r G1 h6 q => ?_))
      obtain ⟨rfl, rfl, H⟩ := q
      show zAt E (d + 1) 0 0 m_X6_readKnown 26 [vo 2, vn] [] g0 h6 (zPi Q)
      refine a_iconst (pc := 26) dX6_readKnown_26 (by decide) ?_
      exact a_ireturn (pc := 27) dX6_readKnown_27 trivial ⟨_, rfl, rfl, H⟩
  · have H := H.2 c
    refine a_iconst (pc := 7) dX6_readKnown_7 (by decide) ?_
    exact a_ireturn (pc := 8) dX6_readKnown_8 trivial ⟨_, rfl, rfl, H⟩
set_option maxRecDepth 20000 in
theorem v_X6_readNumber {E : zE} {d : Nat} {h : zS} {Q : Int → zS → Prop} {x1 : Int} {x2 : Int}  (H : (((hI h 2 3) = 0 → (((hI h 3 3) = 14 → (((hI h 3 6) < x1 → (zCv E d m_X6_refuse [vo 2, vi 4] h (fun h1 => Q 0 h1))) ∧ (x1 ≤ (hI h 3 6) → (((hI h 3 6) ≤ x2 → (zCv E d m_X5_advance [vo 3] h (fun h2 => Q (hI h 3 6) h2))) ∧ (x2 < (hI h 3 6) → (zCv E d m_X6_refuse [vo 2, vi 4] h (fun h3 => Q 0 h3))))))) ∧ ((hI h 3 3) ≠ 14 → (zCv E d m_X6_refuse [vo 2, vi 2] h (fun h4 => Q 0 h4))))) ∧ ((hI h 2 3) ≠ 0 → (Q 0 h)))) : zCi E (d + 1) m_X6_readNumber [vo 2, vi x1, vi x2] h Q := by
  show zAt E (d + 1) 0 0 m_X6_readNumber 0 [vo 2, vi x1, vi x2, vn] [] g0 h (zPi Q)
  refine a_aload_n (pc := 0) dX6_readNumber_0 rfl ?_
  refine a_getI (pc := 1) dX6_readNumber_1 fl_X6_35 (go_2) ?_
  refine a_if_eq (pc := 4) (tgt := 9) dX6_readNumber_4 (by decide) (fun c => ?_) (fun c => ?_)
  · have H := H.1 c
    refine a_aload_n (pc := 9) dX6_readNumber_9 rfl ?_
    refine a_getF (pc := 10) dX6_readNumber_10 fl_X6_12 (go_2) (gf_2_0) ?_
    refine a_getI (pc := 13) dX6_readNumber_13 fl_X6_42 (go_3) ?_
    refine a_bipush (pc := 16) dX6_readNumber_16 (by decide) ?_
    refine a_icmp_eq (pc := 18) (tgt := 28) dX6_readNumber_18 (by decide) (fun c => ?_) (fun c => ?_)
    · have H := H.1 c
      refine a_aload_n (pc := 28) dX6_readNumber_28 rfl ?_
      refine a_getF (pc := 29) dX6_readNumber_29 fl_X6_12 (go_2) (gf_2_0) ?_
      refine a_getI (pc := 32) dX6_readNumber_32 fl_X6_132 (go_3) ?_
      refine a_istore_n (pc := 35) (ls' := [vo 2, vi x1, vi x2, vi (hI h 3 6)]) dX6_readNumber_35 rfl rfl ?_
      refine a_iload_n (pc := 36) dX6_readNumber_36 rfl ?_
      refine a_iload_n (pc := 37) dX6_readNumber_37 rfl ?_
      refine a_icmp_lt (pc := 38) (tgt := 46) dX6_readNumber_38 (by decide) (fun c => ?_) (fun c => ?_)
      · have H := H.1 c
        refine a_aload_n (pc := 46) dX6_readNumber_46 rfl ?_
        refine a_iconst (pc := 47) dX6_readNumber_47 (by decide) ?_
        refine a_callV (pc := 48) (kc := 0) (ks := 0) (kc' := 0) (ks' := 0) (st := []) [vi 4] dX6_readNumber_48 ml_X6_55 (go_2) rfl (Nat.le_of_ble_eq_true rfl) (Nat.le_of_ble_eq_true rfl) (z_post H (fun r G1 h1 q => ?_))
        obtain ⟨rfl, rfl, H⟩ := q
        show zAt E (d + 1) 0 0 m_X6_readNumber 51 [vo 2, vi x1, vi x2, vi (hI h 3 6)] [] g0 h1 (zPi Q)
        refine a_iconst (pc := 51) dX6_readNumber_51 (by decide) ?_
        exact a_ireturn (pc := 52) dX6_readNumber_52 trivial ⟨_, rfl, rfl, H⟩
      · have H := H.2 c
        refine a_iload_n (pc := 41) dX6_readNumber_41 rfl ?_
        refine a_iload_n (pc := 42) dX6_readNumber_42 rfl ?_
        refine a_icmp_le (pc := 43) (tgt := 53) dX6_readNumber_43 (by decide) (fun c => ?_) (fun c => ?_)
        · have H := H.1 c
          refine a_aload_n (pc := 53) dX6_readNumber_53 rfl ?_
          refine a_getF (pc := 54) dX6_readNumber_54 fl_X6_12 (go_2) (gf_2_0) ?_
          refine a_callV (pc := 57) (kc := 0) (ks := 0) (kc' := 0) (ks' := 0) (st := []) [] dX6_readNumber_57 ml_X6_59 (go_3) rfl (Nat.le_of_ble_eq_true rfl) (Nat.le_of_ble_eq_true rfl) (z_post H (fun r G1 h2 q => ?_))
          obtain ⟨rfl, rfl, H⟩ := q
          show zAt E (d + 1) 0 0 m_X6_readNumber 60 [vo 2, vi x1, vi x2, vi (hI h 3 6)] [] g0 h2 (zPi Q)
          refine a_iload_n (pc := 60) dX6_readNumber_60 rfl ?_
          exact a_ireturn (pc := 61) dX6_readNumber_61 trivial ⟨_, rfl, rfl, H⟩
        · have H := H.2 c
          refine a_aload_n (pc := 46) dX6_readNumber_46 rfl ?_
          refine a_iconst (pc := 47) dX6_readNumber_47 (by decide) ?_
          refine a_callV (pc := 48) (kc := 0) (ks := 0) (kc' := 0) (ks' := 0) (st := []) [vi 4] dX6_readNumber_48 ml_X6_55 (go_2) rfl (Nat.le_of_ble_eq_true rfl) (Nat.le_of_ble_eq_true rfl) (z_post H (fun r G1 h3 q => ?_))
          obtain ⟨rfl, rfl, H⟩ := q
          show zAt E (d + 1) 0 0 m_X6_readNumber 51 [vo 2, vi x1, vi x2, vi (hI h 3 6)] [] g0 h3 (zPi Q)
          refine a_iconst (pc := 51) dX6_readNumber_51 (by decide) ?_
          exact a_ireturn (pc := 52) dX6_readNumber_52 trivial ⟨_, rfl, rfl, H⟩
    · have H := H.2 c
      refine a_aload_n (pc := 21) dX6_readNumber_21 rfl ?_
      refine a_iconst (pc := 22) dX6_readNumber_22 (by decide) ?_
      refine a_callV (pc := 23) (kc := 0) (ks := 0) (kc' := 0) (ks' := 0) (st := []) [vi 2] dX6_readNumber_23 ml_X6_55 (go_2) rfl (Nat.le_of_ble_eq_true rfl) (Nat.le_of_ble_eq_true rfl) (z_post H (fun r G1 h4 q => ?_))
      obtain ⟨rfl, rfl, H⟩ := q
      show zAt E (d + 1) 0 0 m_X6_readNumber 26 [vo 2, vi x1, vi x2, vn] [] g0 h4 (zPi Q)
      refine a_iconst (pc := 26) dX6_readNumber_26 (by decide) ?_
      exact a_ireturn (pc := 27) dX6_readNumber_27 trivial ⟨_, rfl, rfl, H⟩
  · have H := H.2 c
    refine a_iconst (pc := 7) dX6_readNumber_7 (by decide) ?_
    exact a_ireturn (pc := 8) dX6_readNumber_8 trivial ⟨_, rfl, rfl, H⟩
set_option maxRecDepth 20000 in
theorem v_X6_pass {E : zE} {d : Nat} {h : zS} {Q : zS → Prop} {x1 : Int}  (H : (((hI h 2 3) = 0 → (((hI h 3 3) = x1 → (zCv E d m_X5_advance [vo 3] h (fun h1 => Q h1))) ∧ ((hI h 3 3) ≠ x1 → (zCv E d m_X6_refuse [vo 2, vi 2] h (fun h2 => Q h2))))) ∧ ((hI h 2 3) ≠ 0 → (Q h)))) : zCv E (d + 1) m_X6_pass [vo 2, vi x1] h Q := by
  show zAt E (d + 1) 0 0 m_X6_pass 0 [vo 2, vi x1] [] g0 h (zPv Q)
  refine a_aload_n (pc := 0) dX6_pass_0 rfl ?_
  refine a_getI (pc := 1) dX6_pass_1 fl_X6_35 (go_2) ?_
  refine a_if_eq (pc := 4) (tgt := 8) dX6_pass_4 (by decide) (fun c => ?_) (fun c => ?_)
  · have H := H.1 c
    refine a_aload_n (pc := 8) dX6_pass_8 rfl ?_
    refine a_getF (pc := 9) dX6_pass_9 fl_X6_12 (go_2) (gf_2_0) ?_
    refine a_getI (pc := 12) dX6_pass_12 fl_X6_42 (go_3) ?_
    refine a_iload_n (pc := 15) dX6_pass_15 rfl ?_
    refine a_icmp_eq (pc := 16) (tgt := 25) dX6_pass_16 (by decide) (fun c => ?_) (fun c => ?_)
    · have H := H.1 c
      refine a_aload_n (pc := 25) dX6_pass_25 rfl ?_
      refine a_getF (pc := 26) dX6_pass_26 fl_X6_12 (go_2) (gf_2_0) ?_
      refine a_callV (pc := 29) (kc := 0) (ks := 0) (kc' := 0) (ks' := 0) (st := []) [] dX6_pass_29 ml_X6_59 (go_3) rfl (Nat.le_of_ble_eq_true rfl) (Nat.le_of_ble_eq_true rfl) (z_post H (fun r G1 h1 q => ?_))
      obtain ⟨rfl, rfl, H⟩ := q
      show zAt E (d + 1) 0 0 m_X6_pass 32 [vo 2, vi x1] [] g0 h1 (zPv Q)
      exact a_return (pc := 32) dX6_pass_32 trivial ⟨rfl, rfl, H⟩
    · have H := H.2 c
      refine a_aload_n (pc := 19) dX6_pass_19 rfl ?_
      refine a_iconst (pc := 20) dX6_pass_20 (by decide) ?_
      refine a_callV (pc := 21) (kc := 0) (ks := 0) (kc' := 0) (ks' := 0) (st := []) [vi 2] dX6_pass_21 ml_X6_55 (go_2) rfl (Nat.le_of_ble_eq_true rfl) (Nat.le_of_ble_eq_true rfl) (z_post H (fun r G1 h2 q => ?_))
      obtain ⟨rfl, rfl, H⟩ := q
      show zAt E (d + 1) 0 0 m_X6_pass 24 [vo 2, vi x1] [] g0 h2 (zPv Q)
      exact a_return (pc := 24) dX6_pass_24 trivial ⟨rfl, rfl, H⟩
  · have H := H.2 c
    exact a_return (pc := 7) dX6_pass_7 trivial ⟨rfl, rfl, H⟩
set_option maxRecDepth 20000 in
theorem v_X6_refuse {E : zE} {d : Nat} {h : zS} {Q : zS → Prop} {x1 : Int}  (H : (∀ h2, h2 = stI h 2 3 (if (hI h 3 3) ≠ 17 then x1 else 1) → ∀ h3, h3 = stI h2 2 4 (hI h2 3 4) → Q h3)) : zCv E d m_X6_refuse [vo 2, vi x1] h Q := by
  show zAt E d 0 0 m_X6_refuse 0 [vo 2, vi x1] [] g0 h (zPv Q)
  refine a_aload_n (pc := 0) dX6_refuse_0 rfl ?_
  refine a_aload_n (pc := 1) dX6_refuse_1 rfl ?_
  refine a_getF (pc := 2) dX6_refuse_2 fl_X6_12 (go_2) (gf_2_0) ?_
  refine a_getI (pc := 5) dX6_refuse_5 fl_X6_42 (go_3) ?_
  refine a_bipush (pc := 8) dX6_refuse_8 (by decide) ?_
  have J : zAt E d 0 0 m_X6_refuse 18 [vo 2, vi x1] [vi (if (hI h 3 3) ≠ 17 then x1 else 1), vo 2] g0 h (zPv Q) := by
    refine a_putI (pc := 18) dX6_refuse_18 fl_X6_35 (go_2) ?_
    have H := H _ rfl
    generalize stI h 2 3 (if (hI h 3 3) ≠ 17 then x1 else 1) = h2 at H ⊢
    refine a_aload_n (pc := 21) dX6_refuse_21 rfl ?_
    refine a_aload_n (pc := 22) dX6_refuse_22 rfl ?_
    refine a_getF (pc := 23) dX6_refuse_23 fl_X6_12 (go_2) (gf_2_0) ?_
    refine a_getI (pc := 26) dX6_refuse_26 fl_X6_135 (go_3) ?_
    refine a_putI (pc := 29) dX6_refuse_29 fl_X6_18 (go_2) ?_
    have H := H _ rfl
    generalize stI h2 2 4 (hI h2 3 4) = h3 at H ⊢
    exact a_return (pc := 32) dX6_refuse_32 trivial ⟨rfl, rfl, H⟩
  refine a_icmp_ne (pc := 10) (tgt := 17) dX6_refuse_10 (by decide) (fun c1 => ?_) (fun c1 => ?_)
  · skip
    refine a_iload_n (pc := 17) dX6_refuse_17 rfl ?_
    exact (z_mergeT c1 J)
  · skip
    refine a_iconst (pc := 13) dX6_refuse_13 (by decide) ?_
    refine a_goto (pc := 14) (tgt := 18) dX6_refuse_14 (by decide) ?_
    exact (z_mergeF (fun n => n c1) J)
