/-! by program: the constructors, cell by cell -/
set_option maxRecDepth 20000 in
theorem q_X5_init_3 {E : zE} {d : Nat} : zAt E (d + 1) 0 0 m_X5_init 0 [vo 3] [] (gQ 4 1) qh0 (qP (gQ 4 1) qh1) := by
  refine a_aload_n (pc := 0) dX5_init_0 rfl ?_
  refine a_objInit (pc := 1) dX5_init_1 ml_X5_1 (by omega) (Nat.le_of_ble_eq_true rfl) ?_
  refine a_aload_n (pc := 4) dX5_init_4 rfl ?_
  refine a_bipush (pc := 5) dX5_init_5 (by decide) ?_
  refine q_putI (h' := qh1) (pc := 7) dX5_init_7 fl_X5_9 (qo (by decide) rfl (by decide)) rfl ?_
  exact a_return (pc := 10) dX5_init_10 trivial ⟨rfl, rfl, rfl⟩
set_option maxRecDepth 20000 in
theorem q_X6_init_2 {E : zE} {d : Nat} : zAt E (d + 2) 1 7 m_X6_init 0 [vo 2] [] (gQ 3 1) qh0 (qP (gQ 4 2) qh2) := by
  refine a_aload_n (pc := 0) dX6_init_0 rfl ?_
  refine a_objInit (pc := 1) dX6_init_1 ml_X6_3 (by omega) (Nat.le_of_ble_eq_true rfl) ?_
  refine a_aload_n (pc := 4) dX6_init_4 rfl ?_
  refine q_new (kc := 0) (ks := 0) (n := 3) (n' := 4) (m := 1) (c := 5) (pc := 5) dX6_init_5 nl_X6_9 rfl (by decide +kernel) (hz0 (by decide)) (by decide) rfl rfl (by decide) ?_
  refine a_dup (pc := 8) dX6_init_8 rfl ?_
  refine q_callIN (kc := 0) (ks := 0) (kc' := 0) (ks' := 0) (k := 3) (st := [vo 3, vo 2]) (pc := 9) dX6_init_9 ml_X6_11 rfl (Nat.le_of_ble_eq_true rfl) (Nat.le_of_ble_eq_true rfl) rfl rfl q_X5_init_3 ?_
  refine q_putF (m := 1) (m' := 2) (n := 4) (pc := 12) dX6_init_12 fl_X6_12 rfl (qo (by decide) rfl (by decide)) rfl rfl rfl ?_
  refine a_aload_n (pc := 15) dX6_init_15 rfl ?_
  refine a_iconst (pc := 16) dX6_init_16 (by decide) ?_
  refine q_putI (h' := qh2) (pc := 17) dX6_init_17 fl_X6_18 (qo (by decide) rfl (by decide)) rfl ?_
  exact a_return (pc := 20) dX6_init_20 trivial ⟨rfl, rfl, rfl⟩
set_option maxRecDepth 20000 in
theorem q_X0_init_4 {E : zE} {d : Nat} : zAt E (d + 1) 9 240 m_X0_init 0 [vo 4] [] (gQ 5 3) qh2 (qP (gQ 14 12) qh4) := by
  refine a_aload_n (pc := 0) dX0_init_0 rfl ?_
  refine a_objInit (pc := 1) dX0_init_1 ml_X0_3 (by omega) (Nat.le_of_ble_eq_true rfl) ?_
  refine a_aload_n (pc := 4) dX0_init_4 rfl ?_
  refine a_iconst (pc := 5) dX0_init_5 (by decide) ?_
  refine q_putI (h' := qh3) (pc := 6) dX0_init_6 fl_X0_9 (qo (by decide) rfl (by decide)) rfl ?_
  refine a_aload_n (pc := 9) dX0_init_9 rfl ?_
  refine a_iconst (pc := 10) dX0_init_10 (by decide) ?_
  refine q_putI (h' := qh4) (pc := 11) dX0_init_11 fl_X0_15 (qo (by decide) rfl (by decide)) rfl ?_
  refine a_aload_n (pc := 14) dX0_init_14 rfl ?_
  refine a_bipush (pc := 15) dX0_init_15 (by decide) ?_
  refine q_newJ (kc := 8) (ks := 228) (n := 5) (n' := 6) (m := 3) (pc := 17) dX0_init_17 al_long rfl (by decide) rfl (by decide +kernel) (hz4 (by decide)) (by decide) rfl rfl rfl ?_
  refine q_putF (m := 3) (m' := 4) (n := 6) (pc := 19) dX0_init_19 fl_X0_18 rfl (qo (by decide) rfl (by decide)) rfl rfl rfl ?_
  refine a_aload_n (pc := 22) dX0_init_22 rfl ?_
  refine a_bipush (pc := 23) dX0_init_23 (by decide) ?_
  refine q_newI (kc := 7) (ks := 216) (n := 6) (n' := 7) (m := 4) (pc := 25) dX0_init_25 al_int rfl (by decide) rfl (by decide +kernel) (hz4 (by decide)) (by decide) rfl rfl rfl ?_
  refine q_putF (m := 4) (m' := 5) (n := 7) (pc := 27) dX0_init_27 fl_X0_22 rfl (qo (by decide) rfl (by decide)) rfl rfl rfl ?_
  refine a_aload_n (pc := 30) dX0_init_30 rfl ?_
  refine a_bipush (pc := 31) dX0_init_31 (by decide) ?_
  refine q_newI (kc := 6) (ks := 204) (n := 7) (n' := 8) (m := 5) (pc := 33) dX0_init_33 al_int rfl (by decide) rfl (by decide +kernel) (hz4 (by decide)) (by decide) rfl rfl rfl ?_
  refine q_putF (m := 5) (m' := 6) (n := 8) (pc := 35) dX0_init_35 fl_X0_26 rfl (qo (by decide) rfl (by decide)) rfl rfl rfl ?_
  refine a_aload_n (pc := 38) dX0_init_38 rfl ?_
  refine a_bipush (pc := 39) dX0_init_39 (by decide) ?_
  refine q_newI (kc := 5) (ks := 192) (n := 8) (n' := 9) (m := 6) (pc := 41) dX0_init_41 al_int rfl (by decide) rfl (by decide +kernel) (hz4 (by decide)) (by decide) rfl rfl rfl ?_
  refine q_putF (m := 6) (m' := 7) (n := 9) (pc := 43) dX0_init_43 fl_X0_29 rfl (qo (by decide) rfl (by decide)) rfl rfl rfl ?_
  refine a_aload_n (pc := 46) dX0_init_46 rfl ?_
  refine a_bipush (pc := 47) dX0_init_47 (by decide) ?_
  refine q_newI (kc := 4) (ks := 180) (n := 9) (n' := 10) (m := 7) (pc := 49) dX0_init_49 al_int rfl (by decide) rfl (by decide +kernel) (hz4 (by decide)) (by decide) rfl rfl rfl ?_
  refine q_putF (m := 7) (m' := 8) (n := 10) (pc := 51) dX0_init_51 fl_X0_32 rfl (qo (by decide) rfl (by decide)) rfl rfl rfl ?_
  refine a_aload_n (pc := 54) dX0_init_54 rfl ?_
  refine a_bipush (pc := 55) dX0_init_55 (by decide) ?_
  refine q_newI (kc := 3) (ks := 168) (n := 10) (n' := 11) (m := 8) (pc := 57) dX0_init_57 al_int rfl (by decide) rfl (by decide +kernel) (hz4 (by decide)) (by decide) rfl rfl rfl ?_
  refine q_putF (m := 8) (m' := 9) (n := 11) (pc := 59) dX0_init_59 fl_X0_35 rfl (qo (by decide) rfl (by decide)) rfl rfl rfl ?_
  refine a_aload_n (pc := 62) dX0_init_62 rfl ?_
  refine a_sipush (pc := 63) dX0_init_63 (by decide) ?_
  refine q_newI (kc := 2) (ks := 24) (n := 11) (n' := 12) (m := 9) (pc := 66) dX0_init_66 al_int rfl (by decide) rfl (by decide +kernel) (hz4 (by decide)) (by decide) rfl rfl rfl ?_
  refine q_putF (m := 9) (m' := 10) (n := 12) (pc := 68) dX0_init_68 fl_X0_38 rfl (qo (by decide) rfl (by decide)) rfl rfl rfl ?_
  refine a_aload_n (pc := 71) dX0_init_71 rfl ?_
  refine a_bipush (pc := 72) dX0_init_72 (by decide) ?_
  refine q_newI (kc := 1) (ks := 12) (n := 12) (n' := 13) (m := 10) (pc := 74) dX0_init_74 al_int rfl (by decide) rfl (by decide +kernel) (hz4 (by decide)) (by decide) rfl rfl rfl ?_
  refine q_putF (m := 10) (m' := 11) (n := 13) (pc := 76) dX0_init_76 fl_X0_41 rfl (qo (by decide) rfl (by decide)) rfl rfl rfl ?_
  refine a_aload_n (pc := 79) dX0_init_79 rfl ?_
  refine a_bipush (pc := 80) dX0_init_80 (by decide) ?_
  refine q_newI (kc := 0) (ks := 0) (n := 13) (n' := 14) (m := 11) (pc := 82) dX0_init_82 al_int rfl (by decide) rfl (by decide +kernel) (hz4 (by decide)) (by decide) rfl rfl rfl ?_
  refine q_putF (m := 11) (m' := 12) (n := 14) (pc := 84) dX0_init_84 fl_X0_44 rfl (qo (by decide) rfl (by decide)) rfl rfl rfl ?_
  exact a_return (pc := 87) dX0_init_87 trivial ⟨rfl, rfl, rfl⟩
set_option maxRecDepth 20000 in
theorem q_X0_init_14 {E : zE} {d : Nat} : zAt E (d + 1) 9 240 m_X0_init 0 [vo 14] [] (gQ 15 12) qh5 (qP (gQ 24 21) qh7) := by
  refine a_aload_n (pc := 0) dX0_init_0 rfl ?_
  refine a_objInit (pc := 1) dX0_init_1 ml_X0_3 (by omega) (Nat.le_of_ble_eq_true rfl) ?_
  refine a_aload_n (pc := 4) dX0_init_4 rfl ?_
  refine a_iconst (pc := 5) dX0_init_5 (by decide) ?_
  refine q_putI (h' := qh6) (pc := 6) dX0_init_6 fl_X0_9 (qo (by decide) rfl (by decide)) rfl ?_
  refine a_aload_n (pc := 9) dX0_init_9 rfl ?_
  refine a_iconst (pc := 10) dX0_init_10 (by decide) ?_
  refine q_putI (h' := qh7) (pc := 11) dX0_init_11 fl_X0_15 (qo (by decide) rfl (by decide)) rfl ?_
  refine a_aload_n (pc := 14) dX0_init_14 rfl ?_
  refine a_bipush (pc := 15) dX0_init_15 (by decide) ?_
  refine q_newJ (kc := 8) (ks := 228) (n := 15) (n' := 16) (m := 12) (pc := 17) dX0_init_17 al_long rfl (by decide) rfl (by decide +kernel) (hz7 (by decide)) (by decide) rfl rfl rfl ?_
  refine q_putF (m := 12) (m' := 13) (n := 16) (pc := 19) dX0_init_19 fl_X0_18 rfl (qo (by decide) rfl (by decide)) rfl rfl rfl ?_
  refine a_aload_n (pc := 22) dX0_init_22 rfl ?_
  refine a_bipush (pc := 23) dX0_init_23 (by decide) ?_
  refine q_newI (kc := 7) (ks := 216) (n := 16) (n' := 17) (m := 13) (pc := 25) dX0_init_25 al_int rfl (by decide) rfl (by decide +kernel) (hz7 (by decide)) (by decide) rfl rfl rfl ?_
  refine q_putF (m := 13) (m' := 14) (n := 17) (pc := 27) dX0_init_27 fl_X0_22 rfl (qo (by decide) rfl (by decide)) rfl rfl rfl ?_
  refine a_aload_n (pc := 30) dX0_init_30 rfl ?_
  refine a_bipush (pc := 31) dX0_init_31 (by decide) ?_
  refine q_newI (kc := 6) (ks := 204) (n := 17) (n' := 18) (m := 14) (pc := 33) dX0_init_33 al_int rfl (by decide) rfl (by decide +kernel) (hz7 (by decide)) (by decide) rfl rfl rfl ?_
  refine q_putF (m := 14) (m' := 15) (n := 18) (pc := 35) dX0_init_35 fl_X0_26 rfl (qo (by decide) rfl (by decide)) rfl rfl rfl ?_
  refine a_aload_n (pc := 38) dX0_init_38 rfl ?_
  refine a_bipush (pc := 39) dX0_init_39 (by decide) ?_
  refine q_newI (kc := 5) (ks := 192) (n := 18) (n' := 19) (m := 15) (pc := 41) dX0_init_41 al_int rfl (by decide) rfl (by decide +kernel) (hz7 (by decide)) (by decide) rfl rfl rfl ?_
  refine q_putF (m := 15) (m' := 16) (n := 19) (pc := 43) dX0_init_43 fl_X0_29 rfl (qo (by decide) rfl (by decide)) rfl rfl rfl ?_
  refine a_aload_n (pc := 46) dX0_init_46 rfl ?_
  refine a_bipush (pc := 47) dX0_init_47 (by decide) ?_
  refine q_newI (kc := 4) (ks := 180) (n := 19) (n' := 20) (m := 16) (pc := 49) dX0_init_49 al_int rfl (by decide) rfl (by decide +kernel) (hz7 (by decide)) (by decide) rfl rfl rfl ?_
  refine q_putF (m := 16) (m' := 17) (n := 20) (pc := 51) dX0_init_51 fl_X0_32 rfl (qo (by decide) rfl (by decide)) rfl rfl rfl ?_
  refine a_aload_n (pc := 54) dX0_init_54 rfl ?_
  refine a_bipush (pc := 55) dX0_init_55 (by decide) ?_
  refine q_newI (kc := 3) (ks := 168) (n := 20) (n' := 21) (m := 17) (pc := 57) dX0_init_57 al_int rfl (by decide) rfl (by decide +kernel) (hz7 (by decide)) (by decide) rfl rfl rfl ?_
  refine q_putF (m := 17) (m' := 18) (n := 21) (pc := 59) dX0_init_59 fl_X0_35 rfl (qo (by decide) rfl (by decide)) rfl rfl rfl ?_
  refine a_aload_n (pc := 62) dX0_init_62 rfl ?_
  refine a_sipush (pc := 63) dX0_init_63 (by decide) ?_
  refine q_newI (kc := 2) (ks := 24) (n := 21) (n' := 22) (m := 18) (pc := 66) dX0_init_66 al_int rfl (by decide) rfl (by decide +kernel) (hz7 (by decide)) (by decide) rfl rfl rfl ?_
  refine q_putF (m := 18) (m' := 19) (n := 22) (pc := 68) dX0_init_68 fl_X0_38 rfl (qo (by decide) rfl (by decide)) rfl rfl rfl ?_
  refine a_aload_n (pc := 71) dX0_init_71 rfl ?_
  refine a_bipush (pc := 72) dX0_init_72 (by decide) ?_
  refine q_newI (kc := 1) (ks := 12) (n := 22) (n' := 23) (m := 19) (pc := 74) dX0_init_74 al_int rfl (by decide) rfl (by decide +kernel) (hz7 (by decide)) (by decide) rfl rfl rfl ?_
  refine q_putF (m := 19) (m' := 20) (n := 23) (pc := 76) dX0_init_76 fl_X0_41 rfl (qo (by decide) rfl (by decide)) rfl rfl rfl ?_
  refine a_aload_n (pc := 79) dX0_init_79 rfl ?_
  refine a_bipush (pc := 80) dX0_init_80 (by decide) ?_
  refine q_newI (kc := 0) (ks := 0) (n := 23) (n' := 24) (m := 20) (pc := 82) dX0_init_82 al_int rfl (by decide) rfl (by decide +kernel) (hz7 (by decide)) (by decide) rfl rfl rfl ?_
  refine q_putF (m := 20) (m' := 21) (n := 24) (pc := 84) dX0_init_84 fl_X0_44 rfl (qo (by decide) rfl (by decide)) rfl rfl rfl ?_
  exact a_return (pc := 87) dX0_init_87 trivial ⟨rfl, rfl, rfl⟩
set_option maxRecDepth 20000 in
theorem q_X4_init_28 {E : zE} {d : Nat} : zAt E (d + 1) 1 12 m_X4_init 0 [vo 28] [] (gQ 29 24) qh8 (qP (gQ 30 25) qh8) := by
  refine a_aload_n (pc := 0) dX4_init_0 rfl ?_
  refine a_objInit (pc := 1) dX4_init_1 ml_X4_3 (by omega) (Nat.le_of_ble_eq_true rfl) ?_
  refine a_aload_n (pc := 4) dX4_init_4 rfl ?_
  refine a_bipush (pc := 5) dX4_init_5 (by decide) ?_
  refine q_newI (kc := 0) (ks := 0) (n := 29) (n' := 30) (m := 24) (pc := 7) dX4_init_7 al_int rfl (by decide) rfl (by decide +kernel) (hz8 (by decide)) (by decide) rfl rfl rfl ?_
  refine q_putF (m := 24) (m' := 25) (n := 30) (pc := 9) dX4_init_9 fl_X4_9 rfl (qo (by decide) rfl (by decide)) rfl rfl rfl ?_
  exact a_return (pc := 12) dX4_init_12 trivial ⟨rfl, rfl, rfl⟩
set_option maxRecDepth 20000 in
theorem q_X3_init_24 {E : zE} {d : Nat} : zAt E (d + 2) 5 315 m_X3_init 0 [vo 24] [] (gQ 25 21) qh8 (qP (gQ 30 26) qh8) := by
  refine a_aload_n (pc := 0) dX3_init_0 rfl ?_
  refine a_objInit (pc := 1) dX3_init_1 ml_X3_3 (by omega) (Nat.le_of_ble_eq_true rfl) ?_
  refine a_aload_n (pc := 4) dX3_init_4 rfl ?_
  refine a_sipush (pc := 5) dX3_init_5 (by decide) ?_
  refine q_newI (kc := 4) (ks := 171) (n := 25) (n' := 26) (m := 21) (pc := 8) dX3_init_8 al_int rfl (by decide) rfl (by decide +kernel) (hz8 (by decide)) (by decide) rfl rfl rfl ?_
  refine q_putF (m := 21) (m' := 22) (n := 26) (pc := 10) dX3_init_10 fl_X3_9 rfl (qo (by decide) rfl (by decide)) rfl rfl rfl ?_
  refine a_aload_n (pc := 13) dX3_init_13 rfl ?_
  refine a_sipush (pc := 14) dX3_init_14 (by decide) ?_
  refine q_newI (kc := 3) (ks := 27) (n := 26) (n' := 27) (m := 22) (pc := 17) dX3_init_17 al_int rfl (by decide) rfl (by decide +kernel) (hz8 (by decide)) (by decide) rfl rfl rfl ?_
  refine q_putF (m := 22) (m' := 23) (n := 27) (pc := 19) dX3_init_19 fl_X3_15 rfl (qo (by decide) rfl (by decide)) rfl rfl rfl ?_
  refine a_aload_n (pc := 22) dX3_init_22 rfl ?_
  refine a_bipush (pc := 23) dX3_init_23 (by decide) ?_
  refine q_newI (kc := 2) (ks := 15) (n := 27) (n' := 28) (m := 23) (pc := 25) dX3_init_25 al_int rfl (by decide) rfl (by decide +kernel) (hz8 (by decide)) (by decide) rfl rfl rfl ?_
  refine q_putF (m := 23) (m' := 24) (n := 28) (pc := 27) dX3_init_27 fl_X3_18 rfl (qo (by decide) rfl (by decide)) rfl rfl rfl ?_
  refine a_aload_n (pc := 30) dX3_init_30 rfl ?_
  refine q_new (kc := 1) (ks := 12) (n := 28) (n' := 29) (m := 24) (c := 4) (pc := 31) dX3_init_31 nl_X3_21 rfl (by decide +kernel) (hz8 (by decide)) (by decide) rfl rfl (by decide) ?_
  refine a_dup (pc := 34) dX3_init_34 rfl ?_
  refine q_callIN (kc := 0) (ks := 0) (kc' := 1) (ks' := 12) (k := 28) (st := [vo 28, vo 24]) (pc := 35) dX3_init_35 ml_X3_23 rfl (Nat.le_of_ble_eq_true rfl) (Nat.le_of_ble_eq_true rfl) rfl rfl q_X4_init_28 ?_
  refine q_putF (m := 25) (m' := 26) (n := 30) (pc := 38) dX3_init_38 fl_X3_24 rfl (qo (by decide) rfl (by decide)) rfl rfl rfl ?_
  exact a_return (pc := 41) dX3_init_41 trivial ⟨rfl, rfl, rfl⟩
set_option maxRecDepth 20000 in
theorem q_X7_init_30 {E : zE} {d : Nat} : zAt E (d + 1) 3 300 m_X7_init 0 [vo 30] [] (gQ 31 27) qh8 (qP (gQ 34 30) qh8) := by
  refine a_aload_n (pc := 0) dX7_init_0 rfl ?_
  refine a_objInit (pc := 1) dX7_init_1 ml_X7_3 (by omega) (Nat.le_of_ble_eq_true rfl) ?_
  refine a_aload_n (pc := 4) dX7_init_4 rfl ?_
  refine a_sipush (pc := 5) dX7_init_5 (by decide) ?_
  refine q_newI (kc := 2) (ks := 156) (n := 31) (n' := 32) (m := 27) (pc := 8) dX7_init_8 al_int rfl (by decide) rfl (by decide +kernel) (hz8 (by decide)) (by decide) rfl rfl rfl ?_
  refine q_putF (m := 27) (m' := 28) (n := 32) (pc := 10) dX7_init_10 fl_X7_9 rfl (qo (by decide) rfl (by decide)) rfl rfl rfl ?_
  refine a_aload_n (pc := 13) dX7_init_13 rfl ?_
  refine a_sipush (pc := 14) dX7_init_14 (by decide) ?_
  refine q_newJ (kc := 1) (ks := 12) (n := 32) (n' := 33) (m := 28) (pc := 17) dX7_init_17 al_long rfl (by decide) rfl (by decide +kernel) (hz8 (by decide)) (by decide) rfl rfl rfl ?_
  refine q_putF (m := 28) (m' := 29) (n := 33) (pc := 19) dX7_init_19 fl_X7_15 rfl (qo (by decide) rfl (by decide)) rfl rfl rfl ?_
  refine a_aload_n (pc := 22) dX7_init_22 rfl ?_
  refine a_bipush (pc := 23) dX7_init_23 (by decide) ?_
  refine q_newI (kc := 0) (ks := 0) (n := 33) (n' := 34) (m := 29) (pc := 25) dX7_init_25 al_int rfl (by decide) rfl (by decide +kernel) (hz8 (by decide)) (by decide) rfl rfl rfl ?_
  refine q_putF (m := 29) (m' := 30) (n := 34) (pc := 27) dX7_init_27 fl_X7_19 rfl (qo (by decide) rfl (by decide)) rfl rfl rfl ?_
  exact a_return (pc := 30) dX7_init_30 trivial ⟨rfl, rfl, rfl⟩
set_option maxRecDepth 20000 in
theorem q_X4_init_35 {E : zE} {d : Nat} : zAt E (d + 1) 1 12 m_X4_init 0 [vo 35] [] (gQ 36 31) qh8 (qP (gQ 37 32) qh8) := by
  refine a_aload_n (pc := 0) dX4_init_0 rfl ?_
  refine a_objInit (pc := 1) dX4_init_1 ml_X4_3 (by omega) (Nat.le_of_ble_eq_true rfl) ?_
  refine a_aload_n (pc := 4) dX4_init_4 rfl ?_
  refine a_bipush (pc := 5) dX4_init_5 (by decide) ?_
  refine q_newI (kc := 0) (ks := 0) (n := 36) (n' := 37) (m := 31) (pc := 7) dX4_init_7 al_int rfl (by decide) rfl (by decide +kernel) (hz8 (by decide)) (by decide) rfl rfl rfl ?_
  refine q_putF (m := 31) (m' := 32) (n := 37) (pc := 9) dX4_init_9 fl_X4_9 rfl (qo (by decide) rfl (by decide)) rfl rfl rfl ?_
  exact a_return (pc := 12) dX4_init_12 trivial ⟨rfl, rfl, rfl⟩
set_option maxRecDepth 20000 in
theorem q_X8_init_37 {E : zE} {d : Nat} : zAt E (d + 1) 5 60 m_X8_init 0 [vo 37] [] (gQ 38 33) qh8 (qP (gQ 43 38) qh8) := by
  refine a_aload_n (pc := 0) dX8_init_0 rfl ?_
  refine a_objInit (pc := 1) dX8_init_1 ml_X8_3 (by omega) (Nat.le_of_ble_eq_true rfl) ?_
  refine a_aload_n (pc := 4) dX8_init_4 rfl ?_
  refine a_bipush (pc := 5) dX8_init_5 (by decide) ?_
  refine q_newI (kc := 4) (ks := 48) (n := 38) (n' := 39) (m := 33) (pc := 7) dX8_init_7 al_int rfl (by decide) rfl (by decide +kernel) (hz8 (by decide)) (by decide) rfl rfl rfl ?_
  refine q_putF (m := 33) (m' := 34) (n := 39) (pc := 9) dX8_init_9 fl_X8_9 rfl (qo (by decide) rfl (by decide)) rfl rfl rfl ?_
  refine a_aload_n (pc := 12) dX8_init_12 rfl ?_
  refine a_bipush (pc := 13) dX8_init_13 (by decide) ?_
  refine q_newI (kc := 3) (ks := 36) (n := 39) (n' := 40) (m := 34) (pc := 15) dX8_init_15 al_int rfl (by decide) rfl (by decide +kernel) (hz8 (by decide)) (by decide) rfl rfl rfl ?_
  refine q_putF (m := 34) (m' := 35) (n := 40) (pc := 17) dX8_init_17 fl_X8_15 rfl (qo (by decide) rfl (by decide)) rfl rfl rfl ?_
  refine a_aload_n (pc := 20) dX8_init_20 rfl ?_
  refine a_bipush (pc := 21) dX8_init_21 (by decide) ?_
  refine q_newI (kc := 2) (ks := 24) (n := 40) (n' := 41) (m := 35) (pc := 23) dX8_init_23 al_int rfl (by decide) rfl (by decide +kernel) (hz8 (by decide)) (by decide) rfl rfl rfl ?_
  refine q_putF (m := 35) (m' := 36) (n := 41) (pc := 25) dX8_init_25 fl_X8_18 rfl (qo (by decide) rfl (by decide)) rfl rfl rfl ?_
  refine a_aload_n (pc := 28) dX8_init_28 rfl ?_
  refine a_bipush (pc := 29) dX8_init_29 (by decide) ?_
  refine q_newI (kc := 1) (ks := 12) (n := 41) (n' := 42) (m := 36) (pc := 31) dX8_init_31 al_int rfl (by decide) rfl (by decide +kernel) (hz8 (by decide)) (by decide) rfl rfl rfl ?_
  refine q_putF (m := 36) (m' := 37) (n := 42) (pc := 33) dX8_init_33 fl_X8_21 rfl (qo (by decide) rfl (by decide)) rfl rfl rfl ?_
  refine a_aload_n (pc := 36) dX8_init_36 rfl ?_
  refine a_bipush (pc := 37) dX8_init_37 (by decide) ?_
  refine q_newI (kc := 0) (ks := 0) (n := 42) (n' := 43) (m := 37) (pc := 39) dX8_init_39 al_int rfl (by decide) rfl (by decide +kernel) (hz8 (by decide)) (by decide) rfl rfl rfl ?_
  refine q_putF (m := 37) (m' := 38) (n := 43) (pc := 41) dX8_init_41 fl_X8_24 rfl (qo (by decide) rfl (by decide)) rfl rfl rfl ?_
  exact a_return (pc := 44) dX8_init_44 trivial ⟨rfl, rfl, rfl⟩
set_option maxRecDepth 20000 in
theorem q_X1_init_34 {E : zE} {d : Nat} : zAt E (d + 2) 11 249 m_X1_init 0 [vo 34] [] (gQ 35 31) qh8 (qP (gQ 46 42) qh8) := by
  refine a_aload_n (pc := 0) dX1_init_0 rfl ?_
  refine a_objInit (pc := 1) dX1_init_1 ml_X1_3 (by omega) (Nat.le_of_ble_eq_true rfl) ?_
  refine a_aload_n (pc := 4) dX1_init_4 rfl ?_
  refine q_new (kc := 10) (ks := 246) (n := 35) (n' := 36) (m := 31) (c := 4) (pc := 5) dX1_init_5 nl_X1_9 rfl (by decide +kernel) (hz8 (by decide)) (by decide) rfl rfl (by decide) ?_
  refine a_dup (pc := 8) dX1_init_8 rfl ?_
  refine q_callIN (kc := 9) (ks := 234) (kc' := 1) (ks' := 12) (k := 35) (st := [vo 35, vo 34]) (pc := 9) dX1_init_9 ml_X1_11 rfl (Nat.le_of_ble_eq_true rfl) (Nat.le_of_ble_eq_true rfl) rfl rfl q_X4_init_35 ?_
  refine q_putF (m := 32) (m' := 33) (n := 37) (pc := 12) dX1_init_12 fl_X1_12 rfl (qo (by decide) rfl (by decide)) rfl rfl rfl ?_
  refine a_aload_n (pc := 15) dX1_init_15 rfl ?_
  refine q_new (kc := 8) (ks := 228) (n := 37) (n' := 38) (m := 33) (c := 8) (pc := 16) dX1_init_16 nl_X1_18 rfl (by decide +kernel) (hz8 (by decide)) (by decide) rfl rfl (by decide) ?_
  refine a_dup (pc := 19) dX1_init_19 rfl ?_
  refine q_callIN (kc := 3) (ks := 168) (kc' := 5) (ks' := 60) (k := 37) (st := [vo 37, vo 34]) (pc := 20) dX1_init_20 ml_X1_20 rfl (Nat.le_of_ble_eq_true rfl) (Nat.le_of_ble_eq_true rfl) rfl rfl q_X8_init_37 ?_
  refine q_putF (m := 38) (m' := 39) (n := 43) (pc := 23) dX1_init_23 fl_X1_21 rfl (qo (by decide) rfl (by decide)) rfl rfl rfl ?_
  refine a_aload_n (pc := 26) dX1_init_26 rfl ?_
  refine a_sipush (pc := 27) dX1_init_27 (by decide) ?_
  refine q_newI (kc := 2) (ks := 24) (n := 43) (n' := 44) (m := 39) (pc := 30) dX1_init_30 al_int rfl (by decide) rfl (by decide +kernel) (hz8 (by decide)) (by decide) rfl rfl rfl ?_
  refine q_putF (m := 39) (m' := 40) (n := 44) (pc := 32) dX1_init_32 fl_X1_25 rfl (qo (by decide) rfl (by decide)) rfl rfl rfl ?_
  refine a_aload_n (pc := 35) dX1_init_35 rfl ?_
  refine a_bipush (pc := 36) dX1_init_36 (by decide) ?_
  refine q_newI (kc := 1) (ks := 12) (n := 44) (n' := 45) (m := 40) (pc := 38) dX1_init_38 al_int rfl (by decide) rfl (by decide +kernel) (hz8 (by decide)) (by decide) rfl rfl rfl ?_
  refine q_putF (m := 40) (m' := 41) (n := 45) (pc := 40) dX1_init_40 fl_X1_29 rfl (qo (by decide) rfl (by decide)) rfl rfl rfl ?_
  refine a_aload_n (pc := 43) dX1_init_43 rfl ?_
  refine a_bipush (pc := 44) dX1_init_44 (by decide) ?_
  refine q_newI (kc := 0) (ks := 0) (n := 45) (n' := 46) (m := 41) (pc := 46) dX1_init_46 al_int rfl (by decide) rfl (by decide +kernel) (hz8 (by decide)) (by decide) rfl rfl rfl ?_
  refine q_putF (m := 41) (m' := 42) (n := 46) (pc := 48) dX1_init_48 fl_X1_32 rfl (qo (by decide) rfl (by decide)) rfl rfl rfl ?_
  exact a_return (pc := 51) dX1_init_51 trivial ⟨rfl, rfl, rfl⟩
set_option maxRecDepth 20000 in
theorem q_X4_init_48 {E : zE} {d : Nat} : zAt E (d + 1) 1 12 m_X4_init 0 [vo 48] [] (gQ 49 44) qh8 (qP (gQ 50 45) qh8) := by
  refine a_aload_n (pc := 0) dX4_init_0 rfl ?_
  refine a_objInit (pc := 1) dX4_init_1 ml_X4_3 (by omega) (Nat.le_of_ble_eq_true rfl) ?_
  refine a_aload_n (pc := 4) dX4_init_4 rfl ?_
  refine a_bipush (pc := 5) dX4_init_5 (by decide) ?_
  refine q_newI (kc := 0) (ks := 0) (n := 49) (n' := 50) (m := 44) (pc := 7) dX4_init_7 al_int rfl (by decide) rfl (by decide +kernel) (hz8 (by decide)) (by decide) rfl rfl rfl ?_
  refine q_putF (m := 44) (m' := 45) (n := 50) (pc := 9) dX4_init_9 fl_X4_9 rfl (qo (by decide) rfl (by decide)) rfl rfl rfl ?_
  exact a_return (pc := 12) dX4_init_12 trivial ⟨rfl, rfl, rfl⟩
set_option maxRecDepth 20000 in
theorem q_X8_init_50 {E : zE} {d : Nat} : zAt E (d + 1) 5 60 m_X8_init 0 [vo 50] [] (gQ 51 46) qh8 (qP (gQ 56 51) qh8) := by
  refine a_aload_n (pc := 0) dX8_init_0 rfl ?_
  refine a_objInit (pc := 1) dX8_init_1 ml_X8_3 (by omega) (Nat.le_of_ble_eq_true rfl) ?_
  refine a_aload_n (pc := 4) dX8_init_4 rfl ?_
  refine a_bipush (pc := 5) dX8_init_5 (by decide) ?_
  refine q_newI (kc := 4) (ks := 48) (n := 51) (n' := 52) (m := 46) (pc := 7) dX8_init_7 al_int rfl (by decide) rfl (by decide +kernel) (hz8 (by decide)) (by decide) rfl rfl rfl ?_
  refine q_putF (m := 46) (m' := 47) (n := 52) (pc := 9) dX8_init_9 fl_X8_9 rfl (qo (by decide) rfl (by decide)) rfl rfl rfl ?_
  refine a_aload_n (pc := 12) dX8_init_12 rfl ?_
  refine a_bipush (pc := 13) dX8_init_13 (by decide) ?_
  refine q_newI (kc := 3) (ks := 36) (n := 52) (n' := 53) (m := 47) (pc := 15) dX8_init_15 al_int rfl (by decide) rfl (by decide +kernel) (hz8 (by decide)) (by decide) rfl rfl rfl ?_
  refine q_putF (m := 47) (m' := 48) (n := 53) (pc := 17) dX8_init_17 fl_X8_15 rfl (qo (by decide) rfl (by decide)) rfl rfl rfl ?_
  refine a_aload_n (pc := 20) dX8_init_20 rfl ?_
  refine a_bipush (pc := 21) dX8_init_21 (by decide) ?_
  refine q_newI (kc := 2) (ks := 24) (n := 53) (n' := 54) (m := 48) (pc := 23) dX8_init_23 al_int rfl (by decide) rfl (by decide +kernel) (hz8 (by decide)) (by decide) rfl rfl rfl ?_
  refine q_putF (m := 48) (m' := 49) (n := 54) (pc := 25) dX8_init_25 fl_X8_18 rfl (qo (by decide) rfl (by decide)) rfl rfl rfl ?_
  refine a_aload_n (pc := 28) dX8_init_28 rfl ?_
  refine a_bipush (pc := 29) dX8_init_29 (by decide) ?_
  refine q_newI (kc := 1) (ks := 12) (n := 54) (n' := 55) (m := 49) (pc := 31) dX8_init_31 al_int rfl (by decide) rfl (by decide +kernel) (hz8 (by decide)) (by decide) rfl rfl rfl ?_
  refine q_putF (m := 49) (m' := 50) (n := 55) (pc := 33) dX8_init_33 fl_X8_21 rfl (qo (by decide) rfl (by decide)) rfl rfl rfl ?_
  refine a_aload_n (pc := 36) dX8_init_36 rfl ?_
  refine a_bipush (pc := 37) dX8_init_37 (by decide) ?_
  refine q_newI (kc := 0) (ks := 0) (n := 55) (n' := 56) (m := 50) (pc := 39) dX8_init_39 al_int rfl (by decide) rfl (by decide +kernel) (hz8 (by decide)) (by decide) rfl rfl rfl ?_
  refine q_putF (m := 50) (m' := 51) (n := 56) (pc := 41) dX8_init_41 fl_X8_24 rfl (qo (by decide) rfl (by decide)) rfl rfl rfl ?_
  exact a_return (pc := 44) dX8_init_44 trivial ⟨rfl, rfl, rfl⟩
set_option maxRecDepth 20000 in
theorem q_X1_init_47 {E : zE} {d : Nat} : zAt E (d + 2) 11 249 m_X1_init 0 [vo 47] [] (gQ 48 44) qh8 (qP (gQ 59 55) qh8) := by
  refine a_aload_n (pc := 0) dX1_init_0 rfl ?_
  refine a_objInit (pc := 1) dX1_init_1 ml_X1_3 (by omega) (Nat.le_of_ble_eq_true rfl) ?_
  refine a_aload_n (pc := 4) dX1_init_4 rfl ?_
  refine q_new (kc := 10) (ks := 246) (n := 48) (n' := 49) (m := 44) (c := 4) (pc := 5) dX1_init_5 nl_X1_9 rfl (by decide +kernel) (hz8 (by decide)) (by decide) rfl rfl (by decide) ?_
  refine a_dup (pc := 8) dX1_init_8 rfl ?_
  refine q_callIN (kc := 9) (ks := 234) (kc' := 1) (ks' := 12) (k := 48) (st := [vo 48, vo 47]) (pc := 9) dX1_init_9 ml_X1_11 rfl (Nat.le_of_ble_eq_true rfl) (Nat.le_of_ble_eq_true rfl) rfl rfl q_X4_init_48 ?_
  refine q_putF (m := 45) (m' := 46) (n := 50) (pc := 12) dX1_init_12 fl_X1_12 rfl (qo (by decide) rfl (by decide)) rfl rfl rfl ?_
  refine a_aload_n (pc := 15) dX1_init_15 rfl ?_
  refine q_new (kc := 8) (ks := 228) (n := 50) (n' := 51) (m := 46) (c := 8) (pc := 16) dX1_init_16 nl_X1_18 rfl (by decide +kernel) (hz8 (by decide)) (by decide) rfl rfl (by decide) ?_
  refine a_dup (pc := 19) dX1_init_19 rfl ?_
  refine q_callIN (kc := 3) (ks := 168) (kc' := 5) (ks' := 60) (k := 50) (st := [vo 50, vo 47]) (pc := 20) dX1_init_20 ml_X1_20 rfl (Nat.le_of_ble_eq_true rfl) (Nat.le_of_ble_eq_true rfl) rfl rfl q_X8_init_50 ?_
  refine q_putF (m := 51) (m' := 52) (n := 56) (pc := 23) dX1_init_23 fl_X1_21 rfl (qo (by decide) rfl (by decide)) rfl rfl rfl ?_
  refine a_aload_n (pc := 26) dX1_init_26 rfl ?_
  refine a_sipush (pc := 27) dX1_init_27 (by decide) ?_
  refine q_newI (kc := 2) (ks := 24) (n := 56) (n' := 57) (m := 52) (pc := 30) dX1_init_30 al_int rfl (by decide) rfl (by decide +kernel) (hz8 (by decide)) (by decide) rfl rfl rfl ?_
  refine q_putF (m := 52) (m' := 53) (n := 57) (pc := 32) dX1_init_32 fl_X1_25 rfl (qo (by decide) rfl (by decide)) rfl rfl rfl ?_
  refine a_aload_n (pc := 35) dX1_init_35 rfl ?_
  refine a_bipush (pc := 36) dX1_init_36 (by decide) ?_
  refine q_newI (kc := 1) (ks := 12) (n := 57) (n' := 58) (m := 53) (pc := 38) dX1_init_38 al_int rfl (by decide) rfl (by decide +kernel) (hz8 (by decide)) (by decide) rfl rfl rfl ?_
  refine q_putF (m := 53) (m' := 54) (n := 58) (pc := 40) dX1_init_40 fl_X1_29 rfl (qo (by decide) rfl (by decide)) rfl rfl rfl ?_
  refine a_aload_n (pc := 43) dX1_init_43 rfl ?_
  refine a_bipush (pc := 44) dX1_init_44 (by decide) ?_
  refine q_newI (kc := 0) (ks := 0) (n := 58) (n' := 59) (m := 54) (pc := 46) dX1_init_46 al_int rfl (by decide) rfl (by decide +kernel) (hz8 (by decide)) (by decide) rfl rfl rfl ?_
  refine q_putF (m := 54) (m' := 55) (n := 59) (pc := 48) dX1_init_48 fl_X1_32 rfl (qo (by decide) rfl (by decide)) rfl rfl rfl ?_
  exact a_return (pc := 51) dX1_init_51 trivial ⟨rfl, rfl, rfl⟩
set_option maxRecDepth 20000 in
theorem q_X4_init_60 {E : zE} {d : Nat} : zAt E (d + 1) 1 12 m_X4_init 0 [vo 60] [] (gQ 61 55) qh9 (qP (gQ 62 56) qh9) := by
  refine a_aload_n (pc := 0) dX4_init_0 rfl ?_
  refine a_objInit (pc := 1) dX4_init_1 ml_X4_3 (by omega) (Nat.le_of_ble_eq_true rfl) ?_
  refine a_aload_n (pc := 4) dX4_init_4 rfl ?_
  refine a_bipush (pc := 5) dX4_init_5 (by decide) ?_
  refine q_newI (kc := 0) (ks := 0) (n := 61) (n' := 62) (m := 55) (pc := 7) dX4_init_7 al_int rfl (by decide) rfl (by decide +kernel) (hz9 (by decide)) (by decide) rfl rfl rfl ?_
  refine q_putF (m := 55) (m' := 56) (n := 62) (pc := 9) dX4_init_9 fl_X4_9 rfl (qo (by decide) rfl (by decide)) rfl rfl rfl ?_
  exact a_return (pc := 12) dX4_init_12 trivial ⟨rfl, rfl, rfl⟩
set_option maxRecDepth 20000 in
theorem q_X8_init_62 {E : zE} {d : Nat} : zAt E (d + 1) 5 60 m_X8_init 0 [vo 62] [] (gQ 63 57) qh9 (qP (gQ 68 62) qh9) := by
  refine a_aload_n (pc := 0) dX8_init_0 rfl ?_
  refine a_objInit (pc := 1) dX8_init_1 ml_X8_3 (by omega) (Nat.le_of_ble_eq_true rfl) ?_
  refine a_aload_n (pc := 4) dX8_init_4 rfl ?_
  refine a_bipush (pc := 5) dX8_init_5 (by decide) ?_
  refine q_newI (kc := 4) (ks := 48) (n := 63) (n' := 64) (m := 57) (pc := 7) dX8_init_7 al_int rfl (by decide) rfl (by decide +kernel) (hz9 (by decide)) (by decide) rfl rfl rfl ?_
  refine q_putF (m := 57) (m' := 58) (n := 64) (pc := 9) dX8_init_9 fl_X8_9 rfl (qo (by decide) rfl (by decide)) rfl rfl rfl ?_
  refine a_aload_n (pc := 12) dX8_init_12 rfl ?_
  refine a_bipush (pc := 13) dX8_init_13 (by decide) ?_
  refine q_newI (kc := 3) (ks := 36) (n := 64) (n' := 65) (m := 58) (pc := 15) dX8_init_15 al_int rfl (by decide) rfl (by decide +kernel) (hz9 (by decide)) (by decide) rfl rfl rfl ?_
  refine q_putF (m := 58) (m' := 59) (n := 65) (pc := 17) dX8_init_17 fl_X8_15 rfl (qo (by decide) rfl (by decide)) rfl rfl rfl ?_
  refine a_aload_n (pc := 20) dX8_init_20 rfl ?_
  refine a_bipush (pc := 21) dX8_init_21 (by decide) ?_
  refine q_newI (kc := 2) (ks := 24) (n := 65) (n' := 66) (m := 59) (pc := 23) dX8_init_23 al_int rfl (by decide) rfl (by decide +kernel) (hz9 (by decide)) (by decide) rfl rfl rfl ?_
  refine q_putF (m := 59) (m' := 60) (n := 66) (pc := 25) dX8_init_25 fl_X8_18 rfl (qo (by decide) rfl (by decide)) rfl rfl rfl ?_
  refine a_aload_n (pc := 28) dX8_init_28 rfl ?_
  refine a_bipush (pc := 29) dX8_init_29 (by decide) ?_
  refine q_newI (kc := 1) (ks := 12) (n := 66) (n' := 67) (m := 60) (pc := 31) dX8_init_31 al_int rfl (by decide) rfl (by decide +kernel) (hz9 (by decide)) (by decide) rfl rfl rfl ?_
  refine q_putF (m := 60) (m' := 61) (n := 67) (pc := 33) dX8_init_33 fl_X8_21 rfl (qo (by decide) rfl (by decide)) rfl rfl rfl ?_
  refine a_aload_n (pc := 36) dX8_init_36 rfl ?_
  refine a_bipush (pc := 37) dX8_init_37 (by decide) ?_
  refine q_newI (kc := 0) (ks := 0) (n := 67) (n' := 68) (m := 61) (pc := 39) dX8_init_39 al_int rfl (by decide) rfl (by decide +kernel) (hz9 (by decide)) (by decide) rfl rfl rfl ?_
  refine q_putF (m := 61) (m' := 62) (n := 68) (pc := 41) dX8_init_41 fl_X8_24 rfl (qo (by decide) rfl (by decide)) rfl rfl rfl ?_
  exact a_return (pc := 44) dX8_init_44 trivial ⟨rfl, rfl, rfl⟩
set_option maxRecDepth 20000 in
theorem q_X1_init_59 {E : zE} {d : Nat} : zAt E (d + 2) 11 249 m_X1_init 0 [vo 59] [] (gQ 60 55) qh9 (qP (gQ 71 66) qh9) := by
  refine a_aload_n (pc := 0) dX1_init_0 rfl ?_
  refine a_objInit (pc := 1) dX1_init_1 ml_X1_3 (by omega) (Nat.le_of_ble_eq_true rfl) ?_
  refine a_aload_n (pc := 4) dX1_init_4 rfl ?_
  refine q_new (kc := 10) (ks := 246) (n := 60) (n' := 61) (m := 55) (c := 4) (pc := 5) dX1_init_5 nl_X1_9 rfl (by decide +kernel) (hz9 (by decide)) (by decide) rfl rfl (by decide) ?_
  refine a_dup (pc := 8) dX1_init_8 rfl ?_
  refine q_callIN (kc := 9) (ks := 234) (kc' := 1) (ks' := 12) (k := 60) (st := [vo 60, vo 59]) (pc := 9) dX1_init_9 ml_X1_11 rfl (Nat.le_of_ble_eq_true rfl) (Nat.le_of_ble_eq_true rfl) rfl rfl q_X4_init_60 ?_
  refine q_putF (m := 56) (m' := 57) (n := 62) (pc := 12) dX1_init_12 fl_X1_12 rfl (qo (by decide) rfl (by decide)) rfl rfl rfl ?_
  refine a_aload_n (pc := 15) dX1_init_15 rfl ?_
  refine q_new (kc := 8) (ks := 228) (n := 62) (n' := 63) (m := 57) (c := 8) (pc := 16) dX1_init_16 nl_X1_18 rfl (by decide +kernel) (hz9 (by decide)) (by decide) rfl rfl (by decide) ?_
  refine a_dup (pc := 19) dX1_init_19 rfl ?_
  refine q_callIN (kc := 3) (ks := 168) (kc' := 5) (ks' := 60) (k := 62) (st := [vo 62, vo 59]) (pc := 20) dX1_init_20 ml_X1_20 rfl (Nat.le_of_ble_eq_true rfl) (Nat.le_of_ble_eq_true rfl) rfl rfl q_X8_init_62 ?_
  refine q_putF (m := 62) (m' := 63) (n := 68) (pc := 23) dX1_init_23 fl_X1_21 rfl (qo (by decide) rfl (by decide)) rfl rfl rfl ?_
  refine a_aload_n (pc := 26) dX1_init_26 rfl ?_
  refine a_sipush (pc := 27) dX1_init_27 (by decide) ?_
  refine q_newI (kc := 2) (ks := 24) (n := 68) (n' := 69) (m := 63) (pc := 30) dX1_init_30 al_int rfl (by decide) rfl (by decide +kernel) (hz9 (by decide)) (by decide) rfl rfl rfl ?_
  refine q_putF (m := 63) (m' := 64) (n := 69) (pc := 32) dX1_init_32 fl_X1_25 rfl (qo (by decide) rfl (by decide)) rfl rfl rfl ?_
  refine a_aload_n (pc := 35) dX1_init_35 rfl ?_
  refine a_bipush (pc := 36) dX1_init_36 (by decide) ?_
  refine q_newI (kc := 1) (ks := 12) (n := 69) (n' := 70) (m := 64) (pc := 38) dX1_init_38 al_int rfl (by decide) rfl (by decide +kernel) (hz9 (by decide)) (by decide) rfl rfl rfl ?_
  refine q_putF (m := 64) (m' := 65) (n := 70) (pc := 40) dX1_init_40 fl_X1_29 rfl (qo (by decide) rfl (by decide)) rfl rfl rfl ?_
  refine a_aload_n (pc := 43) dX1_init_43 rfl ?_
  refine a_bipush (pc := 44) dX1_init_44 (by decide) ?_
  refine q_newI (kc := 0) (ks := 0) (n := 70) (n' := 71) (m := 65) (pc := 46) dX1_init_46 al_int rfl (by decide) rfl (by decide +kernel) (hz9 (by decide)) (by decide) rfl rfl rfl ?_
  refine q_putF (m := 65) (m' := 66) (n := 71) (pc := 48) dX1_init_48 fl_X1_32 rfl (qo (by decide) rfl (by decide)) rfl rfl rfl ?_
  exact a_return (pc := 51) dX1_init_51 trivial ⟨rfl, rfl, rfl⟩
set_option maxRecDepth 20000 in
theorem q_X4_init_72 {E : zE} {d : Nat} : zAt E (d + 1) 1 12 m_X4_init 0 [vo 72] [] (gQ 73 66) qh10 (qP (gQ 74 67) qh10) := by
  refine a_aload_n (pc := 0) dX4_init_0 rfl ?_
  refine a_objInit (pc := 1) dX4_init_1 ml_X4_3 (by omega) (Nat.le_of_ble_eq_true rfl) ?_
  refine a_aload_n (pc := 4) dX4_init_4 rfl ?_
  refine a_bipush (pc := 5) dX4_init_5 (by decide) ?_
  refine q_newI (kc := 0) (ks := 0) (n := 73) (n' := 74) (m := 66) (pc := 7) dX4_init_7 al_int rfl (by decide) rfl (by decide +kernel) (hz10 (by decide)) (by decide) rfl rfl rfl ?_
  refine q_putF (m := 66) (m' := 67) (n := 74) (pc := 9) dX4_init_9 fl_X4_9 rfl (qo (by decide) rfl (by decide)) rfl rfl rfl ?_
  exact a_return (pc := 12) dX4_init_12 trivial ⟨rfl, rfl, rfl⟩
set_option maxRecDepth 20000 in
theorem q_X8_init_74 {E : zE} {d : Nat} : zAt E (d + 1) 5 60 m_X8_init 0 [vo 74] [] (gQ 75 68) qh10 (qP (gQ 80 73) qh10) := by
  refine a_aload_n (pc := 0) dX8_init_0 rfl ?_
  refine a_objInit (pc := 1) dX8_init_1 ml_X8_3 (by omega) (Nat.le_of_ble_eq_true rfl) ?_
  refine a_aload_n (pc := 4) dX8_init_4 rfl ?_
  refine a_bipush (pc := 5) dX8_init_5 (by decide) ?_
  refine q_newI (kc := 4) (ks := 48) (n := 75) (n' := 76) (m := 68) (pc := 7) dX8_init_7 al_int rfl (by decide) rfl (by decide +kernel) (hz10 (by decide)) (by decide) rfl rfl rfl ?_
  refine q_putF (m := 68) (m' := 69) (n := 76) (pc := 9) dX8_init_9 fl_X8_9 rfl (qo (by decide) rfl (by decide)) rfl rfl rfl ?_
  refine a_aload_n (pc := 12) dX8_init_12 rfl ?_
  refine a_bipush (pc := 13) dX8_init_13 (by decide) ?_
  refine q_newI (kc := 3) (ks := 36) (n := 76) (n' := 77) (m := 69) (pc := 15) dX8_init_15 al_int rfl (by decide) rfl (by decide +kernel) (hz10 (by decide)) (by decide) rfl rfl rfl ?_
  refine q_putF (m := 69) (m' := 70) (n := 77) (pc := 17) dX8_init_17 fl_X8_15 rfl (qo (by decide) rfl (by decide)) rfl rfl rfl ?_
  refine a_aload_n (pc := 20) dX8_init_20 rfl ?_
  refine a_bipush (pc := 21) dX8_init_21 (by decide) ?_
  refine q_newI (kc := 2) (ks := 24) (n := 77) (n' := 78) (m := 70) (pc := 23) dX8_init_23 al_int rfl (by decide) rfl (by decide +kernel) (hz10 (by decide)) (by decide) rfl rfl rfl ?_
  refine q_putF (m := 70) (m' := 71) (n := 78) (pc := 25) dX8_init_25 fl_X8_18 rfl (qo (by decide) rfl (by decide)) rfl rfl rfl ?_
  refine a_aload_n (pc := 28) dX8_init_28 rfl ?_
  refine a_bipush (pc := 29) dX8_init_29 (by decide) ?_
  refine q_newI (kc := 1) (ks := 12) (n := 78) (n' := 79) (m := 71) (pc := 31) dX8_init_31 al_int rfl (by decide) rfl (by decide +kernel) (hz10 (by decide)) (by decide) rfl rfl rfl ?_
  refine q_putF (m := 71) (m' := 72) (n := 79) (pc := 33) dX8_init_33 fl_X8_21 rfl (qo (by decide) rfl (by decide)) rfl rfl rfl ?_
  refine a_aload_n (pc := 36) dX8_init_36 rfl ?_
  refine a_bipush (pc := 37) dX8_init_37 (by decide) ?_
  refine q_newI (kc := 0) (ks := 0) (n := 79) (n' := 80) (m := 72) (pc := 39) dX8_init_39 al_int rfl (by decide) rfl (by decide +kernel) (hz10 (by decide)) (by decide) rfl rfl rfl ?_
  refine q_putF (m := 72) (m' := 73) (n := 80) (pc := 41) dX8_init_41 fl_X8_24 rfl (qo (by decide) rfl (by decide)) rfl rfl rfl ?_
  exact a_return (pc := 44) dX8_init_44 trivial ⟨rfl, rfl, rfl⟩
set_option maxRecDepth 20000 in
theorem q_X1_init_71 {E : zE} {d : Nat} : zAt E (d + 2) 11 249 m_X1_init 0 [vo 71] [] (gQ 72 66) qh10 (qP (gQ 83 77) qh10) := by
  refine a_aload_n (pc := 0) dX1_init_0 rfl ?_
  refine a_objInit (pc := 1) dX1_init_1 ml_X1_3 (by omega) (Nat.le_of_ble_eq_true rfl) ?_
  refine a_aload_n (pc := 4) dX1_init_4 rfl ?_
  refine q_new (kc := 10) (ks := 246) (n := 72) (n' := 73) (m := 66) (c := 4) (pc := 5) dX1_init_5 nl_X1_9 rfl (by decide +kernel) (hz10 (by decide)) (by decide) rfl rfl (by decide) ?_
  refine a_dup (pc := 8) dX1_init_8 rfl ?_
  refine q_callIN (kc := 9) (ks := 234) (kc' := 1) (ks' := 12) (k := 72) (st := [vo 72, vo 71]) (pc := 9) dX1_init_9 ml_X1_11 rfl (Nat.le_of_ble_eq_true rfl) (Nat.le_of_ble_eq_true rfl) rfl rfl q_X4_init_72 ?_
  refine q_putF (m := 67) (m' := 68) (n := 74) (pc := 12) dX1_init_12 fl_X1_12 rfl (qo (by decide) rfl (by decide)) rfl rfl rfl ?_
  refine a_aload_n (pc := 15) dX1_init_15 rfl ?_
  refine q_new (kc := 8) (ks := 228) (n := 74) (n' := 75) (m := 68) (c := 8) (pc := 16) dX1_init_16 nl_X1_18 rfl (by decide +kernel) (hz10 (by decide)) (by decide) rfl rfl (by decide) ?_
  refine a_dup (pc := 19) dX1_init_19 rfl ?_
  refine q_callIN (kc := 3) (ks := 168) (kc' := 5) (ks' := 60) (k := 74) (st := [vo 74, vo 71]) (pc := 20) dX1_init_20 ml_X1_20 rfl (Nat.le_of_ble_eq_true rfl) (Nat.le_of_ble_eq_true rfl) rfl rfl q_X8_init_74 ?_
  refine q_putF (m := 73) (m' := 74) (n := 80) (pc := 23) dX1_init_23 fl_X1_21 rfl (qo (by decide) rfl (by decide)) rfl rfl rfl ?_
  refine a_aload_n (pc := 26) dX1_init_26 rfl ?_
  refine a_sipush (pc := 27) dX1_init_27 (by decide) ?_
  refine q_newI (kc := 2) (ks := 24) (n := 80) (n' := 81) (m := 74) (pc := 30) dX1_init_30 al_int rfl (by decide) rfl (by decide +kernel) (hz10 (by decide)) (by decide) rfl rfl rfl ?_
  refine q_putF (m := 74) (m' := 75) (n := 81) (pc := 32) dX1_init_32 fl_X1_25 rfl (qo (by decide) rfl (by decide)) rfl rfl rfl ?_
  refine a_aload_n (pc := 35) dX1_init_35 rfl ?_
  refine a_bipush (pc := 36) dX1_init_36 (by decide) ?_
  refine q_newI (kc := 1) (ks := 12) (n := 81) (n' := 82) (m := 75) (pc := 38) dX1_init_38 al_int rfl (by decide) rfl (by decide +kernel) (hz10 (by decide)) (by decide) rfl rfl rfl ?_
  refine q_putF (m := 75) (m' := 76) (n := 82) (pc := 40) dX1_init_40 fl_X1_29 rfl (qo (by decide) rfl (by decide)) rfl rfl rfl ?_
  refine a_aload_n (pc := 43) dX1_init_43 rfl ?_
  refine a_bipush (pc := 44) dX1_init_44 (by decide) ?_
  refine q_newI (kc := 0) (ks := 0) (n := 82) (n' := 83) (m := 76) (pc := 46) dX1_init_46 al_int rfl (by decide) rfl (by decide +kernel) (hz10 (by decide)) (by decide) rfl rfl rfl ?_
  refine q_putF (m := 76) (m' := 77) (n := 83) (pc := 48) dX1_init_48 fl_X1_32 rfl (qo (by decide) rfl (by decide)) rfl rfl rfl ?_
  exact a_return (pc := 51) dX1_init_51 trivial ⟨rfl, rfl, rfl⟩
set_option maxRecDepth 20000 in
theorem q_X2_init_83 {E : zE} {d : Nat} : zAt E (d + 1) 5 200 m_X2_init 0 [vo 83] [] (gQ 84 77) qh11 (qP (gQ 89 82) qh11) := by
  refine a_aload_n (pc := 0) dX2_init_0 rfl ?_
  refine a_objInit (pc := 1) dX2_init_1 ml_X2_3 (by omega) (Nat.le_of_ble_eq_true rfl) ?_
  refine a_aload_n (pc := 4) dX2_init_4 rfl ?_
  refine a_bipush (pc := 5) dX2_init_5 (by decide) ?_
  refine q_newI (kc := 4) (ks := 160) (n := 84) (n' := 85) (m := 77) (pc := 7) dX2_init_7 al_int rfl (by decide) rfl (by decide +kernel) (hz11 (by decide)) (by decide) rfl rfl rfl ?_
  refine q_putF (m := 77) (m' := 78) (n := 85) (pc := 9) dX2_init_9 fl_X2_9 rfl (qo (by decide) rfl (by decide)) rfl rfl rfl ?_
  refine a_aload_n (pc := 12) dX2_init_12 rfl ?_
  refine a_bipush (pc := 13) dX2_init_13 (by decide) ?_
  refine q_newI (kc := 3) (ks := 120) (n := 85) (n' := 86) (m := 78) (pc := 15) dX2_init_15 al_int rfl (by decide) rfl (by decide +kernel) (hz11 (by decide)) (by decide) rfl rfl rfl ?_
  refine q_putF (m := 78) (m' := 79) (n := 86) (pc := 17) dX2_init_17 fl_X2_15 rfl (qo (by decide) rfl (by decide)) rfl rfl rfl ?_
  refine a_aload_n (pc := 20) dX2_init_20 rfl ?_
  refine a_bipush (pc := 21) dX2_init_21 (by decide) ?_
  refine q_newI (kc := 2) (ks := 80) (n := 86) (n' := 87) (m := 79) (pc := 23) dX2_init_23 al_int rfl (by decide) rfl (by decide +kernel) (hz11 (by decide)) (by decide) rfl rfl rfl ?_
  refine q_putF (m := 79) (m' := 80) (n := 87) (pc := 25) dX2_init_25 fl_X2_18 rfl (qo (by decide) rfl (by decide)) rfl rfl rfl ?_
  refine a_aload_n (pc := 28) dX2_init_28 rfl ?_
  refine a_bipush (pc := 29) dX2_init_29 (by decide) ?_
  refine q_newI (kc := 1) (ks := 40) (n := 87) (n' := 88) (m := 80) (pc := 31) dX2_init_31 al_int rfl (by decide) rfl (by decide +kernel) (hz11 (by decide)) (by decide) rfl rfl rfl ?_
  refine q_putF (m := 80) (m' := 81) (n := 88) (pc := 33) dX2_init_33 fl_X2_21 rfl (qo (by decide) rfl (by decide)) rfl rfl rfl ?_
  refine a_aload_n (pc := 36) dX2_init_36 rfl ?_
  refine a_bipush (pc := 37) dX2_init_37 (by decide) ?_
  refine q_newI (kc := 0) (ks := 0) (n := 88) (n' := 89) (m := 81) (pc := 39) dX2_init_39 al_int rfl (by decide) rfl (by decide +kernel) (hz11 (by decide)) (by decide) rfl rfl rfl ?_
  refine q_putF (m := 81) (m' := 82) (n := 89) (pc := 41) dX2_init_41 fl_X2_24 rfl (qo (by decide) rfl (by decide)) rfl rfl rfl ?_
  exact a_return (pc := 44) dX2_init_44 trivial ⟨rfl, rfl, rfl⟩
set_option maxRecDepth 20000 in
theorem q_X9_init_0 {E : zE} {d : Nat} : zAt E (d + 3) 88 3980 m_X9_init 0 [vo 0, vn] [] (gQ 1 0) qh0 (qP (gQ 89 83) qh11) := by
  refine a_aload_n (pc := 0) dX9_init_0 rfl ?_
  refine a_objInit (pc := 1) dX9_init_1 ml_X9_3 (by omega) (Nat.le_of_ble_eq_true rfl) ?_
  refine a_aload_n (pc := 4) dX9_init_4 rfl ?_
  refine a_sipush (pc := 5) dX9_init_5 (by decide) ?_
  refine q_newB (kc := 87) (ks := 2380) (n := 1) (n' := 2) (m := 0) (pc := 8) dX9_init_8 al_byte rfl (by decide) rfl (by decide +kernel) (hz0 (by decide)) (by decide) rfl rfl rfl ?_
  refine q_putF (m := 0) (m' := 1) (n := 2) (pc := 10) dX9_init_10 fl_X9_9 rfl (qo (by decide) rfl (by decide)) rfl rfl rfl ?_
  refine a_aload_n (pc := 13) dX9_init_13 rfl ?_
  refine q_new (kc := 86) (ks := 2375) (n := 2) (n' := 3) (m := 1) (c := 6) (pc := 14) dX9_init_14 nl_X9_13 rfl (by decide +kernel) (hz0 (by decide)) (by decide) rfl rfl (by decide) ?_
  refine a_dup (pc := 17) dX9_init_17 rfl ?_
  refine q_callIN (kc := 85) (ks := 2368) (kc' := 1) (ks' := 7) (k := 2) (st := [vo 2, vo 0]) (pc := 18) dX9_init_18 ml_X9_15 rfl (Nat.le_of_ble_eq_true rfl) (Nat.le_of_ble_eq_true rfl) rfl rfl q_X6_init_2 ?_
  refine q_putF (m := 2) (m' := 3) (n := 4) (pc := 21) dX9_init_21 fl_X9_16 rfl (qo (by decide) rfl (by decide)) rfl rfl rfl ?_
  refine a_aload_n (pc := 24) dX9_init_24 rfl ?_
  refine q_new (kc := 84) (ks := 2351) (n := 4) (n' := 5) (m := 3) (c := 0) (pc := 25) dX9_init_25 nl_X9_20 rfl (by decide +kernel) (hz2 (by decide)) (by decide) rfl rfl (by decide) ?_
  refine a_dup (pc := 28) dX9_init_28 rfl ?_
  refine q_callIN (kc := 75) (ks := 2111) (kc' := 9) (ks' := 240) (k := 4) (st := [vo 4, vo 0]) (pc := 29) dX9_init_29 ml_X9_22 rfl (Nat.le_of_ble_eq_true rfl) (Nat.le_of_ble_eq_true rfl) rfl rfl q_X0_init_4 ?_
  refine q_putR (h' := qh5) (pc := 32) dX9_init_32 fl_X9_23 (qo (by decide) rfl (by decide)) rfl ?_
  refine a_aload_n (pc := 35) dX9_init_35 rfl ?_
  refine q_new (kc := 74) (ks := 2094) (n := 14) (n' := 15) (m := 12) (c := 0) (pc := 36) dX9_init_36 nl_X9_20 rfl (by decide +kernel) (hz5 (by decide)) (by decide) rfl rfl (by decide) ?_
  refine a_dup (pc := 39) dX9_init_39 rfl ?_
  refine q_callIN (kc := 65) (ks := 1854) (kc' := 9) (ks' := 240) (k := 14) (st := [vo 14, vo 0]) (pc := 40) dX9_init_40 ml_X9_22 rfl (Nat.le_of_ble_eq_true rfl) (Nat.le_of_ble_eq_true rfl) rfl rfl q_X0_init_14 ?_
  refine q_putR (h' := qh8) (pc := 43) dX9_init_43 fl_X9_27 (qo (by decide) rfl (by decide)) rfl ?_
  refine a_aload_n (pc := 46) dX9_init_46 rfl ?_
  refine q_new (kc := 64) (ks := 1850) (n := 24) (n' := 25) (m := 21) (c := 3) (pc := 47) dX9_init_47 nl_X9_30 rfl (by decide +kernel) (hz8 (by decide)) (by decide) rfl rfl (by decide) ?_
  refine a_dup (pc := 50) dX9_init_50 rfl ?_
  refine q_callIN (kc := 59) (ks := 1535) (kc' := 5) (ks' := 315) (k := 24) (st := [vo 24, vo 0]) (pc := 51) dX9_init_51 ml_X9_32 rfl (Nat.le_of_ble_eq_true rfl) (Nat.le_of_ble_eq_true rfl) rfl rfl q_X3_init_24 ?_
  refine q_putF (m := 26) (m' := 27) (n := 30) (pc := 54) dX9_init_54 fl_X9_33 rfl (qo (by decide) rfl (by decide)) rfl rfl rfl ?_
  refine a_aload_n (pc := 57) dX9_init_57 rfl ?_
  refine q_new (kc := 58) (ks := 1530) (n := 30) (n' := 31) (m := 27) (c := 7) (pc := 58) dX9_init_58 nl_X9_37 rfl (by decide +kernel) (hz8 (by decide)) (by decide) rfl rfl (by decide) ?_
  refine a_dup (pc := 61) dX9_init_61 rfl ?_
  refine q_callIN (kc := 55) (ks := 1230) (kc' := 3) (ks' := 300) (k := 30) (st := [vo 30, vo 0]) (pc := 62) dX9_init_62 ml_X9_39 rfl (Nat.le_of_ble_eq_true rfl) (Nat.le_of_ble_eq_true rfl) rfl rfl q_X7_init_30 ?_
  refine q_putF (m := 30) (m' := 31) (n := 34) (pc := 65) dX9_init_65 fl_X9_40 rfl (qo (by decide) rfl (by decide)) rfl rfl rfl ?_
  refine a_aload_n (pc := 68) dX9_init_68 rfl ?_
  refine q_new (kc := 54) (ks := 1224) (n := 34) (n' := 35) (m := 31) (c := 1) (pc := 69) dX9_init_69 nl_X9_44 rfl (by decide +kernel) (hz8 (by decide)) (by decide) rfl rfl (by decide) ?_
  refine a_dup (pc := 72) dX9_init_72 rfl ?_
  refine q_callIN (kc := 43) (ks := 975) (kc' := 11) (ks' := 249) (k := 34) (st := [vo 34, vo 0]) (pc := 73) dX9_init_73 ml_X9_46 rfl (Nat.le_of_ble_eq_true rfl) (Nat.le_of_ble_eq_true rfl) rfl rfl q_X1_init_34 ?_
  refine q_putF (m := 42) (m' := 43) (n := 46) (pc := 76) dX9_init_76 fl_X9_47 rfl (qo (by decide) rfl (by decide)) rfl rfl rfl ?_
  refine a_aload_n (pc := 79) dX9_init_79 rfl ?_
  refine a_iconst (pc := 80) dX9_init_80 (by decide) ?_
  refine q_newQ (kc := 42) (ks := 972) (n := 46) (n' := 47) (m := 43) (pc := 81) dX9_init_81 ql_X9_44 rfl (by decide) rfl (by decide +kernel) (hz8 (by decide)) (by decide) rfl rfl rfl ?_
  refine q_putF (m := 43) (m' := 44) (n := 47) (pc := 84) dX9_init_84 fl_X9_51 rfl (qo (by decide) rfl (by decide)) rfl rfl rfl ?_
  refine a_iconst (pc := 87) dX9_init_87 (by decide) ?_
  refine a_istore_n (pc := 88) (ls' := [vo 0, vi 0]) dX9_init_88 rfl rfl ?_
  refine a_iload_n (pc := 89) dX9_init_89 rfl ?_
  refine a_iconst (pc := 90) dX9_init_90 (by decide) ?_
  refine a_icmp_ge (pc := 91) (tgt := 113) dX9_init_91 (by decide) (fun c => absurd c (by decide)) (fun _ => ?_)
  refine a_aload_n (pc := 94) dX9_init_94 rfl ?_
  refine a_getF (pc := 95) dX9_init_95 fl_X9_51 (qo (by decide) rfl (by decide)) (qf 43 rfl rfl) ?_
  refine a_iload_n (pc := 98) dX9_init_98 rfl ?_
  refine q_new (kc := 41) (ks := 966) (n := 47) (n' := 48) (m := 44) (c := 1) (pc := 99) dX9_init_99 nl_X9_44 rfl (by decide +kernel) (hz8 (by decide)) (by decide) rfl rfl (by decide) ?_
  refine a_dup (pc := 102) dX9_init_102 rfl ?_
  refine q_callIN (kc := 30) (ks := 717) (kc' := 11) (ks' := 249) (k := 47) (st := [vo 47, vi 0, vo 46]) (pc := 103) dX9_init_103 ml_X9_46 rfl (Nat.le_of_ble_eq_true rfl) (Nat.le_of_ble_eq_true rfl) rfl rfl q_X1_init_47 ?_
  refine q_aastore (h' := qh9) (pc := 106) dX9_init_106 ⟨by decide, rfl, rfl⟩ (by decide) (qo (by decide) rfl (by decide)) rfl ?_
  refine a_iinc (pc := 107) (ls' := [vo 0, vi 1]) dX9_init_107 rfl rfl rfl ?_
  refine a_goto (pc := 110) (tgt := 89) dX9_init_110 (by decide) ?_
  refine a_iload_n (pc := 89) dX9_init_89 rfl ?_
  refine a_iconst (pc := 90) dX9_init_90 (by decide) ?_
  refine a_icmp_ge (pc := 91) (tgt := 113) dX9_init_91 (by decide) (fun c => absurd c (by decide)) (fun _ => ?_)
  refine a_aload_n (pc := 94) dX9_init_94 rfl ?_
  refine a_getF (pc := 95) dX9_init_95 fl_X9_51 (qo (by decide) rfl (by decide)) (qf 43 rfl rfl) ?_
  refine a_iload_n (pc := 98) dX9_init_98 rfl ?_
  refine q_new (kc := 29) (ks := 711) (n := 59) (n' := 60) (m := 55) (c := 1) (pc := 99) dX9_init_99 nl_X9_44 rfl (by decide +kernel) (hz9 (by decide)) (by decide) rfl rfl (by decide) ?_
  refine a_dup (pc := 102) dX9_init_102 rfl ?_
  refine q_callIN (kc := 18) (ks := 462) (kc' := 11) (ks' := 249) (k := 59) (st := [vo 59, vi 1, vo 46]) (pc := 103) dX9_init_103 ml_X9_46 rfl (Nat.le_of_ble_eq_true rfl) (Nat.le_of_ble_eq_true rfl) rfl rfl q_X1_init_59 ?_
  refine q_aastore (h' := qh10) (pc := 106) dX9_init_106 ⟨by decide, rfl, rfl⟩ (by decide) (qo (by decide) rfl (by decide)) rfl ?_
  refine a_iinc (pc := 107) (ls' := [vo 0, vi 2]) dX9_init_107 rfl rfl rfl ?_
  refine a_goto (pc := 110) (tgt := 89) dX9_init_110 (by decide) ?_
  refine a_iload_n (pc := 89) dX9_init_89 rfl ?_
  refine a_iconst (pc := 90) dX9_init_90 (by decide) ?_
  refine a_icmp_ge (pc := 91) (tgt := 113) dX9_init_91 (by decide) (fun c => absurd c (by decide)) (fun _ => ?_)
  refine a_aload_n (pc := 94) dX9_init_94 rfl ?_
  refine a_getF (pc := 95) dX9_init_95 fl_X9_51 (qo (by decide) rfl (by decide)) (qf 43 rfl rfl) ?_
  refine a_iload_n (pc := 98) dX9_init_98 rfl ?_
  refine q_new (kc := 17) (ks := 456) (n := 71) (n' := 72) (m := 66) (c := 1) (pc := 99) dX9_init_99 nl_X9_44 rfl (by decide +kernel) (hz10 (by decide)) (by decide) rfl rfl (by decide) ?_
  refine a_dup (pc := 102) dX9_init_102 rfl ?_
  refine q_callIN (kc := 6) (ks := 207) (kc' := 11) (ks' := 249) (k := 71) (st := [vo 71, vi 2, vo 46]) (pc := 103) dX9_init_103 ml_X9_46 rfl (Nat.le_of_ble_eq_true rfl) (Nat.le_of_ble_eq_true rfl) rfl rfl q_X1_init_71 ?_
  refine q_aastore (h' := qh11) (pc := 106) dX9_init_106 ⟨by decide, rfl, rfl⟩ (by decide) (qo (by decide) rfl (by decide)) rfl ?_
  refine a_iinc (pc := 107) (ls' := [vo 0, vi 3]) dX9_init_107 rfl rfl rfl ?_
  refine a_goto (pc := 110) (tgt := 89) dX9_init_110 (by decide) ?_
  refine a_iload_n (pc := 89) dX9_init_89 rfl ?_
  refine a_iconst (pc := 90) dX9_init_90 (by decide) ?_
  refine a_icmp_ge (pc := 91) (tgt := 113) dX9_init_91 (by decide) (fun _ => ?_) (fun c => absurd c (by decide))
  refine a_aload_n (pc := 113) dX9_init_113 rfl ?_
  refine q_new (kc := 5) (ks := 200) (n := 83) (n' := 84) (m := 77) (c := 2) (pc := 114) dX9_init_114 nl_X9_55 rfl (by decide +kernel) (hz11 (by decide)) (by decide) rfl rfl (by decide) ?_
  refine a_dup (pc := 117) dX9_init_117 rfl ?_
  refine q_callIN (kc := 0) (ks := 0) (kc' := 5) (ks' := 200) (k := 83) (st := [vo 83, vo 0]) (pc := 118) dX9_init_118 ml_X9_57 rfl (Nat.le_of_ble_eq_true rfl) (Nat.le_of_ble_eq_true rfl) rfl rfl q_X2_init_83 ?_
  refine q_putF (m := 82) (m' := 83) (n := 89) (pc := 121) dX9_init_121 fl_X9_58 rfl (qo (by decide) rfl (by decide)) rfl rfl rfl ?_
  exact a_return (pc := 124) dX9_init_124 trivial ⟨rfl, rfl, rfl⟩
set_option maxRecDepth 20000 in
theorem q_X10_init_89 {E : zE} {d : Nat} : zAt E (d + 1) 45 4029 m_X10_init 0 [vo 89] [] (gQ 90 83) qh11 (qP (gQ 135 128) qh14) := by
  refine a_aload_n (pc := 0) dX10_init_0 rfl ?_
  refine a_objInit (pc := 1) dX10_init_1 ml_X10_1 (by omega) (Nat.le_of_ble_eq_true rfl) ?_
  refine a_aload_n (pc := 4) dX10_init_4 rfl ?_
  refine a_sipush (pc := 5) dX10_init_5 (by decide) ?_
  refine q_newI (kc := 44) (ks := 2429) (n := 90) (n' := 91) (m := 83) (pc := 8) dX10_init_8 al_int rfl (by decide) rfl (by decide +kernel) (hz11 (by decide)) (by decide) rfl rfl rfl ?_
  refine q_putF (m := 83) (m' := 84) (n := 91) (pc := 10) dX10_init_10 fl_X10_7 rfl (qo (by decide) rfl (by decide)) rfl rfl rfl ?_
  refine a_aload_n (pc := 13) dX10_init_13 rfl ?_
  refine a_iconst (pc := 14) dX10_init_14 (by decide) ?_
  refine q_putI (h' := qh12) (pc := 15) dX10_init_15 fl_X10_13 (qo (by decide) rfl (by decide)) rfl ?_
  refine a_aload_n (pc := 18) dX10_init_18 rfl ?_
  refine a_bipush (pc := 19) dX10_init_19 (by decide) ?_
  refine q_newJ (kc := 43) (ks := 2417) (n := 91) (n' := 92) (m := 84) (pc := 21) dX10_init_21 al_long rfl (by decide) rfl (by decide +kernel) (hz12 (by decide)) (by decide) rfl rfl rfl ?_
  refine q_putF (m := 84) (m' := 85) (n := 92) (pc := 23) dX10_init_23 fl_X10_17 rfl (qo (by decide) rfl (by decide)) rfl rfl rfl ?_
  refine a_aload_n (pc := 26) dX10_init_26 rfl ?_
  refine a_bipush (pc := 27) dX10_init_27 (by decide) ?_
  refine q_newI (kc := 42) (ks := 2405) (n := 92) (n' := 93) (m := 85) (pc := 29) dX10_init_29 al_int rfl (by decide) rfl (by decide +kernel) (hz12 (by decide)) (by decide) rfl rfl rfl ?_
  refine q_putF (m := 85) (m' := 86) (n := 93) (pc := 31) dX10_init_31 fl_X10_21 rfl (qo (by decide) rfl (by decide)) rfl rfl rfl ?_
  refine a_aload_n (pc := 34) dX10_init_34 rfl ?_
  refine a_bipush (pc := 35) dX10_init_35 (by decide) ?_
  refine q_newI (kc := 41) (ks := 2393) (n := 93) (n' := 94) (m := 86) (pc := 37) dX10_init_37 al_int rfl (by decide) rfl (by decide +kernel) (hz12 (by decide)) (by decide) rfl rfl rfl ?_
  refine q_putF (m := 86) (m' := 87) (n := 94) (pc := 39) dX10_init_39 fl_X10_24 rfl (qo (by decide) rfl (by decide)) rfl rfl rfl ?_
  refine a_aload_n (pc := 42) dX10_init_42 rfl ?_
  refine a_bipush (pc := 43) dX10_init_43 (by decide) ?_
  refine q_newI (kc := 40) (ks := 2381) (n := 94) (n' := 95) (m := 87) (pc := 45) dX10_init_45 al_int rfl (by decide) rfl (by decide +kernel) (hz12 (by decide)) (by decide) rfl rfl rfl ?_
  refine q_putF (m := 87) (m' := 88) (n := 95) (pc := 47) dX10_init_47 fl_X10_27 rfl (qo (by decide) rfl (by decide)) rfl rfl rfl ?_
  refine a_aload_n (pc := 50) dX10_init_50 rfl ?_
  refine a_bipush (pc := 51) dX10_init_51 (by decide) ?_
  refine q_newI (kc := 39) (ks := 2369) (n := 95) (n' := 96) (m := 88) (pc := 53) dX10_init_53 al_int rfl (by decide) rfl (by decide +kernel) (hz12 (by decide)) (by decide) rfl rfl rfl ?_
  refine q_putF (m := 88) (m' := 89) (n := 96) (pc := 55) dX10_init_55 fl_X10_30 rfl (qo (by decide) rfl (by decide)) rfl rfl rfl ?_
  refine a_aload_n (pc := 58) dX10_init_58 rfl ?_
  refine a_bipush (pc := 59) dX10_init_59 (by decide) ?_
  refine q_newI (kc := 38) (ks := 2357) (n := 96) (n' := 97) (m := 89) (pc := 61) dX10_init_61 al_int rfl (by decide) rfl (by decide +kernel) (hz12 (by decide)) (by decide) rfl rfl rfl ?_
  refine q_putF (m := 89) (m' := 90) (n := 97) (pc := 63) dX10_init_63 fl_X10_33 rfl (qo (by decide) rfl (by decide)) rfl rfl rfl ?_
  refine a_aload_n (pc := 66) dX10_init_66 rfl ?_
  refine a_sipush (pc := 67) dX10_init_67 (by decide) ?_
  refine q_newI (kc := 37) (ks := 2213) (n := 97) (n' := 98) (m := 90) (pc := 70) dX10_init_70 al_int rfl (by decide) rfl (by decide +kernel) (hz12 (by decide)) (by decide) rfl rfl rfl ?_
  refine q_putF (m := 90) (m' := 91) (n := 98) (pc := 72) dX10_init_72 fl_X10_36 rfl (qo (by decide) rfl (by decide)) rfl rfl rfl ?_
  refine a_aload_n (pc := 75) dX10_init_75 rfl ?_
  refine a_bipush (pc := 76) dX10_init_76 (by decide) ?_
  refine q_newI (kc := 36) (ks := 2201) (n := 98) (n' := 99) (m := 91) (pc := 78) dX10_init_78 al_int rfl (by decide) rfl (by decide +kernel) (hz12 (by decide)) (by decide) rfl rfl rfl ?_
  refine q_putF (m := 91) (m' := 92) (n := 99) (pc := 80) dX10_init_80 fl_X10_39 rfl (qo (by decide) rfl (by decide)) rfl rfl rfl ?_
  refine a_aload_n (pc := 83) dX10_init_83 rfl ?_
  refine a_bipush (pc := 84) dX10_init_84 (by decide) ?_
  refine q_newI (kc := 35) (ks := 2189) (n := 99) (n' := 100) (m := 92) (pc := 86) dX10_init_86 al_int rfl (by decide) rfl (by decide +kernel) (hz12 (by decide)) (by decide) rfl rfl rfl ?_
  refine q_putF (m := 92) (m' := 93) (n := 100) (pc := 88) dX10_init_88 fl_X10_42 rfl (qo (by decide) rfl (by decide)) rfl rfl rfl ?_
  refine a_aload_n (pc := 91) dX10_init_91 rfl ?_
  refine a_bipush (pc := 92) dX10_init_92 (by decide) ?_
  refine q_newI (kc := 34) (ks := 2177) (n := 100) (n' := 101) (m := 93) (pc := 94) dX10_init_94 al_int rfl (by decide) rfl (by decide +kernel) (hz12 (by decide)) (by decide) rfl rfl rfl ?_
  refine q_putF (m := 93) (m' := 94) (n := 101) (pc := 96) dX10_init_96 fl_X10_45 rfl (qo (by decide) rfl (by decide)) rfl rfl rfl ?_
  refine a_aload_n (pc := 99) dX10_init_99 rfl ?_
  refine a_bipush (pc := 100) dX10_init_100 (by decide) ?_
  refine q_newI (kc := 33) (ks := 2165) (n := 101) (n' := 102) (m := 94) (pc := 102) dX10_init_102 al_int rfl (by decide) rfl (by decide +kernel) (hz12 (by decide)) (by decide) rfl rfl rfl ?_
  refine q_putF (m := 94) (m' := 95) (n := 102) (pc := 104) dX10_init_104 fl_X10_48 rfl (qo (by decide) rfl (by decide)) rfl rfl rfl ?_
  refine a_aload_n (pc := 107) dX10_init_107 rfl ?_
  refine a_bipush (pc := 108) dX10_init_108 (by decide) ?_
  refine q_newI (kc := 32) (ks := 2153) (n := 102) (n' := 103) (m := 95) (pc := 110) dX10_init_110 al_int rfl (by decide) rfl (by decide +kernel) (hz12 (by decide)) (by decide) rfl rfl rfl ?_
  refine q_putF (m := 95) (m' := 96) (n := 103) (pc := 112) dX10_init_112 fl_X10_51 rfl (qo (by decide) rfl (by decide)) rfl rfl rfl ?_
  refine a_aload_n (pc := 115) dX10_init_115 rfl ?_
  refine a_sipush (pc := 116) dX10_init_116 (by decide) ?_
  refine q_newI (kc := 31) (ks := 2009) (n := 103) (n' := 104) (m := 96) (pc := 119) dX10_init_119 al_int rfl (by decide) rfl (by decide +kernel) (hz12 (by decide)) (by decide) rfl rfl rfl ?_
  refine q_putF (m := 96) (m' := 97) (n := 104) (pc := 121) dX10_init_121 fl_X10_54 rfl (qo (by decide) rfl (by decide)) rfl rfl rfl ?_
  refine a_aload_n (pc := 124) dX10_init_124 rfl ?_
  refine a_bipush (pc := 125) dX10_init_125 (by decide) ?_
  refine q_newI (kc := 30) (ks := 1997) (n := 104) (n' := 105) (m := 97) (pc := 127) dX10_init_127 al_int rfl (by decide) rfl (by decide +kernel) (hz12 (by decide)) (by decide) rfl rfl rfl ?_
  refine q_putF (m := 97) (m' := 98) (n := 105) (pc := 129) dX10_init_129 fl_X10_57 rfl (qo (by decide) rfl (by decide)) rfl rfl rfl ?_
  refine a_aload_n (pc := 132) dX10_init_132 rfl ?_
  refine a_bipush (pc := 133) dX10_init_133 (by decide) ?_
  refine q_newI (kc := 29) (ks := 1985) (n := 105) (n' := 106) (m := 98) (pc := 135) dX10_init_135 al_int rfl (by decide) rfl (by decide +kernel) (hz12 (by decide)) (by decide) rfl rfl rfl ?_
  refine q_putF (m := 98) (m' := 99) (n := 106) (pc := 137) dX10_init_137 fl_X10_60 rfl (qo (by decide) rfl (by decide)) rfl rfl rfl ?_
  refine a_aload_n (pc := 140) dX10_init_140 rfl ?_
  refine a_bipush (pc := 141) dX10_init_141 (by decide) ?_
  refine q_newI (kc := 28) (ks := 1973) (n := 106) (n' := 107) (m := 99) (pc := 143) dX10_init_143 al_int rfl (by decide) rfl (by decide +kernel) (hz12 (by decide)) (by decide) rfl rfl rfl ?_
  refine q_putF (m := 99) (m' := 100) (n := 107) (pc := 145) dX10_init_145 fl_X10_63 rfl (qo (by decide) rfl (by decide)) rfl rfl rfl ?_
  refine a_aload_n (pc := 148) dX10_init_148 rfl ?_
  refine a_bipush (pc := 149) dX10_init_149 (by decide) ?_
  refine q_newI (kc := 27) (ks := 1961) (n := 107) (n' := 108) (m := 100) (pc := 151) dX10_init_151 al_int rfl (by decide) rfl (by decide +kernel) (hz12 (by decide)) (by decide) rfl rfl rfl ?_
  refine q_putF (m := 100) (m' := 101) (n := 108) (pc := 153) dX10_init_153 fl_X10_66 rfl (qo (by decide) rfl (by decide)) rfl rfl rfl ?_
  refine a_aload_n (pc := 156) dX10_init_156 rfl ?_
  refine a_bipush (pc := 157) dX10_init_157 (by decide) ?_
  refine q_newJ (kc := 26) (ks := 1841) (n := 108) (n' := 109) (m := 101) (pc := 159) dX10_init_159 al_long rfl (by decide) rfl (by decide +kernel) (hz12 (by decide)) (by decide) rfl rfl rfl ?_
  refine q_putF (m := 101) (m' := 102) (n := 109) (pc := 161) dX10_init_161 fl_X10_69 rfl (qo (by decide) rfl (by decide)) rfl rfl rfl ?_
  refine a_aload_n (pc := 164) dX10_init_164 rfl ?_
  refine a_sipush (pc := 165) dX10_init_165 (by decide) ?_
  refine q_newI (kc := 25) (ks := 1265) (n := 109) (n' := 110) (m := 102) (pc := 168) dX10_init_168 al_int rfl (by decide) rfl (by decide +kernel) (hz12 (by decide)) (by decide) rfl rfl rfl ?_
  refine q_putF (m := 102) (m' := 103) (n := 110) (pc := 170) dX10_init_170 fl_X10_72 rfl (qo (by decide) rfl (by decide)) rfl rfl rfl ?_
  refine a_aload_n (pc := 173) dX10_init_173 rfl ?_
  refine a_bipush (pc := 174) dX10_init_174 (by decide) ?_
  refine q_newI (kc := 24) (ks := 1241) (n := 110) (n' := 111) (m := 103) (pc := 176) dX10_init_176 al_int rfl (by decide) rfl (by decide +kernel) (hz12 (by decide)) (by decide) rfl rfl rfl ?_
  refine q_putF (m := 103) (m' := 104) (n := 111) (pc := 178) dX10_init_178 fl_X10_75 rfl (qo (by decide) rfl (by decide)) rfl rfl rfl ?_
  refine a_aload_n (pc := 181) dX10_init_181 rfl ?_
  refine a_bipush (pc := 182) dX10_init_182 (by decide) ?_
  refine q_newI (kc := 23) (ks := 1217) (n := 111) (n' := 112) (m := 104) (pc := 184) dX10_init_184 al_int rfl (by decide) rfl (by decide +kernel) (hz12 (by decide)) (by decide) rfl rfl rfl ?_
  refine q_putF (m := 104) (m' := 105) (n := 112) (pc := 186) dX10_init_186 fl_X10_78 rfl (qo (by decide) rfl (by decide)) rfl rfl rfl ?_
  refine a_aload_n (pc := 189) dX10_init_189 rfl ?_
  refine a_bipush (pc := 190) dX10_init_190 (by decide) ?_
  refine q_newI (kc := 22) (ks := 1205) (n := 112) (n' := 113) (m := 105) (pc := 192) dX10_init_192 al_int rfl (by decide) rfl (by decide +kernel) (hz12 (by decide)) (by decide) rfl rfl rfl ?_
  refine q_putF (m := 105) (m' := 106) (n := 113) (pc := 194) dX10_init_194 fl_X10_81 rfl (qo (by decide) rfl (by decide)) rfl rfl rfl ?_
  refine a_aload_n (pc := 197) dX10_init_197 rfl ?_
  refine a_bipush (pc := 198) dX10_init_198 (by decide) ?_
  refine q_newI (kc := 21) (ks := 1193) (n := 113) (n' := 114) (m := 106) (pc := 200) dX10_init_200 al_int rfl (by decide) rfl (by decide +kernel) (hz12 (by decide)) (by decide) rfl rfl rfl ?_
  refine q_putF (m := 106) (m' := 107) (n := 114) (pc := 202) dX10_init_202 fl_X10_84 rfl (qo (by decide) rfl (by decide)) rfl rfl rfl ?_
  refine a_aload_n (pc := 205) dX10_init_205 rfl ?_
  refine a_bipush (pc := 206) dX10_init_206 (by decide) ?_
  refine q_newI (kc := 20) (ks := 1181) (n := 114) (n' := 115) (m := 107) (pc := 208) dX10_init_208 al_int rfl (by decide) rfl (by decide +kernel) (hz12 (by decide)) (by decide) rfl rfl rfl ?_
  refine q_putF (m := 107) (m' := 108) (n := 115) (pc := 210) dX10_init_210 fl_X10_87 rfl (qo (by decide) rfl (by decide)) rfl rfl rfl ?_
  refine a_aload_n (pc := 213) dX10_init_213 rfl ?_
  refine a_bipush (pc := 214) dX10_init_214 (by decide) ?_
  refine q_newI (kc := 19) (ks := 1169) (n := 115) (n' := 116) (m := 108) (pc := 216) dX10_init_216 al_int rfl (by decide) rfl (by decide +kernel) (hz12 (by decide)) (by decide) rfl rfl rfl ?_
  refine q_putF (m := 108) (m' := 109) (n := 116) (pc := 218) dX10_init_218 fl_X10_90 rfl (qo (by decide) rfl (by decide)) rfl rfl rfl ?_
  refine a_aload_n (pc := 221) dX10_init_221 rfl ?_
  refine a_bipush (pc := 222) dX10_init_222 (by decide) ?_
  refine q_newI (kc := 18) (ks := 1157) (n := 116) (n' := 117) (m := 109) (pc := 224) dX10_init_224 al_int rfl (by decide) rfl (by decide +kernel) (hz12 (by decide)) (by decide) rfl rfl rfl ?_
  refine q_putF (m := 109) (m' := 110) (n := 117) (pc := 226) dX10_init_226 fl_X10_93 rfl (qo (by decide) rfl (by decide)) rfl rfl rfl ?_
  refine a_aload_n (pc := 229) dX10_init_229 rfl ?_
  refine a_bipush (pc := 230) dX10_init_230 (by decide) ?_
  refine q_newI (kc := 17) (ks := 1145) (n := 117) (n' := 118) (m := 110) (pc := 232) dX10_init_232 al_int rfl (by decide) rfl (by decide +kernel) (hz12 (by decide)) (by decide) rfl rfl rfl ?_
  refine q_putF (m := 110) (m' := 111) (n := 118) (pc := 234) dX10_init_234 fl_X10_96 rfl (qo (by decide) rfl (by decide)) rfl rfl rfl ?_
  refine a_aload_n (pc := 237) dX10_init_237 rfl ?_
  refine a_sipush (pc := 238) dX10_init_238 (by decide) ?_
  refine q_newI (kc := 16) (ks := 1001) (n := 118) (n' := 119) (m := 111) (pc := 241) dX10_init_241 al_int rfl (by decide) rfl (by decide +kernel) (hz12 (by decide)) (by decide) rfl rfl rfl ?_
  refine q_putF (m := 111) (m' := 112) (n := 119) (pc := 243) dX10_init_243 fl_X10_99 rfl (qo (by decide) rfl (by decide)) rfl rfl rfl ?_
  refine a_aload_n (pc := 246) dX10_init_246 rfl ?_
  refine a_bipush (pc := 247) dX10_init_247 (by decide) ?_
  refine q_newI (kc := 15) (ks := 989) (n := 119) (n' := 120) (m := 112) (pc := 249) dX10_init_249 al_int rfl (by decide) rfl (by decide +kernel) (hz12 (by decide)) (by decide) rfl rfl rfl ?_
  refine q_putF (m := 112) (m' := 113) (n := 120) (pc := 251) dX10_init_251 fl_X10_102 rfl (qo (by decide) rfl (by decide)) rfl rfl rfl ?_
  refine a_aload_n (pc := 254) dX10_init_254 rfl ?_
  refine a_bipush (pc := 255) dX10_init_255 (by decide) ?_
  refine q_newI (kc := 14) (ks := 977) (n := 120) (n' := 121) (m := 113) (pc := 257) dX10_init_257 al_int rfl (by decide) rfl (by decide +kernel) (hz12 (by decide)) (by decide) rfl rfl rfl ?_
  refine q_putF (m := 113) (m' := 114) (n := 121) (pc := 259) dX10_init_259 fl_X10_105 rfl (qo (by decide) rfl (by decide)) rfl rfl rfl ?_
  refine a_aload_n (pc := 262) dX10_init_262 rfl ?_
  refine a_bipush (pc := 263) dX10_init_263 (by decide) ?_
  refine q_newI (kc := 13) (ks := 965) (n := 121) (n' := 122) (m := 114) (pc := 265) dX10_init_265 al_int rfl (by decide) rfl (by decide +kernel) (hz12 (by decide)) (by decide) rfl rfl rfl ?_
  refine q_putF (m := 114) (m' := 115) (n := 122) (pc := 267) dX10_init_267 fl_X10_108 rfl (qo (by decide) rfl (by decide)) rfl rfl rfl ?_
  refine a_aload_n (pc := 270) dX10_init_270 rfl ?_
  refine a_bipush (pc := 271) dX10_init_271 (by decide) ?_
  refine q_newI (kc := 12) (ks := 953) (n := 122) (n' := 123) (m := 115) (pc := 273) dX10_init_273 al_int rfl (by decide) rfl (by decide +kernel) (hz12 (by decide)) (by decide) rfl rfl rfl ?_
  refine q_putF (m := 115) (m' := 116) (n := 123) (pc := 275) dX10_init_275 fl_X10_111 rfl (qo (by decide) rfl (by decide)) rfl rfl rfl ?_
  refine a_aload_n (pc := 278) dX10_init_278 rfl ?_
  refine a_bipush (pc := 279) dX10_init_279 (by decide) ?_
  refine q_newI (kc := 11) (ks := 941) (n := 123) (n' := 124) (m := 116) (pc := 281) dX10_init_281 al_int rfl (by decide) rfl (by decide +kernel) (hz12 (by decide)) (by decide) rfl rfl rfl ?_
  refine q_putF (m := 116) (m' := 117) (n := 124) (pc := 283) dX10_init_283 fl_X10_114 rfl (qo (by decide) rfl (by decide)) rfl rfl rfl ?_
  refine a_aload_n (pc := 286) dX10_init_286 rfl ?_
  refine a_bipush (pc := 287) dX10_init_287 (by decide) ?_
  refine q_newI (kc := 10) (ks := 929) (n := 124) (n' := 125) (m := 117) (pc := 289) dX10_init_289 al_int rfl (by decide) rfl (by decide +kernel) (hz12 (by decide)) (by decide) rfl rfl rfl ?_
  refine q_putF (m := 117) (m' := 118) (n := 125) (pc := 291) dX10_init_291 fl_X10_117 rfl (qo (by decide) rfl (by decide)) rfl rfl rfl ?_
  refine a_aload_n (pc := 294) dX10_init_294 rfl ?_
  refine a_bipush (pc := 295) dX10_init_295 (by decide) ?_
  refine q_newI (kc := 9) (ks := 889) (n := 125) (n' := 126) (m := 118) (pc := 297) dX10_init_297 al_int rfl (by decide) rfl (by decide +kernel) (hz12 (by decide)) (by decide) rfl rfl rfl ?_
  refine q_putF (m := 118) (m' := 119) (n := 126) (pc := 299) dX10_init_299 fl_X10_120 rfl (qo (by decide) rfl (by decide)) rfl rfl rfl ?_
  refine a_aload_n (pc := 302) dX10_init_302 rfl ?_
  refine a_bipush (pc := 303) dX10_init_303 (by decide) ?_
  refine q_newI (kc := 8) (ks := 849) (n := 126) (n' := 127) (m := 119) (pc := 305) dX10_init_305 al_int rfl (by decide) rfl (by decide +kernel) (hz12 (by decide)) (by decide) rfl rfl rfl ?_
  refine q_putF (m := 119) (m' := 120) (n := 127) (pc := 307) dX10_init_307 fl_X10_123 rfl (qo (by decide) rfl (by decide)) rfl rfl rfl ?_
  refine a_aload_n (pc := 310) dX10_init_310 rfl ?_
  refine a_bipush (pc := 311) dX10_init_311 (by decide) ?_
  refine q_newI (kc := 7) (ks := 809) (n := 127) (n' := 128) (m := 120) (pc := 313) dX10_init_313 al_int rfl (by decide) rfl (by decide +kernel) (hz12 (by decide)) (by decide) rfl rfl rfl ?_
  refine q_putF (m := 120) (m' := 121) (n := 128) (pc := 315) dX10_init_315 fl_X10_126 rfl (qo (by decide) rfl (by decide)) rfl rfl rfl ?_
  refine a_aload_n (pc := 318) dX10_init_318 rfl ?_
  refine a_bipush (pc := 319) dX10_init_319 (by decide) ?_
  refine q_newI (kc := 6) (ks := 769) (n := 128) (n' := 129) (m := 121) (pc := 321) dX10_init_321 al_int rfl (by decide) rfl (by decide +kernel) (hz12 (by decide)) (by decide) rfl rfl rfl ?_
  refine q_putF (m := 121) (m' := 122) (n := 129) (pc := 323) dX10_init_323 fl_X10_129 rfl (qo (by decide) rfl (by decide)) rfl rfl rfl ?_
  refine a_aload_n (pc := 326) dX10_init_326 rfl ?_
  refine a_bipush (pc := 327) dX10_init_327 (by decide) ?_
  refine q_newI (kc := 5) (ks := 729) (n := 129) (n' := 130) (m := 122) (pc := 329) dX10_init_329 al_int rfl (by decide) rfl (by decide +kernel) (hz12 (by decide)) (by decide) rfl rfl rfl ?_
  refine q_putF (m := 122) (m' := 123) (n := 130) (pc := 331) dX10_init_331 fl_X10_132 rfl (qo (by decide) rfl (by decide)) rfl rfl rfl ?_
  refine a_aload_n (pc := 334) dX10_init_334 rfl ?_
  refine a_iconst (pc := 335) dX10_init_335 (by decide) ?_
  refine q_newZ (kc := 4) (ks := 726) (n := 130) (n' := 131) (m := 123) (pc := 336) dX10_init_336 al_boolean rfl (by decide) rfl (by decide +kernel) (hz12 (by decide)) (by decide) rfl rfl rfl ?_
  refine q_putF (m := 123) (m' := 124) (n := 131) (pc := 338) dX10_init_338 fl_X10_135 rfl (qo (by decide) rfl (by decide)) rfl rfl rfl ?_
  refine a_aload_n (pc := 341) dX10_init_341 rfl ?_
  refine a_bipush (pc := 342) dX10_init_342 (by decide) ?_
  refine q_newI (kc := 3) (ks := 720) (n := 131) (n' := 132) (m := 124) (pc := 344) dX10_init_344 al_int rfl (by decide) rfl (by decide +kernel) (hz12 (by decide)) (by decide) rfl rfl rfl ?_
  refine q_putF (m := 124) (m' := 125) (n := 132) (pc := 346) dX10_init_346 fl_X10_139 rfl (qo (by decide) rfl (by decide)) rfl rfl rfl ?_
  refine a_aload_n (pc := 349) dX10_init_349 rfl ?_
  refine a_bipush (pc := 350) dX10_init_350 (by decide) ?_
  refine q_newI (kc := 2) (ks := 612) (n := 132) (n' := 133) (m := 125) (pc := 352) dX10_init_352 al_int rfl (by decide) rfl (by decide +kernel) (hz12 (by decide)) (by decide) rfl rfl rfl ?_
  refine q_putF (m := 125) (m' := 126) (n := 133) (pc := 354) dX10_init_354 fl_X10_142 rfl (qo (by decide) rfl (by decide)) rfl rfl rfl ?_
  refine a_aload_n (pc := 357) dX10_init_357 rfl ?_
  refine a_sipush (pc := 358) dX10_init_358 (by decide) ?_
  refine q_newI (kc := 1) (ks := 180) (n := 133) (n' := 134) (m := 126) (pc := 361) dX10_init_361 al_int rfl (by decide) rfl (by decide +kernel) (hz12 (by decide)) (by decide) rfl rfl rfl ?_
  refine q_putF (m := 126) (m' := 127) (n := 134) (pc := 363) dX10_init_363 fl_X10_145 rfl (qo (by decide) rfl (by decide)) rfl rfl rfl ?_
  refine a_aload_n (pc := 366) dX10_init_366 rfl ?_
  refine a_sipush (pc := 367) dX10_init_367 (by decide) ?_
  refine q_newI (kc := 0) (ks := 0) (n := 134) (n' := 135) (m := 127) (pc := 370) dX10_init_370 al_int rfl (by decide) rfl (by decide +kernel) (hz12 (by decide)) (by decide) rfl rfl rfl ?_
  refine q_putF (m := 127) (m' := 128) (n := 135) (pc := 372) dX10_init_372 fl_X10_148 rfl (qo (by decide) rfl (by decide)) rfl rfl rfl ?_
  refine a_aload_n (pc := 375) dX10_init_375 rfl ?_
  refine a_iconst (pc := 376) dX10_init_376 (by decide) ?_
  refine q_putI (h' := qh13) (pc := 377) dX10_init_377 fl_X10_151 (qo (by decide) rfl (by decide)) rfl ?_
  refine a_aload_n (pc := 380) dX10_init_380 rfl ?_
  refine a_iconst (pc := 381) dX10_init_381 (by decide) ?_
  refine q_putI (h' := qh14) (pc := 382) dX10_init_382 fl_X10_154 (qo (by decide) rfl (by decide)) rfl ?_
  exact a_return (pc := 385) dX10_init_385 trivial ⟨rfl, rfl, rfl⟩
