theorem dX9_city_38 : decode cX9_city 38 = .ok (.getfield 27, 3) := by decide +kernel
theorem dX9_city_41 : decode cX9_city 41 = .ok (.putfield 23, 3) := by decide +kernel
theorem dX9_city_44 : decode cX9_city 44 = .ok (.aload_n 0, 1) := by decide +kernel
theorem dX9_city_45 : decode cX9_city 45 = .ok (.aload_n 2, 1) := by decide +kernel
theorem dX9_city_46 : decode cX9_city 46 = .ok (.putfield 27, 3) := by decide +kernel
theorem dX9_city_49 : decode cX9_city 49 = .ok (.aload_n 0, 1) := by decide +kernel
theorem dX9_city_50 : decode cX9_city 50 = .ok (.getfield 33, 3) := by decide +kernel
theorem dX9_city_53 : decode cX9_city 53 = .ok (.aload_n 0, 1) := by decide +kernel
theorem dX9_city_54 : decode cX9_city 54 = .ok (.getfield 23, 3) := by decide +kernel
theorem dX9_city_57 : decode cX9_city 57 = .ok (.invokevirtual 74, 3) := by decide +kernel
theorem dX9_city_60 : decode cX9_city 60 = .ok (.aload_n 0, 1) := by decide +kernel
theorem dX9_city_61 : decode cX9_city 61 = .ok (.getfield 40, 3) := by decide +kernel
theorem dX9_city_64 : decode cX9_city 64 = .ok (.invokevirtual 78, 3) := by decide +kernel
theorem dX9_city_67 : decode cX9_city 67 = .ok (.aload_n 0, 1) := by decide +kernel
theorem dX9_city_68 : decode cX9_city 68 = .ok (.getfield 47, 3) := by decide +kernel
theorem dX9_city_71 : decode cX9_city 71 = .ok (.aload_n 0, 1) := by decide +kernel
theorem dX9_city_72 : decode cX9_city 72 = .ok (.getfield 23, 3) := by decide +kernel
theorem dX9_city_75 : decode cX9_city 75 = .ok (.invokevirtual 81, 3) := by decide +kernel
theorem dX9_city_78 : decode cX9_city 78 = .ok (.aload_n 0, 1) := by decide +kernel
theorem dX9_city_79 : decode cX9_city 79 = .ok (.iconst 0, 1) := by decide +kernel
theorem dX9_city_80 : decode cX9_city 80 = .ok (.putfield 84, 3) := by decide +kernel
theorem dX9_city_83 : decode cX9_city 83 = .ok (.aload_n 0, 1) := by decide +kernel
theorem dX9_city_84 : decode cX9_city 84 = .ok (.getfield 58, 3) := by decide +kernel
theorem dX9_city_87 : decode cX9_city 87 = .ok (.invokevirtual 87, 3) := by decide +kernel
theorem dX9_city_90 : decode cX9_city 90 = .ok (.aload_n 0, 1) := by decide +kernel
theorem dX9_city_91 : decode cX9_city 91 = .ok (.getfield 23, 3) := by decide +kernel
theorem dX9_city_94 : decode cX9_city 94 = .ok (.getfield 88, 3) := by decide +kernel
theorem dX9_city_97 : decode cX9_city 97 = .ok (.ireturn, 1) := by decide +kernel
theorem dX9_fault_0 : decode cX9_fault 0 = .ok (.iload_n 1, 1) := by decide +kernel
theorem dX9_fault_1 : decode cX9_fault 1 = .ok (.ifCond .ne 11, 3) := by decide +kernel
theorem dX9_fault_4 : decode cX9_fault 4 = .ok (.aload_n 0, 1) := by decide +kernel
theorem dX9_fault_5 : decode cX9_fault 5 = .ok (.getfield 16, 3) := by decide +kernel
theorem dX9_fault_8 : decode cX9_fault 8 = .ok (.getfield 91, 3) := by decide +kernel
theorem dX9_fault_11 : decode cX9_fault 11 = .ok (.ireturn, 1) := by decide +kernel
theorem dX9_fault_12 : decode cX9_fault 12 = .ok (.iload_n 1, 1) := by decide +kernel
theorem dX9_fault_13 : decode cX9_fault 13 = .ok (.iconst 1, 1) := by decide +kernel
theorem dX9_fault_14 : decode cX9_fault 14 = .ok (.if_icmp .ne 13, 3) := by decide +kernel
theorem dX9_fault_17 : decode cX9_fault 17 = .ok (.aload_n 0, 1) := by decide +kernel
theorem dX9_fault_18 : decode cX9_fault 18 = .ok (.getfield 16, 3) := by decide +kernel
theorem dX9_fault_21 : decode cX9_fault 21 = .ok (.getfield 94, 3) := by decide +kernel
theorem dX9_fault_24 : decode cX9_fault 24 = .ok (.goto 4, 3) := by decide +kernel
theorem dX9_fault_27 : decode cX9_fault 27 = .ok (.iconst (-1), 1) := by decide +kernel
theorem dX9_fault_28 : decode cX9_fault 28 = .ok (.ireturn, 1) := by decide +kernel
theorem dX9_knows_0 : decode cX9_knows 0 = .ok (.aload_n 0, 1) := by decide +kernel
theorem dX9_knows_1 : decode cX9_knows 1 = .ok (.getfield 23, 3) := by decide +kernel
theorem dX9_knows_4 : decode cX9_knows 4 = .ok (.iload_n 1, 1) := by decide +kernel
theorem dX9_knows_5 : decode cX9_knows 5 = .ok (.invokevirtual 97, 3) := by decide +kernel
theorem dX9_knows_8 : decode cX9_knows 8 = .ok (.ifCond .eq 15, 3) := by decide +kernel
theorem dX9_knows_11 : decode cX9_knows 11 = .ok (.aload_n 0, 1) := by decide +kernel
theorem dX9_knows_12 : decode cX9_knows 12 = .ok (.getfield 23, 3) := by decide +kernel
theorem dX9_knows_15 : decode cX9_knows 15 = .ok (.getfield 101, 3) := by decide +kernel
theorem dX9_knows_18 : decode cX9_knows 18 = .ok (.iload_n 1, 1) := by decide +kernel
theorem dX9_knows_19 : decode cX9_knows 19 = .ok (.iaload, 1) := by decide +kernel
theorem dX9_knows_20 : decode cX9_knows 20 = .ok (.goto 4, 3) := by decide +kernel
theorem dX9_knows_23 : decode cX9_knows 23 = .ok (.iconst (-1), 1) := by decide +kernel
theorem dX9_knows_24 : decode cX9_knows 24 = .ok (.ireturn, 1) := by decide +kernel
theorem dX9_quick_0 : decode cX9_quick 0 = .ok (.aload_n 0, 1) := by decide +kernel
theorem dX9_quick_1 : decode cX9_quick 1 = .ok (.getfield 40, 3) := by decide +kernel
theorem dX9_quick_4 : decode cX9_quick 4 = .ok (.aload_n 0, 1) := by decide +kernel
theorem dX9_quick_5 : decode cX9_quick 5 = .ok (.getfield 23, 3) := by decide +kernel
theorem dX9_quick_8 : decode cX9_quick 8 = .ok (.invokevirtual 105, 3) := by decide +kernel
theorem dX9_quick_11 : decode cX9_quick 11 = .ok (.aload_n 0, 1) := by decide +kernel
theorem dX9_quick_12 : decode cX9_quick 12 = .ok (.getfield 40, 3) := by decide +kernel
theorem dX9_quick_15 : decode cX9_quick 15 = .ok (.aload_n 0, 1) := by decide +kernel
theorem dX9_quick_16 : decode cX9_quick 16 = .ok (.getfield 23, 3) := by decide +kernel
theorem dX9_quick_19 : decode cX9_quick 19 = .ok (.invokevirtual 108, 3) := by decide +kernel
theorem dX9_quick_22 : decode cX9_quick 22 = .ok (.lstore_n 1, 1) := by decide +kernel
theorem dX9_quick_23 : decode cX9_quick 23 = .ok (.lload_n 1, 1) := by decide +kernel
theorem dX9_quick_24 : decode cX9_quick 24 = .ok (.ldc2_w 112, 3) := by decide +kernel
theorem dX9_quick_27 : decode cX9_quick 27 = .ok (.lcmp, 1) := by decide +kernel
theorem dX9_quick_28 : decode cX9_quick 28 = .ok (.ifCond .ne 7, 3) := by decide +kernel
theorem dX9_quick_31 : decode cX9_quick 31 = .ok (.iconst (-1), 1) := by decide +kernel
theorem dX9_quick_32 : decode cX9_quick 32 = .ok (.goto 5, 3) := by decide +kernel
theorem dX9_quick_35 : decode cX9_quick 35 = .ok (.lload_n 1, 1) := by decide +kernel
theorem dX9_quick_36 : decode cX9_quick 36 = .ok (.l2i, 1) := by decide +kernel
theorem dX9_quick_37 : decode cX9_quick 37 = .ok (.ireturn, 1) := by decide +kernel
theorem dX9_safe_0 : decode cX9_safe 0 = .ok (.iload_n 1, 1) := by decide +kernel
theorem dX9_safe_1 : decode cX9_safe 1 = .ok (.ifCond .eq 19, 3) := by decide +kernel
theorem dX9_safe_4 : decode cX9_safe 4 = .ok (.iload_n 1, 1) := by decide +kernel
theorem dX9_safe_5 : decode cX9_safe 5 = .ok (.iconst 1, 1) := by decide +kernel
theorem dX9_safe_6 : decode cX9_safe 6 = .ok (.if_icmp .eq 14, 3) := by decide +kernel
theorem dX9_safe_9 : decode cX9_safe 9 = .ok (.aload_n 0, 1) := by decide +kernel
theorem dX9_safe_10 : decode cX9_safe 10 = .ok (.getfield 40, 3) := by decide +kernel
theorem dX9_safe_13 : decode cX9_safe 13 = .ok (.invokevirtual 78, 3) := by decide +kernel
theorem dX9_safe_16 : decode cX9_safe 16 = .ok (.ldc2_w 114, 3) := by decide +kernel
theorem dX9_safe_19 : decode cX9_safe 19 = .ok (.lreturn, 1) := by decide +kernel
theorem dX9_safe_20 : decode cX9_safe 20 = .ok (.aload_n 0, 1) := by decide +kernel
theorem dX9_safe_21 : decode cX9_safe 21 = .ok (.getfield 40, 3) := by decide +kernel
theorem dX9_safe_24 : decode cX9_safe 24 = .ok (.aload_n 0, 1) := by decide +kernel
theorem dX9_safe_25 : decode cX9_safe 25 = .ok (.getfield 23, 3) := by decide +kernel
theorem dX9_safe_28 : decode cX9_safe 28 = .ok (.invokevirtual 116, 3) := by decide +kernel
theorem dX9_safe_31 : decode cX9_safe 31 = .ok (.aload_n 0, 1) := by decide +kernel
theorem dX9_safe_32 : decode cX9_safe 32 = .ok (.getfield 40, 3) := by decide +kernel
theorem dX9_safe_35 : decode cX9_safe 35 = .ok (.aload_n 0, 1) := by decide +kernel
theorem dX9_safe_36 : decode cX9_safe 36 = .ok (.getfield 23, 3) := by decide +kernel
theorem dX9_safe_39 : decode cX9_safe 39 = .ok (.invokevirtual 119, 3) := by decide +kernel
theorem dX9_safe_42 : decode cX9_safe 42 = .ok (.lstore_n 2, 1) := by decide +kernel
theorem dX9_safe_43 : decode cX9_safe 43 = .ok (.lload_n 2, 1) := by decide +kernel
theorem dX9_safe_44 : decode cX9_safe 44 = .ok (.ldc2_w 112, 3) := by decide +kernel
theorem dX9_safe_47 : decode cX9_safe 47 = .ok (.lcmp, 1) := by decide +kernel
theorem dX9_safe_48 : decode cX9_safe 48 = .ok (.ifCond .ne 7, 3) := by decide +kernel
theorem dX9_safe_51 : decode cX9_safe 51 = .ok (.ldc2_w 114, 3) := by decide +kernel
theorem dX9_safe_54 : decode cX9_safe 54 = .ok (.lreturn, 1) := by decide +kernel
theorem dX9_safe_55 : decode cX9_safe 55 = .ok (.ldc2_w 122, 3) := by decide +kernel
theorem dX9_safe_58 : decode cX9_safe 58 = .ok (.lload_n 2, 1) := by decide +kernel
theorem dX9_safe_59 : decode cX9_safe 59 = .ok (.invokestatic 124, 3) := by decide +kernel
theorem dX9_safe_62 : decode cX9_safe 62 = .ok (.lstore 4, 2) := by decide +kernel
theorem dX9_safe_64 : decode cX9_safe 64 = .ok (.lload 4, 2) := by decide +kernel
theorem dX9_safe_66 : decode cX9_safe 66 = .ok (.lconst 1, 1) := by decide +kernel
theorem dX9_safe_67 : decode cX9_safe 67 = .ok (.lcmp, 1) := by decide +kernel
theorem dX9_safe_68 : decode cX9_safe 68 = .ok (.ifCond .ge 7, 3) := by decide +kernel
theorem dX9_safe_71 : decode cX9_safe 71 = .ok (.ldc2_w 114, 3) := by decide +kernel
theorem dX9_safe_74 : decode cX9_safe 74 = .ok (.lreturn, 1) := by decide +kernel
theorem dX9_safe_75 : decode cX9_safe 75 = .ok (.iload_n 1, 1) := by decide +kernel
theorem dX9_safe_76 : decode cX9_safe 76 = .ok (.ifCond .ne 7, 3) := by decide +kernel
theorem dX9_safe_79 : decode cX9_safe 79 = .ok (.lload_n 2, 1) := by decide +kernel
theorem dX9_safe_80 : decode cX9_safe 80 = .ok (.goto 6, 3) := by decide +kernel
theorem dX9_safe_83 : decode cX9_safe 83 = .ok (.ldc2_w 122, 3) := by decide +kernel
theorem dX9_safe_86 : decode cX9_safe 86 = .ok (.lload 4, 2) := by decide +kernel
theorem dX9_safe_88 : decode cX9_safe 88 = .ok (.ldiv, 1) := by decide +kernel
theorem dX9_safe_89 : decode cX9_safe 89 = .ok (.lreturn, 1) := by decide +kernel
theorem dX9_cheap_0 : decode cX9_cheap 0 = .ok (.aload_n 0, 1) := by decide +kernel
theorem dX9_cheap_1 : decode cX9_cheap 1 = .ok (.getfield 40, 3) := by decide +kernel
theorem dX9_cheap_4 : decode cX9_cheap 4 = .ok (.aload_n 0, 1) := by decide +kernel
theorem dX9_cheap_5 : decode cX9_cheap 5 = .ok (.getfield 23, 3) := by decide +kernel
theorem dX9_cheap_8 : decode cX9_cheap 8 = .ok (.invokevirtual 128, 3) := by decide +kernel
theorem dX9_cheap_11 : decode cX9_cheap 11 = .ok (.aload_n 0, 1) := by decide +kernel
theorem dX9_cheap_12 : decode cX9_cheap 12 = .ok (.getfield 40, 3) := by decide +kernel
theorem dX9_cheap_15 : decode cX9_cheap 15 = .ok (.aload_n 0, 1) := by decide +kernel
theorem dX9_cheap_16 : decode cX9_cheap 16 = .ok (.getfield 23, 3) := by decide +kernel
theorem dX9_cheap_19 : decode cX9_cheap 19 = .ok (.invokevirtual 108, 3) := by decide +kernel
theorem dX9_cheap_22 : decode cX9_cheap 22 = .ok (.lstore_n 1, 1) := by decide +kernel
theorem dX9_cheap_23 : decode cX9_cheap 23 = .ok (.lload_n 1, 1) := by decide +kernel
theorem dX9_cheap_24 : decode cX9_cheap 24 = .ok (.ldc2_w 112, 3) := by decide +kernel
theorem dX9_cheap_27 : decode cX9_cheap 27 = .ok (.lcmp, 1) := by decide +kernel
theorem dX9_cheap_28 : decode cX9_cheap 28 = .ok (.ifCond .ne 7, 3) := by decide +kernel
theorem dX9_cheap_31 : decode cX9_cheap 31 = .ok (.iconst (-1), 1) := by decide +kernel
theorem dX9_cheap_32 : decode cX9_cheap 32 = .ok (.goto 5, 3) := by decide +kernel
theorem dX9_cheap_35 : decode cX9_cheap 35 = .ok (.lload_n 1, 1) := by decide +kernel
theorem dX9_cheap_36 : decode cX9_cheap 36 = .ok (.l2i, 1) := by decide +kernel
theorem dX9_cheap_37 : decode cX9_cheap 37 = .ok (.ireturn, 1) := by decide +kernel
theorem dX9_lies_0 : decode cX9_lies 0 = .ok (.iload_n 1, 1) := by decide +kernel
theorem dX9_lies_1 : decode cX9_lies 1 = .ok (.ifCond .lt 26, 3) := by decide +kernel
theorem dX9_lies_4 : decode cX9_lies 4 = .ok (.iload_n 1, 1) := by decide +kernel
theorem dX9_lies_5 : decode cX9_lies 5 = .ok (.aload_n 0, 1) := by decide +kernel
theorem dX9_lies_6 : decode cX9_lies 6 = .ok (.getfield 40, 3) := by decide +kernel
theorem dX9_lies_9 : decode cX9_lies 9 = .ok (.getfield 131, 3) := by decide +kernel
theorem dX9_lies_12 : decode cX9_lies 12 = .ok (.if_icmp .ge 15, 3) := by decide +kernel
theorem dX9_lies_15 : decode cX9_lies 15 = .ok (.aload_n 0, 1) := by decide +kernel
theorem dX9_lies_16 : decode cX9_lies 16 = .ok (.getfield 40, 3) := by decide +kernel
theorem dX9_lies_19 : decode cX9_lies 19 = .ok (.getfield 134, 3) := by decide +kernel
theorem dX9_lies_22 : decode cX9_lies 22 = .ok (.iload_n 1, 1) := by decide +kernel
theorem dX9_lies_23 : decode cX9_lies 23 = .ok (.iaload, 1) := by decide +kernel
theorem dX9_lies_24 : decode cX9_lies 24 = .ok (.goto 4, 3) := by decide +kernel
theorem dX9_lies_27 : decode cX9_lies 27 = .ok (.iconst (-1), 1) := by decide +kernel
theorem dX9_lies_28 : decode cX9_lies 28 = .ok (.ireturn, 1) := by decide +kernel
theorem dX9_apart_0 : decode cX9_apart 0 = .ok (.aload_n 0, 1) := by decide +kernel
theorem dX9_apart_1 : decode cX9_apart 1 = .ok (.getfield 23, 3) := by decide +kernel
theorem dX9_apart_4 : decode cX9_apart 4 = .ok (.invokevirtual 137, 3) := by decide +kernel
theorem dX9_apart_7 : decode cX9_apart 7 = .ok (.ifCond .ne 5, 3) := by decide +kernel
theorem dX9_apart_10 : decode cX9_apart 10 = .ok (.iconst 0, 1) := by decide +kernel
theorem dX9_apart_11 : decode cX9_apart 11 = .ok (.ireturn, 1) := by decide +kernel
theorem dX9_apart_12 : decode cX9_apart 12 = .ok (.aload_n 0, 1) := by decide +kernel
theorem dX9_apart_13 : decode cX9_apart 13 = .ok (.getfield 23, 3) := by decide +kernel
theorem dX9_apart_16 : decode cX9_apart 16 = .ok (.getfield 141, 3) := by decide +kernel
theorem dX9_apart_19 : decode cX9_apart 19 = .ok (.aload_n 0, 1) := by decide +kernel
theorem dX9_apart_20 : decode cX9_apart 20 = .ok (.getfield 23, 3) := by decide +kernel
theorem dX9_apart_23 : decode cX9_apart 23 = .ok (.getfield 144, 3) := by decide +kernel
theorem dX9_apart_26 : decode cX9_apart 26 = .ok (.if_icmp .ne 5, 3) := by decide +kernel
theorem dX9_apart_29 : decode cX9_apart 29 = .ok (.iconst 1, 1) := by decide +kernel
theorem dX9_apart_30 : decode cX9_apart 30 = .ok (.ireturn, 1) := by decide +kernel
theorem dX9_apart_31 : decode cX9_apart 31 = .ok (.aload_n 0, 1) := by decide +kernel
theorem dX9_apart_32 : decode cX9_apart 32 = .ok (.aload_n 0, 1) := by decide +kernel
theorem dX9_apart_33 : decode cX9_apart 33 = .ok (.getfield 23, 3) := by decide +kernel
theorem dX9_apart_36 : decode cX9_apart 36 = .ok (.invokevirtual 147, 3) := by decide +kernel
theorem dX9_apart_39 : decode cX9_apart 39 = .ok (.iconst 1, 1) := by decide +kernel
theorem dX9_apart_40 : decode cX9_apart 40 = .ok (.invokevirtual 151, 3) := by decide +kernel
theorem dX9_apart_43 : decode cX9_apart 43 = .ok (.istore_n 1, 1) := by decide +kernel
theorem dX9_apart_44 : decode cX9_apart 44 = .ok (.aload_n 0, 1) := by decide +kernel
theorem dX9_apart_45 : decode cX9_apart 45 = .ok (.getfield 23, 3) := by decide +kernel
theorem dX9_apart_48 : decode cX9_apart 48 = .ok (.aload_n 0, 1) := by decide +kernel
theorem dX9_apart_49 : decode cX9_apart 49 = .ok (.getfield 23, 3) := by decide +kernel
theorem dX9_apart_52 : decode cX9_apart 52 = .ok (.getfield 141, 3) := by decide +kernel
theorem dX9_apart_55 : decode cX9_apart 55 = .ok (.aload_n 0, 1) := by decide +kernel
theorem dX9_apart_56 : decode cX9_apart 56 = .ok (.getfield 23, 3) := by decide +kernel
theorem dX9_apart_59 : decode cX9_apart 59 = .ok (.getfield 144, 3) := by decide +kernel
theorem dX9_apart_62 : decode cX9_apart 62 = .ok (.invokevirtual 155, 3) := by decide +kernel
theorem dX9_apart_65 : decode cX9_apart 65 = .ok (.ifCond .eq 7, 3) := by decide +kernel
theorem dX9_apart_68 : decode cX9_apart 68 = .ok (.iconst 1, 1) := by decide +kernel
theorem dX9_apart_69 : decode cX9_apart 69 = .ok (.goto 4, 3) := by decide +kernel
theorem dX9_apart_72 : decode cX9_apart 72 = .ok (.iconst 0, 1) := by decide +kernel
theorem dX9_apart_73 : decode cX9_apart 73 = .ok (.istore_n 2, 1) := by decide +kernel
theorem dX9_apart_74 : decode cX9_apart 74 = .ok (.iload_n 2, 1) := by decide +kernel
theorem dX9_apart_75 : decode cX9_apart 75 = .ok (.iload_n 1, 1) := by decide +kernel
theorem dX9_apart_76 : decode cX9_apart 76 = .ok (.iconst (-1), 1) := by decide +kernel
theorem dX9_apart_77 : decode cX9_apart 77 = .ok (.if_icmp .ne 7, 3) := by decide +kernel
theorem dX9_apart_80 : decode cX9_apart 80 = .ok (.iconst 0, 1) := by decide +kernel
theorem dX9_apart_81 : decode cX9_apart 81 = .ok (.goto 7, 3) := by decide +kernel
theorem dX9_apart_84 : decode cX9_apart 84 = .ok (.iload_n 1, 1) := by decide +kernel
theorem dX9_apart_85 : decode cX9_apart 85 = .ok (.invokestatic 159, 3) := by decide +kernel
theorem dX9_apart_88 : decode cX9_apart 88 = .ok (.iadd, 1) := by decide +kernel
theorem dX9_apart_89 : decode cX9_apart 89 = .ok (.ireturn, 1) := by decide +kernel
theorem dX9_cut_0 : decode cX9_cut 0 = .ok (.aload_n 0, 1) := by decide +kernel
theorem dX9_cut_1 : decode cX9_cut 1 = .ok (.getfield 23, 3) := by decide +kernel
theorem dX9_cut_4 : decode cX9_cut 4 = .ok (.invokevirtual 137, 3) := by decide +kernel
theorem dX9_cut_7 : decode cX9_cut 7 = .ok (.ifCond .eq 28, 3) := by decide +kernel
theorem dX9_cut_10 : decode cX9_cut 10 = .ok (.aload_n 0, 1) := by decide +kernel
theorem dX9_cut_11 : decode cX9_cut 11 = .ok (.aload_n 0, 1) := by decide +kernel
theorem dX9_cut_12 : decode cX9_cut 12 = .ok (.getfield 23, 3) := by decide +kernel
theorem dX9_cut_15 : decode cX9_cut 15 = .ok (.invokevirtual 147, 3) := by decide +kernel
theorem dX9_cut_18 : decode cX9_cut 18 = .ok (.aload_n 0, 1) := by decide +kernel
theorem dX9_cut_19 : decode cX9_cut 19 = .ok (.getfield 23, 3) := by decide +kernel
theorem dX9_cut_22 : decode cX9_cut 22 = .ok (.getfield 165, 3) := by decide +kernel
theorem dX9_cut_25 : decode cX9_cut 25 = .ok (.iconst (-1), 1) := by decide +kernel
theorem dX9_cut_26 : decode cX9_cut 26 = .ok (.ixor, 1) := by decide +kernel
theorem dX9_cut_27 : decode cX9_cut 27 = .ok (.iand, 1) := by decide +kernel
theorem dX9_cut_28 : decode cX9_cut 28 = .ok (.iconst 0, 1) := by decide +kernel
theorem dX9_cut_29 : decode cX9_cut 29 = .ok (.invokevirtual 151, 3) := by decide +kernel
theorem dX9_cut_32 : decode cX9_cut 32 = .ok (.goto 4, 3) := by decide +kernel
theorem dX9_cut_35 : decode cX9_cut 35 = .ok (.iconst 0, 1) := by decide +kernel
theorem dX9_cut_36 : decode cX9_cut 36 = .ok (.ireturn, 1) := by decide +kernel
theorem dX9_fall_0 : decode cX9_fall 0 = .ok (.aload_n 0, 1) := by decide +kernel
theorem dX9_fall_1 : decode cX9_fall 1 = .ok (.getfield 23, 3) := by decide +kernel
theorem dX9_fall_4 : decode cX9_fall 4 = .ok (.iload_n 1, 1) := by decide +kernel
theorem dX9_fall_5 : decode cX9_fall 5 = .ok (.invokevirtual 97, 3) := by decide +kernel
theorem dX9_fall_8 : decode cX9_fall 8 = .ok (.ifCond .eq 25, 3) := by decide +kernel
theorem dX9_fall_11 : decode cX9_fall 11 = .ok (.aload_n 0, 1) := by decide +kernel
theorem dX9_fall_12 : decode cX9_fall 12 = .ok (.getfield 23, 3) := by decide +kernel
theorem dX9_fall_15 : decode cX9_fall 15 = .ok (.iload_n 2, 1) := by decide +kernel
theorem dX9_fall_16 : decode cX9_fall 16 = .ok (.invokevirtual 97, 3) := by decide +kernel
theorem dX9_fall_19 : decode cX9_fall 19 = .ok (.ifCond .eq 14, 3) := by decide +kernel
theorem dX9_fall_22 : decode cX9_fall 22 = .ok (.aload_n 0, 1) := by decide +kernel
theorem dX9_fall_23 : decode cX9_fall 23 = .ok (.getfield 23, 3) := by decide +kernel
theorem dX9_fall_26 : decode cX9_fall 26 = .ok (.iload_n 1, 1) := by decide +kernel
theorem dX9_fall_27 : decode cX9_fall 27 = .ok (.invokevirtual 168, 3) := by decide +kernel
theorem dX9_fall_30 : decode cX9_fall 30 = .ok (.ifCond .eq 6, 3) := by decide +kernel
theorem dX9_fall_33 : decode cX9_fall 33 = .ok (.bipush (-2), 2) := by decide +kernel
theorem dX9_fall_35 : decode cX9_fall 35 = .ok (.ireturn, 1) := by decide +kernel
theorem dX9_fall_36 : decode cX9_fall 36 = .ok (.iload_n 3, 1) := by decide +kernel
theorem dX9_fall_37 : decode cX9_fall 37 = .ok (.ifCond .ne 17, 3) := by decide +kernel
theorem dX9_fall_40 : decode cX9_fall 40 = .ok (.aload_n 0, 1) := by decide +kernel
theorem dX9_fall_41 : decode cX9_fall 41 = .ok (.getfield 33, 3) := by decide +kernel
theorem dX9_fall_44 : decode cX9_fall 44 = .ok (.getfield 171, 3) := by decide +kernel
theorem dX9_fall_47 : decode cX9_fall 47 = .ok (.iload_n 1, 1) := by decide +kernel
theorem dX9_fall_48 : decode cX9_fall 48 = .ok (.iload_n 2, 1) := by decide +kernel
theorem dX9_fall_49 : decode cX9_fall 49 = .ok (.invokestatic 174, 3) := by decide +kernel
theorem dX9_fall_52 : decode cX9_fall 52 = .ok (.iaload, 1) := by decide +kernel
theorem dX9_fall_53 : decode cX9_fall 53 = .ok (.ireturn, 1) := by decide +kernel
theorem dX9_fall_54 : decode cX9_fall 54 = .ok (.iload_n 3, 1) := by decide +kernel
theorem dX9_fall_55 : decode cX9_fall 55 = .ok (.iconst 1, 1) := by decide +kernel
theorem dX9_fall_56 : decode cX9_fall 56 = .ok (.if_icmp .ne 19, 3) := by decide +kernel
theorem dX9_fall_59 : decode cX9_fall 59 = .ok (.aload_n 0, 1) := by decide +kernel
theorem dX9_fall_60 : decode cX9_fall 60 = .ok (.getfield 33, 3) := by decide +kernel
theorem dX9_fall_63 : decode cX9_fall 63 = .ok (.getfield 178, 3) := by decide +kernel
theorem dX9_fall_66 : decode cX9_fall 66 = .ok (.iload_n 1, 1) := by decide +kernel
theorem dX9_fall_67 : decode cX9_fall 67 = .ok (.iload_n 2, 1) := by decide +kernel
theorem dX9_fall_68 : decode cX9_fall 68 = .ok (.invokestatic 174, 3) := by decide +kernel
theorem dX9_fall_71 : decode cX9_fall 71 = .ok (.iaload, 1) := by decide +kernel
theorem dX9_fall_72 : decode cX9_fall 72 = .ok (.goto 5, 3) := by decide +kernel
theorem dX9_fall_75 : decode cX9_fall 75 = .ok (.bipush (-2), 2) := by decide +kernel
theorem dX9_fall_77 : decode cX9_fall 77 = .ok (.ireturn, 1) := by decide +kernel
theorem dX9_worst_0 : decode cX9_worst 0 = .ok (.iload_n 1, 1) := by decide +kernel
theorem dX9_worst_1 : decode cX9_worst 1 = .ok (.ifCond .eq 10, 3) := by decide +kernel
theorem dX9_worst_4 : decode cX9_worst 4 = .ok (.iload_n 1, 1) := by decide +kernel
theorem dX9_worst_5 : decode cX9_worst 5 = .ok (.iconst 1, 1) := by decide +kernel
theorem dX9_worst_6 : decode cX9_worst 6 = .ok (.if_icmp .eq 5, 3) := by decide +kernel
theorem dX9_worst_9 : decode cX9_worst 9 = .ok (.iconst (-1), 1) := by decide +kernel
theorem dX9_worst_10 : decode cX9_worst 10 = .ok (.ireturn, 1) := by decide +kernel
theorem dX9_worst_11 : decode cX9_worst 11 = .ok (.iconst (-1), 1) := by decide +kernel
theorem dX9_worst_12 : decode cX9_worst 12 = .ok (.istore_n 2, 1) := by decide +kernel
theorem dX9_worst_13 : decode cX9_worst 13 = .ok (.iconst (-1), 1) := by decide +kernel
theorem dX9_worst_14 : decode cX9_worst 14 = .ok (.istore_n 3, 1) := by decide +kernel
theorem dX9_worst_15 : decode cX9_worst 15 = .ok (.iconst 0, 1) := by decide +kernel
theorem dX9_worst_16 : decode cX9_worst 16 = .ok (.istore 4, 2) := by decide +kernel
theorem dX9_worst_18 : decode cX9_worst 18 = .ok (.iload 4, 2) := by decide +kernel
theorem dX9_worst_20 : decode cX9_worst 20 = .ok (.aload_n 0, 1) := by decide +kernel
theorem dX9_worst_21 : decode cX9_worst 21 = .ok (.getfield 23, 3) := by decide +kernel
theorem dX9_worst_24 : decode cX9_worst 24 = .ok (.getfield 88, 3) := by decide +kernel
theorem dX9_worst_27 : decode cX9_worst 27 = .ok (.if_icmp .ge 49, 3) := by decide +kernel
theorem dX9_worst_30 : decode cX9_worst 30 = .ok (.aload_n 0, 1) := by decide +kernel
theorem dX9_worst_31 : decode cX9_worst 31 = .ok (.getfield 23, 3) := by decide +kernel
theorem dX9_worst_34 : decode cX9_worst 34 = .ok (.iload 4, 2) := by decide +kernel
theorem dX9_worst_36 : decode cX9_worst 36 = .ok (.invokevirtual 168, 3) := by decide +kernel
theorem dX9_worst_39 : decode cX9_worst 39 = .ok (.ifCond .ne 31, 3) := by decide +kernel
theorem dX9_worst_42 : decode cX9_worst 42 = .ok (.aload_n 0, 1) := by decide +kernel
theorem dX9_worst_43 : decode cX9_worst 43 = .ok (.getfield 33, 3) := by decide +kernel
theorem dX9_worst_46 : decode cX9_worst 46 = .ok (.getfield 181, 3) := by decide +kernel
theorem dX9_worst_49 : decode cX9_worst 49 = .ok (.iload 4, 2) := by decide +kernel
theorem dX9_worst_51 : decode cX9_worst 51 = .ok (.iaload, 1) := by decide +kernel
theorem dX9_worst_52 : decode cX9_worst 52 = .ok (.iload_n 3, 1) := by decide +kernel
theorem dX9_worst_53 : decode cX9_worst 53 = .ok (.if_icmp .le 17, 3) := by decide +kernel
theorem dX9_worst_56 : decode cX9_worst 56 = .ok (.aload_n 0, 1) := by decide +kernel
theorem dX9_worst_57 : decode cX9_worst 57 = .ok (.getfield 33, 3) := by decide +kernel
theorem dX9_worst_60 : decode cX9_worst 60 = .ok (.getfield 181, 3) := by decide +kernel
theorem dX9_worst_63 : decode cX9_worst 63 = .ok (.iload 4, 2) := by decide +kernel
theorem dX9_worst_65 : decode cX9_worst 65 = .ok (.iaload, 1) := by decide +kernel
theorem dX9_worst_66 : decode cX9_worst 66 = .ok (.istore_n 3, 1) := by decide +kernel
theorem dX9_worst_67 : decode cX9_worst 67 = .ok (.iload 4, 2) := by decide +kernel
theorem dX9_worst_69 : decode cX9_worst 69 = .ok (.istore_n 2, 1) := by decide +kernel
theorem dX9_worst_70 : decode cX9_worst 70 = .ok (.iinc 4 1, 3) := by decide +kernel
theorem dX9_worst_73 : decode cX9_worst 73 = .ok (.goto (-55), 3) := by decide +kernel
theorem dX9_worst_76 : decode cX9_worst 76 = .ok (.iload_n 1, 1) := by decide +kernel
theorem dX9_worst_77 : decode cX9_worst 77 = .ok (.ifCond .ne 7, 3) := by decide +kernel
theorem dX9_worst_80 : decode cX9_worst 80 = .ok (.iload_n 2, 1) := by decide +kernel
theorem dX9_worst_81 : decode cX9_worst 81 = .ok (.goto 4, 3) := by decide +kernel
theorem dX9_worst_84 : decode cX9_worst 84 = .ok (.iload_n 3, 1) := by decide +kernel
theorem dX9_worst_85 : decode cX9_worst 85 = .ok (.ireturn, 1) := by decide +kernel
theorem dX9_send_0 : decode cX9_send 0 = .ok (.aload_n 0, 1) := by decide +kernel
theorem dX9_send_1 : decode cX9_send 1 = .ok (.getfield 47, 3) := by decide +kernel
theorem dX9_send_4 : decode cX9_send 4 = .ok (.aload_n 0, 1) := by decide +kernel
theorem dX9_send_5 : decode cX9_send 5 = .ok (.getfield 23, 3) := by decide +kernel
theorem dX9_send_8 : decode cX9_send 8 = .ok (.invokevirtual 184, 3) := by decide +kernel
theorem dX9_send_11 : decode cX9_send 11 = .ok (.ireturn, 1) := by decide +kernel
theorem dX9_day_0 : decode cX9_day 0 = .ok (.iload_n 1, 1) := by decide +kernel
theorem dX9_day_1 : decode cX9_day 1 = .ok (.ifCond .lt 24, 3) := by decide +kernel
theorem dX9_day_4 : decode cX9_day 4 = .ok (.iload_n 1, 1) := by decide +kernel
theorem dX9_day_5 : decode cX9_day 5 = .ok (.bipush 99, 2) := by decide +kernel
theorem dX9_day_7 : decode cX9_day 7 = .ok (.if_icmp .gt 18, 3) := by decide +kernel
theorem dX9_day_10 : decode cX9_day 10 = .ok (.aload_n 0, 1) := by decide +kernel
theorem dX9_day_11 : decode cX9_day 11 = .ok (.getfield 47, 3) := by decide +kernel
theorem dX9_day_14 : decode cX9_day 14 = .ok (.getfield 188, 3) := by decide +kernel
theorem dX9_day_17 : decode cX9_day 17 = .ok (.iload_n 1, 1) := by decide +kernel
theorem dX9_day_18 : decode cX9_day 18 = .ok (.iadd, 1) := by decide +kernel
theorem dX9_day_19 : decode cX9_day 19 = .ok (.sipush 1000, 3) := by decide +kernel
theorem dX9_day_22 : decode cX9_day 22 = .ok (.if_icmp .le 5, 3) := by decide +kernel
theorem dX9_day_25 : decode cX9_day 25 = .ok (.iconst (-1), 1) := by decide +kernel
theorem dX9_day_26 : decode cX9_day 26 = .ok (.ireturn, 1) := by decide +kernel
theorem dX9_day_27 : decode cX9_day 27 = .ok (.iconst 0, 1) := by decide +kernel
theorem dX9_day_28 : decode cX9_day 28 = .ok (.istore_n 2, 1) := by decide +kernel
theorem dX9_day_29 : decode cX9_day 29 = .ok (.iload_n 2, 1) := by decide +kernel
theorem dX9_day_30 : decode cX9_day 30 = .ok (.iload_n 1, 1) := by decide +kernel
theorem dX9_day_31 : decode cX9_day 31 = .ok (.if_icmp .ge 20, 3) := by decide +kernel
theorem dX9_day_34 : decode cX9_day 34 = .ok (.aload_n 0, 1) := by decide +kernel
theorem dX9_day_35 : decode cX9_day 35 = .ok (.getfield 47, 3) := by decide +kernel
theorem dX9_day_38 : decode cX9_day 38 = .ok (.aload_n 0, 1) := by decide +kernel
theorem dX9_day_39 : decode cX9_day 39 = .ok (.getfield 23, 3) := by decide +kernel
theorem dX9_day_42 : decode cX9_day 42 = .ok (.invokevirtual 191, 3) := by decide +kernel
theorem dX9_day_45 : decode cX9_day 45 = .ok (.iinc 2 1, 3) := by decide +kernel
theorem dX9_day_48 : decode cX9_day 48 = .ok (.goto (-19), 3) := by decide +kernel
theorem dX9_day_51 : decode cX9_day 51 = .ok (.aload_n 0, 1) := by decide +kernel
theorem dX9_day_52 : decode cX9_day 52 = .ok (.getfield 47, 3) := by decide +kernel
theorem dX9_day_55 : decode cX9_day 55 = .ok (.getfield 188, 3) := by decide +kernel
theorem dX9_day_58 : decode cX9_day 58 = .ok (.ireturn, 1) := by decide +kernel
theorem dX9_take_0 : decode cX9_take 0 = .ok (.aload_n 0, 1) := by decide +kernel
theorem dX9_take_1 : decode cX9_take 1 = .ok (.getfield 23, 3) := by decide +kernel
theorem dX9_take_4 : decode cX9_take 4 = .ok (.iload_n 1, 1) := by decide +kernel
theorem dX9_take_5 : decode cX9_take 5 = .ok (.invokevirtual 97, 3) := by decide +kernel
theorem dX9_take_8 : decode cX9_take 8 = .ok (.ifCond .eq 28, 3) := by decide +kernel
theorem dX9_take_11 : decode cX9_take 11 = .ok (.aload_n 0, 1) := by decide +kernel
theorem dX9_take_12 : decode cX9_take 12 = .ok (.getfield 23, 3) := by decide +kernel
theorem dX9_take_15 : decode cX9_take 15 = .ok (.iload_n 1, 1) := by decide +kernel
theorem dX9_take_16 : decode cX9_take 16 = .ok (.invokevirtual 168, 3) := by decide +kernel
theorem dX9_take_19 : decode cX9_take 19 = .ok (.ifCond .ne 17, 3) := by decide +kernel
theorem dX9_take_22 : decode cX9_take 22 = .ok (.aload_n 0, 1) := by decide +kernel
theorem dX9_take_23 : decode cX9_take 23 = .ok (.getfield 47, 3) := by decide +kernel
theorem dX9_take_26 : decode cX9_take 26 = .ok (.getfield 194, 3) := by decide +kernel
theorem dX9_take_29 : decode cX9_take 29 = .ok (.iload_n 1, 1) := by decide +kernel
theorem dX9_take_30 : decode cX9_take 30 = .ok (.invokevirtual 198, 3) := by decide +kernel
theorem dX9_take_33 : decode cX9_take 33 = .ok (.ifCond .ne 5, 3) := by decide +kernel
theorem dX9_take_36 : decode cX9_take 36 = .ok (.iconst (-1), 1) := by decide +kernel
theorem dX9_take_37 : decode cX9_take 37 = .ok (.ireturn, 1) := by decide +kernel
theorem dX9_take_38 : decode cX9_take 38 = .ok (.aload_n 0, 1) := by decide +kernel
theorem dX9_take_39 : decode cX9_take 39 = .ok (.getfield 47, 3) := by decide +kernel
theorem dX9_take_42 : decode cX9_take 42 = .ok (.getfield 194, 3) := by decide +kernel
theorem dX9_take_45 : decode cX9_take 45 = .ok (.aload_n 0, 1) := by decide +kernel
theorem dX9_take_46 : decode cX9_take 46 = .ok (.getfield 23, 3) := by decide +kernel
theorem dX9_take_49 : decode cX9_take 49 = .ok (.aload_n 0, 1) := by decide +kernel
theorem dX9_take_50 : decode cX9_take 50 = .ok (.getfield 47, 3) := by decide +kernel
theorem dX9_take_53 : decode cX9_take 53 = .ok (.getfield 203, 3) := by decide +kernel
theorem dX9_take_56 : decode cX9_take 56 = .ok (.iconst 1, 1) := by decide +kernel
theorem dX9_take_57 : decode cX9_take 57 = .ok (.iload_n 1, 1) := by decide +kernel
theorem dX9_take_58 : decode cX9_take 58 = .ok (.ishl, 1) := by decide +kernel
theorem dX9_take_59 : decode cX9_take 59 = .ok (.aload_n 0, 1) := by decide +kernel
theorem dX9_take_60 : decode cX9_take 60 = .ok (.getfield 47, 3) := by decide +kernel
theorem dX9_take_63 : decode cX9_take 63 = .ok (.getfield 188, 3) := by decide +kernel
theorem dX9_take_66 : decode cX9_take 66 = .ok (.invokevirtual 204, 3) := by decide +kernel
theorem dX9_take_69 : decode cX9_take 69 = .ok (.ireturn, 1) := by decide +kernel
theorem dX9_meet_0 : decode cX9_meet 0 = .ok (.aload_n 0, 1) := by decide +kernel
theorem dX9_meet_1 : decode cX9_meet 1 = .ok (.getfield 23, 3) := by decide +kernel
theorem dX9_meet_4 : decode cX9_meet 4 = .ok (.iload_n 1, 1) := by decide +kernel
theorem dX9_meet_5 : decode cX9_meet 5 = .ok (.invokevirtual 97, 3) := by decide +kernel
theorem dX9_meet_8 : decode cX9_meet 8 = .ok (.ifCond .eq 25, 3) := by decide +kernel
theorem dX9_meet_11 : decode cX9_meet 11 = .ok (.aload_n 0, 1) := by decide +kernel
theorem dX9_meet_12 : decode cX9_meet 12 = .ok (.getfield 23, 3) := by decide +kernel
theorem dX9_meet_15 : decode cX9_meet 15 = .ok (.iload_n 2, 1) := by decide +kernel
theorem dX9_meet_16 : decode cX9_meet 16 = .ok (.invokevirtual 97, 3) := by decide +kernel
theorem dX9_meet_19 : decode cX9_meet 19 = .ok (.ifCond .eq 14, 3) := by decide +kernel
theorem dX9_meet_22 : decode cX9_meet 22 = .ok (.aload_n 0, 1) := by decide +kernel
theorem dX9_meet_23 : decode cX9_meet 23 = .ok (.getfield 23, 3) := by decide +kernel
theorem dX9_meet_26 : decode cX9_meet 26 = .ok (.iload_n 3, 1) := by decide +kernel
theorem dX9_meet_27 : decode cX9_meet 27 = .ok (.invokevirtual 97, 3) := by decide +kernel
theorem dX9_meet_30 : decode cX9_meet 30 = .ok (.ifCond .ne 5, 3) := by decide +kernel
theorem dX9_meet_33 : decode cX9_meet 33 = .ok (.iconst 0, 1) := by decide +kernel
theorem dX9_meet_34 : decode cX9_meet 34 = .ok (.ireturn, 1) := by decide +kernel
theorem dX9_meet_35 : decode cX9_meet 35 = .ok (.aload_n 0, 1) := by decide +kernel
theorem dX9_meet_36 : decode cX9_meet 36 = .ok (.getfield 47, 3) := by decide +kernel
theorem dX9_meet_39 : decode cX9_meet 39 = .ok (.iload_n 1, 1) := by decide +kernel
theorem dX9_meet_40 : decode cX9_meet 40 = .ok (.iload_n 2, 1) := by decide +kernel
theorem dX9_meet_41 : decode cX9_meet 41 = .ok (.iload_n 3, 1) := by decide +kernel
theorem dX9_meet_42 : decode cX9_meet 42 = .ok (.invokevirtual 208, 3) := by decide +kernel
theorem dX9_meet_45 : decode cX9_meet 45 = .ok (.ifCond .ne 5, 3) := by decide +kernel
theorem dX9_meet_48 : decode cX9_meet 48 = .ok (.iconst 0, 1) := by decide +kernel
theorem dX9_meet_49 : decode cX9_meet 49 = .ok (.ireturn, 1) := by decide +kernel
theorem dX9_meet_50 : decode cX9_meet 50 = .ok (.aload_n 0, 1) := by decide +kernel
theorem dX9_meet_51 : decode cX9_meet 51 = .ok (.getfield 47, 3) := by decide +kernel
theorem dX9_meet_54 : decode cX9_meet 54 = .ok (.iload_n 1, 1) := by decide +kernel
theorem dX9_meet_55 : decode cX9_meet 55 = .ok (.iload_n 2, 1) := by decide +kernel
theorem dX9_meet_56 : decode cX9_meet 56 = .ok (.invokevirtual 212, 3) := by decide +kernel
theorem dX9_meet_59 : decode cX9_meet 59 = .ok (.iconst 1, 1) := by decide +kernel
theorem dX9_meet_60 : decode cX9_meet 60 = .ok (.ireturn, 1) := by decide +kernel
theorem dX9_one_0 : decode cX9_one 0 = .ok (.aload_n 0, 1) := by decide +kernel
theorem dX9_one_1 : decode cX9_one 1 = .ok (.getfield 23, 3) := by decide +kernel
theorem dX9_one_4 : decode cX9_one 4 = .ok (.iload_n 1, 1) := by decide +kernel
theorem dX9_one_5 : decode cX9_one 5 = .ok (.invokevirtual 97, 3) := by decide +kernel
theorem dX9_one_8 : decode cX9_one 8 = .ok (.ifCond .ne 5, 3) := by decide +kernel
theorem dX9_one_11 : decode cX9_one 11 = .ok (.iconst (-1), 1) := by decide +kernel
theorem dX9_one_12 : decode cX9_one 12 = .ok (.ireturn, 1) := by decide +kernel
theorem dX9_one_13 : decode cX9_one 13 = .ok (.iload_n 2, 1) := by decide +kernel
theorem dX9_one_14 : decode cX9_one 14 = .ok (.tableswitch 61 0 2 #[26, 38, 51], 26) := by decide +kernel
theorem dX9_one_40 : decode cX9_one 40 = .ok (.aload_n 0, 1) := by decide +kernel
theorem dX9_one_41 : decode cX9_one 41 = .ok (.getfield 47, 3) := by decide +kernel
theorem dX9_one_44 : decode cX9_one 44 = .ok (.getfield 194, 3) := by decide +kernel
theorem dX9_one_47 : decode cX9_one 47 = .ok (.iload_n 1, 1) := by decide +kernel
theorem dX9_one_48 : decode cX9_one 48 = .ok (.invokevirtual 216, 3) := by decide +kernel
theorem dX9_one_51 : decode cX9_one 51 = .ok (.ireturn, 1) := by decide +kernel
theorem dX9_one_52 : decode cX9_one 52 = .ok (.aload_n 0, 1) := by decide +kernel
theorem dX9_one_53 : decode cX9_one 53 = .ok (.getfield 47, 3) := by decide +kernel
theorem dX9_one_56 : decode cX9_one 56 = .ok (.getfield 194, 3) := by decide +kernel
theorem dX9_one_59 : decode cX9_one 59 = .ok (.getfield 219, 3) := by decide +kernel
theorem dX9_one_62 : decode cX9_one 62 = .ok (.iload_n 1, 1) := by decide +kernel
theorem dX9_one_63 : decode cX9_one 63 = .ok (.iaload, 1) := by decide +kernel
theorem dX9_one_64 : decode cX9_one 64 = .ok (.ireturn, 1) := by decide +kernel
theorem dX9_one_65 : decode cX9_one 65 = .ok (.aload_n 0, 1) := by decide +kernel
theorem dX9_one_66 : decode cX9_one 66 = .ok (.getfield 47, 3) := by decide +kernel
theorem dX9_one_69 : decode cX9_one 69 = .ok (.getfield 203, 3) := by decide +kernel
theorem dX9_one_72 : decode cX9_one 72 = .ok (.iload_n 1, 1) := by decide +kernel
theorem dX9_one_73 : decode cX9_one 73 = .ok (.iaload, 1) := by decide +kernel
theorem dX9_one_74 : decode cX9_one 74 = .ok (.ireturn, 1) := by decide +kernel
theorem dX9_one_75 : decode cX9_one 75 = .ok (.iconst (-1), 1) := by decide +kernel
theorem dX9_one_76 : decode cX9_one 76 = .ok (.ireturn, 1) := by decide +kernel
theorem dX9_thing_0 : decode cX9_thing 0 = .ok (.iload_n 1, 1) := by decide +kernel
theorem dX9_thing_1 : decode cX9_thing 1 = .ok (.ifCond .lt 17, 3) := by decide +kernel
theorem dX9_thing_4 : decode cX9_thing 4 = .ok (.iload_n 1, 1) := by decide +kernel
theorem dX9_thing_5 : decode cX9_thing 5 = .ok (.aload_n 0, 1) := by decide +kernel
theorem dX9_thing_6 : decode cX9_thing 6 = .ok (.getfield 47, 3) := by decide +kernel
theorem dX9_thing_9 : decode cX9_thing 9 = .ok (.getfield 222, 3) := by decide +kernel
theorem dX9_thing_12 : decode cX9_thing 12 = .ok (.getfield 226, 3) := by decide +kernel
theorem dX9_thing_15 : decode cX9_thing 15 = .ok (.if_icmp .lt 6, 3) := by decide +kernel
theorem dX9_thing_18 : decode cX9_thing 18 = .ok (.bipush (-4), 2) := by decide +kernel
theorem dX9_thing_20 : decode cX9_thing 20 = .ok (.ireturn, 1) := by decide +kernel
theorem dX9_thing_21 : decode cX9_thing 21 = .ok (.iload_n 2, 1) := by decide +kernel
theorem dX9_thing_22 : decode cX9_thing 22 = .ok (.tableswitch 99 0 4 #[34, 47, 60, 73, 86], 34) := by decide +kernel
theorem dX9_thing_56 : decode cX9_thing 56 = .ok (.aload_n 0, 1) := by decide +kernel
theorem dX9_thing_57 : decode cX9_thing 57 = .ok (.getfield 47, 3) := by decide +kernel
theorem dX9_thing_60 : decode cX9_thing 60 = .ok (.getfield 222, 3) := by decide +kernel
theorem dX9_thing_63 : decode cX9_thing 63 = .ok (.getfield 231, 3) := by decide +kernel
theorem dX9_thing_66 : decode cX9_thing 66 = .ok (.iload_n 1, 1) := by decide +kernel
theorem dX9_thing_67 : decode cX9_thing 67 = .ok (.iaload, 1) := by decide +kernel
theorem dX9_thing_68 : decode cX9_thing 68 = .ok (.ireturn, 1) := by decide +kernel
theorem dX9_thing_69 : decode cX9_thing 69 = .ok (.aload_n 0, 1) := by decide +kernel
theorem dX9_thing_70 : decode cX9_thing 70 = .ok (.getfield 47, 3) := by decide +kernel
theorem dX9_thing_73 : decode cX9_thing 73 = .ok (.getfield 222, 3) := by decide +kernel
theorem dX9_thing_76 : decode cX9_thing 76 = .ok (.getfield 234, 3) := by decide +kernel
theorem dX9_thing_79 : decode cX9_thing 79 = .ok (.iload_n 1, 1) := by decide +kernel
theorem dX9_thing_80 : decode cX9_thing 80 = .ok (.iaload, 1) := by decide +kernel
theorem dX9_thing_81 : decode cX9_thing 81 = .ok (.ireturn, 1) := by decide +kernel
theorem dX9_thing_82 : decode cX9_thing 82 = .ok (.aload_n 0, 1) := by decide +kernel
theorem dX9_thing_83 : decode cX9_thing 83 = .ok (.getfield 47, 3) := by decide +kernel
theorem dX9_thing_86 : decode cX9_thing 86 = .ok (.getfield 222, 3) := by decide +kernel
theorem dX9_thing_89 : decode cX9_thing 89 = .ok (.getfield 237, 3) := by decide +kernel
theorem dX9_thing_92 : decode cX9_thing 92 = .ok (.iload_n 1, 1) := by decide +kernel
theorem dX9_thing_93 : decode cX9_thing 93 = .ok (.iaload, 1) := by decide +kernel
theorem dX9_thing_94 : decode cX9_thing 94 = .ok (.ireturn, 1) := by decide +kernel
theorem dX9_thing_95 : decode cX9_thing 95 = .ok (.aload_n 0, 1) := by decide +kernel
theorem dX9_thing_96 : decode cX9_thing 96 = .ok (.getfield 47, 3) := by decide +kernel
theorem dX9_thing_99 : decode cX9_thing 99 = .ok (.getfield 222, 3) := by decide +kernel
theorem dX9_thing_102 : decode cX9_thing 102 = .ok (.getfield 240, 3) := by decide +kernel
theorem dX9_thing_105 : decode cX9_thing 105 = .ok (.iload_n 1, 1) := by decide +kernel
theorem dX9_thing_106 : decode cX9_thing 106 = .ok (.iaload, 1) := by decide +kernel
theorem dX9_thing_107 : decode cX9_thing 107 = .ok (.ireturn, 1) := by decide +kernel
theorem dX9_thing_108 : decode cX9_thing 108 = .ok (.aload_n 0, 1) := by decide +kernel
theorem dX9_thing_109 : decode cX9_thing 109 = .ok (.getfield 47, 3) := by decide +kernel
theorem dX9_thing_112 : decode cX9_thing 112 = .ok (.getfield 222, 3) := by decide +kernel
theorem dX9_thing_115 : decode cX9_thing 115 = .ok (.getfield 243, 3) := by decide +kernel
theorem dX9_thing_118 : decode cX9_thing 118 = .ok (.iload_n 1, 1) := by decide +kernel
theorem dX9_thing_119 : decode cX9_thing 119 = .ok (.iaload, 1) := by decide +kernel
theorem dX9_thing_120 : decode cX9_thing 120 = .ok (.ireturn, 1) := by decide +kernel
theorem dX9_thing_121 : decode cX9_thing 121 = .ok (.bipush (-4), 2) := by decide +kernel
theorem dX9_thing_123 : decode cX9_thing 123 = .ok (.ireturn, 1) := by decide +kernel
theorem dX9_gap_0 : decode cX9_gap 0 = .ok (.aload_n 0, 1) := by decide +kernel
theorem dX9_gap_1 : decode cX9_gap 1 = .ok (.getfield 23, 3) := by decide +kernel
theorem dX9_gap_4 : decode cX9_gap 4 = .ok (.invokevirtual 137, 3) := by decide +kernel
theorem dX9_gap_7 : decode cX9_gap 7 = .ok (.ifCond .eq 43, 3) := by decide +kernel
theorem dX9_gap_10 : decode cX9_gap 10 = .ok (.aload_n 0, 1) := by decide +kernel
theorem dX9_gap_11 : decode cX9_gap 11 = .ok (.getfield 47, 3) := by decide +kernel
theorem dX9_gap_14 : decode cX9_gap 14 = .ok (.getfield 194, 3) := by decide +kernel
theorem dX9_gap_17 : decode cX9_gap 17 = .ok (.aload_n 0, 1) := by decide +kernel
theorem dX9_gap_18 : decode cX9_gap 18 = .ok (.getfield 23, 3) := by decide +kernel
theorem dX9_gap_21 : decode cX9_gap 21 = .ok (.getfield 141, 3) := by decide +kernel
theorem dX9_gap_24 : decode cX9_gap 24 = .ok (.invokevirtual 198, 3) := by decide +kernel
theorem dX9_gap_27 : decode cX9_gap 27 = .ok (.ifCond .eq 23, 3) := by decide +kernel
theorem dX9_gap_30 : decode cX9_gap 30 = .ok (.aload_n 0, 1) := by decide +kernel
theorem dX9_gap_31 : decode cX9_gap 31 = .ok (.getfield 47, 3) := by decide +kernel
theorem dX9_gap_34 : decode cX9_gap 34 = .ok (.getfield 194, 3) := by decide +kernel
theorem dX9_gap_37 : decode cX9_gap 37 = .ok (.aload_n 0, 1) := by decide +kernel
theorem dX9_gap_38 : decode cX9_gap 38 = .ok (.getfield 23, 3) := by decide +kernel
theorem dX9_gap_41 : decode cX9_gap 41 = .ok (.getfield 144, 3) := by decide +kernel
theorem dX9_gap_44 : decode cX9_gap 44 = .ok (.invokevirtual 198, 3) := by decide +kernel
theorem dX9_gap_47 : decode cX9_gap 47 = .ok (.ifCond .ne 12, 3) := by decide +kernel
theorem dX9_gap_50 : decode cX9_gap 50 = .ok (.aload_n 0, 1) := by decide +kernel
theorem dX9_gap_51 : decode cX9_gap 51 = .ok (.getfield 40, 3) := by decide +kernel
theorem dX9_gap_54 : decode cX9_gap 54 = .ok (.invokevirtual 78, 3) := by decide +kernel
theorem dX9_gap_57 : decode cX9_gap 57 = .ok (.iconst (-1), 1) := by decide +kernel
theorem dX9_gap_58 : decode cX9_gap 58 = .ok (.ireturn, 1) := by decide +kernel
theorem dX9_gap_59 : decode cX9_gap 59 = .ok (.aload_n 0, 1) := by decide +kernel
theorem dX9_gap_60 : decode cX9_gap 60 = .ok (.getfield 40, 3) := by decide +kernel
theorem dX9_gap_63 : decode cX9_gap 63 = .ok (.aload_n 0, 1) := by decide +kernel
theorem dX9_gap_64 : decode cX9_gap 64 = .ok (.getfield 23, 3) := by decide +kernel
theorem dX9_gap_67 : decode cX9_gap 67 = .ok (.aload_n 0, 1) := by decide +kernel
theorem dX9_gap_68 : decode cX9_gap 68 = .ok (.getfield 47, 3) := by decide +kernel
theorem dX9_gap_71 : decode cX9_gap 71 = .ok (.invokevirtual 246, 3) := by decide +kernel
theorem dX9_gap_74 : decode cX9_gap 74 = .ok (.aload_n 0, 1) := by decide +kernel
theorem dX9_gap_75 : decode cX9_gap 75 = .ok (.getfield 40, 3) := by decide +kernel
theorem dX9_gap_78 : decode cX9_gap 78 = .ok (.aload_n 0, 1) := by decide +kernel
theorem dX9_gap_79 : decode cX9_gap 79 = .ok (.getfield 23, 3) := by decide +kernel
theorem dX9_gap_82 : decode cX9_gap 82 = .ok (.invokevirtual 108, 3) := by decide +kernel
theorem dX9_gap_85 : decode cX9_gap 85 = .ok (.lstore_n 1, 1) := by decide +kernel
theorem dX9_gap_86 : decode cX9_gap 86 = .ok (.lload_n 1, 1) := by decide +kernel
theorem dX9_gap_87 : decode cX9_gap 87 = .ok (.ldc2_w 112, 3) := by decide +kernel
theorem dX9_gap_90 : decode cX9_gap 90 = .ok (.lcmp, 1) := by decide +kernel
theorem dX9_gap_91 : decode cX9_gap 91 = .ok (.ifCond .ne 7, 3) := by decide +kernel
theorem dX9_gap_94 : decode cX9_gap 94 = .ok (.iconst (-1), 1) := by decide +kernel
theorem dX9_gap_95 : decode cX9_gap 95 = .ok (.goto 5, 3) := by decide +kernel
theorem dX9_gap_98 : decode cX9_gap 98 = .ok (.lload_n 1, 1) := by decide +kernel
theorem dX9_gap_99 : decode cX9_gap 99 = .ok (.l2i, 1) := by decide +kernel
theorem dX9_gap_100 : decode cX9_gap 100 = .ok (.ireturn, 1) := by decide +kernel
theorem dX9_late_0 : decode cX9_late 0 = .ok (.iload_n 1, 1) := by decide +kernel
theorem dX9_late_1 : decode cX9_late 1 = .ok (.aload_n 0, 1) := by decide +kernel
theorem dX9_late_2 : decode cX9_late 2 = .ok (.getfield 23, 3) := by decide +kernel
theorem dX9_late_5 : decode cX9_late 5 = .ok (.invokevirtual 250, 3) := by decide +kernel
theorem dX9_late_8 : decode cX9_late 8 = .ok (.iconst (-1), 1) := by decide +kernel
theorem dX9_late_9 : decode cX9_late 9 = .ok (.ixor, 1) := by decide +kernel
theorem dX9_late_10 : decode cX9_late 10 = .ok (.iand, 1) := by decide +kernel
theorem dX9_late_11 : decode cX9_late 11 = .ok (.ifCond .eq 5, 3) := by decide +kernel
theorem dX9_late_14 : decode cX9_late 14 = .ok (.iconst (-1), 1) := by decide +kernel
theorem dX9_late_15 : decode cX9_late 15 = .ok (.ireturn, 1) := by decide +kernel
theorem dX9_late_16 : decode cX9_late 16 = .ok (.aload_n 0, 1) := by decide +kernel
theorem dX9_late_17 : decode cX9_late 17 = .ok (.getfield 58, 3) := by decide +kernel
theorem dX9_late_20 : decode cX9_late 20 = .ok (.iconst (-1), 1) := by decide +kernel
theorem dX9_late_21 : decode cX9_late 21 = .ok (.iload_n 1, 1) := by decide +kernel
theorem dX9_late_22 : decode cX9_late 22 = .ok (.iload_n 2, 1) := by decide +kernel
theorem dX9_late_23 : decode cX9_late 23 = .ok (.invokevirtual 253, 3) := by decide +kernel
theorem dX9_late_26 : decode cX9_late 26 = .ok (.ireturn, 1) := by decide +kernel
theorem dX9_taken_0 : decode cX9_taken 0 = .ok (.aload_n 0, 1) := by decide +kernel
theorem dX9_taken_1 : decode cX9_taken 1 = .ok (.getfield 23, 3) := by decide +kernel
theorem dX9_taken_4 : decode cX9_taken 4 = .ok (.iload_n 1, 1) := by decide +kernel
theorem dX9_taken_5 : decode cX9_taken 5 = .ok (.invokevirtual 97, 3) := by decide +kernel
theorem dX9_taken_8 : decode cX9_taken 8 = .ok (.ifCond .eq 14, 3) := by decide +kernel
theorem dX9_taken_11 : decode cX9_taken 11 = .ok (.aload_n 0, 1) := by decide +kernel
theorem dX9_taken_12 : decode cX9_taken 12 = .ok (.getfield 23, 3) := by decide +kernel
theorem dX9_taken_15 : decode cX9_taken 15 = .ok (.iload_n 1, 1) := by decide +kernel
theorem dX9_taken_16 : decode cX9_taken 16 = .ok (.invokevirtual 168, 3) := by decide +kernel
theorem dX9_taken_19 : decode cX9_taken 19 = .ok (.ifCond .eq 5, 3) := by decide +kernel
theorem dX9_taken_22 : decode cX9_taken 22 = .ok (.iconst (-1), 1) := by decide +kernel
theorem dX9_taken_23 : decode cX9_taken 23 = .ok (.ireturn, 1) := by decide +kernel
theorem dX9_taken_24 : decode cX9_taken 24 = .ok (.aload_n 0, 1) := by decide +kernel
theorem dX9_taken_25 : decode cX9_taken 25 = .ok (.getfield 58, 3) := by decide +kernel
theorem dX9_taken_28 : decode cX9_taken 28 = .ok (.iload_n 1, 1) := by decide +kernel
theorem dX9_taken_29 : decode cX9_taken 29 = .ok (.iconst 0, 1) := by decide +kernel
theorem dX9_taken_30 : decode cX9_taken 30 = .ok (.iload_n 2, 1) := by decide +kernel
theorem dX9_taken_31 : decode cX9_taken 31 = .ok (.invokevirtual 253, 3) := by decide +kernel
theorem dX9_taken_34 : decode cX9_taken 34 = .ok (.ireturn, 1) := by decide +kernel
theorem dX9_untell_0 : decode cX9_untell 0 = .ok (.aload_n 0, 1) := by decide +kernel
theorem dX9_untell_1 : decode cX9_untell 1 = .ok (.getfield 58, 3) := by decide +kernel
theorem dX9_untell_4 : decode cX9_untell 4 = .ok (.iload_n 1, 1) := by decide +kernel
theorem dX9_untell_5 : decode cX9_untell 5 = .ok (.invokevirtual 257, 3) := by decide +kernel
theorem dX9_untell_8 : decode cX9_untell 8 = .ok (.ireturn, 1) := by decide +kernel
theorem dX9_later_0 : decode cX9_later 0 = .ok (.iload_n 1, 1) := by decide +kernel
theorem dX9_later_1 : decode cX9_later 1 = .ok (.ifCond .lt 25, 3) := by decide +kernel
theorem dX9_later_4 : decode cX9_later 4 = .ok (.iload_n 1, 1) := by decide +kernel
theorem dX9_later_5 : decode cX9_later 5 = .ok (.sipush 1000, 3) := by decide +kernel
theorem dX9_later_8 : decode cX9_later 8 = .ok (.if_icmp .gt 18, 3) := by decide +kernel
theorem dX9_later_11 : decode cX9_later 11 = .ok (.aload_n 0, 1) := by decide +kernel
theorem dX9_later_12 : decode cX9_later 12 = .ok (.getfield 58, 3) := by decide +kernel
theorem dX9_later_15 : decode cX9_later 15 = .ok (.getfield 260, 3) := by decide +kernel
theorem dX9_later_18 : decode cX9_later 18 = .ok (.iload_n 1, 1) := by decide +kernel
theorem dX9_later_19 : decode cX9_later 19 = .ok (.iadd, 1) := by decide +kernel
theorem dX9_later_20 : decode cX9_later 20 = .ok (.ldc_w 263, 3) := by decide +kernel
theorem dX9_later_23 : decode cX9_later 23 = .ok (.if_icmp .le 5, 3) := by decide +kernel
theorem dX9_later_26 : decode cX9_later 26 = .ok (.iconst (-1), 1) := by decide +kernel
theorem dX9_later_27 : decode cX9_later 27 = .ok (.ireturn, 1) := by decide +kernel
theorem dX9_later_28 : decode cX9_later 28 = .ok (.aload_n 0, 1) := by decide +kernel
theorem dX9_later_29 : decode cX9_later 29 = .ok (.getfield 58, 3) := by decide +kernel
theorem dX9_later_32 : decode cX9_later 32 = .ok (.dup, 1) := by decide +kernel
theorem dX9_later_33 : decode cX9_later 33 = .ok (.getfield 260, 3) := by decide +kernel
theorem dX9_later_36 : decode cX9_later 36 = .ok (.iload_n 1, 1) := by decide +kernel
theorem dX9_later_37 : decode cX9_later 37 = .ok (.iadd, 1) := by decide +kernel
theorem dX9_later_38 : decode cX9_later 38 = .ok (.putfield 260, 3) := by decide +kernel
theorem dX9_later_41 : decode cX9_later 41 = .ok (.aload_n 0, 1) := by decide +kernel
theorem dX9_later_42 : decode cX9_later 42 = .ok (.getfield 58, 3) := by decide +kernel
theorem dX9_later_45 : decode cX9_later 45 = .ok (.getfield 260, 3) := by decide +kernel
theorem dX9_later_48 : decode cX9_later 48 = .ok (.ireturn, 1) := by decide +kernel
theorem dX9_spies_0 : decode cX9_spies 0 = .ok (.iload_n 1, 1) := by decide +kernel
theorem dX9_spies_1 : decode cX9_spies 1 = .ok (.ifCond .lt 8, 3) := by decide +kernel
theorem dX9_spies_4 : decode cX9_spies 4 = .ok (.iload_n 1, 1) := by decide +kernel
theorem dX9_spies_5 : decode cX9_spies 5 = .ok (.iconst 2, 1) := by decide +kernel
theorem dX9_spies_6 : decode cX9_spies 6 = .ok (.if_icmp .le 5, 3) := by decide +kernel
theorem dX9_spies_9 : decode cX9_spies 9 = .ok (.iconst (-1), 1) := by decide +kernel
theorem dX9_spies_10 : decode cX9_spies 10 = .ok (.ireturn, 1) := by decide +kernel
theorem dX9_spies_11 : decode cX9_spies 11 = .ok (.iconst 0, 1) := by decide +kernel
theorem dX9_spies_12 : decode cX9_spies 12 = .ok (.istore_n 3, 1) := by decide +kernel
theorem dX9_spies_13 : decode cX9_spies 13 = .ok (.aload_n 0, 1) := by decide +kernel
theorem dX9_spies_14 : decode cX9_spies 14 = .ok (.getfield 23, 3) := by decide +kernel
theorem dX9_spies_17 : decode cX9_spies 17 = .ok (.invokevirtual 250, 3) := by decide +kernel
theorem dX9_spies_20 : decode cX9_spies 20 = .ok (.istore 4, 2) := by decide +kernel
theorem dX9_spies_22 : decode cX9_spies 22 = .ok (.iconst 0, 1) := by decide +kernel
theorem dX9_spies_23 : decode cX9_spies 23 = .ok (.istore 5, 2) := by decide +kernel
theorem dX9_spies_25 : decode cX9_spies 25 = .ok (.iconst 0, 1) := by decide +kernel
theorem dX9_spies_26 : decode cX9_spies 26 = .ok (.istore 6, 2) := by decide +kernel
theorem dX9_spies_28 : decode cX9_spies 28 = .ok (.iload 6, 2) := by decide +kernel
theorem dX9_spies_30 : decode cX9_spies 30 = .ok (.aload_n 0, 1) := by decide +kernel
theorem dX9_spies_31 : decode cX9_spies 31 = .ok (.getfield 23, 3) := by decide +kernel
theorem dX9_spies_34 : decode cX9_spies 34 = .ok (.invokevirtual 250, 3) := by decide +kernel
theorem dX9_spies_37 : decode cX9_spies 37 = .ok (.if_icmp .gt 68, 3) := by decide +kernel
theorem dX9_spies_40 : decode cX9_spies 40 = .ok (.iload 6, 2) := by decide +kernel
theorem dX9_spies_42 : decode cX9_spies 42 = .ok (.aload_n 0, 1) := by decide +kernel
theorem dX9_spies_43 : decode cX9_spies 43 = .ok (.getfield 23, 3) := by decide +kernel
theorem dX9_spies_46 : decode cX9_spies 46 = .ok (.getfield 165, 3) := by decide +kernel
theorem dX9_spies_49 : decode cX9_spies 49 = .ok (.iand, 1) := by decide +kernel
theorem dX9_spies_50 : decode cX9_spies 50 = .ok (.ifCond .ne 49, 3) := by decide +kernel
theorem dX9_spies_53 : decode cX9_spies 53 = .ok (.iload 6, 2) := by decide +kernel
theorem dX9_spies_55 : decode cX9_spies 55 = .ok (.invokestatic 159, 3) := by decide +kernel
theorem dX9_spies_58 : decode cX9_spies 58 = .ok (.iconst 3, 1) := by decide +kernel
theorem dX9_spies_59 : decode cX9_spies 59 = .ok (.if_icmp .gt 40, 3) := by decide +kernel
theorem dX9_spies_62 : decode cX9_spies 62 = .ok (.aload_n 0, 1) := by decide +kernel
theorem dX9_spies_63 : decode cX9_spies 63 = .ok (.getfield 58, 3) := by decide +kernel
theorem dX9_spies_66 : decode cX9_spies 66 = .ok (.iload 6, 2) := by decide +kernel
theorem dX9_spies_68 : decode cX9_spies 68 = .ok (.aload_n 0, 1) := by decide +kernel
theorem dX9_spies_69 : decode cX9_spies 69 = .ok (.getfield 23, 3) := by decide +kernel
theorem dX9_spies_72 : decode cX9_spies 72 = .ok (.getfield 264, 3) := by decide +kernel
theorem dX9_spies_75 : decode cX9_spies 75 = .ok (.iload_n 2, 1) := by decide +kernel
theorem dX9_spies_76 : decode cX9_spies 76 = .ok (.invokevirtual 267, 3) := by decide +kernel
theorem dX9_spies_79 : decode cX9_spies 79 = .ok (.ifCond .eq 20, 3) := by decide +kernel
theorem dX9_spies_82 : decode cX9_spies 82 = .ok (.iinc 3 1, 3) := by decide +kernel
theorem dX9_spies_85 : decode cX9_spies 85 = .ok (.iload 4, 2) := by decide +kernel
theorem dX9_spies_87 : decode cX9_spies 87 = .ok (.iload 6, 2) := by decide +kernel
theorem dX9_spies_89 : decode cX9_spies 89 = .ok (.iand, 1) := by decide +kernel
theorem dX9_spies_90 : decode cX9_spies 90 = .ok (.istore 4, 2) := by decide +kernel
theorem dX9_spies_92 : decode cX9_spies 92 = .ok (.iload 5, 2) := by decide +kernel
theorem dX9_spies_94 : decode cX9_spies 94 = .ok (.iload 6, 2) := by decide +kernel
theorem dX9_spies_96 : decode cX9_spies 96 = .ok (.ior, 1) := by decide +kernel
theorem dX9_spies_97 : decode cX9_spies 97 = .ok (.istore 5, 2) := by decide +kernel
theorem dX9_spies_99 : decode cX9_spies 99 = .ok (.iinc 6 1, 3) := by decide +kernel
theorem dX9_spies_102 : decode cX9_spies 102 = .ok (.goto (-74), 3) := by decide +kernel
theorem dX9_spies_105 : decode cX9_spies 105 = .ok (.iload_n 1, 1) := by decide +kernel
theorem dX9_spies_106 : decode cX9_spies 106 = .ok (.ifCond .eq 7, 3) := by decide +kernel
theorem dX9_spies_109 : decode cX9_spies 109 = .ok (.iload_n 3, 1) := by decide +kernel
theorem dX9_spies_110 : decode cX9_spies 110 = .ok (.ifCond .ne 5, 3) := by decide +kernel
theorem dX9_spies_113 : decode cX9_spies 113 = .ok (.iload_n 3, 1) := by decide +kernel
theorem dX9_spies_114 : decode cX9_spies 114 = .ok (.ireturn, 1) := by decide +kernel
theorem dX9_spies_115 : decode cX9_spies 115 = .ok (.iload_n 1, 1) := by decide +kernel
theorem dX9_spies_116 : decode cX9_spies 116 = .ok (.iconst 1, 1) := by decide +kernel
theorem dX9_spies_117 : decode cX9_spies 117 = .ok (.if_icmp .ne 8, 3) := by decide +kernel
theorem dX9_spies_120 : decode cX9_spies 120 = .ok (.iload 4, 2) := by decide +kernel
theorem dX9_spies_122 : decode cX9_spies 122 = .ok (.goto 5, 3) := by decide +kernel
theorem dX9_spies_125 : decode cX9_spies 125 = .ok (.iload 5, 2) := by decide +kernel
theorem dX9_spies_127 : decode cX9_spies 127 = .ok (.ireturn, 1) := by decide +kernel
theorem dX9_origins_0 : decode cX9_origins 0 = .ok (.iload_n 1, 1) := by decide +kernel
theorem dX9_origins_1 : decode cX9_origins 1 = .ok (.ifCond .lt 8, 3) := by decide +kernel
theorem dX9_origins_4 : decode cX9_origins 4 = .ok (.iload_n 1, 1) := by decide +kernel
theorem dX9_origins_5 : decode cX9_origins 5 = .ok (.iconst 2, 1) := by decide +kernel
theorem dX9_origins_6 : decode cX9_origins 6 = .ok (.if_icmp .le 5, 3) := by decide +kernel
theorem dX9_origins_9 : decode cX9_origins 9 = .ok (.iconst (-1), 1) := by decide +kernel
theorem dX9_origins_10 : decode cX9_origins 10 = .ok (.ireturn, 1) := by decide +kernel
theorem dX9_origins_11 : decode cX9_origins 11 = .ok (.iconst 0, 1) := by decide +kernel
theorem dX9_origins_12 : decode cX9_origins 12 = .ok (.istore_n 3, 1) := by decide +kernel
theorem dX9_origins_13 : decode cX9_origins 13 = .ok (.iconst 0, 1) := by decide +kernel
theorem dX9_origins_14 : decode cX9_origins 14 = .ok (.istore 4, 2) := by decide +kernel
theorem dX9_origins_16 : decode cX9_origins 16 = .ok (.iconst (-1), 1) := by decide +kernel
theorem dX9_origins_17 : decode cX9_origins 17 = .ok (.istore 5, 2) := by decide +kernel
theorem dX9_origins_19 : decode cX9_origins 19 = .ok (.iconst 0, 1) := by decide +kernel
theorem dX9_origins_20 : decode cX9_origins 20 = .ok (.istore 6, 2) := by decide +kernel
theorem dX9_origins_22 : decode cX9_origins 22 = .ok (.iload 6, 2) := by decide +kernel
theorem dX9_origins_24 : decode cX9_origins 24 = .ok (.aload_n 0, 1) := by decide +kernel
theorem dX9_origins_25 : decode cX9_origins 25 = .ok (.getfield 23, 3) := by decide +kernel
theorem dX9_origins_28 : decode cX9_origins 28 = .ok (.getfield 88, 3) := by decide +kernel
theorem dX9_origins_31 : decode cX9_origins 31 = .ok (.if_icmp .ge 108, 3) := by decide +kernel
theorem dX9_origins_34 : decode cX9_origins 34 = .ok (.aload_n 0, 1) := by decide +kernel
theorem dX9_origins_35 : decode cX9_origins 35 = .ok (.getfield 23, 3) := by decide +kernel
theorem dX9_origins_38 : decode cX9_origins 38 = .ok (.iload 6, 2) := by decide +kernel
theorem dX9_origins_40 : decode cX9_origins 40 = .ok (.invokevirtual 168, 3) := by decide +kernel
theorem dX9_origins_43 : decode cX9_origins 43 = .ok (.ifCond .eq 7, 3) := by decide +kernel
theorem dX9_origins_46 : decode cX9_origins 46 = .ok (.iconst (-1), 1) := by decide +kernel
theorem dX9_origins_47 : decode cX9_origins 47 = .ok (.goto 17, 3) := by decide +kernel
theorem dX9_origins_50 : decode cX9_origins 50 = .ok (.aload_n 0, 1) := by decide +kernel
theorem dX9_origins_51 : decode cX9_origins 51 = .ok (.getfield 58, 3) := by decide +kernel
theorem dX9_origins_54 : decode cX9_origins 54 = .ok (.aload_n 0, 1) := by decide +kernel
theorem dX9_origins_55 : decode cX9_origins 55 = .ok (.getfield 33, 3) := by decide +kernel
theorem dX9_origins_58 : decode cX9_origins 58 = .ok (.iload 6, 2) := by decide +kernel
theorem dX9_origins_60 : decode cX9_origins 60 = .ok (.iload_n 2, 1) := by decide +kernel
theorem dX9_origins_61 : decode cX9_origins 61 = .ok (.invokevirtual 270, 3) := by decide +kernel
theorem dX9_origins_64 : decode cX9_origins 64 = .ok (.istore 7, 2) := by decide +kernel
theorem dX9_origins_66 : decode cX9_origins 66 = .ok (.iload 7, 2) := by decide +kernel
theorem dX9_origins_68 : decode cX9_origins 68 = .ok (.iconst (-1), 1) := by decide +kernel
theorem dX9_origins_69 : decode cX9_origins 69 = .ok (.if_icmp .eq 64, 3) := by decide +kernel
theorem dX9_origins_72 : decode cX9_origins 72 = .ok (.iload_n 3, 1) := by decide +kernel
theorem dX9_origins_73 : decode cX9_origins 73 = .ok (.iload 7, 2) := by decide +kernel
theorem dX9_origins_75 : decode cX9_origins 75 = .ok (.bipush 100, 2) := by decide +kernel
theorem dX9_origins_77 : decode cX9_origins 77 = .ok (.if_icmp .ne 8, 3) := by decide +kernel
theorem dX9_origins_80 : decode cX9_origins 80 = .ok (.bipush 100, 2) := by decide +kernel
theorem dX9_origins_82 : decode cX9_origins 82 = .ok (.goto 4, 3) := by decide +kernel
theorem dX9_origins_85 : decode cX9_origins 85 = .ok (.iconst 1, 1) := by decide +kernel
theorem dX9_origins_86 : decode cX9_origins 86 = .ok (.iadd, 1) := by decide +kernel
theorem dX9_origins_87 : decode cX9_origins 87 = .ok (.istore_n 3, 1) := by decide +kernel
theorem dX9_origins_88 : decode cX9_origins 88 = .ok (.iload 4, 2) := by decide +kernel
theorem dX9_origins_90 : decode cX9_origins 90 = .ok (.iconst 1, 1) := by decide +kernel
theorem dX9_origins_91 : decode cX9_origins 91 = .ok (.iload 6, 2) := by decide +kernel
theorem dX9_origins_93 : decode cX9_origins 93 = .ok (.ishl, 1) := by decide +kernel
theorem dX9_origins_94 : decode cX9_origins 94 = .ok (.ior, 1) := by decide +kernel
theorem dX9_origins_95 : decode cX9_origins 95 = .ok (.istore 4, 2) := by decide +kernel
theorem dX9_origins_97 : decode cX9_origins 97 = .ok (.iload 7, 2) := by decide +kernel
theorem dX9_origins_99 : decode cX9_origins 99 = .ok (.bipush 100, 2) := by decide +kernel
theorem dX9_origins_101 : decode cX9_origins 101 = .ok (.if_icmp .ne 7, 3) := by decide +kernel
theorem dX9_origins_104 : decode cX9_origins 104 = .ok (.iconst 0, 1) := by decide +kernel
theorem dX9_origins_105 : decode cX9_origins 105 = .ok (.goto 5, 3) := by decide +kernel
theorem dX9_origins_108 : decode cX9_origins 108 = .ok (.iload 7, 2) := by decide +kernel
theorem dX9_origins_110 : decode cX9_origins 110 = .ok (.istore 8, 2) := by decide +kernel
theorem dX9_origins_112 : decode cX9_origins 112 = .ok (.iload 5, 2) := by decide +kernel
theorem dX9_origins_114 : decode cX9_origins 114 = .ok (.iconst (-1), 1) := by decide +kernel
theorem dX9_origins_115 : decode cX9_origins 115 = .ok (.if_icmp .ne 14, 3) := by decide +kernel
theorem dX9_origins_118 : decode cX9_origins 118 = .ok (.bipush 100, 2) := by decide +kernel
theorem dX9_origins_120 : decode cX9_origins 120 = .ok (.iload 6, 2) := by decide +kernel
theorem dX9_origins_122 : decode cX9_origins 122 = .ok (.imul, 1) := by decide +kernel
theorem dX9_origins_123 : decode cX9_origins 123 = .ok (.iload 8, 2) := by decide +kernel
theorem dX9_origins_125 : decode cX9_origins 125 = .ok (.iadd, 1) := by decide +kernel
theorem dX9_origins_126 : decode cX9_origins 126 = .ok (.goto 5, 3) := by decide +kernel
theorem dX9_origins_129 : decode cX9_origins 129 = .ok (.iload 5, 2) := by decide +kernel
theorem dX9_origins_131 : decode cX9_origins 131 = .ok (.istore 5, 2) := by decide +kernel
theorem dX9_origins_133 : decode cX9_origins 133 = .ok (.iinc 6 1, 3) := by decide +kernel
theorem dX9_origins_136 : decode cX9_origins 136 = .ok (.goto (-114), 3) := by decide +kernel
theorem dX9_origins_139 : decode cX9_origins 139 = .ok (.iload_n 1, 1) := by decide +kernel
theorem dX9_origins_140 : decode cX9_origins 140 = .ok (.ifCond .ne 5, 3) := by decide +kernel
theorem dX9_origins_143 : decode cX9_origins 143 = .ok (.iload_n 3, 1) := by decide +kernel
theorem dX9_origins_144 : decode cX9_origins 144 = .ok (.ireturn, 1) := by decide +kernel
theorem dX9_origins_145 : decode cX9_origins 145 = .ok (.iload_n 1, 1) := by decide +kernel
theorem dX9_origins_146 : decode cX9_origins 146 = .ok (.iconst 1, 1) := by decide +kernel
theorem dX9_origins_147 : decode cX9_origins 147 = .ok (.if_icmp .ne 8, 3) := by decide +kernel
theorem dX9_origins_150 : decode cX9_origins 150 = .ok (.iload 4, 2) := by decide +kernel
theorem dX9_origins_152 : decode cX9_origins 152 = .ok (.goto 5, 3) := by decide +kernel
theorem dX9_origins_155 : decode cX9_origins 155 = .ok (.iload 5, 2) := by decide +kernel
theorem dX9_origins_157 : decode cX9_origins 157 = .ok (.ireturn, 1) := by decide +kernel
theorem dX9_image_0 : decode cX9_image 0 = .ok (.iload_n 1, 1) := by decide +kernel
theorem dX9_image_1 : decode cX9_image 1 = .ok (.ifCond .lt 8, 3) := by decide +kernel
theorem dX9_image_4 : decode cX9_image 4 = .ok (.iload_n 1, 1) := by decide +kernel
theorem dX9_image_5 : decode cX9_image 5 = .ok (.iconst 3, 1) := by decide +kernel
theorem dX9_image_6 : decode cX9_image 6 = .ok (.if_icmp .lt 5, 3) := by decide +kernel
theorem dX9_image_9 : decode cX9_image 9 = .ok (.iconst (-1), 1) := by decide +kernel
theorem dX9_image_10 : decode cX9_image 10 = .ok (.ireturn, 1) := by decide +kernel
theorem dX9_image_11 : decode cX9_image 11 = .ok (.aload_n 0, 1) := by decide +kernel
theorem dX9_image_12 : decode cX9_image 12 = .ok (.getfield 51, 3) := by decide +kernel
theorem dX9_image_15 : decode cX9_image 15 = .ok (.iload_n 1, 1) := by decide +kernel
theorem dX9_image_16 : decode cX9_image 16 = .ok (.aaload, 1) := by decide +kernel
theorem dX9_image_17 : decode cX9_image 17 = .ok (.aload_n 0, 1) := by decide +kernel
theorem dX9_image_18 : decode cX9_image 18 = .ok (.getfield 47, 3) := by decide +kernel
theorem dX9_image_21 : decode cX9_image 21 = .ok (.invokevirtual 274, 3) := by decide +kernel
theorem dX9_image_24 : decode cX9_image 24 = .ok (.aload_n 0, 1) := by decide +kernel
theorem dX9_image_25 : decode cX9_image 25 = .ok (.dup, 1) := by decide +kernel
theorem dX9_image_26 : decode cX9_image 26 = .ok (.getfield 84, 3) := by decide +kernel
theorem dX9_image_29 : decode cX9_image 29 = .ok (.iconst 1, 1) := by decide +kernel
theorem dX9_image_30 : decode cX9_image 30 = .ok (.iload_n 1, 1) := by decide +kernel
theorem dX9_image_31 : decode cX9_image 31 = .ok (.ishl, 1) := by decide +kernel
theorem dX9_image_32 : decode cX9_image 32 = .ok (.ior, 1) := by decide +kernel
theorem dX9_image_33 : decode cX9_image 33 = .ok (.putfield 84, 3) := by decide +kernel
theorem dX9_image_36 : decode cX9_image 36 = .ok (.aload_n 0, 1) := by decide +kernel
theorem dX9_image_37 : decode cX9_image 37 = .ok (.getfield 47, 3) := by decide +kernel
theorem dX9_image_40 : decode cX9_image 40 = .ok (.getfield 188, 3) := by decide +kernel
theorem dX9_image_43 : decode cX9_image 43 = .ok (.ireturn, 1) := by decide +kernel
theorem dX9_back_0 : decode cX9_back 0 = .ok (.iload_n 1, 1) := by decide +kernel
theorem dX9_back_1 : decode cX9_back 1 = .ok (.ifCond .lt 19, 3) := by decide +kernel
theorem dX9_back_4 : decode cX9_back 4 = .ok (.iload_n 1, 1) := by decide +kernel
theorem dX9_back_5 : decode cX9_back 5 = .ok (.iconst 3, 1) := by decide +kernel
theorem dX9_back_6 : decode cX9_back 6 = .ok (.if_icmp .ge 14, 3) := by decide +kernel
theorem dX9_back_9 : decode cX9_back 9 = .ok (.aload_n 0, 1) := by decide +kernel
theorem dX9_back_10 : decode cX9_back 10 = .ok (.getfield 84, 3) := by decide +kernel
theorem dX9_back_13 : decode cX9_back 13 = .ok (.iload_n 1, 1) := by decide +kernel
theorem dX9_back_14 : decode cX9_back 14 = .ok (.invokestatic 278, 3) := by decide +kernel
theorem dX9_back_17 : decode cX9_back 17 = .ok (.ifCond .ne 5, 3) := by decide +kernel
theorem dX9_back_20 : decode cX9_back 20 = .ok (.iconst (-1), 1) := by decide +kernel
theorem dX9_back_21 : decode cX9_back 21 = .ok (.ireturn, 1) := by decide +kernel
theorem dX9_back_22 : decode cX9_back 22 = .ok (.aload_n 0, 1) := by decide +kernel
theorem dX9_back_23 : decode cX9_back 23 = .ok (.getfield 47, 3) := by decide +kernel
theorem dX9_back_26 : decode cX9_back 26 = .ok (.aload_n 0, 1) := by decide +kernel
theorem dX9_back_27 : decode cX9_back 27 = .ok (.getfield 51, 3) := by decide +kernel
theorem dX9_back_30 : decode cX9_back 30 = .ok (.iload_n 1, 1) := by decide +kernel
theorem dX9_back_31 : decode cX9_back 31 = .ok (.aaload, 1) := by decide +kernel
theorem dX9_back_32 : decode cX9_back 32 = .ok (.invokevirtual 274, 3) := by decide +kernel
theorem dX9_back_35 : decode cX9_back 35 = .ok (.aload_n 0, 1) := by decide +kernel
theorem dX9_back_36 : decode cX9_back 36 = .ok (.getfield 47, 3) := by decide +kernel
theorem dX9_back_39 : decode cX9_back 39 = .ok (.getfield 188, 3) := by decide +kernel
theorem dX9_back_42 : decode cX9_back 42 = .ok (.ireturn, 1) := by decide +kernel
theorem dX9_about_0 : decode cX9_about 0 = .ok (.iload_n 1, 1) := by decide +kernel
theorem dX9_about_1 : decode cX9_about 1 = .ok (.tableswitch 169 0 11 #[63, 71, 79, 87, 95, 103, 114, 122, 130, 135, 143, 156], 63) := by decide +kernel
theorem dX9_about_64 : decode cX9_about 64 = .ok (.aload_n 0, 1) := by decide +kernel
theorem dX9_about_65 : decode cX9_about 65 = .ok (.getfield 23, 3) := by decide +kernel
theorem dX9_about_68 : decode cX9_about 68 = .ok (.getfield 88, 3) := by decide +kernel
theorem dX9_about_71 : decode cX9_about 71 = .ok (.ireturn, 1) := by decide +kernel
theorem dX9_about_72 : decode cX9_about 72 = .ok (.aload_n 0, 1) := by decide +kernel
theorem dX9_about_73 : decode cX9_about 73 = .ok (.getfield 23, 3) := by decide +kernel
theorem dX9_about_76 : decode cX9_about 76 = .ok (.getfield 281, 3) := by decide +kernel
theorem dX9_about_79 : decode cX9_about 79 = .ok (.ireturn, 1) := by decide +kernel
theorem dX9_about_80 : decode cX9_about 80 = .ok (.aload_n 0, 1) := by decide +kernel
theorem dX9_about_81 : decode cX9_about 81 = .ok (.getfield 23, 3) := by decide +kernel
theorem dX9_about_84 : decode cX9_about 84 = .ok (.getfield 141, 3) := by decide +kernel
theorem dX9_about_87 : decode cX9_about 87 = .ok (.ireturn, 1) := by decide +kernel
theorem dX9_about_88 : decode cX9_about 88 = .ok (.aload_n 0, 1) := by decide +kernel
theorem dX9_about_89 : decode cX9_about 89 = .ok (.getfield 23, 3) := by decide +kernel
theorem dX9_about_92 : decode cX9_about 92 = .ok (.getfield 144, 3) := by decide +kernel
theorem dX9_about_95 : decode cX9_about 95 = .ok (.ireturn, 1) := by decide +kernel
theorem dX9_about_96 : decode cX9_about 96 = .ok (.aload_n 0, 1) := by decide +kernel
theorem dX9_about_97 : decode cX9_about 97 = .ok (.getfield 47, 3) := by decide +kernel
theorem dX9_about_100 : decode cX9_about 100 = .ok (.getfield 188, 3) := by decide +kernel
theorem dX9_about_103 : decode cX9_about 103 = .ok (.ireturn, 1) := by decide +kernel
theorem dX9_about_104 : decode cX9_about 104 = .ok (.aload_n 0, 1) := by decide +kernel
theorem dX9_about_105 : decode cX9_about 105 = .ok (.getfield 47, 3) := by decide +kernel
theorem dX9_about_108 : decode cX9_about 108 = .ok (.getfield 222, 3) := by decide +kernel
theorem dX9_about_111 : decode cX9_about 111 = .ok (.getfield 226, 3) := by decide +kernel
theorem dX9_about_114 : decode cX9_about 114 = .ok (.ireturn, 1) := by decide +kernel
theorem dX9_about_115 : decode cX9_about 115 = .ok (.aload_n 0, 1) := by decide +kernel
theorem dX9_about_116 : decode cX9_about 116 = .ok (.getfield 58, 3) := by decide +kernel
theorem dX9_about_119 : decode cX9_about 119 = .ok (.getfield 284, 3) := by decide +kernel
theorem dX9_about_122 : decode cX9_about 122 = .ok (.ireturn, 1) := by decide +kernel
theorem dX9_about_123 : decode cX9_about 123 = .ok (.aload_n 0, 1) := by decide +kernel
theorem dX9_about_124 : decode cX9_about 124 = .ok (.getfield 58, 3) := by decide +kernel
theorem dX9_about_127 : decode cX9_about 127 = .ok (.getfield 260, 3) := by decide +kernel
theorem dX9_about_130 : decode cX9_about 130 = .ok (.ireturn, 1) := by decide +kernel
theorem dX9_about_131 : decode cX9_about 131 = .ok (.aload_n 0, 1) := by decide +kernel
theorem dX9_about_132 : decode cX9_about 132 = .ok (.getfield 62, 3) := by decide +kernel
theorem dX9_about_135 : decode cX9_about 135 = .ok (.ireturn, 1) := by decide +kernel
theorem dX9_about_136 : decode cX9_about 136 = .ok (.aload_n 0, 1) := by decide +kernel
theorem dX9_about_137 : decode cX9_about 137 = .ok (.getfield 40, 3) := by decide +kernel
theorem dX9_about_140 : decode cX9_about 140 = .ok (.getfield 131, 3) := by decide +kernel
theorem dX9_about_143 : decode cX9_about 143 = .ok (.ireturn, 1) := by decide +kernel
theorem dX9_about_144 : decode cX9_about 144 = .ok (.aload_n 0, 1) := by decide +kernel
theorem dX9_about_145 : decode cX9_about 145 = .ok (.getfield 47, 3) := by decide +kernel
theorem dX9_about_148 : decode cX9_about 148 = .ok (.getfield 222, 3) := by decide +kernel
theorem dX9_about_151 : decode cX9_about 151 = .ok (.bipush (-3), 2) := by decide +kernel
theorem dX9_about_153 : decode cX9_about 153 = .ok (.invokevirtual 285, 3) := by decide +kernel
theorem dX9_about_156 : decode cX9_about 156 = .ok (.ireturn, 1) := by decide +kernel
theorem dX9_about_157 : decode cX9_about 157 = .ok (.aload_n 0, 1) := by decide +kernel
theorem dX9_about_158 : decode cX9_about 158 = .ok (.getfield 47, 3) := by decide +kernel
theorem dX9_about_161 : decode cX9_about 161 = .ok (.getfield 222, 3) := by decide +kernel
theorem dX9_about_164 : decode cX9_about 164 = .ok (.bipush (-2), 2) := by decide +kernel
theorem dX9_about_166 : decode cX9_about 166 = .ok (.invokevirtual 285, 3) := by decide +kernel
theorem dX9_about_169 : decode cX9_about 169 = .ok (.ireturn, 1) := by decide +kernel
theorem dX9_about_170 : decode cX9_about 170 = .ok (.iconst (-1), 1) := by decide +kernel
theorem dX9_about_171 : decode cX9_about 171 = .ok (.ireturn, 1) := by decide +kernel
theorem dX9_put_0 : decode cX9_put 0 = .ok (.bipush 24, 2) := by decide +kernel
theorem dX9_put_2 : decode cX9_put 2 = .ok (.istore_n 2, 1) := by decide +kernel
theorem dX9_put_3 : decode cX9_put 3 = .ok (.iload_n 2, 1) := by decide +kernel
theorem dX9_put_4 : decode cX9_put 4 = .ok (.ifCond .lt 42, 3) := by decide +kernel
theorem dX9_put_7 : decode cX9_put 7 = .ok (.aload_n 0, 1) := by decide +kernel
theorem dX9_put_8 : decode cX9_put 8 = .ok (.getfield 62, 3) := by decide +kernel
theorem dX9_put_11 : decode cX9_put 11 = .ok (.sipush 1600, 3) := by decide +kernel
theorem dX9_put_14 : decode cX9_put 14 = .ok (.if_icmp .ge 32, 3) := by decide +kernel
theorem dX9_put_17 : decode cX9_put 17 = .ok (.aload_n 0, 1) := by decide +kernel
theorem dX9_put_18 : decode cX9_put 18 = .ok (.getfield 9, 3) := by decide +kernel
theorem dX9_put_21 : decode cX9_put 21 = .ok (.aload_n 0, 1) := by decide +kernel
theorem dX9_put_22 : decode cX9_put 22 = .ok (.getfield 62, 3) := by decide +kernel
theorem dX9_put_25 : decode cX9_put 25 = .ok (.iload_n 1, 1) := by decide +kernel
theorem dX9_put_26 : decode cX9_put 26 = .ok (.iload_n 2, 1) := by decide +kernel
theorem dX9_put_27 : decode cX9_put 27 = .ok (.ishr, 1) := by decide +kernel
theorem dX9_put_28 : decode cX9_put 28 = .ok (.i2b, 1) := by decide +kernel
theorem dX9_put_29 : decode cX9_put 29 = .ok (.bastore, 1) := by decide +kernel
theorem dX9_put_30 : decode cX9_put 30 = .ok (.aload_n 0, 1) := by decide +kernel
theorem dX9_put_31 : decode cX9_put 31 = .ok (.dup, 1) := by decide +kernel
theorem dX9_put_32 : decode cX9_put 32 = .ok (.getfield 62, 3) := by decide +kernel
theorem dX9_put_35 : decode cX9_put 35 = .ok (.iconst 1, 1) := by decide +kernel
theorem dX9_put_36 : decode cX9_put 36 = .ok (.iadd, 1) := by decide +kernel
theorem dX9_put_37 : decode cX9_put 37 = .ok (.putfield 62, 3) := by decide +kernel
theorem dX9_put_40 : decode cX9_put 40 = .ok (.iinc 2 (-8), 3) := by decide +kernel
theorem dX9_put_43 : decode cX9_put 43 = .ok (.goto (-40), 3) := by decide +kernel
theorem dX9_put_46 : decode cX9_put 46 = .ok (.return_, 1) := by decide +kernel
theorem dX9_leastBar_0 : decode cX9_leastBar 0 = .ok (.aload_n 0, 1) := by decide +kernel
theorem dX9_leastBar_1 : decode cX9_leastBar 1 = .ok (.getfield 23, 3) := by decide +kernel
theorem dX9_leastBar_4 : decode cX9_leastBar 4 = .ok (.iload_n 1, 1) := by decide +kernel
theorem dX9_leastBar_5 : decode cX9_leastBar 5 = .ok (.iload_n 2, 1) := by decide +kernel
theorem dX9_leastBar_6 : decode cX9_leastBar 6 = .ok (.invokevirtual 287, 3) := by decide +kernel
theorem dX9_leastBar_9 : decode cX9_leastBar 9 = .ok (.ifCond .eq 5, 3) := by decide +kernel
theorem dX9_leastBar_12 : decode cX9_leastBar 12 = .ok (.iconst (-1), 1) := by decide +kernel
theorem dX9_leastBar_13 : decode cX9_leastBar 13 = .ok (.ireturn, 1) := by decide +kernel
theorem dX9_leastBar_14 : decode cX9_leastBar 14 = .ok (.iconst 0, 1) := by decide +kernel
theorem dX9_leastBar_15 : decode cX9_leastBar 15 = .ok (.istore_n 3, 1) := by decide +kernel
theorem dX9_leastBar_16 : decode cX9_leastBar 16 = .ok (.iload_n 3, 1) := by decide +kernel
theorem dX9_leastBar_17 : decode cX9_leastBar 17 = .ok (.bipush 12, 2) := by decide +kernel
theorem dX9_leastBar_19 : decode cX9_leastBar 19 = .ok (.if_icmp .ge 58, 3) := by decide +kernel
theorem dX9_leastBar_22 : decode cX9_leastBar 22 = .ok (.iconst 0, 1) := by decide +kernel
theorem dX9_leastBar_23 : decode cX9_leastBar 23 = .ok (.istore 4, 2) := by decide +kernel
theorem dX9_leastBar_25 : decode cX9_leastBar 25 = .ok (.iload 4, 2) := by decide +kernel
theorem dX9_leastBar_27 : decode cX9_leastBar 27 = .ok (.iload_n 1, 1) := by decide +kernel
theorem dX9_leastBar_28 : decode cX9_leastBar 28 = .ok (.if_icmp .gt 43, 3) := by decide +kernel
theorem dX9_leastBar_31 : decode cX9_leastBar 31 = .ok (.iload 4, 2) := by decide +kernel
theorem dX9_leastBar_33 : decode cX9_leastBar 33 = .ok (.iload_n 1, 1) := by decide +kernel
theorem dX9_leastBar_34 : decode cX9_leastBar 34 = .ok (.iconst (-1), 1) := by decide +kernel
theorem dX9_leastBar_35 : decode cX9_leastBar 35 = .ok (.ixor, 1) := by decide +kernel
theorem dX9_leastBar_36 : decode cX9_leastBar 36 = .ok (.iand, 1) := by decide +kernel
theorem dX9_leastBar_37 : decode cX9_leastBar 37 = .ok (.ifCond .ne 28, 3) := by decide +kernel
theorem dX9_leastBar_40 : decode cX9_leastBar 40 = .ok (.iload 4, 2) := by decide +kernel
theorem dX9_leastBar_42 : decode cX9_leastBar 42 = .ok (.invokestatic 159, 3) := by decide +kernel
theorem dX9_leastBar_45 : decode cX9_leastBar 45 = .ok (.iload_n 3, 1) := by decide +kernel
theorem dX9_leastBar_46 : decode cX9_leastBar 46 = .ok (.if_icmp .ne 19, 3) := by decide +kernel
theorem dX9_leastBar_49 : decode cX9_leastBar 49 = .ok (.aload_n 0, 1) := by decide +kernel
theorem dX9_leastBar_50 : decode cX9_leastBar 50 = .ok (.getfield 23, 3) := by decide +kernel
theorem dX9_leastBar_53 : decode cX9_leastBar 53 = .ok (.iload 4, 2) := by decide +kernel
theorem dX9_leastBar_55 : decode cX9_leastBar 55 = .ok (.iload_n 2, 1) := by decide +kernel
theorem dX9_leastBar_56 : decode cX9_leastBar 56 = .ok (.invokevirtual 287, 3) := by decide +kernel
theorem dX9_leastBar_59 : decode cX9_leastBar 59 = .ok (.ifCond .ne 6, 3) := by decide +kernel
theorem dX9_leastBar_62 : decode cX9_leastBar 62 = .ok (.iload 4, 2) := by decide +kernel
theorem dX9_leastBar_64 : decode cX9_leastBar 64 = .ok (.ireturn, 1) := by decide +kernel
theorem dX9_leastBar_65 : decode cX9_leastBar 65 = .ok (.iinc 4 1, 3) := by decide +kernel
theorem dX9_leastBar_68 : decode cX9_leastBar 68 = .ok (.goto (-43), 3) := by decide +kernel
theorem dX9_leastBar_71 : decode cX9_leastBar 71 = .ok (.iinc 3 1, 3) := by decide +kernel
theorem dX9_leastBar_74 : decode cX9_leastBar 74 = .ok (.goto (-58), 3) := by decide +kernel
theorem dX9_leastBar_77 : decode cX9_leastBar 77 = .ok (.iconst (-1), 1) := by decide +kernel
theorem dX9_leastBar_78 : decode cX9_leastBar 78 = .ok (.ireturn, 1) := by decide +kernel
theorem dX9_commonDivisor_0 : decode cX9_commonDivisor 0 = .ok (.iconst 0, 1) := by decide +kernel
theorem dX9_commonDivisor_1 : decode cX9_commonDivisor 1 = .ok (.istore 4, 2) := by decide +kernel
theorem dX9_commonDivisor_3 : decode cX9_commonDivisor 3 = .ok (.iload 4, 2) := by decide +kernel
theorem dX9_commonDivisor_5 : decode cX9_commonDivisor 5 = .ok (.bipush 100, 2) := by decide +kernel
theorem dX9_commonDivisor_7 : decode cX9_commonDivisor 7 = .ok (.if_icmp .ge 25, 3) := by decide +kernel
theorem dX9_commonDivisor_10 : decode cX9_commonDivisor 10 = .ok (.lload_n 2, 1) := by decide +kernel
theorem dX9_commonDivisor_11 : decode cX9_commonDivisor 11 = .ok (.lconst 0, 1) := by decide +kernel
theorem dX9_commonDivisor_12 : decode cX9_commonDivisor 12 = .ok (.lcmp, 1) := by decide +kernel
theorem dX9_commonDivisor_13 : decode cX9_commonDivisor 13 = .ok (.ifCond .eq 19, 3) := by decide +kernel
theorem dX9_commonDivisor_16 : decode cX9_commonDivisor 16 = .ok (.lload_n 0, 1) := by decide +kernel
theorem dX9_commonDivisor_17 : decode cX9_commonDivisor 17 = .ok (.lload_n 2, 1) := by decide +kernel
theorem dX9_commonDivisor_18 : decode cX9_commonDivisor 18 = .ok (.lrem, 1) := by decide +kernel
theorem dX9_commonDivisor_19 : decode cX9_commonDivisor 19 = .ok (.lstore 5, 2) := by decide +kernel
theorem dX9_commonDivisor_21 : decode cX9_commonDivisor 21 = .ok (.lload_n 2, 1) := by decide +kernel
theorem dX9_commonDivisor_22 : decode cX9_commonDivisor 22 = .ok (.lstore_n 0, 1) := by decide +kernel
theorem dX9_commonDivisor_23 : decode cX9_commonDivisor 23 = .ok (.lload 5, 2) := by decide +kernel
theorem dX9_commonDivisor_25 : decode cX9_commonDivisor 25 = .ok (.lstore_n 2, 1) := by decide +kernel
theorem dX9_commonDivisor_26 : decode cX9_commonDivisor 26 = .ok (.iinc 4 1, 3) := by decide +kernel
theorem dX9_commonDivisor_29 : decode cX9_commonDivisor 29 = .ok (.goto (-26), 3) := by decide +kernel
theorem dX9_commonDivisor_32 : decode cX9_commonDivisor 32 = .ok (.lload_n 0, 1) := by decide +kernel
theorem dX9_commonDivisor_33 : decode cX9_commonDivisor 33 = .ok (.lreturn, 1) := by decide +kernel
theorem dX9_pair_0 : decode cX9_pair 0 = .ok (.iload_n 0, 1) := by decide +kernel
theorem dX9_pair_1 : decode cX9_pair 1 = .ok (.bipush 12, 2) := by decide +kernel
theorem dX9_pair_3 : decode cX9_pair 3 = .ok (.imul, 1) := by decide +kernel
theorem dX9_pair_4 : decode cX9_pair 4 = .ok (.iload_n 1, 1) := by decide +kernel
theorem dX9_pair_5 : decode cX9_pair 5 = .ok (.iadd, 1) := by decide +kernel
theorem dX9_pair_6 : decode cX9_pair 6 = .ok (.ireturn, 1) := by decide +kernel
theorem dX9_isIn_0 : decode cX9_isIn 0 = .ok (.iload_n 0, 1) := by decide +kernel
theorem dX9_isIn_1 : decode cX9_isIn 1 = .ok (.iload_n 1, 1) := by decide +kernel
theorem dX9_isIn_2 : decode cX9_isIn 2 = .ok (.ishr, 1) := by decide +kernel
theorem dX9_isIn_3 : decode cX9_isIn 3 = .ok (.iconst 1, 1) := by decide +kernel
theorem dX9_isIn_4 : decode cX9_isIn 4 = .ok (.iand, 1) := by decide +kernel
theorem dX9_isIn_5 : decode cX9_isIn 5 = .ok (.ifCond .eq 7, 3) := by decide +kernel
theorem dX9_isIn_8 : decode cX9_isIn 8 = .ok (.iconst 1, 1) := by decide +kernel
theorem dX9_isIn_9 : decode cX9_isIn 9 = .ok (.goto 4, 3) := by decide +kernel
theorem dX9_isIn_12 : decode cX9_isIn 12 = .ok (.iconst 0, 1) := by decide +kernel
theorem dX9_isIn_13 : decode cX9_isIn 13 = .ok (.ireturn, 1) := by decide +kernel
theorem dX10_init_0 : decode cX10_init 0 = .ok (.aload_n 0, 1) := by decide +kernel
theorem dX10_init_1 : decode cX10_init 1 = .ok (.invokespecial 1, 3) := by decide +kernel
theorem dX10_init_4 : decode cX10_init 4 = .ok (.aload_n 0, 1) := by decide +kernel
theorem dX10_init_5 : decode cX10_init 5 = .ok (.sipush 1600, 3) := by decide +kernel
theorem dX10_init_8 : decode cX10_init 8 = .ok (.newarray .int, 2) := by decide +kernel
theorem dX10_init_10 : decode cX10_init 10 = .ok (.putfield 7, 3) := by decide +kernel
theorem dX10_init_13 : decode cX10_init 13 = .ok (.aload_n 0, 1) := by decide +kernel
theorem dX10_init_14 : decode cX10_init 14 = .ok (.iconst (-1), 1) := by decide +kernel
theorem dX10_init_15 : decode cX10_init 15 = .ok (.putfield 13, 3) := by decide +kernel
theorem dX10_init_18 : decode cX10_init 18 = .ok (.aload_n 0, 1) := by decide +kernel
theorem dX10_init_19 : decode cX10_init 19 = .ok (.bipush 12, 2) := by decide +kernel
theorem dX10_init_21 : decode cX10_init 21 = .ok (.newarray .long, 2) := by decide +kernel
theorem dX10_init_23 : decode cX10_init 23 = .ok (.putfield 17, 3) := by decide +kernel
theorem dX10_init_26 : decode cX10_init 26 = .ok (.aload_n 0, 1) := by decide +kernel
theorem dX10_init_27 : decode cX10_init 27 = .ok (.bipush 12, 2) := by decide +kernel
theorem dX10_init_29 : decode cX10_init 29 = .ok (.newarray .int, 2) := by decide +kernel
theorem dX10_init_31 : decode cX10_init 31 = .ok (.putfield 21, 3) := by decide +kernel
theorem dX10_init_34 : decode cX10_init 34 = .ok (.aload_n 0, 1) := by decide +kernel
theorem dX10_init_35 : decode cX10_init 35 = .ok (.bipush 12, 2) := by decide +kernel
theorem dX10_init_37 : decode cX10_init 37 = .ok (.newarray .int, 2) := by decide +kernel
theorem dX10_init_39 : decode cX10_init 39 = .ok (.putfield 24, 3) := by decide +kernel
theorem dX10_init_42 : decode cX10_init 42 = .ok (.aload_n 0, 1) := by decide +kernel
theorem dX10_init_43 : decode cX10_init 43 = .ok (.bipush 12, 2) := by decide +kernel
theorem dX10_init_45 : decode cX10_init 45 = .ok (.newarray .int, 2) := by decide +kernel
theorem dX10_init_47 : decode cX10_init 47 = .ok (.putfield 27, 3) := by decide +kernel
theorem dX10_init_50 : decode cX10_init 50 = .ok (.aload_n 0, 1) := by decide +kernel
theorem dX10_init_51 : decode cX10_init 51 = .ok (.bipush 12, 2) := by decide +kernel
theorem dX10_init_53 : decode cX10_init 53 = .ok (.newarray .int, 2) := by decide +kernel
theorem dX10_init_55 : decode cX10_init 55 = .ok (.putfield 30, 3) := by decide +kernel
theorem dX10_init_58 : decode cX10_init 58 = .ok (.aload_n 0, 1) := by decide +kernel
theorem dX10_init_59 : decode cX10_init 59 = .ok (.bipush 12, 2) := by decide +kernel
theorem dX10_init_61 : decode cX10_init 61 = .ok (.newarray .int, 2) := by decide +kernel
theorem dX10_init_63 : decode cX10_init 63 = .ok (.putfield 33, 3) := by decide +kernel
theorem dX10_init_66 : decode cX10_init 66 = .ok (.aload_n 0, 1) := by decide +kernel
theorem dX10_init_67 : decode cX10_init 67 = .ok (.sipush 144, 3) := by decide +kernel
theorem dX10_init_70 : decode cX10_init 70 = .ok (.newarray .int, 2) := by decide +kernel
theorem dX10_init_72 : decode cX10_init 72 = .ok (.putfield 36, 3) := by decide +kernel
theorem dX10_init_75 : decode cX10_init 75 = .ok (.aload_n 0, 1) := by decide +kernel
theorem dX10_init_76 : decode cX10_init 76 = .ok (.bipush 12, 2) := by decide +kernel
theorem dX10_init_78 : decode cX10_init 78 = .ok (.newarray .int, 2) := by decide +kernel
theorem dX10_init_80 : decode cX10_init 80 = .ok (.putfield 39, 3) := by decide +kernel
theorem dX10_init_83 : decode cX10_init 83 = .ok (.aload_n 0, 1) := by decide +kernel
theorem dX10_init_84 : decode cX10_init 84 = .ok (.bipush 12, 2) := by decide +kernel
theorem dX10_init_86 : decode cX10_init 86 = .ok (.newarray .int, 2) := by decide +kernel
theorem dX10_init_88 : decode cX10_init 88 = .ok (.putfield 42, 3) := by decide +kernel
theorem dX10_init_91 : decode cX10_init 91 = .ok (.aload_n 0, 1) := by decide +kernel
theorem dX10_init_92 : decode cX10_init 92 = .ok (.bipush 12, 2) := by decide +kernel
theorem dX10_init_94 : decode cX10_init 94 = .ok (.newarray .int, 2) := by decide +kernel
theorem dX10_init_96 : decode cX10_init 96 = .ok (.putfield 45, 3) := by decide +kernel
theorem dX10_init_99 : decode cX10_init 99 = .ok (.aload_n 0, 1) := by decide +kernel
theorem dX10_init_100 : decode cX10_init 100 = .ok (.bipush 12, 2) := by decide +kernel
theorem dX10_init_102 : decode cX10_init 102 = .ok (.newarray .int, 2) := by decide +kernel
theorem dX10_init_104 : decode cX10_init 104 = .ok (.putfield 48, 3) := by decide +kernel
theorem dX10_init_107 : decode cX10_init 107 = .ok (.aload_n 0, 1) := by decide +kernel
theorem dX10_init_108 : decode cX10_init 108 = .ok (.bipush 12, 2) := by decide +kernel
theorem dX10_init_110 : decode cX10_init 110 = .ok (.newarray .int, 2) := by decide +kernel
theorem dX10_init_112 : decode cX10_init 112 = .ok (.putfield 51, 3) := by decide +kernel
theorem dX10_init_115 : decode cX10_init 115 = .ok (.aload_n 0, 1) := by decide +kernel
theorem dX10_init_116 : decode cX10_init 116 = .ok (.sipush 144, 3) := by decide +kernel
theorem dX10_init_119 : decode cX10_init 119 = .ok (.newarray .int, 2) := by decide +kernel
theorem dX10_init_121 : decode cX10_init 121 = .ok (.putfield 54, 3) := by decide +kernel
theorem dX10_init_124 : decode cX10_init 124 = .ok (.aload_n 0, 1) := by decide +kernel
theorem dX10_init_125 : decode cX10_init 125 = .ok (.bipush 12, 2) := by decide +kernel
theorem dX10_init_127 : decode cX10_init 127 = .ok (.newarray .int, 2) := by decide +kernel
theorem dX10_init_129 : decode cX10_init 129 = .ok (.putfield 57, 3) := by decide +kernel
theorem dX10_init_132 : decode cX10_init 132 = .ok (.aload_n 0, 1) := by decide +kernel
theorem dX10_init_133 : decode cX10_init 133 = .ok (.bipush 12, 2) := by decide +kernel
theorem dX10_init_135 : decode cX10_init 135 = .ok (.newarray .int, 2) := by decide +kernel
theorem dX10_init_137 : decode cX10_init 137 = .ok (.putfield 60, 3) := by decide +kernel
theorem dX10_init_140 : decode cX10_init 140 = .ok (.aload_n 0, 1) := by decide +kernel
theorem dX10_init_141 : decode cX10_init 141 = .ok (.bipush 12, 2) := by decide +kernel
theorem dX10_init_143 : decode cX10_init 143 = .ok (.newarray .int, 2) := by decide +kernel
theorem dX10_init_145 : decode cX10_init 145 = .ok (.putfield 63, 3) := by decide +kernel
theorem dX10_init_148 : decode cX10_init 148 = .ok (.aload_n 0, 1) := by decide +kernel
theorem dX10_init_149 : decode cX10_init 149 = .ok (.bipush 12, 2) := by decide +kernel
theorem dX10_init_151 : decode cX10_init 151 = .ok (.newarray .int, 2) := by decide +kernel
theorem dX10_init_153 : decode cX10_init 153 = .ok (.putfield 66, 3) := by decide +kernel
theorem dX10_init_156 : decode cX10_init 156 = .ok (.aload_n 0, 1) := by decide +kernel
theorem dX10_init_157 : decode cX10_init 157 = .ok (.bipush 120, 2) := by decide +kernel
theorem dX10_init_159 : decode cX10_init 159 = .ok (.newarray .long, 2) := by decide +kernel
theorem dX10_init_161 : decode cX10_init 161 = .ok (.putfield 69, 3) := by decide +kernel
theorem dX10_init_164 : decode cX10_init 164 = .ok (.aload_n 0, 1) := by decide +kernel
theorem dX10_init_165 : decode cX10_init 165 = .ok (.sipush 576, 3) := by decide +kernel
theorem dX10_init_168 : decode cX10_init 168 = .ok (.newarray .int, 2) := by decide +kernel
theorem dX10_init_170 : decode cX10_init 170 = .ok (.putfield 72, 3) := by decide +kernel
theorem dX10_init_173 : decode cX10_init 173 = .ok (.aload_n 0, 1) := by decide +kernel
theorem dX10_init_174 : decode cX10_init 174 = .ok (.bipush 24, 2) := by decide +kernel
theorem dX10_init_176 : decode cX10_init 176 = .ok (.newarray .int, 2) := by decide +kernel
theorem dX10_init_178 : decode cX10_init 178 = .ok (.putfield 75, 3) := by decide +kernel
theorem dX10_init_181 : decode cX10_init 181 = .ok (.aload_n 0, 1) := by decide +kernel
theorem dX10_init_182 : decode cX10_init 182 = .ok (.bipush 24, 2) := by decide +kernel
theorem dX10_init_184 : decode cX10_init 184 = .ok (.newarray .int, 2) := by decide +kernel
theorem dX10_init_186 : decode cX10_init 186 = .ok (.putfield 78, 3) := by decide +kernel
theorem dX10_init_189 : decode cX10_init 189 = .ok (.aload_n 0, 1) := by decide +kernel
theorem dX10_init_190 : decode cX10_init 190 = .ok (.bipush 12, 2) := by decide +kernel
theorem dX10_init_192 : decode cX10_init 192 = .ok (.newarray .int, 2) := by decide +kernel
theorem dX10_init_194 : decode cX10_init 194 = .ok (.putfield 81, 3) := by decide +kernel
theorem dX10_init_197 : decode cX10_init 197 = .ok (.aload_n 0, 1) := by decide +kernel
theorem dX10_init_198 : decode cX10_init 198 = .ok (.bipush 12, 2) := by decide +kernel
theorem dX10_init_200 : decode cX10_init 200 = .ok (.newarray .int, 2) := by decide +kernel
theorem dX10_init_202 : decode cX10_init 202 = .ok (.putfield 84, 3) := by decide +kernel
theorem dX10_init_205 : decode cX10_init 205 = .ok (.aload_n 0, 1) := by decide +kernel
theorem dX10_init_206 : decode cX10_init 206 = .ok (.bipush 12, 2) := by decide +kernel
theorem dX10_init_208 : decode cX10_init 208 = .ok (.newarray .int, 2) := by decide +kernel
theorem dX10_init_210 : decode cX10_init 210 = .ok (.putfield 87, 3) := by decide +kernel
theorem dX10_init_213 : decode cX10_init 213 = .ok (.aload_n 0, 1) := by decide +kernel
theorem dX10_init_214 : decode cX10_init 214 = .ok (.bipush 12, 2) := by decide +kernel
theorem dX10_init_216 : decode cX10_init 216 = .ok (.newarray .int, 2) := by decide +kernel
theorem dX10_init_218 : decode cX10_init 218 = .ok (.putfield 90, 3) := by decide +kernel
theorem dX10_init_221 : decode cX10_init 221 = .ok (.aload_n 0, 1) := by decide +kernel
theorem dX10_init_222 : decode cX10_init 222 = .ok (.bipush 12, 2) := by decide +kernel
theorem dX10_init_224 : decode cX10_init 224 = .ok (.newarray .int, 2) := by decide +kernel
theorem dX10_init_226 : decode cX10_init 226 = .ok (.putfield 93, 3) := by decide +kernel
theorem dX10_init_229 : decode cX10_init 229 = .ok (.aload_n 0, 1) := by decide +kernel
theorem dX10_init_230 : decode cX10_init 230 = .ok (.bipush 12, 2) := by decide +kernel
theorem dX10_init_232 : decode cX10_init 232 = .ok (.newarray .int, 2) := by decide +kernel
theorem dX10_init_234 : decode cX10_init 234 = .ok (.putfield 96, 3) := by decide +kernel
theorem dX10_init_237 : decode cX10_init 237 = .ok (.aload_n 0, 1) := by decide +kernel
theorem dX10_init_238 : decode cX10_init 238 = .ok (.sipush 144, 3) := by decide +kernel
theorem dX10_init_241 : decode cX10_init 241 = .ok (.newarray .int, 2) := by decide +kernel
theorem dX10_init_243 : decode cX10_init 243 = .ok (.putfield 99, 3) := by decide +kernel
theorem dX10_init_246 : decode cX10_init 246 = .ok (.aload_n 0, 1) := by decide +kernel
theorem dX10_init_247 : decode cX10_init 247 = .ok (.bipush 12, 2) := by decide +kernel
theorem dX10_init_249 : decode cX10_init 249 = .ok (.newarray .int, 2) := by decide +kernel
theorem dX10_init_251 : decode cX10_init 251 = .ok (.putfield 102, 3) := by decide +kernel
theorem dX10_init_254 : decode cX10_init 254 = .ok (.aload_n 0, 1) := by decide +kernel
theorem dX10_init_255 : decode cX10_init 255 = .ok (.bipush 12, 2) := by decide +kernel
theorem dX10_init_257 : decode cX10_init 257 = .ok (.newarray .int, 2) := by decide +kernel
theorem dX10_init_259 : decode cX10_init 259 = .ok (.putfield 105, 3) := by decide +kernel
theorem dX10_init_262 : decode cX10_init 262 = .ok (.aload_n 0, 1) := by decide +kernel
theorem dX10_init_263 : decode cX10_init 263 = .ok (.bipush 12, 2) := by decide +kernel
theorem dX10_init_265 : decode cX10_init 265 = .ok (.newarray .int, 2) := by decide +kernel
theorem dX10_init_267 : decode cX10_init 267 = .ok (.putfield 108, 3) := by decide +kernel
theorem dX10_init_270 : decode cX10_init 270 = .ok (.aload_n 0, 1) := by decide +kernel
theorem dX10_init_271 : decode cX10_init 271 = .ok (.bipush 12, 2) := by decide +kernel
theorem dX10_init_273 : decode cX10_init 273 = .ok (.newarray .int, 2) := by decide +kernel
theorem dX10_init_275 : decode cX10_init 275 = .ok (.putfield 111, 3) := by decide +kernel
theorem dX10_init_278 : decode cX10_init 278 = .ok (.aload_n 0, 1) := by decide +kernel
theorem dX10_init_279 : decode cX10_init 279 = .ok (.bipush 12, 2) := by decide +kernel
theorem dX10_init_281 : decode cX10_init 281 = .ok (.newarray .int, 2) := by decide +kernel
theorem dX10_init_283 : decode cX10_init 283 = .ok (.putfield 114, 3) := by decide +kernel
theorem dX10_init_286 : decode cX10_init 286 = .ok (.aload_n 0, 1) := by decide +kernel
theorem dX10_init_287 : decode cX10_init 287 = .ok (.bipush 12, 2) := by decide +kernel
theorem dX10_init_289 : decode cX10_init 289 = .ok (.newarray .int, 2) := by decide +kernel
theorem dX10_init_291 : decode cX10_init 291 = .ok (.putfield 117, 3) := by decide +kernel
theorem dX10_init_294 : decode cX10_init 294 = .ok (.aload_n 0, 1) := by decide +kernel
theorem dX10_init_295 : decode cX10_init 295 = .ok (.bipush 40, 2) := by decide +kernel
theorem dX10_init_297 : decode cX10_init 297 = .ok (.newarray .int, 2) := by decide +kernel
theorem dX10_init_299 : decode cX10_init 299 = .ok (.putfield 120, 3) := by decide +kernel
theorem dX10_init_302 : decode cX10_init 302 = .ok (.aload_n 0, 1) := by decide +kernel
theorem dX10_init_303 : decode cX10_init 303 = .ok (.bipush 40, 2) := by decide +kernel
theorem dX10_init_305 : decode cX10_init 305 = .ok (.newarray .int, 2) := by decide +kernel
theorem dX10_init_307 : decode cX10_init 307 = .ok (.putfield 123, 3) := by decide +kernel
theorem dX10_init_310 : decode cX10_init 310 = .ok (.aload_n 0, 1) := by decide +kernel
theorem dX10_init_311 : decode cX10_init 311 = .ok (.bipush 40, 2) := by decide +kernel
theorem dX10_init_313 : decode cX10_init 313 = .ok (.newarray .int, 2) := by decide +kernel
theorem dX10_init_315 : decode cX10_init 315 = .ok (.putfield 126, 3) := by decide +kernel
theorem dX10_init_318 : decode cX10_init 318 = .ok (.aload_n 0, 1) := by decide +kernel
theorem dX10_init_319 : decode cX10_init 319 = .ok (.bipush 40, 2) := by decide +kernel
theorem dX10_init_321 : decode cX10_init 321 = .ok (.newarray .int, 2) := by decide +kernel
theorem dX10_init_323 : decode cX10_init 323 = .ok (.putfield 129, 3) := by decide +kernel
theorem dX10_init_326 : decode cX10_init 326 = .ok (.aload_n 0, 1) := by decide +kernel
theorem dX10_init_327 : decode cX10_init 327 = .ok (.bipush 40, 2) := by decide +kernel
theorem dX10_init_329 : decode cX10_init 329 = .ok (.newarray .int, 2) := by decide +kernel
theorem dX10_init_331 : decode cX10_init 331 = .ok (.putfield 132, 3) := by decide +kernel
theorem dX10_init_334 : decode cX10_init 334 = .ok (.aload_n 0, 1) := by decide +kernel
theorem dX10_init_335 : decode cX10_init 335 = .ok (.iconst 3, 1) := by decide +kernel
theorem dX10_init_336 : decode cX10_init 336 = .ok (.newarray .boolean, 2) := by decide +kernel
theorem dX10_init_338 : decode cX10_init 338 = .ok (.putfield 135, 3) := by decide +kernel
theorem dX10_init_341 : decode cX10_init 341 = .ok (.aload_n 0, 1) := by decide +kernel
theorem dX10_init_342 : decode cX10_init 342 = .ok (.bipush 6, 2) := by decide +kernel
theorem dX10_init_344 : decode cX10_init 344 = .ok (.newarray .int, 2) := by decide +kernel
theorem dX10_init_346 : decode cX10_init 346 = .ok (.putfield 139, 3) := by decide +kernel
theorem dX10_init_349 : decode cX10_init 349 = .ok (.aload_n 0, 1) := by decide +kernel
theorem dX10_init_350 : decode cX10_init 350 = .ok (.bipush 108, 2) := by decide +kernel
theorem dX10_init_352 : decode cX10_init 352 = .ok (.newarray .int, 2) := by decide +kernel
theorem dX10_init_354 : decode cX10_init 354 = .ok (.putfield 142, 3) := by decide +kernel
theorem dX10_init_357 : decode cX10_init 357 = .ok (.aload_n 0, 1) := by decide +kernel
theorem dX10_init_358 : decode cX10_init 358 = .ok (.sipush 432, 3) := by decide +kernel
theorem dX10_init_361 : decode cX10_init 361 = .ok (.newarray .int, 2) := by decide +kernel
theorem dX10_init_363 : decode cX10_init 363 = .ok (.putfield 145, 3) := by decide +kernel
theorem dX10_init_366 : decode cX10_init 366 = .ok (.aload_n 0, 1) := by decide +kernel
theorem dX10_init_367 : decode cX10_init 367 = .ok (.sipush 180, 3) := by decide +kernel
theorem dX10_init_370 : decode cX10_init 370 = .ok (.newarray .int, 2) := by decide +kernel
theorem dX10_init_372 : decode cX10_init 372 = .ok (.putfield 148, 3) := by decide +kernel
theorem dX10_init_375 : decode cX10_init 375 = .ok (.aload_n 0, 1) := by decide +kernel
theorem dX10_init_376 : decode cX10_init 376 = .ok (.iconst (-1), 1) := by decide +kernel
theorem dX10_init_377 : decode cX10_init 377 = .ok (.putfield 151, 3) := by decide +kernel
theorem dX10_init_380 : decode cX10_init 380 = .ok (.aload_n 0, 1) := by decide +kernel
theorem dX10_init_381 : decode cX10_init 381 = .ok (.iconst (-1), 1) := by decide +kernel
theorem dX10_init_382 : decode cX10_init 382 = .ok (.putfield 154, 3) := by decide +kernel
theorem dX10_init_385 : decode cX10_init 385 = .ok (.return_, 1) := by decide +kernel
theorem dX10_feed_0 : decode cX10_feed 0 = .ok (.aload_n 0, 1) := by decide +kernel
theorem dX10_feed_1 : decode cX10_feed 1 = .ok (.getfield 157, 3) := by decide +kernel
theorem dX10_feed_4 : decode cX10_feed 4 = .ok (.bipush 20, 2) := by decide +kernel
theorem dX10_feed_6 : decode cX10_feed 6 = .ok (.iadd, 1) := by decide +kernel
theorem dX10_feed_7 : decode cX10_feed 7 = .ok (.sipush 1600, 3) := by decide +kernel
theorem dX10_feed_10 : decode cX10_feed 10 = .ok (.if_icmp .le 5, 3) := by decide +kernel
theorem dX10_feed_13 : decode cX10_feed 13 = .ok (.iconst (-1), 1) := by decide +kernel
theorem dX10_feed_14 : decode cX10_feed 14 = .ok (.ireturn, 1) := by decide +kernel
theorem dX10_feed_15 : decode cX10_feed 15 = .ok (.aload_n 0, 1) := by decide +kernel
theorem dX10_feed_16 : decode cX10_feed 16 = .ok (.iload_n 1, 1) := by decide +kernel
theorem dX10_feed_17 : decode cX10_feed 17 = .ok (.invokevirtual 160, 3) := by decide +kernel
theorem dX10_feed_20 : decode cX10_feed 20 = .ok (.aload_n 0, 1) := by decide +kernel
theorem dX10_feed_21 : decode cX10_feed 21 = .ok (.iload_n 2, 1) := by decide +kernel
theorem dX10_feed_22 : decode cX10_feed 22 = .ok (.invokevirtual 160, 3) := by decide +kernel
theorem dX10_feed_25 : decode cX10_feed 25 = .ok (.aload_n 0, 1) := by decide +kernel
theorem dX10_feed_26 : decode cX10_feed 26 = .ok (.iload_n 3, 1) := by decide +kernel
theorem dX10_feed_27 : decode cX10_feed 27 = .ok (.invokevirtual 160, 3) := by decide +kernel
theorem dX10_feed_30 : decode cX10_feed 30 = .ok (.aload_n 0, 1) := by decide +kernel
theorem dX10_feed_31 : decode cX10_feed 31 = .ok (.iload 4, 2) := by decide +kernel
theorem dX10_feed_33 : decode cX10_feed 33 = .ok (.invokevirtual 160, 3) := by decide +kernel
theorem dX10_feed_36 : decode cX10_feed 36 = .ok (.aload_n 0, 1) := by decide +kernel
theorem dX10_feed_37 : decode cX10_feed 37 = .ok (.iload 5, 2) := by decide +kernel
theorem dX10_feed_39 : decode cX10_feed 39 = .ok (.invokevirtual 160, 3) := by decide +kernel
theorem dX10_feed_42 : decode cX10_feed 42 = .ok (.aload_n 0, 1) := by decide +kernel
theorem dX10_feed_43 : decode cX10_feed 43 = .ok (.getfield 157, 3) := by decide +kernel
theorem dX10_feed_46 : decode cX10_feed 46 = .ok (.ireturn, 1) := by decide +kernel
theorem dX10_four_0 : decode cX10_four 0 = .ok (.bipush 24, 2) := by decide +kernel
theorem dX10_four_2 : decode cX10_four 2 = .ok (.istore_n 2, 1) := by decide +kernel
theorem dX10_four_3 : decode cX10_four 3 = .ok (.iload_n 2, 1) := by decide +kernel
theorem dX10_four_4 : decode cX10_four 4 = .ok (.ifCond .lt 35, 3) := by decide +kernel
theorem dX10_four_7 : decode cX10_four 7 = .ok (.aload_n 0, 1) := by decide +kernel
theorem dX10_four_8 : decode cX10_four 8 = .ok (.getfield 7, 3) := by decide +kernel
theorem dX10_four_11 : decode cX10_four 11 = .ok (.aload_n 0, 1) := by decide +kernel
theorem dX10_four_12 : decode cX10_four 12 = .ok (.getfield 157, 3) := by decide +kernel
theorem dX10_four_15 : decode cX10_four 15 = .ok (.iload_n 1, 1) := by decide +kernel
theorem dX10_four_16 : decode cX10_four 16 = .ok (.iload_n 2, 1) := by decide +kernel
theorem dX10_four_17 : decode cX10_four 17 = .ok (.ishr, 1) := by decide +kernel
theorem dX10_four_18 : decode cX10_four 18 = .ok (.sipush 255, 3) := by decide +kernel
theorem dX10_four_21 : decode cX10_four 21 = .ok (.iand, 1) := by decide +kernel
theorem dX10_four_22 : decode cX10_four 22 = .ok (.iastore, 1) := by decide +kernel
theorem dX10_four_23 : decode cX10_four 23 = .ok (.aload_n 0, 1) := by decide +kernel
theorem dX10_four_24 : decode cX10_four 24 = .ok (.dup, 1) := by decide +kernel
theorem dX10_four_25 : decode cX10_four 25 = .ok (.getfield 157, 3) := by decide +kernel
theorem dX10_four_28 : decode cX10_four 28 = .ok (.iconst 1, 1) := by decide +kernel
theorem dX10_four_29 : decode cX10_four 29 = .ok (.iadd, 1) := by decide +kernel
theorem dX10_four_30 : decode cX10_four 30 = .ok (.putfield 157, 3) := by decide +kernel
theorem dX10_four_33 : decode cX10_four 33 = .ok (.iinc 2 (-8), 3) := by decide +kernel
theorem dX10_four_36 : decode cX10_four 36 = .ok (.goto (-33), 3) := by decide +kernel
theorem dX10_four_39 : decode cX10_four 39 = .ok (.return_, 1) := by decide +kernel
theorem dX10_end_0 : decode cX10_end 0 = .ok (.iload_n 1, 1) := by decide +kernel
theorem dX10_end_1 : decode cX10_end 1 = .ok (.ifCond .lt 11, 3) := by decide +kernel
theorem dX10_end_4 : decode cX10_end 4 = .ok (.iload_n 1, 1) := by decide +kernel
theorem dX10_end_5 : decode cX10_end 5 = .ok (.aload_n 0, 1) := by decide +kernel
theorem dX10_end_6 : decode cX10_end 6 = .ok (.getfield 157, 3) := by decide +kernel
theorem dX10_end_9 : decode cX10_end 9 = .ok (.if_icmp .le 5, 3) := by decide +kernel
theorem dX10_end_12 : decode cX10_end 12 = .ok (.iconst (-1), 1) := by decide +kernel
theorem dX10_end_13 : decode cX10_end 13 = .ok (.ireturn, 1) := by decide +kernel
theorem dX10_end_14 : decode cX10_end 14 = .ok (.aload_n 0, 1) := by decide +kernel
theorem dX10_end_15 : decode cX10_end 15 = .ok (.iload_n 1, 1) := by decide +kernel
theorem dX10_end_16 : decode cX10_end 16 = .ok (.putfield 157, 3) := by decide +kernel
theorem dX10_end_19 : decode cX10_end 19 = .ok (.iload_n 1, 1) := by decide +kernel
theorem dX10_end_20 : decode cX10_end 20 = .ok (.ireturn, 1) := by decide +kernel
theorem dX10_here_0 : decode cX10_here 0 = .ok (.aload_n 0, 1) := by decide +kernel
theorem dX10_here_1 : decode cX10_here 1 = .ok (.getfield 164, 3) := by decide +kernel
theorem dX10_here_4 : decode cX10_here 4 = .ok (.iload_n 1, 1) := by decide +kernel
theorem dX10_here_5 : decode cX10_here 5 = .ok (.iadd, 1) := by decide +kernel
theorem dX10_here_6 : decode cX10_here 6 = .ok (.aload_n 0, 1) := by decide +kernel
theorem dX10_here_7 : decode cX10_here 7 = .ok (.getfield 167, 3) := by decide +kernel
theorem dX10_here_10 : decode cX10_here 10 = .ok (.if_icmp .ge 17, 3) := by decide +kernel
theorem dX10_here_13 : decode cX10_here 13 = .ok (.aload_n 0, 1) := by decide +kernel
theorem dX10_here_14 : decode cX10_here 14 = .ok (.getfield 7, 3) := by decide +kernel
theorem dX10_here_17 : decode cX10_here 17 = .ok (.aload_n 0, 1) := by decide +kernel
theorem dX10_here_18 : decode cX10_here 18 = .ok (.getfield 164, 3) := by decide +kernel
theorem dX10_here_21 : decode cX10_here 21 = .ok (.iload_n 1, 1) := by decide +kernel
theorem dX10_here_22 : decode cX10_here 22 = .ok (.iadd, 1) := by decide +kernel
theorem dX10_here_23 : decode cX10_here 23 = .ok (.iaload, 1) := by decide +kernel
theorem dX10_here_24 : decode cX10_here 24 = .ok (.goto 4, 3) := by decide +kernel
theorem dX10_here_27 : decode cX10_here 27 = .ok (.iconst (-1), 1) := by decide +kernel
theorem dX10_here_28 : decode cX10_here 28 = .ok (.ireturn, 1) := by decide +kernel
theorem dX10_isLetter_0 : decode cX10_isLetter 0 = .ok (.iload_n 0, 1) := by decide +kernel
theorem dX10_isLetter_1 : decode cX10_isLetter 1 = .ok (.bipush 97, 2) := by decide +kernel
theorem dX10_isLetter_3 : decode cX10_isLetter 3 = .ok (.if_icmp .lt 13, 3) := by decide +kernel
theorem dX10_isLetter_6 : decode cX10_isLetter 6 = .ok (.iload_n 0, 1) := by decide +kernel
theorem dX10_isLetter_7 : decode cX10_isLetter 7 = .ok (.bipush 122, 2) := by decide +kernel
theorem dX10_isLetter_9 : decode cX10_isLetter 9 = .ok (.if_icmp .gt 7, 3) := by decide +kernel
theorem dX10_isLetter_12 : decode cX10_isLetter 12 = .ok (.iconst 1, 1) := by decide +kernel
theorem dX10_isLetter_13 : decode cX10_isLetter 13 = .ok (.goto 4, 3) := by decide +kernel
theorem dX10_isLetter_16 : decode cX10_isLetter 16 = .ok (.iconst 0, 1) := by decide +kernel
theorem dX10_isLetter_17 : decode cX10_isLetter 17 = .ok (.ireturn, 1) := by decide +kernel
theorem dX10_isDigit_0 : decode cX10_isDigit 0 = .ok (.iload_n 0, 1) := by decide +kernel
theorem dX10_isDigit_1 : decode cX10_isDigit 1 = .ok (.bipush 48, 2) := by decide +kernel
theorem dX10_isDigit_3 : decode cX10_isDigit 3 = .ok (.if_icmp .lt 13, 3) := by decide +kernel
theorem dX10_isDigit_6 : decode cX10_isDigit 6 = .ok (.iload_n 0, 1) := by decide +kernel
theorem dX10_isDigit_7 : decode cX10_isDigit 7 = .ok (.bipush 57, 2) := by decide +kernel
theorem dX10_isDigit_9 : decode cX10_isDigit 9 = .ok (.if_icmp .gt 7, 3) := by decide +kernel
theorem dX10_isDigit_12 : decode cX10_isDigit 12 = .ok (.iconst 1, 1) := by decide +kernel
theorem dX10_isDigit_13 : decode cX10_isDigit 13 = .ok (.goto 4, 3) := by decide +kernel
theorem dX10_isDigit_16 : decode cX10_isDigit 16 = .ok (.iconst 0, 1) := by decide +kernel
theorem dX10_isDigit_17 : decode cX10_isDigit 17 = .ok (.ireturn, 1) := by decide +kernel
theorem dX10_token_0 : decode cX10_token 0 = .ok (.aload_n 0, 1) := by decide +kernel
theorem dX10_token_1 : decode cX10_token 1 = .ok (.iconst 0, 1) := by decide +kernel
theorem dX10_token_2 : decode cX10_token 2 = .ok (.invokevirtual 170, 3) := by decide +kernel
theorem dX10_token_5 : decode cX10_token 5 = .ok (.bipush 32, 2) := by decide +kernel
theorem dX10_token_7 : decode cX10_token 7 = .ok (.if_icmp .eq 13, 3) := by decide +kernel
theorem dX10_token_10 : decode cX10_token 10 = .ok (.aload_n 0, 1) := by decide +kernel
theorem dX10_token_11 : decode cX10_token 11 = .ok (.iconst 0, 1) := by decide +kernel
theorem dX10_token_12 : decode cX10_token 12 = .ok (.invokevirtual 170, 3) := by decide +kernel
theorem dX10_token_15 : decode cX10_token 15 = .ok (.bipush 10, 2) := by decide +kernel
theorem dX10_token_17 : decode cX10_token 17 = .ok (.if_icmp .ne 16, 3) := by decide +kernel
theorem dX10_token_20 : decode cX10_token 20 = .ok (.aload_n 0, 1) := by decide +kernel
theorem dX10_token_21 : decode cX10_token 21 = .ok (.dup, 1) := by decide +kernel
theorem dX10_token_22 : decode cX10_token 22 = .ok (.getfield 164, 3) := by decide +kernel
theorem dX10_token_25 : decode cX10_token 25 = .ok (.iconst 1, 1) := by decide +kernel
theorem dX10_token_26 : decode cX10_token 26 = .ok (.iadd, 1) := by decide +kernel
theorem dX10_token_27 : decode cX10_token 27 = .ok (.putfield 164, 3) := by decide +kernel
theorem dX10_token_30 : decode cX10_token 30 = .ok (.goto (-30), 3) := by decide +kernel
theorem dX10_token_33 : decode cX10_token 33 = .ok (.aload_n 0, 1) := by decide +kernel
theorem dX10_token_34 : decode cX10_token 34 = .ok (.aload_n 0, 1) := by decide +kernel
theorem dX10_token_35 : decode cX10_token 35 = .ok (.getfield 164, 3) := by decide +kernel
theorem dX10_token_38 : decode cX10_token 38 = .ok (.putfield 174, 3) := by decide +kernel
theorem dX10_token_41 : decode cX10_token 41 = .ok (.aload_n 0, 1) := by decide +kernel
theorem dX10_token_42 : decode cX10_token 42 = .ok (.iconst 0, 1) := by decide +kernel
theorem dX10_token_43 : decode cX10_token 43 = .ok (.invokevirtual 170, 3) := by decide +kernel
theorem dX10_token_46 : decode cX10_token 46 = .ok (.istore_n 1, 1) := by decide +kernel
theorem dX10_token_47 : decode cX10_token 47 = .ok (.iconst 0, 1) := by decide +kernel
theorem dX10_token_48 : decode cX10_token 48 = .ok (.istore_n 2, 1) := by decide +kernel
theorem dX10_token_49 : decode cX10_token 49 = .ok (.aload_n 0, 1) := by decide +kernel
theorem dX10_token_50 : decode cX10_token 50 = .ok (.lconst 0, 1) := by decide +kernel
theorem dX10_token_51 : decode cX10_token 51 = .ok (.putfield 177, 3) := by decide +kernel
theorem dX10_token_54 : decode cX10_token 54 = .ok (.aload_n 0, 1) := by decide +kernel
theorem dX10_token_55 : decode cX10_token 55 = .ok (.iconst 0, 1) := by decide +kernel
theorem dX10_token_56 : decode cX10_token 56 = .ok (.putfield 181, 3) := by decide +kernel
theorem dX10_token_59 : decode cX10_token 59 = .ok (.iload_n 1, 1) := by decide +kernel
theorem dX10_token_60 : decode cX10_token 60 = .ok (.ifCond .ge 11, 3) := by decide +kernel
theorem dX10_token_63 : decode cX10_token 63 = .ok (.aload_n 0, 1) := by decide +kernel
theorem dX10_token_64 : decode cX10_token 64 = .ok (.iconst 0, 1) := by decide +kernel
theorem dX10_token_65 : decode cX10_token 65 = .ok (.putfield 184, 3) := by decide +kernel
theorem dX10_token_68 : decode cX10_token 68 = .ok (.goto 163, 3) := by decide +kernel
theorem dX10_token_71 : decode cX10_token 71 = .ok (.iload_n 1, 1) := by decide +kernel
theorem dX10_token_72 : decode cX10_token 72 = .ok (.invokestatic 187, 3) := by decide +kernel
theorem dX10_token_75 : decode cX10_token 75 = .ok (.ifCond .eq 62, 3) := by decide +kernel
theorem dX10_token_78 : decode cX10_token 78 = .ok (.aload_n 0, 1) := by decide +kernel
theorem dX10_token_79 : decode cX10_token 79 = .ok (.iload_n 2, 1) := by decide +kernel
theorem dX10_token_80 : decode cX10_token 80 = .ok (.invokevirtual 170, 3) := by decide +kernel
theorem dX10_token_83 : decode cX10_token 83 = .ok (.invokestatic 187, 3) := by decide +kernel
theorem dX10_token_86 : decode cX10_token 86 = .ok (.ifCond .eq 33, 3) := by decide +kernel
theorem dX10_token_89 : decode cX10_token 89 = .ok (.iload_n 2, 1) := by decide +kernel
theorem dX10_token_90 : decode cX10_token 90 = .ok (.bipush 8, 2) := by decide +kernel
theorem dX10_token_92 : decode cX10_token 92 = .ok (.if_icmp .ge 21, 3) := by decide +kernel
theorem dX10_token_95 : decode cX10_token 95 = .ok (.aload_n 0, 1) := by decide +kernel
theorem dX10_token_96 : decode cX10_token 96 = .ok (.aload_n 0, 1) := by decide +kernel
theorem dX10_token_97 : decode cX10_token 97 = .ok (.getfield 177, 3) := by decide +kernel
theorem dX10_token_100 : decode cX10_token 100 = .ok (.bipush 8, 2) := by decide +kernel
theorem dX10_token_102 : decode cX10_token 102 = .ok (.lshl, 1) := by decide +kernel
theorem dX10_token_103 : decode cX10_token 103 = .ok (.aload_n 0, 1) := by decide +kernel
theorem dX10_token_104 : decode cX10_token 104 = .ok (.iload_n 2, 1) := by decide +kernel
theorem dX10_token_105 : decode cX10_token 105 = .ok (.invokevirtual 170, 3) := by decide +kernel
theorem dX10_token_108 : decode cX10_token 108 = .ok (.i2l, 1) := by decide +kernel
theorem dX10_token_109 : decode cX10_token 109 = .ok (.lor, 1) := by decide +kernel
theorem dX10_token_110 : decode cX10_token 110 = .ok (.putfield 177, 3) := by decide +kernel
theorem dX10_token_113 : decode cX10_token 113 = .ok (.iinc 2 1, 3) := by decide +kernel
theorem dX10_token_116 : decode cX10_token 116 = .ok (.goto (-38), 3) := by decide +kernel
theorem dX10_token_119 : decode cX10_token 119 = .ok (.aload_n 0, 1) := by decide +kernel
theorem dX10_token_120 : decode cX10_token 120 = .ok (.iload_n 2, 1) := by decide +kernel
theorem dX10_token_121 : decode cX10_token 121 = .ok (.bipush 8, 2) := by decide +kernel
theorem dX10_token_123 : decode cX10_token 123 = .ok (.if_icmp .le 7, 3) := by decide +kernel
theorem dX10_token_126 : decode cX10_token 126 = .ok (.iconst 3, 1) := by decide +kernel
theorem dX10_token_127 : decode cX10_token 127 = .ok (.goto 4, 3) := by decide +kernel
theorem dX10_token_130 : decode cX10_token 130 = .ok (.iconst 1, 1) := by decide +kernel
theorem dX10_token_131 : decode cX10_token 131 = .ok (.putfield 184, 3) := by decide +kernel
theorem dX10_token_134 : decode cX10_token 134 = .ok (.goto 97, 3) := by decide +kernel
theorem dX10_token_137 : decode cX10_token 137 = .ok (.iload_n 1, 1) := by decide +kernel
theorem dX10_token_138 : decode cX10_token 138 = .ok (.invokestatic 191, 3) := by decide +kernel
theorem dX10_token_141 : decode cX10_token 141 = .ok (.ifCond .eq 73, 3) := by decide +kernel
theorem dX10_token_144 : decode cX10_token 144 = .ok (.aload_n 0, 1) := by decide +kernel
theorem dX10_token_145 : decode cX10_token 145 = .ok (.iload_n 2, 1) := by decide +kernel
theorem dX10_token_146 : decode cX10_token 146 = .ok (.invokevirtual 170, 3) := by decide +kernel
theorem dX10_token_149 : decode cX10_token 149 = .ok (.invokestatic 191, 3) := by decide +kernel
theorem dX10_token_152 : decode cX10_token 152 = .ok (.ifCond .eq 34, 3) := by decide +kernel
theorem dX10_token_155 : decode cX10_token 155 = .ok (.iload_n 2, 1) := by decide +kernel
theorem dX10_token_156 : decode cX10_token 156 = .ok (.iconst 4, 1) := by decide +kernel
theorem dX10_token_157 : decode cX10_token 157 = .ok (.if_icmp .ge 23, 3) := by decide +kernel
theorem dX10_token_160 : decode cX10_token 160 = .ok (.aload_n 0, 1) := by decide +kernel
theorem dX10_token_161 : decode cX10_token 161 = .ok (.bipush 10, 2) := by decide +kernel
theorem dX10_token_163 : decode cX10_token 163 = .ok (.aload_n 0, 1) := by decide +kernel
theorem dX10_token_164 : decode cX10_token 164 = .ok (.getfield 181, 3) := by decide +kernel
theorem dX10_token_167 : decode cX10_token 167 = .ok (.imul, 1) := by decide +kernel
theorem dX10_token_168 : decode cX10_token 168 = .ok (.aload_n 0, 1) := by decide +kernel
theorem dX10_token_169 : decode cX10_token 169 = .ok (.iload_n 2, 1) := by decide +kernel
theorem dX10_token_170 : decode cX10_token 170 = .ok (.invokevirtual 170, 3) := by decide +kernel
theorem dX10_token_173 : decode cX10_token 173 = .ok (.iadd, 1) := by decide +kernel
theorem dX10_token_174 : decode cX10_token 174 = .ok (.bipush 48, 2) := by decide +kernel
theorem dX10_token_176 : decode cX10_token 176 = .ok (.isub, 1) := by decide +kernel
theorem dX10_token_177 : decode cX10_token 177 = .ok (.putfield 181, 3) := by decide +kernel
theorem dX10_token_180 : decode cX10_token 180 = .ok (.iinc 2 1, 3) := by decide +kernel
theorem dX10_token_183 : decode cX10_token 183 = .ok (.goto (-39), 3) := by decide +kernel
theorem dX10_token_186 : decode cX10_token 186 = .ok (.aload_n 0, 1) := by decide +kernel
theorem dX10_token_187 : decode cX10_token 187 = .ok (.iload_n 2, 1) := by decide +kernel
theorem dX10_token_188 : decode cX10_token 188 = .ok (.iconst 4, 1) := by decide +kernel
theorem dX10_token_189 : decode cX10_token 189 = .ok (.if_icmp .gt 14, 3) := by decide +kernel
theorem dX10_token_192 : decode cX10_token 192 = .ok (.aload_n 0, 1) := by decide +kernel
theorem dX10_token_193 : decode cX10_token 193 = .ok (.iload_n 2, 1) := by decide +kernel
theorem dX10_token_194 : decode cX10_token 194 = .ok (.invokevirtual 170, 3) := by decide +kernel
theorem dX10_token_197 : decode cX10_token 197 = .ok (.invokestatic 187, 3) := by decide +kernel
theorem dX10_token_200 : decode cX10_token 200 = .ok (.ifCond .eq 7, 3) := by decide +kernel
theorem dX10_token_203 : decode cX10_token 203 = .ok (.iconst 3, 1) := by decide +kernel
theorem dX10_token_204 : decode cX10_token 204 = .ok (.goto 4, 3) := by decide +kernel
theorem dX10_token_207 : decode cX10_token 207 = .ok (.iconst 2, 1) := by decide +kernel
theorem dX10_token_208 : decode cX10_token 208 = .ok (.putfield 184, 3) := by decide +kernel
theorem dX10_token_211 : decode cX10_token 211 = .ok (.goto 20, 3) := by decide +kernel
theorem dX10_token_214 : decode cX10_token 214 = .ok (.iconst 1, 1) := by decide +kernel
theorem dX10_token_215 : decode cX10_token 215 = .ok (.istore_n 2, 1) := by decide +kernel
theorem dX10_token_216 : decode cX10_token 216 = .ok (.aload_n 0, 1) := by decide +kernel
theorem dX10_token_217 : decode cX10_token 217 = .ok (.iload_n 1, 1) := by decide +kernel
theorem dX10_token_218 : decode cX10_token 218 = .ok (.bipush 59, 2) := by decide +kernel
theorem dX10_token_220 : decode cX10_token 220 = .ok (.if_icmp .ne 7, 3) := by decide +kernel
theorem dX10_token_223 : decode cX10_token 223 = .ok (.iload_n 1, 1) := by decide +kernel
theorem dX10_token_224 : decode cX10_token 224 = .ok (.goto 4, 3) := by decide +kernel
theorem dX10_token_227 : decode cX10_token 227 = .ok (.iconst 3, 1) := by decide +kernel
theorem dX10_token_228 : decode cX10_token 228 = .ok (.putfield 184, 3) := by decide +kernel
theorem dX10_token_231 : decode cX10_token 231 = .ok (.aload_n 0, 1) := by decide +kernel
theorem dX10_token_232 : decode cX10_token 232 = .ok (.getfield 184, 3) := by decide +kernel
theorem dX10_token_235 : decode cX10_token 235 = .ok (.iconst 3, 1) := by decide +kernel
theorem dX10_token_236 : decode cX10_token 236 = .ok (.if_icmp .eq 13, 3) := by decide +kernel
theorem dX10_token_239 : decode cX10_token 239 = .ok (.aload_n 0, 1) := by decide +kernel
theorem dX10_token_240 : decode cX10_token 240 = .ok (.dup, 1) := by decide +kernel
theorem dX10_token_241 : decode cX10_token 241 = .ok (.getfield 164, 3) := by decide +kernel
theorem dX10_token_244 : decode cX10_token 244 = .ok (.iload_n 2, 1) := by decide +kernel
theorem dX10_token_245 : decode cX10_token 245 = .ok (.iadd, 1) := by decide +kernel
theorem dX10_token_246 : decode cX10_token 246 = .ok (.putfield 164, 3) := by decide +kernel
theorem dX10_token_249 : decode cX10_token 249 = .ok (.return_, 1) := by decide +kernel
theorem dX10_wrong_0 : decode cX10_wrong 0 = .ok (.aload_n 0, 1) := by decide +kernel
theorem dX10_wrong_1 : decode cX10_wrong 1 = .ok (.getfield 194, 3) := by decide +kernel
theorem dX10_wrong_4 : decode cX10_wrong 4 = .ok (.ifCond .le 4, 3) := by decide +kernel
theorem dX10_wrong_7 : decode cX10_wrong 7 = .ok (.return_, 1) := by decide +kernel
theorem dX10_wrong_8 : decode cX10_wrong 8 = .ok (.aload_n 0, 1) := by decide +kernel
theorem dX10_wrong_9 : decode cX10_wrong 9 = .ok (.aload_n 0, 1) := by decide +kernel
theorem dX10_wrong_10 : decode cX10_wrong 10 = .ok (.getfield 184, 3) := by decide +kernel
theorem dX10_wrong_13 : decode cX10_wrong 13 = .ok (.iconst 3, 1) := by decide +kernel
theorem dX10_wrong_14 : decode cX10_wrong 14 = .ok (.if_icmp .ne 7, 3) := by decide +kernel
theorem dX10_wrong_17 : decode cX10_wrong 17 = .ok (.iconst 1, 1) := by decide +kernel
theorem dX10_wrong_18 : decode cX10_wrong 18 = .ok (.goto 4, 3) := by decide +kernel
theorem dX10_wrong_21 : decode cX10_wrong 21 = .ok (.iload_n 1, 1) := by decide +kernel
theorem dX10_wrong_22 : decode cX10_wrong 22 = .ok (.putfield 194, 3) := by decide +kernel
theorem dX10_wrong_25 : decode cX10_wrong 25 = .ok (.aload_n 0, 1) := by decide +kernel
theorem dX10_wrong_26 : decode cX10_wrong 26 = .ok (.aload_n 0, 1) := by decide +kernel
theorem dX10_wrong_27 : decode cX10_wrong 27 = .ok (.getfield 174, 3) := by decide +kernel
theorem dX10_wrong_30 : decode cX10_wrong 30 = .ok (.putfield 13, 3) := by decide +kernel
theorem dX10_wrong_33 : decode cX10_wrong 33 = .ok (.return_, 1) := by decide +kernel
theorem dX10_isWord_0 : decode cX10_isWord 0 = .ok (.aload_n 0, 1) := by decide +kernel
theorem dX10_isWord_1 : decode cX10_isWord 1 = .ok (.getfield 184, 3) := by decide +kernel
theorem dX10_isWord_4 : decode cX10_isWord 4 = .ok (.iconst 1, 1) := by decide +kernel
theorem dX10_isWord_5 : decode cX10_isWord 5 = .ok (.if_icmp .ne 16, 3) := by decide +kernel
theorem dX10_isWord_8 : decode cX10_isWord 8 = .ok (.aload_n 0, 1) := by decide +kernel
theorem dX10_isWord_9 : decode cX10_isWord 9 = .ok (.getfield 177, 3) := by decide +kernel
theorem dX10_isWord_12 : decode cX10_isWord 12 = .ok (.lload_n 1, 1) := by decide +kernel
theorem dX10_isWord_13 : decode cX10_isWord 13 = .ok (.lcmp, 1) := by decide +kernel
theorem dX10_isWord_14 : decode cX10_isWord 14 = .ok (.ifCond .ne 7, 3) := by decide +kernel
theorem dX10_isWord_17 : decode cX10_isWord 17 = .ok (.iconst 1, 1) := by decide +kernel
theorem dX10_isWord_18 : decode cX10_isWord 18 = .ok (.goto 4, 3) := by decide +kernel
theorem dX10_isWord_21 : decode cX10_isWord 21 = .ok (.iconst 0, 1) := by decide +kernel
theorem dX10_isWord_22 : decode cX10_isWord 22 = .ok (.ireturn, 1) := by decide +kernel
theorem dX10_isName_0 : decode cX10_isName 0 = .ok (.aload_n 0, 1) := by decide +kernel
theorem dX10_isName_1 : decode cX10_isName 1 = .ok (.getfield 184, 3) := by decide +kernel
theorem dX10_isName_4 : decode cX10_isName 4 = .ok (.iconst 1, 1) := by decide +kernel
theorem dX10_isName_5 : decode cX10_isName 5 = .ok (.if_icmp .eq 5, 3) := by decide +kernel
theorem dX10_isName_8 : decode cX10_isName 8 = .ok (.iconst 0, 1) := by decide +kernel
theorem dX10_isName_9 : decode cX10_isName 9 = .ok (.ireturn, 1) := by decide +kernel
theorem dX10_isName_10 : decode cX10_isName 10 = .ok (.aload_n 0, 1) := by decide +kernel
theorem dX10_isName_11 : decode cX10_isName 11 = .ok (.getfield 177, 3) := by decide +kernel
theorem dX10_isName_14 : decode cX10_isName 14 = .ok (.ldc2_w 197, 3) := by decide +kernel
theorem dX10_isName_17 : decode cX10_isName 17 = .ok (.lcmp, 1) := by decide +kernel
theorem dX10_isName_18 : decode cX10_isName 18 = .ok (.ifCond .eq 69, 3) := by decide +kernel
theorem dX10_isName_21 : decode cX10_isName 21 = .ok (.aload_n 0, 1) := by decide +kernel
theorem dX10_isName_22 : decode cX10_isName 22 = .ok (.getfield 177, 3) := by decide +kernel
theorem dX10_isName_25 : decode cX10_isName 25 = .ok (.ldc2_w 199, 3) := by decide +kernel
theorem dX10_isName_28 : decode cX10_isName 28 = .ok (.lcmp, 1) := by decide +kernel
theorem dX10_isName_29 : decode cX10_isName 29 = .ok (.ifCond .eq 58, 3) := by decide +kernel
theorem dX10_isName_32 : decode cX10_isName 32 = .ok (.aload_n 0, 1) := by decide +kernel
theorem dX10_isName_33 : decode cX10_isName 33 = .ok (.getfield 177, 3) := by decide +kernel
theorem dX10_isName_36 : decode cX10_isName 36 = .ok (.ldc2_w 201, 3) := by decide +kernel
theorem dX10_isName_39 : decode cX10_isName 39 = .ok (.lcmp, 1) := by decide +kernel
theorem dX10_isName_40 : decode cX10_isName 40 = .ok (.ifCond .eq 47, 3) := by decide +kernel
theorem dX10_isName_43 : decode cX10_isName 43 = .ok (.aload_n 0, 1) := by decide +kernel
theorem dX10_isName_44 : decode cX10_isName 44 = .ok (.getfield 177, 3) := by decide +kernel
theorem dX10_isName_47 : decode cX10_isName 47 = .ok (.ldc2_w 203, 3) := by decide +kernel
theorem dX10_isName_50 : decode cX10_isName 50 = .ok (.lcmp, 1) := by decide +kernel
theorem dX10_isName_51 : decode cX10_isName 51 = .ok (.ifCond .eq 36, 3) := by decide +kernel
theorem dX10_isName_54 : decode cX10_isName 54 = .ok (.aload_n 0, 1) := by decide +kernel
theorem dX10_isName_55 : decode cX10_isName 55 = .ok (.getfield 177, 3) := by decide +kernel
theorem dX10_isName_58 : decode cX10_isName 58 = .ok (.ldc2_w 205, 3) := by decide +kernel
theorem dX10_isName_61 : decode cX10_isName 61 = .ok (.lcmp, 1) := by decide +kernel
theorem dX10_isName_62 : decode cX10_isName 62 = .ok (.ifCond .eq 25, 3) := by decide +kernel
theorem dX10_isName_65 : decode cX10_isName 65 = .ok (.aload_n 0, 1) := by decide +kernel
theorem dX10_isName_66 : decode cX10_isName 66 = .ok (.getfield 177, 3) := by decide +kernel
theorem dX10_isName_69 : decode cX10_isName 69 = .ok (.ldc2_w 207, 3) := by decide +kernel
theorem dX10_isName_72 : decode cX10_isName 72 = .ok (.lcmp, 1) := by decide +kernel
theorem dX10_isName_73 : decode cX10_isName 73 = .ok (.ifCond .eq 14, 3) := by decide +kernel
theorem dX10_isName_76 : decode cX10_isName 76 = .ok (.aload_n 0, 1) := by decide +kernel
theorem dX10_isName_77 : decode cX10_isName 77 = .ok (.getfield 177, 3) := by decide +kernel
theorem dX10_isName_80 : decode cX10_isName 80 = .ok (.ldc2_w 209, 3) := by decide +kernel
theorem dX10_isName_83 : decode cX10_isName 83 = .ok (.lcmp, 1) := by decide +kernel
theorem dX10_isName_84 : decode cX10_isName 84 = .ok (.ifCond .ne 7, 3) := by decide +kernel
theorem dX10_isName_87 : decode cX10_isName 87 = .ok (.iconst 1, 1) := by decide +kernel
theorem dX10_isName_88 : decode cX10_isName 88 = .ok (.goto 4, 3) := by decide +kernel
theorem dX10_isName_91 : decode cX10_isName 91 = .ok (.iconst 0, 1) := by decide +kernel
theorem dX10_isName_92 : decode cX10_isName 92 = .ok (.istore_n 1, 1) := by decide +kernel
theorem dX10_isName_93 : decode cX10_isName 93 = .ok (.aload_n 0, 1) := by decide +kernel
theorem dX10_isName_94 : decode cX10_isName 94 = .ok (.getfield 177, 3) := by decide +kernel
theorem dX10_isName_97 : decode cX10_isName 97 = .ok (.ldc2_w 211, 3) := by decide +kernel
theorem dX10_isName_100 : decode cX10_isName 100 = .ok (.lcmp, 1) := by decide +kernel
theorem dX10_isName_101 : decode cX10_isName 101 = .ok (.ifCond .eq 58, 3) := by decide +kernel
theorem dX10_isName_104 : decode cX10_isName 104 = .ok (.aload_n 0, 1) := by decide +kernel
theorem dX10_isName_105 : decode cX10_isName 105 = .ok (.getfield 177, 3) := by decide +kernel
theorem dX10_isName_108 : decode cX10_isName 108 = .ok (.ldc2_w 213, 3) := by decide +kernel
theorem dX10_isName_111 : decode cX10_isName 111 = .ok (.lcmp, 1) := by decide +kernel
theorem dX10_isName_112 : decode cX10_isName 112 = .ok (.ifCond .eq 47, 3) := by decide +kernel
theorem dX10_isName_115 : decode cX10_isName 115 = .ok (.aload_n 0, 1) := by decide +kernel
theorem dX10_isName_116 : decode cX10_isName 116 = .ok (.getfield 177, 3) := by decide +kernel
theorem dX10_isName_119 : decode cX10_isName 119 = .ok (.ldc2_w 215, 3) := by decide +kernel
theorem dX10_isName_122 : decode cX10_isName 122 = .ok (.lcmp, 1) := by decide +kernel
theorem dX10_isName_123 : decode cX10_isName 123 = .ok (.ifCond .eq 36, 3) := by decide +kernel
theorem dX10_isName_126 : decode cX10_isName 126 = .ok (.aload_n 0, 1) := by decide +kernel
theorem dX10_isName_127 : decode cX10_isName 127 = .ok (.getfield 177, 3) := by decide +kernel
theorem dX10_isName_130 : decode cX10_isName 130 = .ok (.ldc2_w 217, 3) := by decide +kernel
theorem dX10_isName_133 : decode cX10_isName 133 = .ok (.lcmp, 1) := by decide +kernel
theorem dX10_isName_134 : decode cX10_isName 134 = .ok (.ifCond .eq 25, 3) := by decide +kernel
theorem dX10_isName_137 : decode cX10_isName 137 = .ok (.aload_n 0, 1) := by decide +kernel
theorem dX10_isName_138 : decode cX10_isName 138 = .ok (.getfield 177, 3) := by decide +kernel
theorem dX10_isName_141 : decode cX10_isName 141 = .ok (.ldc2_w 219, 3) := by decide +kernel
theorem dX10_isName_144 : decode cX10_isName 144 = .ok (.lcmp, 1) := by decide +kernel
theorem dX10_isName_145 : decode cX10_isName 145 = .ok (.ifCond .eq 14, 3) := by decide +kernel
theorem dX10_isName_148 : decode cX10_isName 148 = .ok (.aload_n 0, 1) := by decide +kernel
theorem dX10_isName_149 : decode cX10_isName 149 = .ok (.getfield 177, 3) := by decide +kernel
theorem dX10_isName_152 : decode cX10_isName 152 = .ok (.ldc2_w 221, 3) := by decide +kernel
theorem dX10_isName_155 : decode cX10_isName 155 = .ok (.lcmp, 1) := by decide +kernel
theorem dX10_isName_156 : decode cX10_isName 156 = .ok (.ifCond .ne 7, 3) := by decide +kernel
theorem dX10_isName_159 : decode cX10_isName 159 = .ok (.iconst 1, 1) := by decide +kernel
theorem dX10_isName_160 : decode cX10_isName 160 = .ok (.goto 4, 3) := by decide +kernel
theorem dX10_isName_163 : decode cX10_isName 163 = .ok (.iconst 0, 1) := by decide +kernel
theorem dX10_isName_164 : decode cX10_isName 164 = .ok (.istore_n 2, 1) := by decide +kernel
theorem dX10_isName_165 : decode cX10_isName 165 = .ok (.iload_n 1, 1) := by decide +kernel
theorem dX10_isName_166 : decode cX10_isName 166 = .ok (.ifCond .ne 11, 3) := by decide +kernel
theorem dX10_isName_169 : decode cX10_isName 169 = .ok (.iload_n 2, 1) := by decide +kernel
theorem dX10_isName_170 : decode cX10_isName 170 = .ok (.ifCond .ne 7, 3) := by decide +kernel
theorem dX10_isName_173 : decode cX10_isName 173 = .ok (.iconst 1, 1) := by decide +kernel
theorem dX10_isName_174 : decode cX10_isName 174 = .ok (.goto 4, 3) := by decide +kernel
theorem dX10_isName_177 : decode cX10_isName 177 = .ok (.iconst 0, 1) := by decide +kernel
theorem dX10_isName_178 : decode cX10_isName 178 = .ok (.ireturn, 1) := by decide +kernel
theorem dX10_want_0 : decode cX10_want 0 = .ok (.aload_n 0, 1) := by decide +kernel
theorem dX10_want_1 : decode cX10_want 1 = .ok (.getfield 194, 3) := by decide +kernel
theorem dX10_want_4 : decode cX10_want 4 = .ok (.ifCond .le 4, 3) := by decide +kernel
theorem dX10_want_7 : decode cX10_want 7 = .ok (.return_, 1) := by decide +kernel
theorem dX10_want_8 : decode cX10_want 8 = .ok (.aload_n 0, 1) := by decide +kernel
theorem dX10_want_9 : decode cX10_want 9 = .ok (.lload_n 1, 1) := by decide +kernel
theorem dX10_want_10 : decode cX10_want 10 = .ok (.invokevirtual 223, 3) := by decide +kernel
theorem dX10_want_13 : decode cX10_want 13 = .ok (.ifCond .ne 11, 3) := by decide +kernel
theorem dX10_want_16 : decode cX10_want 16 = .ok (.aload_n 0, 1) := by decide +kernel
theorem dX10_want_17 : decode cX10_want 17 = .ok (.iconst 2, 1) := by decide +kernel
theorem dX10_want_18 : decode cX10_want 18 = .ok (.invokevirtual 227, 3) := by decide +kernel
theorem dX10_want_21 : decode cX10_want 21 = .ok (.goto 7, 3) := by decide +kernel
theorem dX10_want_24 : decode cX10_want 24 = .ok (.aload_n 0, 1) := by decide +kernel
theorem dX10_want_25 : decode cX10_want 25 = .ok (.invokevirtual 230, 3) := by decide +kernel
theorem dX10_want_28 : decode cX10_want 28 = .ok (.return_, 1) := by decide +kernel
theorem dX10_toldNumber_0 : decode cX10_toldNumber 0 = .ok (.aload_n 0, 1) := by decide +kernel
theorem dX10_toldNumber_1 : decode cX10_toldNumber 1 = .ok (.getfield 194, 3) := by decide +kernel
theorem dX10_toldNumber_4 : decode cX10_toldNumber 4 = .ok (.ifCond .le 5, 3) := by decide +kernel
theorem dX10_toldNumber_7 : decode cX10_toldNumber 7 = .ok (.iconst 0, 1) := by decide +kernel
theorem dX10_toldNumber_8 : decode cX10_toldNumber 8 = .ok (.ireturn, 1) := by decide +kernel
theorem dX10_toldNumber_9 : decode cX10_toldNumber 9 = .ok (.aload_n 0, 1) := by decide +kernel
theorem dX10_toldNumber_10 : decode cX10_toldNumber 10 = .ok (.getfield 184, 3) := by decide +kernel
theorem dX10_toldNumber_13 : decode cX10_toldNumber 13 = .ok (.iconst 2, 1) := by decide +kernel
theorem dX10_toldNumber_14 : decode cX10_toldNumber 14 = .ok (.if_icmp .eq 11, 3) := by decide +kernel
theorem dX10_toldNumber_17 : decode cX10_toldNumber 17 = .ok (.aload_n 0, 1) := by decide +kernel
theorem dX10_toldNumber_18 : decode cX10_toldNumber 18 = .ok (.iconst 2, 1) := by decide +kernel
theorem dX10_toldNumber_19 : decode cX10_toldNumber 19 = .ok (.invokevirtual 227, 3) := by decide +kernel
theorem dX10_toldNumber_22 : decode cX10_toldNumber 22 = .ok (.goto 24, 3) := by decide +kernel
theorem dX10_toldNumber_25 : decode cX10_toldNumber 25 = .ok (.aload_n 0, 1) := by decide +kernel
theorem dX10_toldNumber_26 : decode cX10_toldNumber 26 = .ok (.getfield 181, 3) := by decide +kernel
theorem dX10_toldNumber_29 : decode cX10_toldNumber 29 = .ok (.iload_n 1, 1) := by decide +kernel
theorem dX10_toldNumber_30 : decode cX10_toldNumber 30 = .ok (.if_icmp .lt 11, 3) := by decide +kernel
theorem dX10_toldNumber_33 : decode cX10_toldNumber 33 = .ok (.aload_n 0, 1) := by decide +kernel
theorem dX10_toldNumber_34 : decode cX10_toldNumber 34 = .ok (.getfield 181, 3) := by decide +kernel
theorem dX10_toldNumber_37 : decode cX10_toldNumber 37 = .ok (.iload_n 2, 1) := by decide +kernel
theorem dX10_toldNumber_38 : decode cX10_toldNumber 38 = .ok (.if_icmp .le 8, 3) := by decide +kernel
theorem dX10_toldNumber_41 : decode cX10_toldNumber 41 = .ok (.aload_n 0, 1) := by decide +kernel
theorem dX10_toldNumber_42 : decode cX10_toldNumber 42 = .ok (.iconst 4, 1) := by decide +kernel
theorem dX10_toldNumber_43 : decode cX10_toldNumber 43 = .ok (.invokevirtual 227, 3) := by decide +kernel
theorem dX10_toldNumber_46 : decode cX10_toldNumber 46 = .ok (.aload_n 0, 1) := by decide +kernel
theorem dX10_toldNumber_47 : decode cX10_toldNumber 47 = .ok (.getfield 181, 3) := by decide +kernel
theorem dX10_toldNumber_50 : decode cX10_toldNumber 50 = .ok (.istore_n 3, 1) := by decide +kernel
theorem dX10_toldNumber_51 : decode cX10_toldNumber 51 = .ok (.aload_n 0, 1) := by decide +kernel
theorem dX10_toldNumber_52 : decode cX10_toldNumber 52 = .ok (.getfield 194, 3) := by decide +kernel
theorem dX10_toldNumber_55 : decode cX10_toldNumber 55 = .ok (.ifCond .ne 7, 3) := by decide +kernel
theorem dX10_toldNumber_58 : decode cX10_toldNumber 58 = .ok (.aload_n 0, 1) := by decide +kernel
theorem dX10_toldNumber_59 : decode cX10_toldNumber 59 = .ok (.invokevirtual 230, 3) := by decide +kernel
theorem dX10_toldNumber_62 : decode cX10_toldNumber 62 = .ok (.iload_n 3, 1) := by decide +kernel
theorem dX10_toldNumber_63 : decode cX10_toldNumber 63 = .ok (.ireturn, 1) := by decide +kernel
theorem dX10_told_0 : decode cX10_told 0 = .ok (.aload_n 0, 1) := by decide +kernel
theorem dX10_told_1 : decode cX10_told 1 = .ok (.lload_n 1, 1) := by decide +kernel
theorem dX10_told_2 : decode cX10_told 2 = .ok (.invokevirtual 233, 3) := by decide +kernel
theorem dX10_told_5 : decode cX10_told 5 = .ok (.aload_n 0, 1) := by decide +kernel
theorem dX10_told_6 : decode cX10_told 6 = .ok (.iload_n 3, 1) := by decide +kernel
theorem dX10_told_7 : decode cX10_told 7 = .ok (.iload 4, 2) := by decide +kernel
theorem dX10_told_9 : decode cX10_told 9 = .ok (.invokevirtual 237, 3) := by decide +kernel
theorem dX10_told_12 : decode cX10_told 12 = .ok (.ireturn, 1) := by decide +kernel
theorem dX10_find_0 : decode cX10_find 0 = .ok (.iconst (-1), 1) := by decide +kernel
theorem dX10_find_1 : decode cX10_find 1 = .ok (.istore_n 1, 1) := by decide +kernel
theorem dX10_find_2 : decode cX10_find 2 = .ok (.iconst 0, 1) := by decide +kernel
theorem dX10_find_3 : decode cX10_find 3 = .ok (.istore_n 2, 1) := by decide +kernel
theorem dX10_find_4 : decode cX10_find 4 = .ok (.iload_n 2, 1) := by decide +kernel
theorem dX10_find_5 : decode cX10_find 5 = .ok (.aload_n 0, 1) := by decide +kernel
theorem dX10_find_6 : decode cX10_find 6 = .ok (.getfield 241, 3) := by decide +kernel
theorem dX10_find_9 : decode cX10_find 9 = .ok (.if_icmp .ge 29, 3) := by decide +kernel
theorem dX10_find_12 : decode cX10_find 12 = .ok (.aload_n 0, 1) := by decide +kernel
theorem dX10_find_13 : decode cX10_find 13 = .ok (.getfield 17, 3) := by decide +kernel
theorem dX10_find_16 : decode cX10_find 16 = .ok (.iload_n 2, 1) := by decide +kernel
theorem dX10_find_17 : decode cX10_find 17 = .ok (.laload, 1) := by decide +kernel
theorem dX10_find_18 : decode cX10_find 18 = .ok (.aload_n 0, 1) := by decide +kernel
theorem dX10_find_19 : decode cX10_find 19 = .ok (.getfield 177, 3) := by decide +kernel
theorem dX10_find_22 : decode cX10_find 22 = .ok (.lcmp, 1) := by decide +kernel
theorem dX10_find_23 : decode cX10_find 23 = .ok (.ifCond .ne 7, 3) := by decide +kernel
theorem dX10_find_26 : decode cX10_find 26 = .ok (.iload_n 2, 1) := by decide +kernel
theorem dX10_find_27 : decode cX10_find 27 = .ok (.goto 4, 3) := by decide +kernel
theorem dX10_find_30 : decode cX10_find 30 = .ok (.iload_n 1, 1) := by decide +kernel
theorem dX10_find_31 : decode cX10_find 31 = .ok (.istore_n 1, 1) := by decide +kernel
theorem dX10_find_32 : decode cX10_find 32 = .ok (.iinc 2 1, 3) := by decide +kernel
theorem dX10_find_35 : decode cX10_find 35 = .ok (.goto (-31), 3) := by decide +kernel
theorem dX10_find_38 : decode cX10_find 38 = .ok (.iload_n 1, 1) := by decide +kernel
theorem dX10_find_39 : decode cX10_find 39 = .ok (.ireturn, 1) := by decide +kernel
theorem dX10_old_0 : decode cX10_old 0 = .ok (.aload_n 0, 1) := by decide +kernel
theorem dX10_old_1 : decode cX10_old 1 = .ok (.getfield 194, 3) := by decide +kernel
theorem dX10_old_4 : decode cX10_old 4 = .ok (.ifCond .le 5, 3) := by decide +kernel
theorem dX10_old_7 : decode cX10_old 7 = .ok (.iconst 0, 1) := by decide +kernel
theorem dX10_old_8 : decode cX10_old 8 = .ok (.ireturn, 1) := by decide +kernel
theorem dX10_old_9 : decode cX10_old 9 = .ok (.aload_n 0, 1) := by decide +kernel
theorem dX10_old_10 : decode cX10_old 10 = .ok (.invokevirtual 244, 3) := by decide +kernel
theorem dX10_old_13 : decode cX10_old 13 = .ok (.istore_n 1, 1) := by decide +kernel
theorem dX10_old_14 : decode cX10_old 14 = .ok (.aload_n 0, 1) := by decide +kernel
theorem dX10_old_15 : decode cX10_old 15 = .ok (.invokevirtual 248, 3) := by decide +kernel
theorem dX10_old_18 : decode cX10_old 18 = .ok (.ifCond .ne 11, 3) := by decide +kernel
theorem dX10_old_21 : decode cX10_old 21 = .ok (.aload_n 0, 1) := by decide +kernel
theorem dX10_old_22 : decode cX10_old 22 = .ok (.iconst 2, 1) := by decide +kernel
theorem dX10_old_23 : decode cX10_old 23 = .ok (.invokevirtual 227, 3) := by decide +kernel
theorem dX10_old_26 : decode cX10_old 26 = .ok (.goto 12, 3) := by decide +kernel
theorem dX10_old_29 : decode cX10_old 29 = .ok (.iload_n 1, 1) := by decide +kernel
theorem dX10_old_30 : decode cX10_old 30 = .ok (.ifCond .ge 8, 3) := by decide +kernel
theorem dX10_old_33 : decode cX10_old 33 = .ok (.aload_n 0, 1) := by decide +kernel
theorem dX10_old_34 : decode cX10_old 34 = .ok (.iconst 5, 1) := by decide +kernel
theorem dX10_old_35 : decode cX10_old 35 = .ok (.invokevirtual 227, 3) := by decide +kernel
theorem dX10_old_38 : decode cX10_old 38 = .ok (.aload_n 0, 1) := by decide +kernel
theorem dX10_old_39 : decode cX10_old 39 = .ok (.getfield 194, 3) := by decide +kernel
theorem dX10_old_42 : decode cX10_old 42 = .ok (.ifCond .ne 7, 3) := by decide +kernel
theorem dX10_old_45 : decode cX10_old 45 = .ok (.aload_n 0, 1) := by decide +kernel
theorem dX10_old_46 : decode cX10_old 46 = .ok (.invokevirtual 230, 3) := by decide +kernel
theorem dX10_old_49 : decode cX10_old 49 = .ok (.iload_n 1, 1) := by decide +kernel
theorem dX10_old_50 : decode cX10_old 50 = .ok (.ireturn, 1) := by decide +kernel
theorem dX10_readOne_0 : decode cX10_readOne 0 = .ok (.aload_n 0, 1) := by decide +kernel
theorem dX10_readOne_1 : decode cX10_readOne 1 = .ok (.invokevirtual 230, 3) := by decide +kernel
theorem dX10_readOne_4 : decode cX10_readOne 4 = .ok (.aload_n 0, 1) := by decide +kernel
theorem dX10_readOne_5 : decode cX10_readOne 5 = .ok (.invokevirtual 248, 3) := by decide +kernel
theorem dX10_readOne_8 : decode cX10_readOne 8 = .ok (.ifCond .ne 11, 3) := by decide +kernel
theorem dX10_readOne_11 : decode cX10_readOne 11 = .ok (.aload_n 0, 1) := by decide +kernel
theorem dX10_readOne_12 : decode cX10_readOne 12 = .ok (.iconst 2, 1) := by decide +kernel
theorem dX10_readOne_13 : decode cX10_readOne 13 = .ok (.invokevirtual 227, 3) := by decide +kernel
theorem dX10_readOne_16 : decode cX10_readOne 16 = .ok (.goto 15, 3) := by decide +kernel
theorem dX10_readOne_19 : decode cX10_readOne 19 = .ok (.aload_n 0, 1) := by decide +kernel
theorem dX10_readOne_20 : decode cX10_readOne 20 = .ok (.invokevirtual 244, 3) := by decide +kernel
theorem dX10_readOne_23 : decode cX10_readOne 23 = .ok (.ifCond .lt 8, 3) := by decide +kernel
theorem dX10_readOne_26 : decode cX10_readOne 26 = .ok (.aload_n 0, 1) := by decide +kernel
theorem dX10_readOne_27 : decode cX10_readOne 27 = .ok (.iconst 3, 1) := by decide +kernel
theorem dX10_readOne_28 : decode cX10_readOne 28 = .ok (.invokevirtual 227, 3) := by decide +kernel
theorem dX10_readOne_31 : decode cX10_readOne 31 = .ok (.aload_n 0, 1) := by decide +kernel
theorem dX10_readOne_32 : decode cX10_readOne 32 = .ok (.getfield 177, 3) := by decide +kernel
theorem dX10_readOne_35 : decode cX10_readOne 35 = .ok (.lstore_n 1, 1) := by decide +kernel
theorem dX10_readOne_36 : decode cX10_readOne 36 = .ok (.aload_n 0, 1) := by decide +kernel
theorem dX10_readOne_37 : decode cX10_readOne 37 = .ok (.getfield 194, 3) := by decide +kernel
theorem dX10_readOne_40 : decode cX10_readOne 40 = .ok (.ifCond .ne 7, 3) := by decide +kernel
theorem dX10_readOne_43 : decode cX10_readOne 43 = .ok (.aload_n 0, 1) := by decide +kernel
theorem dX10_readOne_44 : decode cX10_readOne 44 = .ok (.invokevirtual 230, 3) := by decide +kernel
theorem dX10_readOne_47 : decode cX10_readOne 47 = .ok (.aload_n 0, 1) := by decide +kernel
theorem dX10_readOne_48 : decode cX10_readOne 48 = .ok (.ldc2_w 199, 3) := by decide +kernel
theorem dX10_readOne_51 : decode cX10_readOne 51 = .ok (.invokevirtual 223, 3) := by decide +kernel
theorem dX10_readOne_54 : decode cX10_readOne 54 = .ok (.ifCond .eq 7, 3) := by decide +kernel
theorem dX10_readOne_57 : decode cX10_readOne 57 = .ok (.iconst 1, 1) := by decide +kernel
theorem dX10_readOne_58 : decode cX10_readOne 58 = .ok (.goto 32, 3) := by decide +kernel
theorem dX10_readOne_61 : decode cX10_readOne 61 = .ok (.aload_n 0, 1) := by decide +kernel
theorem dX10_readOne_62 : decode cX10_readOne 62 = .ok (.ldc2_w 201, 3) := by decide +kernel
theorem dX10_readOne_65 : decode cX10_readOne 65 = .ok (.invokevirtual 223, 3) := by decide +kernel
theorem dX10_readOne_68 : decode cX10_readOne 68 = .ok (.ifCond .eq 7, 3) := by decide +kernel
theorem dX10_readOne_71 : decode cX10_readOne 71 = .ok (.iconst 2, 1) := by decide +kernel
theorem dX10_readOne_72 : decode cX10_readOne 72 = .ok (.goto 18, 3) := by decide +kernel
theorem dX10_readOne_75 : decode cX10_readOne 75 = .ok (.aload_n 0, 1) := by decide +kernel
theorem dX10_readOne_76 : decode cX10_readOne 76 = .ok (.ldc2_w 203, 3) := by decide +kernel
theorem dX10_readOne_79 : decode cX10_readOne 79 = .ok (.invokevirtual 223, 3) := by decide +kernel
theorem dX10_readOne_82 : decode cX10_readOne 82 = .ok (.ifCond .eq 7, 3) := by decide +kernel
theorem dX10_readOne_85 : decode cX10_readOne 85 = .ok (.iconst 3, 1) := by decide +kernel
theorem dX10_readOne_86 : decode cX10_readOne 86 = .ok (.goto 4, 3) := by decide +kernel
theorem dX10_readOne_89 : decode cX10_readOne 89 = .ok (.iconst 0, 1) := by decide +kernel
theorem dX10_readOne_90 : decode cX10_readOne 90 = .ok (.istore_n 3, 1) := by decide +kernel
theorem dX10_readOne_91 : decode cX10_readOne 91 = .ok (.aload_n 0, 1) := by decide +kernel
theorem dX10_readOne_92 : decode cX10_readOne 92 = .ok (.getfield 194, 3) := by decide +kernel
theorem dX10_readOne_95 : decode cX10_readOne 95 = .ok (.ifCond .ne 11, 3) := by decide +kernel
theorem dX10_readOne_98 : decode cX10_readOne 98 = .ok (.iload_n 3, 1) := by decide +kernel
theorem dX10_readOne_99 : decode cX10_readOne 99 = .ok (.ifCond .eq 7, 3) := by decide +kernel
theorem dX10_readOne_102 : decode cX10_readOne 102 = .ok (.aload_n 0, 1) := by decide +kernel
theorem dX10_readOne_103 : decode cX10_readOne 103 = .ok (.invokevirtual 230, 3) := by decide +kernel
theorem dX10_readOne_106 : decode cX10_readOne 106 = .ok (.aload_n 0, 1) := by decide +kernel
theorem dX10_readOne_107 : decode cX10_readOne 107 = .ok (.getfield 21, 3) := by decide +kernel
theorem dX10_readOne_110 : decode cX10_readOne 110 = .ok (.aload_n 0, 1) := by decide +kernel
theorem dX10_readOne_111 : decode cX10_readOne 111 = .ok (.getfield 241, 3) := by decide +kernel
theorem dX10_readOne_114 : decode cX10_readOne 114 = .ok (.iload_n 3, 1) := by decide +kernel
theorem dX10_readOne_115 : decode cX10_readOne 115 = .ok (.iastore, 1) := by decide +kernel
theorem dX10_readOne_116 : decode cX10_readOne 116 = .ok (.aload_n 0, 1) := by decide +kernel
theorem dX10_readOne_117 : decode cX10_readOne 117 = .ok (.getfield 24, 3) := by decide +kernel
theorem dX10_readOne_120 : decode cX10_readOne 120 = .ok (.aload_n 0, 1) := by decide +kernel
theorem dX10_readOne_121 : decode cX10_readOne 121 = .ok (.getfield 241, 3) := by decide +kernel
theorem dX10_readOne_124 : decode cX10_readOne 124 = .ok (.aload_n 0, 1) := by decide +kernel
theorem dX10_readOne_125 : decode cX10_readOne 125 = .ok (.ldc2_w 205, 3) := by decide +kernel
theorem dX10_readOne_128 : decode cX10_readOne 128 = .ok (.iconst 0, 1) := by decide +kernel
theorem dX10_readOne_129 : decode cX10_readOne 129 = .ok (.bipush 9, 2) := by decide +kernel
theorem dX10_readOne_131 : decode cX10_readOne 131 = .ok (.invokevirtual 252, 3) := by decide +kernel
theorem dX10_readOne_134 : decode cX10_readOne 134 = .ok (.iastore, 1) := by decide +kernel
theorem dX10_readOne_135 : decode cX10_readOne 135 = .ok (.aload_n 0, 1) := by decide +kernel
theorem dX10_readOne_136 : decode cX10_readOne 136 = .ok (.getfield 27, 3) := by decide +kernel
theorem dX10_readOne_139 : decode cX10_readOne 139 = .ok (.aload_n 0, 1) := by decide +kernel
theorem dX10_readOne_140 : decode cX10_readOne 140 = .ok (.getfield 241, 3) := by decide +kernel
theorem dX10_readOne_143 : decode cX10_readOne 143 = .ok (.aload_n 0, 1) := by decide +kernel
theorem dX10_readOne_144 : decode cX10_readOne 144 = .ok (.ldc2_w 207, 3) := by decide +kernel
theorem dX10_readOne_147 : decode cX10_readOne 147 = .ok (.iconst 0, 1) := by decide +kernel
theorem dX10_readOne_148 : decode cX10_readOne 148 = .ok (.bipush 9, 2) := by decide +kernel
theorem dX10_readOne_150 : decode cX10_readOne 150 = .ok (.invokevirtual 252, 3) := by decide +kernel
theorem dX10_readOne_153 : decode cX10_readOne 153 = .ok (.iastore, 1) := by decide +kernel
theorem dX10_readOne_154 : decode cX10_readOne 154 = .ok (.aload_n 0, 1) := by decide +kernel
theorem dX10_readOne_155 : decode cX10_readOne 155 = .ok (.getfield 30, 3) := by decide +kernel
theorem dX10_readOne_158 : decode cX10_readOne 158 = .ok (.aload_n 0, 1) := by decide +kernel
theorem dX10_readOne_159 : decode cX10_readOne 159 = .ok (.getfield 241, 3) := by decide +kernel
theorem dX10_readOne_162 : decode cX10_readOne 162 = .ok (.aload_n 0, 1) := by decide +kernel
theorem dX10_readOne_163 : decode cX10_readOne 163 = .ok (.ldc2_w 209, 3) := by decide +kernel
theorem dX10_readOne_166 : decode cX10_readOne 166 = .ok (.iconst 0, 1) := by decide +kernel
theorem dX10_readOne_167 : decode cX10_readOne 167 = .ok (.bipush 99, 2) := by decide +kernel
theorem dX10_readOne_169 : decode cX10_readOne 169 = .ok (.invokevirtual 252, 3) := by decide +kernel
theorem dX10_readOne_172 : decode cX10_readOne 172 = .ok (.iastore, 1) := by decide +kernel
theorem dX10_readOne_173 : decode cX10_readOne 173 = .ok (.aload_n 0, 1) := by decide +kernel
theorem dX10_readOne_174 : decode cX10_readOne 174 = .ok (.getfield 33, 3) := by decide +kernel
theorem dX10_readOne_177 : decode cX10_readOne 177 = .ok (.aload_n 0, 1) := by decide +kernel
theorem dX10_readOne_178 : decode cX10_readOne 178 = .ok (.getfield 241, 3) := by decide +kernel
theorem dX10_readOne_181 : decode cX10_readOne 181 = .ok (.aload_n 0, 1) := by decide +kernel
theorem dX10_readOne_182 : decode cX10_readOne 182 = .ok (.ldc2_w 211, 3) := by decide +kernel
theorem dX10_readOne_185 : decode cX10_readOne 185 = .ok (.iconst 0, 1) := by decide +kernel
theorem dX10_readOne_186 : decode cX10_readOne 186 = .ok (.sipush 999, 3) := by decide +kernel
theorem dX10_readOne_189 : decode cX10_readOne 189 = .ok (.invokevirtual 252, 3) := by decide +kernel
theorem dX10_readOne_192 : decode cX10_readOne 192 = .ok (.iastore, 1) := by decide +kernel
theorem dX10_readOne_193 : decode cX10_readOne 193 = .ok (.aload_n 0, 1) := by decide +kernel
theorem dX10_readOne_194 : decode cX10_readOne 194 = .ok (.getfield 17, 3) := by decide +kernel
theorem dX10_readOne_197 : decode cX10_readOne 197 = .ok (.aload_n 0, 1) := by decide +kernel
theorem dX10_readOne_198 : decode cX10_readOne 198 = .ok (.getfield 241, 3) := by decide +kernel
theorem dX10_readOne_201 : decode cX10_readOne 201 = .ok (.lload_n 1, 1) := by decide +kernel
theorem dX10_readOne_202 : decode cX10_readOne 202 = .ok (.lastore, 1) := by decide +kernel
theorem dX10_readOne_203 : decode cX10_readOne 203 = .ok (.aload_n 0, 1) := by decide +kernel
theorem dX10_readOne_204 : decode cX10_readOne 204 = .ok (.getfield 194, 3) := by decide +kernel
theorem dX10_readOne_207 : decode cX10_readOne 207 = .ok (.ifCond .ne 13, 3) := by decide +kernel
theorem dX10_readOne_210 : decode cX10_readOne 210 = .ok (.aload_n 0, 1) := by decide +kernel
theorem dX10_readOne_211 : decode cX10_readOne 211 = .ok (.dup, 1) := by decide +kernel
theorem dX10_readOne_212 : decode cX10_readOne 212 = .ok (.getfield 241, 3) := by decide +kernel
theorem dX10_readOne_215 : decode cX10_readOne 215 = .ok (.iconst 1, 1) := by decide +kernel
theorem dX10_readOne_216 : decode cX10_readOne 216 = .ok (.iadd, 1) := by decide +kernel
theorem dX10_readOne_217 : decode cX10_readOne 217 = .ok (.putfield 241, 3) := by decide +kernel
theorem dX10_readOne_220 : decode cX10_readOne 220 = .ok (.return_, 1) := by decide +kernel
theorem dX10_readGives_0 : decode cX10_readGives 0 = .ok (.aload_n 0, 1) := by decide +kernel
theorem dX10_readGives_1 : decode cX10_readGives 1 = .ok (.invokevirtual 230, 3) := by decide +kernel
theorem dX10_readGives_4 : decode cX10_readGives 4 = .ok (.aload_n 0, 1) := by decide +kernel
theorem dX10_readGives_5 : decode cX10_readGives 5 = .ok (.invokevirtual 256, 3) := by decide +kernel
theorem dX10_readGives_8 : decode cX10_readGives 8 = .ok (.istore_n 1, 1) := by decide +kernel
theorem dX10_readGives_9 : decode cX10_readGives 9 = .ok (.aload_n 0, 1) := by decide +kernel
theorem dX10_readGives_10 : decode cX10_readGives 10 = .ok (.getfield 194, 3) := by decide +kernel
theorem dX10_readGives_13 : decode cX10_readGives 13 = .ok (.ifCond .le 4, 3) := by decide +kernel
theorem dX10_readGives_16 : decode cX10_readGives 16 = .ok (.return_, 1) := by decide +kernel
theorem dX10_readGives_17 : decode cX10_readGives 17 = .ok (.aload_n 0, 1) := by decide +kernel
theorem dX10_readGives_18 : decode cX10_readGives 18 = .ok (.invokevirtual 244, 3) := by decide +kernel
theorem dX10_readGives_21 : decode cX10_readGives 21 = .ok (.istore_n 2, 1) := by decide +kernel
theorem dX10_readGives_22 : decode cX10_readGives 22 = .ok (.aload_n 0, 1) := by decide +kernel
theorem dX10_readGives_23 : decode cX10_readGives 23 = .ok (.invokevirtual 248, 3) := by decide +kernel
theorem dX10_readGives_26 : decode cX10_readGives 26 = .ok (.ifCond .eq 31, 3) := by decide +kernel
theorem dX10_readGives_29 : decode cX10_readGives 29 = .ok (.iload_n 2, 1) := by decide +kernel
theorem dX10_readGives_30 : decode cX10_readGives 30 = .ok (.ifCond .lt 27, 3) := by decide +kernel
theorem dX10_readGives_33 : decode cX10_readGives 33 = .ok (.iload_n 1, 1) := by decide +kernel
theorem dX10_readGives_34 : decode cX10_readGives 34 = .ok (.iload_n 2, 1) := by decide +kernel
theorem dX10_readGives_35 : decode cX10_readGives 35 = .ok (.if_icmp .eq 17, 3) := by decide +kernel
theorem dX10_readGives_38 : decode cX10_readGives 38 = .ok (.aload_n 0, 1) := by decide +kernel
theorem dX10_readGives_39 : decode cX10_readGives 39 = .ok (.getfield 36, 3) := by decide +kernel
theorem dX10_readGives_42 : decode cX10_readGives 42 = .ok (.bipush 12, 2) := by decide +kernel
theorem dX10_readGives_44 : decode cX10_readGives 44 = .ok (.iload_n 1, 1) := by decide +kernel
theorem dX10_readGives_45 : decode cX10_readGives 45 = .ok (.imul, 1) := by decide +kernel
theorem dX10_readGives_46 : decode cX10_readGives 46 = .ok (.iload_n 2, 1) := by decide +kernel
theorem dX10_readGives_47 : decode cX10_readGives 47 = .ok (.iadd, 1) := by decide +kernel
theorem dX10_readGives_48 : decode cX10_readGives 48 = .ok (.iaload, 1) := by decide +kernel
theorem dX10_readGives_49 : decode cX10_readGives 49 = .ok (.ifCond .le 8, 3) := by decide +kernel
theorem dX10_readGives_52 : decode cX10_readGives 52 = .ok (.aload_n 0, 1) := by decide +kernel
theorem dX10_readGives_53 : decode cX10_readGives 53 = .ok (.iconst 3, 1) := by decide +kernel
theorem dX10_readGives_54 : decode cX10_readGives 54 = .ok (.invokevirtual 227, 3) := by decide +kernel
theorem dX10_readGives_57 : decode cX10_readGives 57 = .ok (.aload_n 0, 1) := by decide +kernel
theorem dX10_readGives_58 : decode cX10_readGives 58 = .ok (.invokevirtual 256, 3) := by decide +kernel
theorem dX10_readGives_61 : decode cX10_readGives 61 = .ok (.istore_n 2, 1) := by decide +kernel
theorem dX10_readGives_62 : decode cX10_readGives 62 = .ok (.aload_n 0, 1) := by decide +kernel
theorem dX10_readGives_63 : decode cX10_readGives 63 = .ok (.ldc2_w 215, 3) := by decide +kernel
theorem dX10_readGives_66 : decode cX10_readGives 66 = .ok (.iconst 1, 1) := by decide +kernel
theorem dX10_readGives_67 : decode cX10_readGives 67 = .ok (.bipush 9, 2) := by decide +kernel
theorem dX10_readGives_69 : decode cX10_readGives 69 = .ok (.invokevirtual 252, 3) := by decide +kernel
theorem dX10_readGives_72 : decode cX10_readGives 72 = .ok (.istore_n 3, 1) := by decide +kernel
theorem dX10_readGives_73 : decode cX10_readGives 73 = .ok (.aload_n 0, 1) := by decide +kernel
theorem dX10_readGives_74 : decode cX10_readGives 74 = .ok (.getfield 194, 3) := by decide +kernel
theorem dX10_readGives_77 : decode cX10_readGives 77 = .ok (.ifCond .le 4, 3) := by decide +kernel
theorem dX10_readGives_80 : decode cX10_readGives 80 = .ok (.return_, 1) := by decide +kernel
theorem dX10_readGives_81 : decode cX10_readGives 81 = .ok (.aload_n 0, 1) := by decide +kernel
theorem dX10_readGives_82 : decode cX10_readGives 82 = .ok (.getfield 36, 3) := by decide +kernel
theorem dX10_readGives_85 : decode cX10_readGives 85 = .ok (.bipush 12, 2) := by decide +kernel
theorem dX10_readGives_87 : decode cX10_readGives 87 = .ok (.iload_n 1, 1) := by decide +kernel
theorem dX10_readGives_88 : decode cX10_readGives 88 = .ok (.imul, 1) := by decide +kernel
theorem dX10_readGives_89 : decode cX10_readGives 89 = .ok (.iload_n 2, 1) := by decide +kernel
theorem dX10_readGives_90 : decode cX10_readGives 90 = .ok (.iadd, 1) := by decide +kernel
theorem dX10_readGives_91 : decode cX10_readGives 91 = .ok (.iload_n 3, 1) := by decide +kernel
theorem dX10_readGives_92 : decode cX10_readGives 92 = .ok (.iastore, 1) := by decide +kernel
theorem dX10_readGives_93 : decode cX10_readGives 93 = .ok (.aload_n 0, 1) := by decide +kernel
theorem dX10_readGives_94 : decode cX10_readGives 94 = .ok (.dup, 1) := by decide +kernel
theorem dX10_readGives_95 : decode cX10_readGives 95 = .ok (.getfield 259, 3) := by decide +kernel
theorem dX10_readGives_98 : decode cX10_readGives 98 = .ok (.iconst 1, 1) := by decide +kernel
theorem dX10_readGives_99 : decode cX10_readGives 99 = .ok (.iadd, 1) := by decide +kernel
theorem dX10_readGives_100 : decode cX10_readGives 100 = .ok (.putfield 259, 3) := by decide +kernel
theorem dX10_readGives_103 : decode cX10_readGives 103 = .ok (.return_, 1) := by decide +kernel
theorem dX10_readOld_0 : decode cX10_readOld 0 = .ok (.aload_n 0, 1) := by decide +kernel
theorem dX10_readOld_1 : decode cX10_readOld 1 = .ok (.invokevirtual 230, 3) := by decide +kernel
theorem dX10_readOld_4 : decode cX10_readOld 4 = .ok (.aload_n 0, 1) := by decide +kernel
theorem dX10_readOld_5 : decode cX10_readOld 5 = .ok (.invokevirtual 256, 3) := by decide +kernel
theorem dX10_readOld_8 : decode cX10_readOld 8 = .ok (.ireturn, 1) := by decide +kernel
theorem dX10_readLuck_0 : decode cX10_readLuck 0 = .ok (.aload_n 0, 1) := by decide +kernel
theorem dX10_readLuck_1 : decode cX10_readLuck 1 = .ok (.invokevirtual 230, 3) := by decide +kernel
theorem dX10_readLuck_4 : decode cX10_readLuck 4 = .ok (.aload_n 0, 1) := by decide +kernel
theorem dX10_readLuck_5 : decode cX10_readLuck 5 = .ok (.aload_n 0, 1) := by decide +kernel
theorem dX10_readLuck_6 : decode cX10_readLuck 6 = .ok (.iconst 0, 1) := by decide +kernel
theorem dX10_readLuck_7 : decode cX10_readLuck 7 = .ok (.bipush 9, 2) := by decide +kernel
theorem dX10_readLuck_9 : decode cX10_readLuck 9 = .ok (.invokevirtual 237, 3) := by decide +kernel
theorem dX10_readLuck_12 : decode cX10_readLuck 12 = .ok (.putfield 262, 3) := by decide +kernel
theorem dX10_readLuck_15 : decode cX10_readLuck 15 = .ok (.return_, 1) := by decide +kernel
theorem dX10_readLine_0 : decode cX10_readLine 0 = .ok (.aload_n 0, 1) := by decide +kernel
theorem dX10_readLine_1 : decode cX10_readLine 1 = .ok (.ldc2_w 197, 3) := by decide +kernel
theorem dX10_readLine_4 : decode cX10_readLine 4 = .ok (.invokevirtual 223, 3) := by decide +kernel
theorem dX10_readLine_7 : decode cX10_readLine 7 = .ok (.ifCond .eq 19, 3) := by decide +kernel
theorem dX10_readLine_10 : decode cX10_readLine 10 = .ok (.aload_n 0, 1) := by decide +kernel
theorem dX10_readLine_11 : decode cX10_readLine 11 = .ok (.getfield 241, 3) := by decide +kernel
theorem dX10_readLine_14 : decode cX10_readLine 14 = .ok (.bipush 12, 2) := by decide +kernel
theorem dX10_readLine_16 : decode cX10_readLine 16 = .ok (.if_icmp .ge 10, 3) := by decide +kernel
theorem dX10_readLine_19 : decode cX10_readLine 19 = .ok (.aload_n 0, 1) := by decide +kernel
theorem dX10_readLine_20 : decode cX10_readLine 20 = .ok (.invokevirtual 265, 3) := by decide +kernel
theorem dX10_readLine_23 : decode cX10_readLine 23 = .ok (.goto 114, 3) := by decide +kernel
theorem dX10_readLine_26 : decode cX10_readLine 26 = .ok (.aload_n 0, 1) := by decide +kernel
theorem dX10_readLine_27 : decode cX10_readLine 27 = .ok (.ldc2_w 213, 3) := by decide +kernel
theorem dX10_readLine_30 : decode cX10_readLine 30 = .ok (.invokevirtual 223, 3) := by decide +kernel
theorem dX10_readLine_33 : decode cX10_readLine 33 = .ok (.ifCond .eq 19, 3) := by decide +kernel
theorem dX10_readLine_36 : decode cX10_readLine 36 = .ok (.aload_n 0, 1) := by decide +kernel
theorem dX10_readLine_37 : decode cX10_readLine 37 = .ok (.getfield 259, 3) := by decide +kernel
theorem dX10_readLine_40 : decode cX10_readLine 40 = .ok (.bipush 30, 2) := by decide +kernel
theorem dX10_readLine_42 : decode cX10_readLine 42 = .ok (.if_icmp .ge 10, 3) := by decide +kernel
theorem dX10_readLine_45 : decode cX10_readLine 45 = .ok (.aload_n 0, 1) := by decide +kernel
theorem dX10_readLine_46 : decode cX10_readLine 46 = .ok (.invokevirtual 268, 3) := by decide +kernel
theorem dX10_readLine_49 : decode cX10_readLine 49 = .ok (.goto 88, 3) := by decide +kernel
theorem dX10_readLine_52 : decode cX10_readLine 52 = .ok (.aload_n 0, 1) := by decide +kernel
theorem dX10_readLine_53 : decode cX10_readLine 53 = .ok (.ldc2_w 217, 3) := by decide +kernel
theorem dX10_readLine_56 : decode cX10_readLine 56 = .ok (.invokevirtual 223, 3) := by decide +kernel
theorem dX10_readLine_59 : decode cX10_readLine 59 = .ok (.ifCond .eq 21, 3) := by decide +kernel
theorem dX10_readLine_62 : decode cX10_readLine 62 = .ok (.aload_n 0, 1) := by decide +kernel
theorem dX10_readLine_63 : decode cX10_readLine 63 = .ok (.getfield 271, 3) := by decide +kernel
theorem dX10_readLine_66 : decode cX10_readLine 66 = .ok (.ifCond .ge 14, 3) := by decide +kernel
theorem dX10_readLine_69 : decode cX10_readLine 69 = .ok (.aload_n 0, 1) := by decide +kernel
theorem dX10_readLine_70 : decode cX10_readLine 70 = .ok (.aload_n 0, 1) := by decide +kernel
theorem dX10_readLine_71 : decode cX10_readLine 71 = .ok (.invokevirtual 274, 3) := by decide +kernel
theorem dX10_readLine_74 : decode cX10_readLine 74 = .ok (.putfield 271, 3) := by decide +kernel
theorem dX10_readLine_77 : decode cX10_readLine 77 = .ok (.goto 60, 3) := by decide +kernel
theorem dX10_readLine_80 : decode cX10_readLine 80 = .ok (.aload_n 0, 1) := by decide +kernel
theorem dX10_readLine_81 : decode cX10_readLine 81 = .ok (.ldc2_w 219, 3) := by decide +kernel
theorem dX10_readLine_84 : decode cX10_readLine 84 = .ok (.invokevirtual 223, 3) := by decide +kernel
theorem dX10_readLine_87 : decode cX10_readLine 87 = .ok (.ifCond .eq 21, 3) := by decide +kernel
theorem dX10_readLine_90 : decode cX10_readLine 90 = .ok (.aload_n 0, 1) := by decide +kernel
theorem dX10_readLine_91 : decode cX10_readLine 91 = .ok (.getfield 277, 3) := by decide +kernel
theorem dX10_readLine_94 : decode cX10_readLine 94 = .ok (.ifCond .ge 14, 3) := by decide +kernel
theorem dX10_readLine_97 : decode cX10_readLine 97 = .ok (.aload_n 0, 1) := by decide +kernel
theorem dX10_readLine_98 : decode cX10_readLine 98 = .ok (.aload_n 0, 1) := by decide +kernel
theorem dX10_readLine_99 : decode cX10_readLine 99 = .ok (.invokevirtual 274, 3) := by decide +kernel
theorem dX10_readLine_102 : decode cX10_readLine 102 = .ok (.putfield 277, 3) := by decide +kernel
theorem dX10_readLine_105 : decode cX10_readLine 105 = .ok (.goto 32, 3) := by decide +kernel
theorem dX10_readLine_108 : decode cX10_readLine 108 = .ok (.aload_n 0, 1) := by decide +kernel
theorem dX10_readLine_109 : decode cX10_readLine 109 = .ok (.ldc2_w 221, 3) := by decide +kernel
theorem dX10_readLine_112 : decode cX10_readLine 112 = .ok (.invokevirtual 223, 3) := by decide +kernel
theorem dX10_readLine_115 : decode cX10_readLine 115 = .ok (.ifCond .eq 17, 3) := by decide +kernel
theorem dX10_readLine_118 : decode cX10_readLine 118 = .ok (.aload_n 0, 1) := by decide +kernel
theorem dX10_readLine_119 : decode cX10_readLine 119 = .ok (.getfield 262, 3) := by decide +kernel
theorem dX10_readLine_122 : decode cX10_readLine 122 = .ok (.ifCond .ge 10, 3) := by decide +kernel
theorem dX10_readLine_125 : decode cX10_readLine 125 = .ok (.aload_n 0, 1) := by decide +kernel
theorem dX10_readLine_126 : decode cX10_readLine 126 = .ok (.invokevirtual 280, 3) := by decide +kernel
theorem dX10_readLine_129 : decode cX10_readLine 129 = .ok (.goto 8, 3) := by decide +kernel
theorem dX10_readLine_132 : decode cX10_readLine 132 = .ok (.aload_n 0, 1) := by decide +kernel
theorem dX10_readLine_133 : decode cX10_readLine 133 = .ok (.iconst 2, 1) := by decide +kernel
theorem dX10_readLine_134 : decode cX10_readLine 134 = .ok (.invokevirtual 227, 3) := by decide +kernel
theorem dX10_readLine_137 : decode cX10_readLine 137 = .ok (.aload_n 0, 1) := by decide +kernel
theorem dX10_readLine_138 : decode cX10_readLine 138 = .ok (.getfield 194, 3) := by decide +kernel
theorem dX10_readLine_141 : decode cX10_readLine 141 = .ok (.ifCond .ne 17, 3) := by decide +kernel
theorem dX10_readLine_144 : decode cX10_readLine 144 = .ok (.aload_n 0, 1) := by decide +kernel
theorem dX10_readLine_145 : decode cX10_readLine 145 = .ok (.getfield 184, 3) := by decide +kernel
theorem dX10_readLine_148 : decode cX10_readLine 148 = .ok (.bipush 59, 2) := by decide +kernel
theorem dX10_readLine_150 : decode cX10_readLine 150 = .ok (.if_icmp .eq 8, 3) := by decide +kernel
theorem dX10_readLine_153 : decode cX10_readLine 153 = .ok (.aload_n 0, 1) := by decide +kernel
theorem dX10_readLine_154 : decode cX10_readLine 154 = .ok (.iconst 2, 1) := by decide +kernel
theorem dX10_readLine_155 : decode cX10_readLine 155 = .ok (.invokevirtual 227, 3) := by decide +kernel
theorem dX10_readLine_158 : decode cX10_readLine 158 = .ok (.aload_n 0, 1) := by decide +kernel
theorem dX10_readLine_159 : decode cX10_readLine 159 = .ok (.getfield 194, 3) := by decide +kernel
theorem dX10_readLine_162 : decode cX10_readLine 162 = .ok (.ifCond .ne 7, 3) := by decide +kernel
theorem dX10_readLine_165 : decode cX10_readLine 165 = .ok (.aload_n 0, 1) := by decide +kernel
theorem dX10_readLine_166 : decode cX10_readLine 166 = .ok (.invokevirtual 230, 3) := by decide +kernel
theorem dX10_readLine_169 : decode cX10_readLine 169 = .ok (.return_, 1) := by decide +kernel
theorem dX10_readAll_0 : decode cX10_readAll 0 = .ok (.aload_n 0, 1) := by decide +kernel
theorem dX10_readAll_1 : decode cX10_readAll 1 = .ok (.aload_n 0, 1) := by decide +kernel
theorem dX10_readAll_2 : decode cX10_readAll 2 = .ok (.getfield 157, 3) := by decide +kernel
theorem dX10_readAll_5 : decode cX10_readAll 5 = .ok (.putfield 167, 3) := by decide +kernel
theorem dX10_readAll_8 : decode cX10_readAll 8 = .ok (.aload_n 0, 1) := by decide +kernel
theorem dX10_readAll_9 : decode cX10_readAll 9 = .ok (.iconst 0, 1) := by decide +kernel
theorem dX10_readAll_10 : decode cX10_readAll 10 = .ok (.putfield 157, 3) := by decide +kernel
theorem dX10_readAll_13 : decode cX10_readAll 13 = .ok (.aload_n 0, 1) := by decide +kernel
theorem dX10_readAll_14 : decode cX10_readAll 14 = .ok (.iconst 0, 1) := by decide +kernel
theorem dX10_readAll_15 : decode cX10_readAll 15 = .ok (.putfield 164, 3) := by decide +kernel
theorem dX10_readAll_18 : decode cX10_readAll 18 = .ok (.aload_n 0, 1) := by decide +kernel
theorem dX10_readAll_19 : decode cX10_readAll 19 = .ok (.iconst 0, 1) := by decide +kernel
theorem dX10_readAll_20 : decode cX10_readAll 20 = .ok (.putfield 194, 3) := by decide +kernel
theorem dX10_readAll_23 : decode cX10_readAll 23 = .ok (.aload_n 0, 1) := by decide +kernel
theorem dX10_readAll_24 : decode cX10_readAll 24 = .ok (.iconst (-1), 1) := by decide +kernel
theorem dX10_readAll_25 : decode cX10_readAll 25 = .ok (.putfield 13, 3) := by decide +kernel
theorem dX10_readAll_28 : decode cX10_readAll 28 = .ok (.aload_n 0, 1) := by decide +kernel
theorem dX10_readAll_29 : decode cX10_readAll 29 = .ok (.iconst 0, 1) := by decide +kernel
theorem dX10_readAll_30 : decode cX10_readAll 30 = .ok (.putfield 241, 3) := by decide +kernel
theorem dX10_readAll_33 : decode cX10_readAll 33 = .ok (.aload_n 0, 1) := by decide +kernel
theorem dX10_readAll_34 : decode cX10_readAll 34 = .ok (.iconst 0, 1) := by decide +kernel
theorem dX10_readAll_35 : decode cX10_readAll 35 = .ok (.putfield 259, 3) := by decide +kernel
theorem dX10_readAll_38 : decode cX10_readAll 38 = .ok (.aload_n 0, 1) := by decide +kernel
theorem dX10_readAll_39 : decode cX10_readAll 39 = .ok (.iconst (-1), 1) := by decide +kernel
theorem dX10_readAll_40 : decode cX10_readAll 40 = .ok (.putfield 271, 3) := by decide +kernel
theorem dX10_readAll_43 : decode cX10_readAll 43 = .ok (.aload_n 0, 1) := by decide +kernel
theorem dX10_readAll_44 : decode cX10_readAll 44 = .ok (.iconst (-1), 1) := by decide +kernel
theorem dX10_readAll_45 : decode cX10_readAll 45 = .ok (.putfield 277, 3) := by decide +kernel
theorem dX10_readAll_48 : decode cX10_readAll 48 = .ok (.aload_n 0, 1) := by decide +kernel
theorem dX10_readAll_49 : decode cX10_readAll 49 = .ok (.iconst (-1), 1) := by decide +kernel
theorem dX10_readAll_50 : decode cX10_readAll 50 = .ok (.putfield 262, 3) := by decide +kernel
theorem dX10_readAll_53 : decode cX10_readAll 53 = .ok (.iconst 0, 1) := by decide +kernel
theorem dX10_readAll_54 : decode cX10_readAll 54 = .ok (.istore_n 1, 1) := by decide +kernel
theorem dX10_readAll_55 : decode cX10_readAll 55 = .ok (.iload_n 1, 1) := by decide +kernel
theorem dX10_readAll_56 : decode cX10_readAll 56 = .ok (.sipush 144, 3) := by decide +kernel
theorem dX10_readAll_59 : decode cX10_readAll 59 = .ok (.if_icmp .ge 16, 3) := by decide +kernel
theorem dX10_readAll_62 : decode cX10_readAll 62 = .ok (.aload_n 0, 1) := by decide +kernel
theorem dX10_readAll_63 : decode cX10_readAll 63 = .ok (.getfield 36, 3) := by decide +kernel
theorem dX10_readAll_66 : decode cX10_readAll 66 = .ok (.iload_n 1, 1) := by decide +kernel
theorem dX10_readAll_67 : decode cX10_readAll 67 = .ok (.iconst 0, 1) := by decide +kernel
theorem dX10_readAll_68 : decode cX10_readAll 68 = .ok (.iastore, 1) := by decide +kernel
theorem dX10_readAll_69 : decode cX10_readAll 69 = .ok (.iinc 1 1, 3) := by decide +kernel
theorem dX10_readAll_72 : decode cX10_readAll 72 = .ok (.goto (-17), 3) := by decide +kernel
theorem dX10_readAll_75 : decode cX10_readAll 75 = .ok (.aload_n 0, 1) := by decide +kernel
theorem dX10_readAll_76 : decode cX10_readAll 76 = .ok (.invokevirtual 230, 3) := by decide +kernel
theorem dX10_readAll_79 : decode cX10_readAll 79 = .ok (.aload_n 0, 1) := by decide +kernel
theorem dX10_readAll_80 : decode cX10_readAll 80 = .ok (.getfield 194, 3) := by decide +kernel
theorem dX10_readAll_83 : decode cX10_readAll 83 = .ok (.ifCond .ne 17, 3) := by decide +kernel
theorem dX10_readAll_86 : decode cX10_readAll 86 = .ok (.aload_n 0, 1) := by decide +kernel
theorem dX10_readAll_87 : decode cX10_readAll 87 = .ok (.getfield 184, 3) := by decide +kernel
theorem dX10_readAll_90 : decode cX10_readAll 90 = .ok (.ifCond .eq 10, 3) := by decide +kernel
theorem dX10_readAll_93 : decode cX10_readAll 93 = .ok (.aload_n 0, 1) := by decide +kernel
theorem dX10_readAll_94 : decode cX10_readAll 94 = .ok (.invokevirtual 283, 3) := by decide +kernel
theorem dX10_readAll_97 : decode cX10_readAll 97 = .ok (.goto (-18), 3) := by decide +kernel
theorem dX10_readAll_100 : decode cX10_readAll 100 = .ok (.return_, 1) := by decide +kernel
theorem dX10_city_0 : decode cX10_city 0 = .ok (.aload_n 0, 1) := by decide +kernel
theorem dX10_city_1 : decode cX10_city 1 = .ok (.invokevirtual 286, 3) := by decide +kernel
theorem dX10_city_4 : decode cX10_city 4 = .ok (.aload_n 0, 1) := by decide +kernel
theorem dX10_city_5 : decode cX10_city 5 = .ok (.getfield 194, 3) := by decide +kernel
theorem dX10_city_8 : decode cX10_city 8 = .ok (.ifCond .le 5, 3) := by decide +kernel
theorem dX10_city_11 : decode cX10_city 11 = .ok (.iconst (-1), 1) := by decide +kernel
theorem dX10_city_12 : decode cX10_city 12 = .ok (.ireturn, 1) := by decide +kernel
theorem dX10_city_13 : decode cX10_city 13 = .ok (.aload_n 0, 1) := by decide +kernel
theorem dX10_city_14 : decode cX10_city 14 = .ok (.aload_n 0, 1) := by decide +kernel
theorem dX10_city_15 : decode cX10_city 15 = .ok (.getfield 241, 3) := by decide +kernel
theorem dX10_city_18 : decode cX10_city 18 = .ok (.putfield 289, 3) := by decide +kernel
theorem dX10_city_21 : decode cX10_city 21 = .ok (.aload_n 0, 1) := by decide +kernel
theorem dX10_city_22 : decode cX10_city 22 = .ok (.aload_n 0, 1) := by decide +kernel
theorem dX10_city_23 : decode cX10_city 23 = .ok (.getfield 259, 3) := by decide +kernel
theorem dX10_city_26 : decode cX10_city 26 = .ok (.putfield 292, 3) := by decide +kernel
theorem dX10_city_29 : decode cX10_city 29 = .ok (.aload_n 0, 1) := by decide +kernel
theorem dX10_city_30 : decode cX10_city 30 = .ok (.aload_n 0, 1) := by decide +kernel
theorem dX10_city_31 : decode cX10_city 31 = .ok (.getfield 271, 3) := by decide +kernel
theorem dX10_city_34 : decode cX10_city 34 = .ok (.putfield 151, 3) := by decide +kernel
theorem dX10_city_37 : decode cX10_city 37 = .ok (.aload_n 0, 1) := by decide +kernel
theorem dX10_city_38 : decode cX10_city 38 = .ok (.aload_n 0, 1) := by decide +kernel
theorem dX10_city_39 : decode cX10_city 39 = .ok (.getfield 277, 3) := by decide +kernel
theorem dX10_city_42 : decode cX10_city 42 = .ok (.putfield 154, 3) := by decide +kernel
theorem dX10_city_45 : decode cX10_city 45 = .ok (.aload_n 0, 1) := by decide +kernel
theorem dX10_city_46 : decode cX10_city 46 = .ok (.aload_n 0, 1) := by decide +kernel
theorem dX10_city_47 : decode cX10_city 47 = .ok (.getfield 262, 3) := by decide +kernel
theorem dX10_city_50 : decode cX10_city 50 = .ok (.ifCond .ge 7, 3) := by decide +kernel
theorem dX10_city_53 : decode cX10_city 53 = .ok (.iconst 0, 1) := by decide +kernel
theorem dX10_city_54 : decode cX10_city 54 = .ok (.goto 7, 3) := by decide +kernel
theorem dX10_city_57 : decode cX10_city 57 = .ok (.aload_n 0, 1) := by decide +kernel
theorem dX10_city_58 : decode cX10_city 58 = .ok (.getfield 262, 3) := by decide +kernel
theorem dX10_city_61 : decode cX10_city 61 = .ok (.putfield 295, 3) := by decide +kernel
theorem dX10_city_64 : decode cX10_city 64 = .ok (.iconst 0, 1) := by decide +kernel
theorem dX10_city_65 : decode cX10_city 65 = .ok (.istore_n 1, 1) := by decide +kernel
theorem dX10_city_66 : decode cX10_city 66 = .ok (.iload_n 1, 1) := by decide +kernel
theorem dX10_city_67 : decode cX10_city 67 = .ok (.bipush 12, 2) := by decide +kernel
theorem dX10_city_69 : decode cX10_city 69 = .ok (.if_icmp .ge 76, 3) := by decide +kernel
theorem dX10_city_72 : decode cX10_city 72 = .ok (.aload_n 0, 1) := by decide +kernel
theorem dX10_city_73 : decode cX10_city 73 = .ok (.getfield 39, 3) := by decide +kernel
theorem dX10_city_76 : decode cX10_city 76 = .ok (.iload_n 1, 1) := by decide +kernel
theorem dX10_city_77 : decode cX10_city 77 = .ok (.aload_n 0, 1) := by decide +kernel
theorem dX10_city_78 : decode cX10_city 78 = .ok (.getfield 21, 3) := by decide +kernel
theorem dX10_city_81 : decode cX10_city 81 = .ok (.iload_n 1, 1) := by decide +kernel
theorem dX10_city_82 : decode cX10_city 82 = .ok (.iaload, 1) := by decide +kernel
theorem dX10_city_83 : decode cX10_city 83 = .ok (.iastore, 1) := by decide +kernel
theorem dX10_city_84 : decode cX10_city 84 = .ok (.aload_n 0, 1) := by decide +kernel
theorem dX10_city_85 : decode cX10_city 85 = .ok (.getfield 42, 3) := by decide +kernel
theorem dX10_city_88 : decode cX10_city 88 = .ok (.iload_n 1, 1) := by decide +kernel
theorem dX10_city_89 : decode cX10_city 89 = .ok (.aload_n 0, 1) := by decide +kernel
theorem dX10_city_90 : decode cX10_city 90 = .ok (.getfield 24, 3) := by decide +kernel
theorem dX10_city_93 : decode cX10_city 93 = .ok (.iload_n 1, 1) := by decide +kernel
theorem dX10_city_94 : decode cX10_city 94 = .ok (.iaload, 1) := by decide +kernel
theorem dX10_city_95 : decode cX10_city 95 = .ok (.iastore, 1) := by decide +kernel
theorem dX10_city_96 : decode cX10_city 96 = .ok (.aload_n 0, 1) := by decide +kernel
theorem dX10_city_97 : decode cX10_city 97 = .ok (.getfield 45, 3) := by decide +kernel
theorem dX10_city_100 : decode cX10_city 100 = .ok (.iload_n 1, 1) := by decide +kernel
theorem dX10_city_101 : decode cX10_city 101 = .ok (.aload_n 0, 1) := by decide +kernel
theorem dX10_city_102 : decode cX10_city 102 = .ok (.getfield 27, 3) := by decide +kernel
theorem dX10_city_105 : decode cX10_city 105 = .ok (.iload_n 1, 1) := by decide +kernel
theorem dX10_city_106 : decode cX10_city 106 = .ok (.iaload, 1) := by decide +kernel
theorem dX10_city_107 : decode cX10_city 107 = .ok (.iastore, 1) := by decide +kernel
theorem dX10_city_108 : decode cX10_city 108 = .ok (.aload_n 0, 1) := by decide +kernel
theorem dX10_city_109 : decode cX10_city 109 = .ok (.getfield 48, 3) := by decide +kernel
theorem dX10_city_112 : decode cX10_city 112 = .ok (.iload_n 1, 1) := by decide +kernel
theorem dX10_city_113 : decode cX10_city 113 = .ok (.aload_n 0, 1) := by decide +kernel
theorem dX10_city_114 : decode cX10_city 114 = .ok (.getfield 30, 3) := by decide +kernel
theorem dX10_city_117 : decode cX10_city 117 = .ok (.iload_n 1, 1) := by decide +kernel
theorem dX10_city_118 : decode cX10_city 118 = .ok (.iaload, 1) := by decide +kernel
theorem dX10_city_119 : decode cX10_city 119 = .ok (.iastore, 1) := by decide +kernel
theorem dX10_city_120 : decode cX10_city 120 = .ok (.aload_n 0, 1) := by decide +kernel
theorem dX10_city_121 : decode cX10_city 121 = .ok (.getfield 51, 3) := by decide +kernel
theorem dX10_city_124 : decode cX10_city 124 = .ok (.iload_n 1, 1) := by decide +kernel
theorem dX10_city_125 : decode cX10_city 125 = .ok (.aload_n 0, 1) := by decide +kernel
theorem dX10_city_126 : decode cX10_city 126 = .ok (.getfield 33, 3) := by decide +kernel
theorem dX10_city_129 : decode cX10_city 129 = .ok (.iload_n 1, 1) := by decide +kernel
theorem dX10_city_130 : decode cX10_city 130 = .ok (.iaload, 1) := by decide +kernel
theorem dX10_city_131 : decode cX10_city 131 = .ok (.iastore, 1) := by decide +kernel
theorem dX10_city_132 : decode cX10_city 132 = .ok (.aload_n 0, 1) := by decide +kernel
theorem dX10_city_133 : decode cX10_city 133 = .ok (.getfield 57, 3) := by decide +kernel
theorem dX10_city_136 : decode cX10_city 136 = .ok (.iload_n 1, 1) := by decide +kernel
theorem dX10_city_137 : decode cX10_city 137 = .ok (.iconst 0, 1) := by decide +kernel
theorem dX10_city_138 : decode cX10_city 138 = .ok (.iastore, 1) := by decide +kernel
theorem dX10_city_139 : decode cX10_city 139 = .ok (.iinc 1 1, 3) := by decide +kernel
theorem dX10_city_142 : decode cX10_city 142 = .ok (.goto (-76), 3) := by decide +kernel
theorem dX10_city_145 : decode cX10_city 145 = .ok (.iconst 0, 1) := by decide +kernel
theorem dX10_city_146 : decode cX10_city 146 = .ok (.istore_n 1, 1) := by decide +kernel
theorem dX10_city_147 : decode cX10_city 147 = .ok (.iload_n 1, 1) := by decide +kernel
theorem dX10_city_148 : decode cX10_city 148 = .ok (.sipush 144, 3) := by decide +kernel
theorem dX10_city_151 : decode cX10_city 151 = .ok (.if_icmp .ge 21, 3) := by decide +kernel
theorem dX10_city_154 : decode cX10_city 154 = .ok (.aload_n 0, 1) := by decide +kernel
theorem dX10_city_155 : decode cX10_city 155 = .ok (.getfield 54, 3) := by decide +kernel
theorem dX10_city_158 : decode cX10_city 158 = .ok (.iload_n 1, 1) := by decide +kernel
theorem dX10_city_159 : decode cX10_city 159 = .ok (.aload_n 0, 1) := by decide +kernel
theorem dX10_city_160 : decode cX10_city 160 = .ok (.getfield 36, 3) := by decide +kernel
theorem dX10_city_163 : decode cX10_city 163 = .ok (.iload_n 1, 1) := by decide +kernel
theorem dX10_city_164 : decode cX10_city 164 = .ok (.iaload, 1) := by decide +kernel
theorem dX10_city_165 : decode cX10_city 165 = .ok (.iastore, 1) := by decide +kernel
theorem dX10_city_166 : decode cX10_city 166 = .ok (.iinc 1 1, 3) := by decide +kernel
theorem dX10_city_169 : decode cX10_city 169 = .ok (.goto (-22), 3) := by decide +kernel
theorem dX10_city_172 : decode cX10_city 172 = .ok (.iconst 0, 1) := by decide +kernel
theorem dX10_city_173 : decode cX10_city 173 = .ok (.istore_n 1, 1) := by decide +kernel
theorem dX10_city_174 : decode cX10_city 174 = .ok (.iload_n 1, 1) := by decide +kernel
theorem dX10_city_175 : decode cX10_city 175 = .ok (.aload_n 0, 1) := by decide +kernel
theorem dX10_city_176 : decode cX10_city 176 = .ok (.getfield 289, 3) := by decide +kernel
theorem dX10_city_179 : decode cX10_city 179 = .ok (.if_icmp .ge 65, 3) := by decide +kernel
theorem dX10_city_182 : decode cX10_city 182 = .ok (.iconst 0, 1) := by decide +kernel
theorem dX10_city_183 : decode cX10_city 183 = .ok (.istore_n 2, 1) := by decide +kernel
theorem dX10_city_184 : decode cX10_city 184 = .ok (.iload_n 2, 1) := by decide +kernel
theorem dX10_city_185 : decode cX10_city 185 = .ok (.aload_n 0, 1) := by decide +kernel
theorem dX10_city_186 : decode cX10_city 186 = .ok (.getfield 289, 3) := by decide +kernel
theorem dX10_city_189 : decode cX10_city 189 = .ok (.if_icmp .ge 49, 3) := by decide +kernel
theorem dX10_city_192 : decode cX10_city 192 = .ok (.aload_n 0, 1) := by decide +kernel
theorem dX10_city_193 : decode cX10_city 193 = .ok (.getfield 54, 3) := by decide +kernel
theorem dX10_city_196 : decode cX10_city 196 = .ok (.bipush 12, 2) := by decide +kernel
theorem dX10_city_198 : decode cX10_city 198 = .ok (.iload_n 1, 1) := by decide +kernel
theorem dX10_city_199 : decode cX10_city 199 = .ok (.imul, 1) := by decide +kernel
theorem dX10_city_200 : decode cX10_city 200 = .ok (.iload_n 2, 1) := by decide +kernel
theorem dX10_city_201 : decode cX10_city 201 = .ok (.iadd, 1) := by decide +kernel
theorem dX10_city_202 : decode cX10_city 202 = .ok (.iaload, 1) := by decide +kernel
theorem dX10_city_203 : decode cX10_city 203 = .ok (.ifCond .le 29, 3) := by decide +kernel
theorem dX10_city_206 : decode cX10_city 206 = .ok (.aload_n 0, 1) := by decide +kernel
theorem dX10_city_207 : decode cX10_city 207 = .ok (.getfield 39, 3) := by decide +kernel
theorem dX10_city_210 : decode cX10_city 210 = .ok (.iload_n 1, 1) := by decide +kernel
theorem dX10_city_211 : decode cX10_city 211 = .ok (.iaload, 1) := by decide +kernel
theorem dX10_city_212 : decode cX10_city 212 = .ok (.iconst 3, 1) := by decide +kernel
theorem dX10_city_213 : decode cX10_city 213 = .ok (.if_icmp .eq 19, 3) := by decide +kernel
theorem dX10_city_216 : decode cX10_city 216 = .ok (.aload_n 0, 1) := by decide +kernel
theorem dX10_city_217 : decode cX10_city 217 = .ok (.getfield 39, 3) := by decide +kernel
theorem dX10_city_220 : decode cX10_city 220 = .ok (.iload_n 2, 1) := by decide +kernel
theorem dX10_city_221 : decode cX10_city 221 = .ok (.iaload, 1) := by decide +kernel
theorem dX10_city_222 : decode cX10_city 222 = .ok (.iconst 3, 1) := by decide +kernel
theorem dX10_city_223 : decode cX10_city 223 = .ok (.if_icmp .eq 9, 3) := by decide +kernel
theorem dX10_city_226 : decode cX10_city 226 = .ok (.aload_n 0, 1) := by decide +kernel
theorem dX10_city_227 : decode cX10_city 227 = .ok (.iload_n 1, 1) := by decide +kernel
theorem dX10_city_228 : decode cX10_city 228 = .ok (.iload_n 2, 1) := by decide +kernel
theorem dX10_city_229 : decode cX10_city 229 = .ok (.invokevirtual 298, 3) := by decide +kernel
theorem dX10_city_232 : decode cX10_city 232 = .ok (.iinc 2 1, 3) := by decide +kernel
theorem dX10_city_235 : decode cX10_city 235 = .ok (.goto (-51), 3) := by decide +kernel
theorem dX10_city_238 : decode cX10_city 238 = .ok (.iinc 1 1, 3) := by decide +kernel
theorem dX10_city_241 : decode cX10_city 241 = .ok (.goto (-67), 3) := by decide +kernel
theorem dX10_city_244 : decode cX10_city 244 = .ok (.aload_n 0, 1) := by decide +kernel
theorem dX10_city_245 : decode cX10_city 245 = .ok (.invokevirtual 302, 3) := by decide +kernel
theorem dX10_city_248 : decode cX10_city 248 = .ok (.aload_n 0, 1) := by decide +kernel
theorem dX10_city_249 : decode cX10_city 249 = .ok (.iconst 0, 1) := by decide +kernel
theorem dX10_city_250 : decode cX10_city 250 = .ok (.putfield 305, 3) := by decide +kernel
theorem dX10_city_253 : decode cX10_city 253 = .ok (.aload_n 0, 1) := by decide +kernel
theorem dX10_city_254 : decode cX10_city 254 = .ok (.iconst 0, 1) := by decide +kernel
theorem dX10_city_255 : decode cX10_city 255 = .ok (.putfield 308, 3) := by decide +kernel
theorem dX10_city_258 : decode cX10_city 258 = .ok (.iconst 0, 1) := by decide +kernel
theorem dX10_city_259 : decode cX10_city 259 = .ok (.istore_n 1, 1) := by decide +kernel
theorem dX10_city_260 : decode cX10_city 260 = .ok (.iload_n 1, 1) := by decide +kernel
theorem dX10_city_261 : decode cX10_city 261 = .ok (.iconst 3, 1) := by decide +kernel
theorem dX10_city_262 : decode cX10_city 262 = .ok (.if_icmp .ge 16, 3) := by decide +kernel
theorem dX10_city_265 : decode cX10_city 265 = .ok (.aload_n 0, 1) := by decide +kernel
theorem dX10_city_266 : decode cX10_city 266 = .ok (.getfield 135, 3) := by decide +kernel
theorem dX10_city_269 : decode cX10_city 269 = .ok (.iload_n 1, 1) := by decide +kernel
theorem dX10_city_270 : decode cX10_city 270 = .ok (.iconst 0, 1) := by decide +kernel
theorem dX10_city_271 : decode cX10_city 271 = .ok (.bastore, 1) := by decide +kernel
theorem dX10_city_272 : decode cX10_city 272 = .ok (.iinc 1 1, 3) := by decide +kernel
theorem dX10_city_275 : decode cX10_city 275 = .ok (.goto (-15), 3) := by decide +kernel
theorem dX10_city_278 : decode cX10_city 278 = .ok (.aload_n 0, 1) := by decide +kernel
theorem dX10_city_279 : decode cX10_city 279 = .ok (.getfield 289, 3) := by decide +kernel
theorem dX10_city_282 : decode cX10_city 282 = .ok (.ireturn, 1) := by decide +kernel
theorem dX10_learn_0 : decode cX10_learn 0 = .ok (.aload_n 0, 1) := by decide +kernel
theorem dX10_learn_1 : decode cX10_learn 1 = .ok (.getfield 57, 3) := by decide +kernel
theorem dX10_learn_4 : decode cX10_learn 4 = .ok (.iload_n 1, 1) := by decide +kernel
theorem dX10_learn_5 : decode cX10_learn 5 = .ok (.dup2, 1) := by decide +kernel
theorem dX10_learn_6 : decode cX10_learn 6 = .ok (.iaload, 1) := by decide +kernel
theorem dX10_learn_7 : decode cX10_learn 7 = .ok (.iconst 1, 1) := by decide +kernel
theorem dX10_learn_8 : decode cX10_learn 8 = .ok (.iload_n 2, 1) := by decide +kernel
theorem dX10_learn_9 : decode cX10_learn 9 = .ok (.ishl, 1) := by decide +kernel
theorem dX10_learn_10 : decode cX10_learn 10 = .ok (.ior, 1) := by decide +kernel
theorem dX10_learn_11 : decode cX10_learn 11 = .ok (.iastore, 1) := by decide +kernel
theorem dX10_learn_12 : decode cX10_learn 12 = .ok (.aload_n 0, 1) := by decide +kernel
theorem dX10_learn_13 : decode cX10_learn 13 = .ok (.getfield 39, 3) := by decide +kernel
theorem dX10_learn_16 : decode cX10_learn 16 = .ok (.iload_n 2, 1) := by decide +kernel
theorem dX10_learn_17 : decode cX10_learn 17 = .ok (.iaload, 1) := by decide +kernel
theorem dX10_learn_18 : decode cX10_learn 18 = .ok (.iconst 1, 1) := by decide +kernel
theorem dX10_learn_19 : decode cX10_learn 19 = .ok (.if_icmp .eq 15, 3) := by decide +kernel
theorem dX10_learn_22 : decode cX10_learn 22 = .ok (.aload_n 0, 1) := by decide +kernel
theorem dX10_learn_23 : decode cX10_learn 23 = .ok (.getfield 57, 3) := by decide +kernel
theorem dX10_learn_26 : decode cX10_learn 26 = .ok (.iload_n 2, 1) := by decide +kernel
theorem dX10_learn_27 : decode cX10_learn 27 = .ok (.dup2, 1) := by decide +kernel
theorem dX10_learn_28 : decode cX10_learn 28 = .ok (.iaload, 1) := by decide +kernel
theorem dX10_learn_29 : decode cX10_learn 29 = .ok (.iconst 1, 1) := by decide +kernel
theorem dX10_learn_30 : decode cX10_learn 30 = .ok (.iload_n 1, 1) := by decide +kernel
theorem dX10_learn_31 : decode cX10_learn 31 = .ok (.ishl, 1) := by decide +kernel
theorem dX10_learn_32 : decode cX10_learn 32 = .ok (.ior, 1) := by decide +kernel
theorem dX10_learn_33 : decode cX10_learn 33 = .ok (.iastore, 1) := by decide +kernel
theorem dX10_learn_34 : decode cX10_learn 34 = .ok (.return_, 1) := by decide +kernel
theorem dX10_fault_0 : decode cX10_fault 0 = .ok (.iload_n 1, 1) := by decide +kernel
theorem dX10_fault_1 : decode cX10_fault 1 = .ok (.ifCond .ne 10, 3) := by decide +kernel
theorem dX10_fault_4 : decode cX10_fault 4 = .ok (.aload_n 0, 1) := by decide +kernel
theorem dX10_fault_5 : decode cX10_fault 5 = .ok (.getfield 194, 3) := by decide +kernel
theorem dX10_fault_8 : decode cX10_fault 8 = .ok (.goto 16, 3) := by decide +kernel
theorem dX10_fault_11 : decode cX10_fault 11 = .ok (.iload_n 1, 1) := by decide +kernel
theorem dX10_fault_12 : decode cX10_fault 12 = .ok (.iconst 1, 1) := by decide +kernel
theorem dX10_fault_13 : decode cX10_fault 13 = .ok (.if_icmp .ne 10, 3) := by decide +kernel
theorem dX10_fault_16 : decode cX10_fault 16 = .ok (.aload_n 0, 1) := by decide +kernel
theorem dX10_fault_17 : decode cX10_fault 17 = .ok (.getfield 13, 3) := by decide +kernel
theorem dX10_fault_20 : decode cX10_fault 20 = .ok (.goto 4, 3) := by decide +kernel
theorem dX10_fault_23 : decode cX10_fault 23 = .ok (.iconst (-1), 1) := by decide +kernel
theorem dX10_fault_24 : decode cX10_fault 24 = .ok (.ireturn, 1) := by decide +kernel
theorem dX10_isOne_0 : decode cX10_isOne 0 = .ok (.iload_n 1, 1) := by decide +kernel
theorem dX10_isOne_1 : decode cX10_isOne 1 = .ok (.ifCond .lt 15, 3) := by decide +kernel
theorem dX10_isOne_4 : decode cX10_isOne 4 = .ok (.iload_n 1, 1) := by decide +kernel
theorem dX10_isOne_5 : decode cX10_isOne 5 = .ok (.aload_n 0, 1) := by decide +kernel
theorem dX10_isOne_6 : decode cX10_isOne 6 = .ok (.getfield 289, 3) := by decide +kernel
theorem dX10_isOne_9 : decode cX10_isOne 9 = .ok (.if_icmp .ge 7, 3) := by decide +kernel
theorem dX10_isOne_12 : decode cX10_isOne 12 = .ok (.iconst 1, 1) := by decide +kernel
theorem dX10_isOne_13 : decode cX10_isOne 13 = .ok (.goto 4, 3) := by decide +kernel
theorem dX10_isOne_16 : decode cX10_isOne 16 = .ok (.iconst 0, 1) := by decide +kernel
theorem dX10_isOne_17 : decode cX10_isOne 17 = .ok (.ireturn, 1) := by decide +kernel
theorem dX10_knows_0 : decode cX10_knows 0 = .ok (.aload_n 0, 1) := by decide +kernel
theorem dX10_knows_1 : decode cX10_knows 1 = .ok (.iload_n 1, 1) := by decide +kernel
theorem dX10_knows_2 : decode cX10_knows 2 = .ok (.invokevirtual 311, 3) := by decide +kernel
theorem dX10_knows_5 : decode cX10_knows 5 = .ok (.ifCond .eq 12, 3) := by decide +kernel
theorem dX10_knows_8 : decode cX10_knows 8 = .ok (.aload_n 0, 1) := by decide +kernel
theorem dX10_knows_9 : decode cX10_knows 9 = .ok (.getfield 57, 3) := by decide +kernel
theorem dX10_knows_12 : decode cX10_knows 12 = .ok (.iload_n 1, 1) := by decide +kernel
theorem dX10_knows_13 : decode cX10_knows 13 = .ok (.iaload, 1) := by decide +kernel
theorem dX10_knows_14 : decode cX10_knows 14 = .ok (.goto 4, 3) := by decide +kernel
theorem dX10_knows_17 : decode cX10_knows 17 = .ok (.iconst (-1), 1) := by decide +kernel
theorem dX10_knows_18 : decode cX10_knows 18 = .ok (.ireturn, 1) := by decide +kernel
theorem dX10_ones_0 : decode cX10_ones 0 = .ok (.iconst 0, 1) := by decide +kernel
theorem dX10_ones_1 : decode cX10_ones 1 = .ok (.istore_n 1, 1) := by decide +kernel
theorem dX10_ones_2 : decode cX10_ones 2 = .ok (.iconst 0, 1) := by decide +kernel
theorem dX10_ones_3 : decode cX10_ones 3 = .ok (.istore_n 2, 1) := by decide +kernel
theorem dX10_ones_4 : decode cX10_ones 4 = .ok (.iload_n 2, 1) := by decide +kernel
theorem dX10_ones_5 : decode cX10_ones 5 = .ok (.bipush 12, 2) := by decide +kernel
theorem dX10_ones_7 : decode cX10_ones 7 = .ok (.if_icmp .ge 17, 3) := by decide +kernel
theorem dX10_ones_10 : decode cX10_ones 10 = .ok (.iload_n 1, 1) := by decide +kernel
theorem dX10_ones_11 : decode cX10_ones 11 = .ok (.iload_n 0, 1) := by decide +kernel
theorem dX10_ones_12 : decode cX10_ones 12 = .ok (.iload_n 2, 1) := by decide +kernel
theorem dX10_ones_13 : decode cX10_ones 13 = .ok (.ishr, 1) := by decide +kernel
theorem dX10_ones_14 : decode cX10_ones 14 = .ok (.iconst 1, 1) := by decide +kernel
theorem dX10_ones_15 : decode cX10_ones 15 = .ok (.iand, 1) := by decide +kernel
theorem dX10_ones_16 : decode cX10_ones 16 = .ok (.iadd, 1) := by decide +kernel
theorem dX10_ones_17 : decode cX10_ones 17 = .ok (.istore_n 1, 1) := by decide +kernel
theorem dX10_ones_18 : decode cX10_ones 18 = .ok (.iinc 2 1, 3) := by decide +kernel
theorem dX10_ones_21 : decode cX10_ones 21 = .ok (.goto (-17), 3) := by decide +kernel
theorem dX10_ones_24 : decode cX10_ones 24 = .ok (.iload_n 1, 1) := by decide +kernel
theorem dX10_ones_25 : decode cX10_ones 25 = .ok (.ireturn, 1) := by decide +kernel
theorem dX10_stepOf_0 : decode cX10_stepOf 0 = .ok (.iload_n 1, 1) := by decide +kernel
theorem dX10_stepOf_1 : decode cX10_stepOf 1 = .ok (.iload_n 2, 1) := by decide +kernel
theorem dX10_stepOf_2 : decode cX10_stepOf 2 = .ok (.if_icmp .ne 7, 3) := by decide +kernel
theorem dX10_stepOf_5 : decode cX10_stepOf 5 = .ok (.ldc_w 314, 3) := by decide +kernel
theorem dX10_stepOf_8 : decode cX10_stepOf 8 = .ok (.ireturn, 1) := by decide +kernel
theorem dX10_stepOf_9 : decode cX10_stepOf 9 = .ok (.iload_n 3, 1) := by decide +kernel
theorem dX10_stepOf_10 : decode cX10_stepOf 10 = .ok (.iconst 2, 1) := by decide +kernel
theorem dX10_stepOf_11 : decode cX10_stepOf 11 = .ok (.if_icmp .ne 60, 3) := by decide +kernel
theorem dX10_stepOf_14 : decode cX10_stepOf 14 = .ok (.aload_n 0, 1) := by decide +kernel
theorem dX10_stepOf_15 : decode cX10_stepOf 15 = .ok (.iload_n 1, 1) := by decide +kernel
theorem dX10_stepOf_16 : decode cX10_stepOf 16 = .ok (.invokevirtual 315, 3) := by decide +kernel
theorem dX10_stepOf_19 : decode cX10_stepOf 19 = .ok (.ifCond .eq 11, 3) := by decide +kernel
theorem dX10_stepOf_22 : decode cX10_stepOf 22 = .ok (.aload_n 0, 1) := by decide +kernel
theorem dX10_stepOf_23 : decode cX10_stepOf 23 = .ok (.iload_n 2, 1) := by decide +kernel
theorem dX10_stepOf_24 : decode cX10_stepOf 24 = .ok (.invokevirtual 315, 3) := by decide +kernel
theorem dX10_stepOf_27 : decode cX10_stepOf 27 = .ok (.ifCond .ne 9, 3) := by decide +kernel
theorem dX10_stepOf_30 : decode cX10_stepOf 30 = .ok (.ldc_w 314, 3) := by decide +kernel
theorem dX10_stepOf_33 : decode cX10_stepOf 33 = .ok (.goto 37, 3) := by decide +kernel
theorem dX10_stepOf_36 : decode cX10_stepOf 36 = .ok (.aload_n 0, 1) := by decide +kernel
theorem dX10_stepOf_37 : decode cX10_stepOf 37 = .ok (.getfield 99, 3) := by decide +kernel
theorem dX10_stepOf_40 : decode cX10_stepOf 40 = .ok (.bipush 12, 2) := by decide +kernel
theorem dX10_stepOf_42 : decode cX10_stepOf 42 = .ok (.iload_n 1, 1) := by decide +kernel
theorem dX10_stepOf_43 : decode cX10_stepOf 43 = .ok (.imul, 1) := by decide +kernel
theorem dX10_stepOf_44 : decode cX10_stepOf 44 = .ok (.iload_n 2, 1) := by decide +kernel
theorem dX10_stepOf_45 : decode cX10_stepOf 45 = .ok (.iadd, 1) := by decide +kernel
theorem dX10_stepOf_46 : decode cX10_stepOf 46 = .ok (.iaload, 1) := by decide +kernel
theorem dX10_stepOf_47 : decode cX10_stepOf 47 = .ok (.ifCond .le 7, 3) := by decide +kernel
theorem dX10_stepOf_50 : decode cX10_stepOf 50 = .ok (.iconst 0, 1) := by decide +kernel
theorem dX10_stepOf_51 : decode cX10_stepOf 51 = .ok (.goto 19, 3) := by decide +kernel
theorem dX10_stepOf_54 : decode cX10_stepOf 54 = .ok (.aload_n 0, 1) := by decide +kernel
theorem dX10_stepOf_55 : decode cX10_stepOf 55 = .ok (.iload_n 1, 1) := by decide +kernel
theorem dX10_stepOf_56 : decode cX10_stepOf 56 = .ok (.iload_n 2, 1) := by decide +kernel
theorem dX10_stepOf_57 : decode cX10_stepOf 57 = .ok (.invokevirtual 318, 3) := by decide +kernel
theorem dX10_stepOf_60 : decode cX10_stepOf 60 = .ok (.ifCond .eq 7, 3) := by decide +kernel
theorem dX10_stepOf_63 : decode cX10_stepOf 63 = .ok (.iconst 1, 1) := by decide +kernel
theorem dX10_stepOf_64 : decode cX10_stepOf 64 = .ok (.goto 6, 3) := by decide +kernel
theorem dX10_stepOf_67 : decode cX10_stepOf 67 = .ok (.ldc_w 314, 3) := by decide +kernel
theorem dX10_stepOf_70 : decode cX10_stepOf 70 = .ok (.ireturn, 1) := by decide +kernel
theorem dX10_stepOf_71 : decode cX10_stepOf 71 = .ok (.aload_n 0, 1) := by decide +kernel
theorem dX10_stepOf_72 : decode cX10_stepOf 72 = .ok (.getfield 54, 3) := by decide +kernel
theorem dX10_stepOf_75 : decode cX10_stepOf 75 = .ok (.bipush 12, 2) := by decide +kernel
theorem dX10_stepOf_77 : decode cX10_stepOf 77 = .ok (.iload_n 1, 1) := by decide +kernel
theorem dX10_stepOf_78 : decode cX10_stepOf 78 = .ok (.imul, 1) := by decide +kernel
theorem dX10_stepOf_79 : decode cX10_stepOf 79 = .ok (.iload_n 2, 1) := by decide +kernel
theorem dX10_stepOf_80 : decode cX10_stepOf 80 = .ok (.iadd, 1) := by decide +kernel
theorem dX10_stepOf_81 : decode cX10_stepOf 81 = .ok (.iaload, 1) := by decide +kernel
theorem dX10_stepOf_82 : decode cX10_stepOf 82 = .ok (.istore 4, 2) := by decide +kernel
theorem dX10_stepOf_84 : decode cX10_stepOf 84 = .ok (.iload 4, 2) := by decide +kernel
theorem dX10_stepOf_86 : decode cX10_stepOf 86 = .ok (.ifCond .ne 9, 3) := by decide +kernel
theorem dX10_stepOf_89 : decode cX10_stepOf 89 = .ok (.ldc_w 314, 3) := by decide +kernel
theorem dX10_stepOf_92 : decode cX10_stepOf 92 = .ok (.goto 30, 3) := by decide +kernel
theorem dX10_stepOf_95 : decode cX10_stepOf 95 = .ok (.iload_n 3, 1) := by decide +kernel
theorem dX10_stepOf_96 : decode cX10_stepOf 96 = .ok (.ifCond .ne 8, 3) := by decide +kernel
theorem dX10_stepOf_99 : decode cX10_stepOf 99 = .ok (.iload 4, 2) := by decide +kernel
theorem dX10_stepOf_101 : decode cX10_stepOf 101 = .ok (.goto 21, 3) := by decide +kernel
theorem dX10_stepOf_104 : decode cX10_stepOf 104 = .ok (.iload_n 2, 1) := by decide +kernel
theorem dX10_stepOf_105 : decode cX10_stepOf 105 = .ok (.aload_n 0, 1) := by decide +kernel
theorem dX10_stepOf_106 : decode cX10_stepOf 106 = .ok (.getfield 154, 3) := by decide +kernel
theorem dX10_stepOf_109 : decode cX10_stepOf 109 = .ok (.if_icmp .ne 7, 3) := by decide +kernel
theorem dX10_stepOf_112 : decode cX10_stepOf 112 = .ok (.iconst 0, 1) := by decide +kernel
theorem dX10_stepOf_113 : decode cX10_stepOf 113 = .ok (.goto 9, 3) := by decide +kernel
theorem dX10_stepOf_116 : decode cX10_stepOf 116 = .ok (.aload_n 0, 1) := by decide +kernel
theorem dX10_stepOf_117 : decode cX10_stepOf 117 = .ok (.getfield 51, 3) := by decide +kernel
theorem dX10_stepOf_120 : decode cX10_stepOf 120 = .ok (.iload_n 2, 1) := by decide +kernel
theorem dX10_stepOf_121 : decode cX10_stepOf 121 = .ok (.iaload, 1) := by decide +kernel
theorem dX10_stepOf_122 : decode cX10_stepOf 122 = .ok (.ireturn, 1) := by decide +kernel
theorem dX10_layWays_0 : decode cX10_layWays 0 = .ok (.iconst 0, 1) := by decide +kernel
theorem dX10_layWays_1 : decode cX10_layWays 1 = .ok (.istore_n 2, 1) := by decide +kernel
theorem dX10_layWays_2 : decode cX10_layWays 2 = .ok (.iload_n 2, 1) := by decide +kernel
theorem dX10_layWays_3 : decode cX10_layWays 3 = .ok (.bipush 12, 2) := by decide +kernel
theorem dX10_layWays_5 : decode cX10_layWays 5 = .ok (.if_icmp .ge 27, 3) := by decide +kernel
theorem dX10_layWays_8 : decode cX10_layWays 8 = .ok (.aload_n 0, 1) := by decide +kernel
theorem dX10_layWays_9 : decode cX10_layWays 9 = .ok (.getfield 60, 3) := by decide +kernel
theorem dX10_layWays_12 : decode cX10_layWays 12 = .ok (.iload_n 2, 1) := by decide +kernel
theorem dX10_layWays_13 : decode cX10_layWays 13 = .ok (.ldc_w 314, 3) := by decide +kernel
theorem dX10_layWays_16 : decode cX10_layWays 16 = .ok (.iastore, 1) := by decide +kernel
theorem dX10_layWays_17 : decode cX10_layWays 17 = .ok (.aload_n 0, 1) := by decide +kernel
theorem dX10_layWays_18 : decode cX10_layWays 18 = .ok (.getfield 63, 3) := by decide +kernel
theorem dX10_layWays_21 : decode cX10_layWays 21 = .ok (.iload_n 2, 1) := by decide +kernel
theorem dX10_layWays_22 : decode cX10_layWays 22 = .ok (.ldc_w 314, 3) := by decide +kernel
theorem dX10_layWays_25 : decode cX10_layWays 25 = .ok (.iastore, 1) := by decide +kernel
theorem dX10_layWays_26 : decode cX10_layWays 26 = .ok (.iinc 2 1, 3) := by decide +kernel
theorem dX10_layWays_29 : decode cX10_layWays 29 = .ok (.goto (-27), 3) := by decide +kernel
theorem dX10_layWays_32 : decode cX10_layWays 32 = .ok (.aload_n 0, 1) := by decide +kernel
theorem dX10_layWays_33 : decode cX10_layWays 33 = .ok (.getfield 60, 3) := by decide +kernel
theorem dX10_layWays_36 : decode cX10_layWays 36 = .ok (.aload_n 0, 1) := by decide +kernel
theorem dX10_layWays_37 : decode cX10_layWays 37 = .ok (.getfield 154, 3) := by decide +kernel
theorem dX10_layWays_40 : decode cX10_layWays 40 = .ok (.iconst 0, 1) := by decide +kernel
theorem dX10_layWays_41 : decode cX10_layWays 41 = .ok (.iastore, 1) := by decide +kernel
theorem dX10_layWays_42 : decode cX10_layWays 42 = .ok (.aload_n 0, 1) := by decide +kernel
theorem dX10_layWays_43 : decode cX10_layWays 43 = .ok (.getfield 63, 3) := by decide +kernel
theorem dX10_layWays_46 : decode cX10_layWays 46 = .ok (.aload_n 0, 1) := by decide +kernel
theorem dX10_layWays_47 : decode cX10_layWays 47 = .ok (.getfield 154, 3) := by decide +kernel
theorem dX10_layWays_50 : decode cX10_layWays 50 = .ok (.iconst 0, 1) := by decide +kernel
theorem dX10_layWays_51 : decode cX10_layWays 51 = .ok (.iastore, 1) := by decide +kernel
theorem dX10_layWays_52 : decode cX10_layWays 52 = .ok (.iconst 0, 1) := by decide +kernel
theorem dX10_layWays_53 : decode cX10_layWays 53 = .ok (.istore_n 2, 1) := by decide +kernel
theorem dX10_layWays_54 : decode cX10_layWays 54 = .ok (.iload_n 2, 1) := by decide +kernel
theorem dX10_layWays_55 : decode cX10_layWays 55 = .ok (.aload_n 0, 1) := by decide +kernel
theorem dX10_layWays_56 : decode cX10_layWays 56 = .ok (.getfield 289, 3) := by decide +kernel
theorem dX10_layWays_59 : decode cX10_layWays 59 = .ok (.if_icmp .ge 58, 3) := by decide +kernel
theorem dX10_layWays_62 : decode cX10_layWays 62 = .ok (.iconst 0, 1) := by decide +kernel
theorem dX10_layWays_63 : decode cX10_layWays 63 = .ok (.istore_n 3, 1) := by decide +kernel
theorem dX10_layWays_64 : decode cX10_layWays 64 = .ok (.iload_n 3, 1) := by decide +kernel
theorem dX10_layWays_65 : decode cX10_layWays 65 = .ok (.aload_n 0, 1) := by decide +kernel
theorem dX10_layWays_66 : decode cX10_layWays 66 = .ok (.getfield 289, 3) := by decide +kernel
theorem dX10_layWays_69 : decode cX10_layWays 69 = .ok (.if_icmp .ge 42, 3) := by decide +kernel
theorem dX10_layWays_72 : decode cX10_layWays 72 = .ok (.iconst 0, 1) := by decide +kernel
theorem dX10_layWays_73 : decode cX10_layWays 73 = .ok (.istore 4, 2) := by decide +kernel
theorem dX10_layWays_75 : decode cX10_layWays 75 = .ok (.iload 4, 2) := by decide +kernel
theorem dX10_layWays_77 : decode cX10_layWays 77 = .ok (.aload_n 0, 1) := by decide +kernel
theorem dX10_layWays_78 : decode cX10_layWays 78 = .ok (.getfield 289, 3) := by decide +kernel
theorem dX10_layWays_81 : decode cX10_layWays 81 = .ok (.if_icmp .ge 24, 3) := by decide +kernel
theorem dX10_layWays_84 : decode cX10_layWays 84 = .ok (.aload_n 0, 1) := by decide +kernel
theorem dX10_layWays_85 : decode cX10_layWays 85 = .ok (.iload_n 3, 1) := by decide +kernel
theorem dX10_layWays_86 : decode cX10_layWays 86 = .ok (.iload 4, 2) := by decide +kernel
theorem dX10_layWays_88 : decode cX10_layWays 88 = .ok (.aload_n 0, 1) := by decide +kernel
theorem dX10_layWays_89 : decode cX10_layWays 89 = .ok (.iload_n 3, 1) := by decide +kernel
theorem dX10_layWays_90 : decode cX10_layWays 90 = .ok (.iload 4, 2) := by decide +kernel
theorem dX10_layWays_92 : decode cX10_layWays 92 = .ok (.iload_n 1, 1) := by decide +kernel
theorem dX10_layWays_93 : decode cX10_layWays 93 = .ok (.invokevirtual 322, 3) := by decide +kernel
theorem dX10_layWays_96 : decode cX10_layWays 96 = .ok (.invokevirtual 326, 3) := by decide +kernel
theorem dX10_layWays_99 : decode cX10_layWays 99 = .ok (.iinc 4 1, 3) := by decide +kernel
theorem dX10_layWays_102 : decode cX10_layWays 102 = .ok (.goto (-27), 3) := by decide +kernel
theorem dX10_layWays_105 : decode cX10_layWays 105 = .ok (.iinc 3 1, 3) := by decide +kernel
theorem dX10_layWays_108 : decode cX10_layWays 108 = .ok (.goto (-44), 3) := by decide +kernel
theorem dX10_layWays_111 : decode cX10_layWays 111 = .ok (.iinc 2 1, 3) := by decide +kernel
theorem dX10_layWays_114 : decode cX10_layWays 114 = .ok (.goto (-60), 3) := by decide +kernel
theorem dX10_layWays_117 : decode cX10_layWays 117 = .ok (.return_, 1) := by decide +kernel
theorem dX10_better_0 : decode cX10_better 0 = .ok (.iload_n 3, 1) := by decide +kernel
theorem dX10_better_1 : decode cX10_better 1 = .ok (.ldc_w 314, 3) := by decide +kernel
theorem dX10_better_4 : decode cX10_better 4 = .ok (.if_icmp .eq 23, 3) := by decide +kernel
theorem dX10_better_7 : decode cX10_better 7 = .ok (.aload_n 0, 1) := by decide +kernel
theorem dX10_better_8 : decode cX10_better 8 = .ok (.getfield 60, 3) := by decide +kernel
theorem dX10_better_11 : decode cX10_better 11 = .ok (.iload_n 2, 1) := by decide +kernel
theorem dX10_better_12 : decode cX10_better 12 = .ok (.iaload, 1) := by decide +kernel
theorem dX10_better_13 : decode cX10_better 13 = .ok (.ldc_w 314, 3) := by decide +kernel
theorem dX10_better_16 : decode cX10_better 16 = .ok (.if_icmp .eq 11, 3) := by decide +kernel
theorem dX10_better_19 : decode cX10_better 19 = .ok (.iload_n 1, 1) := by decide +kernel
theorem dX10_better_20 : decode cX10_better 20 = .ok (.aload_n 0, 1) := by decide +kernel
theorem dX10_better_21 : decode cX10_better 21 = .ok (.getfield 154, 3) := by decide +kernel
theorem dX10_better_24 : decode cX10_better 24 = .ok (.if_icmp .ne 4, 3) := by decide +kernel
theorem dX10_better_27 : decode cX10_better 27 = .ok (.return_, 1) := by decide +kernel
theorem dX10_better_28 : decode cX10_better 28 = .ok (.aload_n 0, 1) := by decide +kernel
theorem dX10_better_29 : decode cX10_better 29 = .ok (.getfield 60, 3) := by decide +kernel
theorem dX10_better_32 : decode cX10_better 32 = .ok (.iload_n 2, 1) := by decide +kernel
theorem dX10_better_33 : decode cX10_better 33 = .ok (.iaload, 1) := by decide +kernel
theorem dX10_better_34 : decode cX10_better 34 = .ok (.iload_n 3, 1) := by decide +kernel
theorem dX10_better_35 : decode cX10_better 35 = .ok (.iadd, 1) := by decide +kernel
theorem dX10_better_36 : decode cX10_better 36 = .ok (.istore 4, 2) := by decide +kernel
theorem dX10_better_38 : decode cX10_better 38 = .ok (.aload_n 0, 1) := by decide +kernel
theorem dX10_better_39 : decode cX10_better 39 = .ok (.getfield 63, 3) := by decide +kernel
theorem dX10_better_42 : decode cX10_better 42 = .ok (.iload_n 2, 1) := by decide +kernel
theorem dX10_better_43 : decode cX10_better 43 = .ok (.iaload, 1) := by decide +kernel
theorem dX10_better_44 : decode cX10_better 44 = .ok (.iconst 1, 1) := by decide +kernel
theorem dX10_better_45 : decode cX10_better 45 = .ok (.iadd, 1) := by decide +kernel
theorem dX10_better_46 : decode cX10_better 46 = .ok (.istore 5, 2) := by decide +kernel
theorem dX10_better_48 : decode cX10_better 48 = .ok (.iload 4, 2) := by decide +kernel
theorem dX10_better_50 : decode cX10_better 50 = .ok (.aload_n 0, 1) := by decide +kernel
theorem dX10_better_51 : decode cX10_better 51 = .ok (.getfield 60, 3) := by decide +kernel
theorem dX10_better_54 : decode cX10_better 54 = .ok (.iload_n 1, 1) := by decide +kernel
theorem dX10_better_55 : decode cX10_better 55 = .ok (.iaload, 1) := by decide +kernel
theorem dX10_better_56 : decode cX10_better 56 = .ok (.if_icmp .gt 25, 3) := by decide +kernel
theorem dX10_better_59 : decode cX10_better 59 = .ok (.iload 4, 2) := by decide +kernel
theorem dX10_better_61 : decode cX10_better 61 = .ok (.aload_n 0, 1) := by decide +kernel
theorem dX10_better_62 : decode cX10_better 62 = .ok (.getfield 60, 3) := by decide +kernel
theorem dX10_better_65 : decode cX10_better 65 = .ok (.iload_n 1, 1) := by decide +kernel
theorem dX10_better_66 : decode cX10_better 66 = .ok (.iaload, 1) := by decide +kernel
theorem dX10_better_67 : decode cX10_better 67 = .ok (.if_icmp .ne 15, 3) := by decide +kernel
theorem dX10_better_70 : decode cX10_better 70 = .ok (.iload 5, 2) := by decide +kernel
theorem dX10_better_72 : decode cX10_better 72 = .ok (.aload_n 0, 1) := by decide +kernel
theorem dX10_better_73 : decode cX10_better 73 = .ok (.getfield 63, 3) := by decide +kernel
theorem dX10_better_76 : decode cX10_better 76 = .ok (.iload_n 1, 1) := by decide +kernel
theorem dX10_better_77 : decode cX10_better 77 = .ok (.iaload, 1) := by decide +kernel
theorem dX10_better_78 : decode cX10_better 78 = .ok (.if_icmp .lt 4, 3) := by decide +kernel
theorem dX10_better_81 : decode cX10_better 81 = .ok (.return_, 1) := by decide +kernel
theorem dX10_better_82 : decode cX10_better 82 = .ok (.aload_n 0, 1) := by decide +kernel
theorem dX10_better_83 : decode cX10_better 83 = .ok (.getfield 60, 3) := by decide +kernel
theorem dX10_better_86 : decode cX10_better 86 = .ok (.iload_n 1, 1) := by decide +kernel
theorem dX10_better_87 : decode cX10_better 87 = .ok (.iload 4, 2) := by decide +kernel
theorem dX10_better_89 : decode cX10_better 89 = .ok (.iastore, 1) := by decide +kernel
theorem dX10_better_90 : decode cX10_better 90 = .ok (.aload_n 0, 1) := by decide +kernel
theorem dX10_better_91 : decode cX10_better 91 = .ok (.getfield 63, 3) := by decide +kernel
theorem dX10_better_94 : decode cX10_better 94 = .ok (.iload_n 1, 1) := by decide +kernel
theorem dX10_better_95 : decode cX10_better 95 = .ok (.iload 5, 2) := by decide +kernel
theorem dX10_better_97 : decode cX10_better 97 = .ok (.iastore, 1) := by decide +kernel
theorem dX10_better_98 : decode cX10_better 98 = .ok (.return_, 1) := by decide +kernel
theorem dX10_layWay_0 : decode cX10_layWay 0 = .ok (.aload_n 0, 1) := by decide +kernel
theorem dX10_layWay_1 : decode cX10_layWay 1 = .ok (.iconst 0, 1) := by decide +kernel
theorem dX10_layWay_2 : decode cX10_layWay 2 = .ok (.putfield 308, 3) := by decide +kernel
theorem dX10_layWay_5 : decode cX10_layWay 5 = .ok (.aload_n 0, 1) := by decide +kernel
theorem dX10_layWay_6 : decode cX10_layWay 6 = .ok (.getfield 151, 3) := by decide +kernel
theorem dX10_layWay_9 : decode cX10_layWay 9 = .ok (.ifCond .lt 10, 3) := by decide +kernel
theorem dX10_layWay_12 : decode cX10_layWay 12 = .ok (.aload_n 0, 1) := by decide +kernel
theorem dX10_layWay_13 : decode cX10_layWay 13 = .ok (.getfield 154, 3) := by decide +kernel
theorem dX10_layWay_16 : decode cX10_layWay 16 = .ok (.ifCond .ge 5, 3) := by decide +kernel
theorem dX10_layWay_19 : decode cX10_layWay 19 = .ok (.iconst (-1), 1) := by decide +kernel
theorem dX10_layWay_20 : decode cX10_layWay 20 = .ok (.ireturn, 1) := by decide +kernel
theorem dX10_layWay_21 : decode cX10_layWay 21 = .ok (.aload_n 0, 1) := by decide +kernel
theorem dX10_layWay_22 : decode cX10_layWay 22 = .ok (.iload_n 1, 1) := by decide +kernel
theorem dX10_layWay_23 : decode cX10_layWay 23 = .ok (.invokevirtual 330, 3) := by decide +kernel
theorem dX10_layWay_26 : decode cX10_layWay 26 = .ok (.aload_n 0, 1) := by decide +kernel
theorem dX10_layWay_27 : decode cX10_layWay 27 = .ok (.getfield 60, 3) := by decide +kernel
theorem dX10_layWay_30 : decode cX10_layWay 30 = .ok (.aload_n 0, 1) := by decide +kernel
theorem dX10_layWay_31 : decode cX10_layWay 31 = .ok (.getfield 151, 3) := by decide +kernel
theorem dX10_layWay_34 : decode cX10_layWay 34 = .ok (.iaload, 1) := by decide +kernel
theorem dX10_layWay_35 : decode cX10_layWay 35 = .ok (.ldc_w 314, 3) := by decide +kernel
theorem dX10_layWay_38 : decode cX10_layWay 38 = .ok (.if_icmp .ne 5, 3) := by decide +kernel
theorem dX10_layWay_41 : decode cX10_layWay 41 = .ok (.iconst (-1), 1) := by decide +kernel
theorem dX10_layWay_42 : decode cX10_layWay 42 = .ok (.ireturn, 1) := by decide +kernel
theorem dX10_layWay_43 : decode cX10_layWay 43 = .ok (.aload_n 0, 1) := by decide +kernel
theorem dX10_layWay_44 : decode cX10_layWay 44 = .ok (.getfield 151, 3) := by decide +kernel
theorem dX10_layWay_47 : decode cX10_layWay 47 = .ok (.istore_n 2, 1) := by decide +kernel
theorem dX10_layWay_48 : decode cX10_layWay 48 = .ok (.aload_n 0, 1) := by decide +kernel
theorem dX10_layWay_49 : decode cX10_layWay 49 = .ok (.getfield 66, 3) := by decide +kernel
theorem dX10_layWay_52 : decode cX10_layWay 52 = .ok (.iconst 0, 1) := by decide +kernel
theorem dX10_layWay_53 : decode cX10_layWay 53 = .ok (.iload_n 2, 1) := by decide +kernel
theorem dX10_layWay_54 : decode cX10_layWay 54 = .ok (.iastore, 1) := by decide +kernel
theorem dX10_layWay_55 : decode cX10_layWay 55 = .ok (.aload_n 0, 1) := by decide +kernel
theorem dX10_layWay_56 : decode cX10_layWay 56 = .ok (.iconst 1, 1) := by decide +kernel
theorem dX10_layWay_57 : decode cX10_layWay 57 = .ok (.putfield 308, 3) := by decide +kernel
theorem dX10_layWay_60 : decode cX10_layWay 60 = .ok (.iload_n 2, 1) := by decide +kernel
theorem dX10_layWay_61 : decode cX10_layWay 61 = .ok (.aload_n 0, 1) := by decide +kernel
theorem dX10_layWay_62 : decode cX10_layWay 62 = .ok (.getfield 154, 3) := by decide +kernel
theorem dX10_layWay_65 : decode cX10_layWay 65 = .ok (.if_icmp .eq 46, 3) := by decide +kernel
theorem dX10_layWay_68 : decode cX10_layWay 68 = .ok (.iconst 0, 1) := by decide +kernel
theorem dX10_layWay_69 : decode cX10_layWay 69 = .ok (.istore_n 3, 1) := by decide +kernel
theorem dX10_layWay_70 : decode cX10_layWay 70 = .ok (.aload_n 0, 1) := by decide +kernel
theorem dX10_layWay_71 : decode cX10_layWay 71 = .ok (.iload_n 2, 1) := by decide +kernel
theorem dX10_layWay_72 : decode cX10_layWay 72 = .ok (.iload_n 3, 1) := by decide +kernel
theorem dX10_layWay_73 : decode cX10_layWay 73 = .ok (.iload_n 1, 1) := by decide +kernel
theorem dX10_layWay_74 : decode cX10_layWay 74 = .ok (.invokevirtual 333, 3) := by decide +kernel
theorem dX10_layWay_77 : decode cX10_layWay 77 = .ok (.ifCond .ne 9, 3) := by decide +kernel
theorem dX10_layWay_80 : decode cX10_layWay 80 = .ok (.iinc 3 1, 3) := by decide +kernel
theorem dX10_layWay_83 : decode cX10_layWay 83 = .ok (.goto (-13), 3) := by decide +kernel
theorem dX10_layWay_86 : decode cX10_layWay 86 = .ok (.iload_n 3, 1) := by decide +kernel
theorem dX10_layWay_87 : decode cX10_layWay 87 = .ok (.istore_n 2, 1) := by decide +kernel
theorem dX10_layWay_88 : decode cX10_layWay 88 = .ok (.aload_n 0, 1) := by decide +kernel
theorem dX10_layWay_89 : decode cX10_layWay 89 = .ok (.getfield 66, 3) := by decide +kernel
theorem dX10_layWay_92 : decode cX10_layWay 92 = .ok (.aload_n 0, 1) := by decide +kernel
theorem dX10_layWay_93 : decode cX10_layWay 93 = .ok (.getfield 308, 3) := by decide +kernel
theorem dX10_layWay_96 : decode cX10_layWay 96 = .ok (.iload_n 2, 1) := by decide +kernel
theorem dX10_layWay_97 : decode cX10_layWay 97 = .ok (.iastore, 1) := by decide +kernel
theorem dX10_layWay_98 : decode cX10_layWay 98 = .ok (.aload_n 0, 1) := by decide +kernel
theorem dX10_layWay_99 : decode cX10_layWay 99 = .ok (.dup, 1) := by decide +kernel
theorem dX10_layWay_100 : decode cX10_layWay 100 = .ok (.getfield 308, 3) := by decide +kernel
theorem dX10_layWay_103 : decode cX10_layWay 103 = .ok (.iconst 1, 1) := by decide +kernel
theorem dX10_layWay_104 : decode cX10_layWay 104 = .ok (.iadd, 1) := by decide +kernel
theorem dX10_layWay_105 : decode cX10_layWay 105 = .ok (.putfield 308, 3) := by decide +kernel
theorem dX10_layWay_108 : decode cX10_layWay 108 = .ok (.goto (-48), 3) := by decide +kernel
theorem dX10_layWay_111 : decode cX10_layWay 111 = .ok (.aload_n 0, 1) := by decide +kernel
theorem dX10_layWay_112 : decode cX10_layWay 112 = .ok (.getfield 60, 3) := by decide +kernel
theorem dX10_layWay_115 : decode cX10_layWay 115 = .ok (.aload_n 0, 1) := by decide +kernel
theorem dX10_layWay_116 : decode cX10_layWay 116 = .ok (.getfield 151, 3) := by decide +kernel
theorem dX10_layWay_119 : decode cX10_layWay 119 = .ok (.iaload, 1) := by decide +kernel
theorem dX10_layWay_120 : decode cX10_layWay 120 = .ok (.ireturn, 1) := by decide +kernel
theorem dX10_leads_0 : decode cX10_leads 0 = .ok (.aload_n 0, 1) := by decide +kernel
theorem dX10_leads_1 : decode cX10_leads 1 = .ok (.iload_n 1, 1) := by decide +kernel
theorem dX10_leads_2 : decode cX10_leads 2 = .ok (.iload_n 2, 1) := by decide +kernel
theorem dX10_leads_3 : decode cX10_leads 3 = .ok (.iload_n 3, 1) := by decide +kernel
theorem dX10_leads_4 : decode cX10_leads 4 = .ok (.invokevirtual 322, 3) := by decide +kernel
theorem dX10_leads_7 : decode cX10_leads 7 = .ok (.istore 4, 2) := by decide +kernel
theorem dX10_leads_9 : decode cX10_leads 9 = .ok (.iload 4, 2) := by decide +kernel
theorem dX10_leads_11 : decode cX10_leads 11 = .ok (.ldc_w 314, 3) := by decide +kernel
theorem dX10_leads_14 : decode cX10_leads 14 = .ok (.if_icmp .eq 54, 3) := by decide +kernel
theorem dX10_leads_17 : decode cX10_leads 17 = .ok (.aload_n 0, 1) := by decide +kernel
theorem dX10_leads_18 : decode cX10_leads 18 = .ok (.getfield 60, 3) := by decide +kernel
theorem dX10_leads_21 : decode cX10_leads 21 = .ok (.iload_n 2, 1) := by decide +kernel
theorem dX10_leads_22 : decode cX10_leads 22 = .ok (.iaload, 1) := by decide +kernel
theorem dX10_leads_23 : decode cX10_leads 23 = .ok (.ldc_w 314, 3) := by decide +kernel
theorem dX10_leads_26 : decode cX10_leads 26 = .ok (.if_icmp .eq 42, 3) := by decide +kernel
theorem dX10_leads_29 : decode cX10_leads 29 = .ok (.aload_n 0, 1) := by decide +kernel
theorem dX10_leads_30 : decode cX10_leads 30 = .ok (.getfield 60, 3) := by decide +kernel
theorem dX10_leads_33 : decode cX10_leads 33 = .ok (.iload_n 2, 1) := by decide +kernel
theorem dX10_leads_34 : decode cX10_leads 34 = .ok (.iaload, 1) := by decide +kernel
theorem dX10_leads_35 : decode cX10_leads 35 = .ok (.iload 4, 2) := by decide +kernel
theorem dX10_leads_37 : decode cX10_leads 37 = .ok (.iadd, 1) := by decide +kernel
theorem dX10_leads_38 : decode cX10_leads 38 = .ok (.aload_n 0, 1) := by decide +kernel
theorem dX10_leads_39 : decode cX10_leads 39 = .ok (.getfield 60, 3) := by decide +kernel
theorem dX10_leads_42 : decode cX10_leads 42 = .ok (.iload_n 1, 1) := by decide +kernel
theorem dX10_leads_43 : decode cX10_leads 43 = .ok (.iaload, 1) := by decide +kernel
theorem dX10_leads_44 : decode cX10_leads 44 = .ok (.if_icmp .ne 24, 3) := by decide +kernel
theorem dX10_leads_47 : decode cX10_leads 47 = .ok (.aload_n 0, 1) := by decide +kernel
theorem dX10_leads_48 : decode cX10_leads 48 = .ok (.getfield 63, 3) := by decide +kernel
theorem dX10_leads_51 : decode cX10_leads 51 = .ok (.iload_n 2, 1) := by decide +kernel
theorem dX10_leads_52 : decode cX10_leads 52 = .ok (.iaload, 1) := by decide +kernel
theorem dX10_leads_53 : decode cX10_leads 53 = .ok (.iconst 1, 1) := by decide +kernel
theorem dX10_leads_54 : decode cX10_leads 54 = .ok (.iadd, 1) := by decide +kernel
theorem dX10_leads_55 : decode cX10_leads 55 = .ok (.aload_n 0, 1) := by decide +kernel
theorem dX10_leads_56 : decode cX10_leads 56 = .ok (.getfield 63, 3) := by decide +kernel
theorem dX10_leads_59 : decode cX10_leads 59 = .ok (.iload_n 1, 1) := by decide +kernel
theorem dX10_leads_60 : decode cX10_leads 60 = .ok (.iaload, 1) := by decide +kernel
theorem dX10_leads_61 : decode cX10_leads 61 = .ok (.if_icmp .ne 7, 3) := by decide +kernel
theorem dX10_leads_64 : decode cX10_leads 64 = .ok (.iconst 1, 1) := by decide +kernel
theorem dX10_leads_65 : decode cX10_leads 65 = .ok (.goto 4, 3) := by decide +kernel
theorem dX10_leads_68 : decode cX10_leads 68 = .ok (.iconst 0, 1) := by decide +kernel
theorem dX10_leads_69 : decode cX10_leads 69 = .ok (.ireturn, 1) := by decide +kernel
theorem dX10_quick_0 : decode cX10_quick 0 = .ok (.aload_n 0, 1) := by decide +kernel
theorem dX10_quick_1 : decode cX10_quick 1 = .ok (.iconst 0, 1) := by decide +kernel
theorem dX10_quick_2 : decode cX10_quick 2 = .ok (.invokevirtual 337, 3) := by decide +kernel
theorem dX10_quick_5 : decode cX10_quick 5 = .ok (.ireturn, 1) := by decide +kernel
theorem dX10_cheap_0 : decode cX10_cheap 0 = .ok (.aload_n 0, 1) := by decide +kernel
theorem dX10_cheap_1 : decode cX10_cheap 1 = .ok (.iconst 1, 1) := by decide +kernel
theorem dX10_cheap_2 : decode cX10_cheap 2 = .ok (.invokevirtual 337, 3) := by decide +kernel
theorem dX10_cheap_5 : decode cX10_cheap 5 = .ok (.ireturn, 1) := by decide +kernel
theorem dX10_lies_0 : decode cX10_lies 0 = .ok (.iload_n 1, 1) := by decide +kernel
theorem dX10_lies_1 : decode cX10_lies 1 = .ok (.ifCond .lt 20, 3) := by decide +kernel
theorem dX10_lies_4 : decode cX10_lies 4 = .ok (.iload_n 1, 1) := by decide +kernel
theorem dX10_lies_5 : decode cX10_lies 5 = .ok (.aload_n 0, 1) := by decide +kernel
theorem dX10_lies_6 : decode cX10_lies 6 = .ok (.getfield 308, 3) := by decide +kernel
theorem dX10_lies_9 : decode cX10_lies 9 = .ok (.if_icmp .ge 12, 3) := by decide +kernel
theorem dX10_lies_12 : decode cX10_lies 12 = .ok (.aload_n 0, 1) := by decide +kernel
theorem dX10_lies_13 : decode cX10_lies 13 = .ok (.getfield 66, 3) := by decide +kernel
theorem dX10_lies_16 : decode cX10_lies 16 = .ok (.iload_n 1, 1) := by decide +kernel
theorem dX10_lies_17 : decode cX10_lies 17 = .ok (.iaload, 1) := by decide +kernel
theorem dX10_lies_18 : decode cX10_lies 18 = .ok (.goto 4, 3) := by decide +kernel
theorem dX10_lies_21 : decode cX10_lies 21 = .ok (.iconst (-1), 1) := by decide +kernel
theorem dX10_lies_22 : decode cX10_lies 22 = .ok (.ireturn, 1) := by decide +kernel
theorem dX10_layProducts_0 : decode cX10_layProducts 0 = .ok (.iconst 0, 1) := by decide +kernel
theorem dX10_layProducts_1 : decode cX10_layProducts 1 = .ok (.istore_n 1, 1) := by decide +kernel
theorem dX10_layProducts_2 : decode cX10_layProducts 2 = .ok (.iload_n 1, 1) := by decide +kernel
theorem dX10_layProducts_3 : decode cX10_layProducts 3 = .ok (.bipush 120, 2) := by decide +kernel
theorem dX10_layProducts_5 : decode cX10_layProducts 5 = .ok (.if_icmp .ge 16, 3) := by decide +kernel
theorem dX10_layProducts_8 : decode cX10_layProducts 8 = .ok (.aload_n 0, 1) := by decide +kernel
theorem dX10_layProducts_9 : decode cX10_layProducts 9 = .ok (.getfield 69, 3) := by decide +kernel
theorem dX10_layProducts_12 : decode cX10_layProducts 12 = .ok (.iload_n 1, 1) := by decide +kernel
theorem dX10_layProducts_13 : decode cX10_layProducts 13 = .ok (.lconst 0, 1) := by decide +kernel
theorem dX10_layProducts_14 : decode cX10_layProducts 14 = .ok (.lastore, 1) := by decide +kernel
theorem dX10_layProducts_15 : decode cX10_layProducts 15 = .ok (.iinc 1 1, 3) := by decide +kernel
theorem dX10_layProducts_18 : decode cX10_layProducts 18 = .ok (.goto (-16), 3) := by decide +kernel
theorem dX10_layProducts_21 : decode cX10_layProducts 21 = .ok (.iconst 0, 1) := by decide +kernel
theorem dX10_layProducts_22 : decode cX10_layProducts 22 = .ok (.istore_n 1, 1) := by decide +kernel
theorem dX10_layProducts_23 : decode cX10_layProducts 23 = .ok (.iload_n 1, 1) := by decide +kernel
theorem dX10_layProducts_24 : decode cX10_layProducts 24 = .ok (.aload_n 0, 1) := by decide +kernel
theorem dX10_layProducts_25 : decode cX10_layProducts 25 = .ok (.getfield 289, 3) := by decide +kernel
theorem dX10_layProducts_28 : decode cX10_layProducts 28 = .ok (.if_icmp .ge 33, 3) := by decide +kernel
theorem dX10_layProducts_31 : decode cX10_layProducts 31 = .ok (.aload_n 0, 1) := by decide +kernel
theorem dX10_layProducts_32 : decode cX10_layProducts 32 = .ok (.getfield 54, 3) := by decide +kernel
theorem dX10_layProducts_35 : decode cX10_layProducts 35 = .ok (.bipush 12, 2) := by decide +kernel
theorem dX10_layProducts_37 : decode cX10_layProducts 37 = .ok (.iload_n 1, 1) := by decide +kernel
theorem dX10_layProducts_38 : decode cX10_layProducts 38 = .ok (.imul, 1) := by decide +kernel
theorem dX10_layProducts_39 : decode cX10_layProducts 39 = .ok (.aload_n 0, 1) := by decide +kernel
theorem dX10_layProducts_40 : decode cX10_layProducts 40 = .ok (.getfield 154, 3) := by decide +kernel
theorem dX10_layProducts_43 : decode cX10_layProducts 43 = .ok (.iadd, 1) := by decide +kernel
theorem dX10_layProducts_44 : decode cX10_layProducts 44 = .ok (.iaload, 1) := by decide +kernel
theorem dX10_layProducts_45 : decode cX10_layProducts 45 = .ok (.ifCond .le 10, 3) := by decide +kernel
theorem dX10_layProducts_48 : decode cX10_layProducts 48 = .ok (.aload_n 0, 1) := by decide +kernel
theorem dX10_layProducts_49 : decode cX10_layProducts 49 = .ok (.getfield 69, 3) := by decide +kernel
theorem dX10_layProducts_52 : decode cX10_layProducts 52 = .ok (.iload_n 1, 1) := by decide +kernel
theorem dX10_layProducts_53 : decode cX10_layProducts 53 = .ok (.lconst 1, 1) := by decide +kernel
theorem dX10_layProducts_54 : decode cX10_layProducts 54 = .ok (.lastore, 1) := by decide +kernel
theorem dX10_layProducts_55 : decode cX10_layProducts 55 = .ok (.iinc 1 1, 3) := by decide +kernel
theorem dX10_layProducts_58 : decode cX10_layProducts 58 = .ok (.goto (-35), 3) := by decide +kernel
theorem dX10_layProducts_61 : decode cX10_layProducts 61 = .ok (.iconst 1, 1) := by decide +kernel
theorem dX10_layProducts_62 : decode cX10_layProducts 62 = .ok (.istore_n 1, 1) := by decide +kernel
theorem dX10_layProducts_63 : decode cX10_layProducts 63 = .ok (.iload_n 1, 1) := by decide +kernel
theorem dX10_layProducts_64 : decode cX10_layProducts 64 = .ok (.bipush 9, 2) := by decide +kernel
theorem dX10_layProducts_66 : decode cX10_layProducts 66 = .ok (.if_icmp .gt 137, 3) := by decide +kernel
theorem dX10_layProducts_69 : decode cX10_layProducts 69 = .ok (.iconst 0, 1) := by decide +kernel
theorem dX10_layProducts_70 : decode cX10_layProducts 70 = .ok (.istore_n 2, 1) := by decide +kernel
theorem dX10_layProducts_71 : decode cX10_layProducts 71 = .ok (.iload_n 2, 1) := by decide +kernel
theorem dX10_layProducts_72 : decode cX10_layProducts 72 = .ok (.aload_n 0, 1) := by decide +kernel
theorem dX10_layProducts_73 : decode cX10_layProducts 73 = .ok (.getfield 289, 3) := by decide +kernel
theorem dX10_layProducts_76 : decode cX10_layProducts 76 = .ok (.if_icmp .ge 121, 3) := by decide +kernel
theorem dX10_layProducts_79 : decode cX10_layProducts 79 = .ok (.lconst 0, 1) := by decide +kernel
theorem dX10_layProducts_80 : decode cX10_layProducts 80 = .ok (.lstore_n 3, 1) := by decide +kernel
theorem dX10_layProducts_81 : decode cX10_layProducts 81 = .ok (.iconst 0, 1) := by decide +kernel
theorem dX10_layProducts_82 : decode cX10_layProducts 82 = .ok (.istore 5, 2) := by decide +kernel
theorem dX10_layProducts_84 : decode cX10_layProducts 84 = .ok (.iload 5, 2) := by decide +kernel
theorem dX10_layProducts_86 : decode cX10_layProducts 86 = .ok (.aload_n 0, 1) := by decide +kernel
theorem dX10_layProducts_87 : decode cX10_layProducts 87 = .ok (.getfield 289, 3) := by decide +kernel
theorem dX10_layProducts_90 : decode cX10_layProducts 90 = .ok (.if_icmp .ge 89, 3) := by decide +kernel
theorem dX10_layProducts_93 : decode cX10_layProducts 93 = .ok (.aload_n 0, 1) := by decide +kernel
theorem dX10_layProducts_94 : decode cX10_layProducts 94 = .ok (.getfield 54, 3) := by decide +kernel
theorem dX10_layProducts_97 : decode cX10_layProducts 97 = .ok (.bipush 12, 2) := by decide +kernel
theorem dX10_layProducts_99 : decode cX10_layProducts 99 = .ok (.iload_n 2, 1) := by decide +kernel
theorem dX10_layProducts_100 : decode cX10_layProducts 100 = .ok (.imul, 1) := by decide +kernel
theorem dX10_layProducts_101 : decode cX10_layProducts 101 = .ok (.iload 5, 2) := by decide +kernel
theorem dX10_layProducts_103 : decode cX10_layProducts 103 = .ok (.iadd, 1) := by decide +kernel
theorem dX10_layProducts_104 : decode cX10_layProducts 104 = .ok (.iaload, 1) := by decide +kernel
theorem dX10_layProducts_105 : decode cX10_layProducts 105 = .ok (.ifCond .eq 21, 3) := by decide +kernel
theorem dX10_layProducts_108 : decode cX10_layProducts 108 = .ok (.iload 5, 2) := by decide +kernel
theorem dX10_layProducts_110 : decode cX10_layProducts 110 = .ok (.aload_n 0, 1) := by decide +kernel
theorem dX10_layProducts_111 : decode cX10_layProducts 111 = .ok (.getfield 154, 3) := by decide +kernel
theorem dX10_layProducts_114 : decode cX10_layProducts 114 = .ok (.if_icmp .eq 12, 3) := by decide +kernel
theorem dX10_layProducts_117 : decode cX10_layProducts 117 = .ok (.iload 5, 2) := by decide +kernel
theorem dX10_layProducts_119 : decode cX10_layProducts 119 = .ok (.aload_n 0, 1) := by decide +kernel
theorem dX10_layProducts_120 : decode cX10_layProducts 120 = .ok (.getfield 151, 3) := by decide +kernel
theorem dX10_layProducts_123 : decode cX10_layProducts 123 = .ok (.if_icmp .ne 7, 3) := by decide +kernel
theorem dX10_layProducts_126 : decode cX10_layProducts 126 = .ok (.lconst 0, 1) := by decide +kernel
theorem dX10_layProducts_127 : decode cX10_layProducts 127 = .ok (.goto 30, 3) := by decide +kernel
theorem dX10_layProducts_130 : decode cX10_layProducts 130 = .ok (.ldc2_w 340, 3) := by decide +kernel
theorem dX10_layProducts_133 : decode cX10_layProducts 133 = .ok (.aload_n 0, 1) := by decide +kernel
theorem dX10_layProducts_134 : decode cX10_layProducts 134 = .ok (.getfield 48, 3) := by decide +kernel
theorem dX10_layProducts_137 : decode cX10_layProducts 137 = .ok (.iload 5, 2) := by decide +kernel
theorem dX10_layProducts_139 : decode cX10_layProducts 139 = .ok (.iaload, 1) := by decide +kernel
theorem dX10_layProducts_140 : decode cX10_layProducts 140 = .ok (.i2l, 1) := by decide +kernel
theorem dX10_layProducts_141 : decode cX10_layProducts 141 = .ok (.lsub, 1) := by decide +kernel
theorem dX10_layProducts_142 : decode cX10_layProducts 142 = .ok (.aload_n 0, 1) := by decide +kernel
theorem dX10_layProducts_143 : decode cX10_layProducts 143 = .ok (.getfield 69, 3) := by decide +kernel
theorem dX10_layProducts_146 : decode cX10_layProducts 146 = .ok (.bipush 12, 2) := by decide +kernel
theorem dX10_layProducts_148 : decode cX10_layProducts 148 = .ok (.iload_n 1, 1) := by decide +kernel
theorem dX10_layProducts_149 : decode cX10_layProducts 149 = .ok (.iconst 1, 1) := by decide +kernel
theorem dX10_layProducts_150 : decode cX10_layProducts 150 = .ok (.isub, 1) := by decide +kernel
theorem dX10_layProducts_151 : decode cX10_layProducts 151 = .ok (.imul, 1) := by decide +kernel
theorem dX10_layProducts_152 : decode cX10_layProducts 152 = .ok (.iload 5, 2) := by decide +kernel
theorem dX10_layProducts_154 : decode cX10_layProducts 154 = .ok (.iadd, 1) := by decide +kernel
theorem dX10_layProducts_155 : decode cX10_layProducts 155 = .ok (.laload, 1) := by decide +kernel
theorem dX10_layProducts_156 : decode cX10_layProducts 156 = .ok (.lmul, 1) := by decide +kernel
theorem dX10_layProducts_157 : decode cX10_layProducts 157 = .ok (.lstore 6, 2) := by decide +kernel
theorem dX10_layProducts_159 : decode cX10_layProducts 159 = .ok (.lload 6, 2) := by decide +kernel
theorem dX10_layProducts_161 : decode cX10_layProducts 161 = .ok (.lload_n 3, 1) := by decide +kernel
theorem dX10_layProducts_162 : decode cX10_layProducts 162 = .ok (.lcmp, 1) := by decide +kernel
theorem dX10_layProducts_163 : decode cX10_layProducts 163 = .ok (.ifCond .le 8, 3) := by decide +kernel
theorem dX10_layProducts_166 : decode cX10_layProducts 166 = .ok (.lload 6, 2) := by decide +kernel
theorem dX10_layProducts_168 : decode cX10_layProducts 168 = .ok (.goto 4, 3) := by decide +kernel
theorem dX10_layProducts_171 : decode cX10_layProducts 171 = .ok (.lload_n 3, 1) := by decide +kernel
theorem dX10_layProducts_172 : decode cX10_layProducts 172 = .ok (.lstore_n 3, 1) := by decide +kernel
theorem dX10_layProducts_173 : decode cX10_layProducts 173 = .ok (.iinc 5 1, 3) := by decide +kernel
theorem dX10_layProducts_176 : decode cX10_layProducts 176 = .ok (.goto (-92), 3) := by decide +kernel
theorem dX10_layProducts_179 : decode cX10_layProducts 179 = .ok (.aload_n 0, 1) := by decide +kernel
theorem dX10_layProducts_180 : decode cX10_layProducts 180 = .ok (.getfield 69, 3) := by decide +kernel
theorem dX10_layProducts_183 : decode cX10_layProducts 183 = .ok (.bipush 12, 2) := by decide +kernel
theorem dX10_layProducts_185 : decode cX10_layProducts 185 = .ok (.iload_n 1, 1) := by decide +kernel
theorem dX10_layProducts_186 : decode cX10_layProducts 186 = .ok (.imul, 1) := by decide +kernel
theorem dX10_layProducts_187 : decode cX10_layProducts 187 = .ok (.iload_n 2, 1) := by decide +kernel
theorem dX10_layProducts_188 : decode cX10_layProducts 188 = .ok (.iadd, 1) := by decide +kernel
theorem dX10_layProducts_189 : decode cX10_layProducts 189 = .ok (.lload_n 3, 1) := by decide +kernel
theorem dX10_layProducts_190 : decode cX10_layProducts 190 = .ok (.lastore, 1) := by decide +kernel
theorem dX10_layProducts_191 : decode cX10_layProducts 191 = .ok (.iinc 2 1, 3) := by decide +kernel
theorem dX10_layProducts_194 : decode cX10_layProducts 194 = .ok (.goto (-123), 3) := by decide +kernel
theorem dX10_layProducts_197 : decode cX10_layProducts 197 = .ok (.iinc 1 1, 3) := by decide +kernel
theorem dX10_layProducts_200 : decode cX10_layProducts 200 = .ok (.goto (-137), 3) := by decide +kernel
theorem dX10_layProducts_203 : decode cX10_layProducts 203 = .ok (.return_, 1) := by decide +kernel
theorem dX10_hundreds_0 : decode cX10_hundreds 0 = .ok (.lconst 1, 1) := by decide +kernel
theorem dX10_hundreds_1 : decode cX10_hundreds 1 = .ok (.lstore_n 1, 1) := by decide +kernel
theorem dX10_hundreds_2 : decode cX10_hundreds 2 = .ok (.iconst 0, 1) := by decide +kernel
theorem dX10_hundreds_3 : decode cX10_hundreds 3 = .ok (.istore_n 3, 1) := by decide +kernel
theorem dX10_hundreds_4 : decode cX10_hundreds 4 = .ok (.iload_n 3, 1) := by decide +kernel
theorem dX10_hundreds_5 : decode cX10_hundreds 5 = .ok (.iload_n 0, 1) := by decide +kernel
theorem dX10_hundreds_6 : decode cX10_hundreds 6 = .ok (.if_icmp .ge 15, 3) := by decide +kernel
theorem dX10_hundreds_9 : decode cX10_hundreds 9 = .ok (.lload_n 1, 1) := by decide +kernel
theorem dX10_hundreds_10 : decode cX10_hundreds 10 = .ok (.ldc2_w 340, 3) := by decide +kernel
theorem dX10_hundreds_13 : decode cX10_hundreds 13 = .ok (.lmul, 1) := by decide +kernel
theorem dX10_hundreds_14 : decode cX10_hundreds 14 = .ok (.lstore_n 1, 1) := by decide +kernel
theorem dX10_hundreds_15 : decode cX10_hundreds 15 = .ok (.iinc 3 1, 3) := by decide +kernel
theorem dX10_hundreds_18 : decode cX10_hundreds 18 = .ok (.goto (-14), 3) := by decide +kernel
theorem dX10_hundreds_21 : decode cX10_hundreds 21 = .ok (.lload_n 1, 1) := by decide +kernel
theorem dX10_hundreds_22 : decode cX10_hundreds 22 = .ok (.lreturn, 1) := by decide +kernel
theorem dX10_common_0 : decode cX10_common 0 = .ok (.lload_n 0, 1) := by decide +kernel
theorem dX10_common_1 : decode cX10_common 1 = .ok (.lstore 4, 2) := by decide +kernel
theorem dX10_common_3 : decode cX10_common 3 = .ok (.lload_n 2, 1) := by decide +kernel
theorem dX10_common_4 : decode cX10_common 4 = .ok (.lstore 6, 2) := by decide +kernel
theorem dX10_common_6 : decode cX10_common 6 = .ok (.lload 6, 2) := by decide +kernel
theorem dX10_common_8 : decode cX10_common 8 = .ok (.lconst 0, 1) := by decide +kernel
theorem dX10_common_9 : decode cX10_common 9 = .ok (.lcmp, 1) := by decide +kernel
theorem dX10_common_10 : decode cX10_common 10 = .ok (.ifCond .le 21, 3) := by decide +kernel
theorem dX10_common_13 : decode cX10_common 13 = .ok (.lload 4, 2) := by decide +kernel
theorem dX10_common_15 : decode cX10_common 15 = .ok (.lload 6, 2) := by decide +kernel
theorem dX10_common_17 : decode cX10_common 17 = .ok (.lrem, 1) := by decide +kernel
theorem dX10_common_18 : decode cX10_common 18 = .ok (.lstore 8, 2) := by decide +kernel
theorem dX10_common_20 : decode cX10_common 20 = .ok (.lload 6, 2) := by decide +kernel
theorem dX10_common_22 : decode cX10_common 22 = .ok (.lstore 4, 2) := by decide +kernel
theorem dX10_common_24 : decode cX10_common 24 = .ok (.lload 8, 2) := by decide +kernel
theorem dX10_common_26 : decode cX10_common 26 = .ok (.lstore 6, 2) := by decide +kernel
theorem dX10_common_28 : decode cX10_common 28 = .ok (.goto (-22), 3) := by decide +kernel
theorem dX10_common_31 : decode cX10_common 31 = .ok (.lload 4, 2) := by decide +kernel
theorem dX10_common_33 : decode cX10_common 33 = .ok (.lreturn, 1) := by decide +kernel
theorem dX10_laySafe_0 : decode cX10_laySafe 0 = .ok (.aload_n 0, 1) := by decide +kernel
theorem dX10_laySafe_1 : decode cX10_laySafe 1 = .ok (.getfield 151, 3) := by decide +kernel
theorem dX10_laySafe_4 : decode cX10_laySafe 4 = .ok (.istore_n 2, 1) := by decide +kernel
theorem dX10_laySafe_5 : decode cX10_laySafe 5 = .ok (.aload_n 0, 1) := by decide +kernel
theorem dX10_laySafe_6 : decode cX10_laySafe 6 = .ok (.getfield 66, 3) := by decide +kernel
theorem dX10_laySafe_9 : decode cX10_laySafe 9 = .ok (.iconst 0, 1) := by decide +kernel
theorem dX10_laySafe_10 : decode cX10_laySafe 10 = .ok (.iload_n 2, 1) := by decide +kernel
theorem dX10_laySafe_11 : decode cX10_laySafe 11 = .ok (.iastore, 1) := by decide +kernel
theorem dX10_laySafe_12 : decode cX10_laySafe 12 = .ok (.aload_n 0, 1) := by decide +kernel
theorem dX10_laySafe_13 : decode cX10_laySafe 13 = .ok (.iconst 1, 1) := by decide +kernel
theorem dX10_laySafe_14 : decode cX10_laySafe 14 = .ok (.putfield 308, 3) := by decide +kernel
theorem dX10_laySafe_17 : decode cX10_laySafe 17 = .ok (.iload_n 1, 1) := by decide +kernel
theorem dX10_laySafe_18 : decode cX10_laySafe 18 = .ok (.istore_n 3, 1) := by decide +kernel
theorem dX10_laySafe_19 : decode cX10_laySafe 19 = .ok (.iload_n 3, 1) := by decide +kernel
theorem dX10_laySafe_20 : decode cX10_laySafe 20 = .ok (.ifCond .le 116, 3) := by decide +kernel
theorem dX10_laySafe_23 : decode cX10_laySafe 23 = .ok (.iconst 0, 1) := by decide +kernel
theorem dX10_laySafe_24 : decode cX10_laySafe 24 = .ok (.istore 4, 2) := by decide +kernel
theorem dX10_laySafe_26 : decode cX10_laySafe 26 = .ok (.aload_n 0, 1) := by decide +kernel
theorem dX10_laySafe_27 : decode cX10_laySafe 27 = .ok (.getfield 54, 3) := by decide +kernel
theorem dX10_laySafe_30 : decode cX10_laySafe 30 = .ok (.bipush 12, 2) := by decide +kernel
theorem dX10_laySafe_32 : decode cX10_laySafe 32 = .ok (.iload_n 2, 1) := by decide +kernel
theorem dX10_laySafe_33 : decode cX10_laySafe 33 = .ok (.imul, 1) := by decide +kernel
theorem dX10_laySafe_34 : decode cX10_laySafe 34 = .ok (.iload 4, 2) := by decide +kernel
theorem dX10_laySafe_36 : decode cX10_laySafe 36 = .ok (.iadd, 1) := by decide +kernel
theorem dX10_laySafe_37 : decode cX10_laySafe 37 = .ok (.iaload, 1) := by decide +kernel
theorem dX10_laySafe_38 : decode cX10_laySafe 38 = .ok (.ifCond .eq 63, 3) := by decide +kernel
theorem dX10_laySafe_41 : decode cX10_laySafe 41 = .ok (.iload 4, 2) := by decide +kernel
theorem dX10_laySafe_43 : decode cX10_laySafe 43 = .ok (.aload_n 0, 1) := by decide +kernel
theorem dX10_laySafe_44 : decode cX10_laySafe 44 = .ok (.getfield 154, 3) := by decide +kernel
theorem dX10_laySafe_47 : decode cX10_laySafe 47 = .ok (.if_icmp .eq 54, 3) := by decide +kernel
theorem dX10_laySafe_50 : decode cX10_laySafe 50 = .ok (.iload 4, 2) := by decide +kernel
theorem dX10_laySafe_52 : decode cX10_laySafe 52 = .ok (.aload_n 0, 1) := by decide +kernel
theorem dX10_laySafe_53 : decode cX10_laySafe 53 = .ok (.getfield 151, 3) := by decide +kernel
theorem dX10_laySafe_56 : decode cX10_laySafe 56 = .ok (.if_icmp .eq 45, 3) := by decide +kernel
theorem dX10_laySafe_59 : decode cX10_laySafe 59 = .ok (.ldc2_w 340, 3) := by decide +kernel
theorem dX10_laySafe_62 : decode cX10_laySafe 62 = .ok (.aload_n 0, 1) := by decide +kernel
theorem dX10_laySafe_63 : decode cX10_laySafe 63 = .ok (.getfield 48, 3) := by decide +kernel
theorem dX10_laySafe_66 : decode cX10_laySafe 66 = .ok (.iload 4, 2) := by decide +kernel
theorem dX10_laySafe_68 : decode cX10_laySafe 68 = .ok (.iaload, 1) := by decide +kernel
theorem dX10_laySafe_69 : decode cX10_laySafe 69 = .ok (.i2l, 1) := by decide +kernel
theorem dX10_laySafe_70 : decode cX10_laySafe 70 = .ok (.lsub, 1) := by decide +kernel
theorem dX10_laySafe_71 : decode cX10_laySafe 71 = .ok (.aload_n 0, 1) := by decide +kernel
theorem dX10_laySafe_72 : decode cX10_laySafe 72 = .ok (.getfield 69, 3) := by decide +kernel
theorem dX10_laySafe_75 : decode cX10_laySafe 75 = .ok (.bipush 12, 2) := by decide +kernel
theorem dX10_laySafe_77 : decode cX10_laySafe 77 = .ok (.iload_n 3, 1) := by decide +kernel
theorem dX10_laySafe_78 : decode cX10_laySafe 78 = .ok (.iconst 1, 1) := by decide +kernel
theorem dX10_laySafe_79 : decode cX10_laySafe 79 = .ok (.isub, 1) := by decide +kernel
theorem dX10_laySafe_80 : decode cX10_laySafe 80 = .ok (.imul, 1) := by decide +kernel
theorem dX10_laySafe_81 : decode cX10_laySafe 81 = .ok (.iload 4, 2) := by decide +kernel
theorem dX10_laySafe_83 : decode cX10_laySafe 83 = .ok (.iadd, 1) := by decide +kernel
theorem dX10_laySafe_84 : decode cX10_laySafe 84 = .ok (.laload, 1) := by decide +kernel
theorem dX10_laySafe_85 : decode cX10_laySafe 85 = .ok (.lmul, 1) := by decide +kernel
theorem dX10_laySafe_86 : decode cX10_laySafe 86 = .ok (.aload_n 0, 1) := by decide +kernel
theorem dX10_laySafe_87 : decode cX10_laySafe 87 = .ok (.getfield 69, 3) := by decide +kernel
theorem dX10_laySafe_90 : decode cX10_laySafe 90 = .ok (.bipush 12, 2) := by decide +kernel
theorem dX10_laySafe_92 : decode cX10_laySafe 92 = .ok (.iload_n 3, 1) := by decide +kernel
theorem dX10_laySafe_93 : decode cX10_laySafe 93 = .ok (.imul, 1) := by decide +kernel
theorem dX10_laySafe_94 : decode cX10_laySafe 94 = .ok (.iload_n 2, 1) := by decide +kernel
theorem dX10_laySafe_95 : decode cX10_laySafe 95 = .ok (.iadd, 1) := by decide +kernel
theorem dX10_laySafe_96 : decode cX10_laySafe 96 = .ok (.laload, 1) := by decide +kernel
theorem dX10_laySafe_97 : decode cX10_laySafe 97 = .ok (.lcmp, 1) := by decide +kernel
theorem dX10_laySafe_98 : decode cX10_laySafe 98 = .ok (.ifCond .eq 9, 3) := by decide +kernel
theorem dX10_laySafe_101 : decode cX10_laySafe 101 = .ok (.iinc 4 1, 3) := by decide +kernel
theorem dX10_laySafe_104 : decode cX10_laySafe 104 = .ok (.goto (-78), 3) := by decide +kernel
theorem dX10_laySafe_107 : decode cX10_laySafe 107 = .ok (.iload 4, 2) := by decide +kernel
theorem dX10_laySafe_109 : decode cX10_laySafe 109 = .ok (.istore_n 2, 1) := by decide +kernel
theorem dX10_laySafe_110 : decode cX10_laySafe 110 = .ok (.aload_n 0, 1) := by decide +kernel
theorem dX10_laySafe_111 : decode cX10_laySafe 111 = .ok (.getfield 66, 3) := by decide +kernel
theorem dX10_laySafe_114 : decode cX10_laySafe 114 = .ok (.aload_n 0, 1) := by decide +kernel
theorem dX10_laySafe_115 : decode cX10_laySafe 115 = .ok (.getfield 308, 3) := by decide +kernel
theorem dX10_laySafe_118 : decode cX10_laySafe 118 = .ok (.iload_n 2, 1) := by decide +kernel
theorem dX10_laySafe_119 : decode cX10_laySafe 119 = .ok (.iastore, 1) := by decide +kernel
theorem dX10_laySafe_120 : decode cX10_laySafe 120 = .ok (.aload_n 0, 1) := by decide +kernel
theorem dX10_laySafe_121 : decode cX10_laySafe 121 = .ok (.dup, 1) := by decide +kernel
theorem dX10_laySafe_122 : decode cX10_laySafe 122 = .ok (.getfield 308, 3) := by decide +kernel
theorem dX10_laySafe_125 : decode cX10_laySafe 125 = .ok (.iconst 1, 1) := by decide +kernel
theorem dX10_laySafe_126 : decode cX10_laySafe 126 = .ok (.iadd, 1) := by decide +kernel
theorem dX10_laySafe_127 : decode cX10_laySafe 127 = .ok (.putfield 308, 3) := by decide +kernel
theorem dX10_laySafe_130 : decode cX10_laySafe 130 = .ok (.iinc 3 (-1), 3) := by decide +kernel
theorem dX10_laySafe_133 : decode cX10_laySafe 133 = .ok (.goto (-114), 3) := by decide +kernel
theorem dX10_laySafe_136 : decode cX10_laySafe 136 = .ok (.aload_n 0, 1) := by decide +kernel
theorem dX10_laySafe_137 : decode cX10_laySafe 137 = .ok (.getfield 66, 3) := by decide +kernel
theorem dX10_laySafe_140 : decode cX10_laySafe 140 = .ok (.aload_n 0, 1) := by decide +kernel
theorem dX10_laySafe_141 : decode cX10_laySafe 141 = .ok (.getfield 308, 3) := by decide +kernel
theorem dX10_laySafe_144 : decode cX10_laySafe 144 = .ok (.aload_n 0, 1) := by decide +kernel
theorem dX10_laySafe_145 : decode cX10_laySafe 145 = .ok (.getfield 154, 3) := by decide +kernel
theorem dX10_laySafe_148 : decode cX10_laySafe 148 = .ok (.iastore, 1) := by decide +kernel
theorem dX10_laySafe_149 : decode cX10_laySafe 149 = .ok (.aload_n 0, 1) := by decide +kernel
theorem dX10_laySafe_150 : decode cX10_laySafe 150 = .ok (.dup, 1) := by decide +kernel
theorem dX10_laySafe_151 : decode cX10_laySafe 151 = .ok (.getfield 308, 3) := by decide +kernel
theorem dX10_laySafe_154 : decode cX10_laySafe 154 = .ok (.iconst 1, 1) := by decide +kernel
theorem dX10_laySafe_155 : decode cX10_laySafe 155 = .ok (.iadd, 1) := by decide +kernel
theorem dX10_laySafe_156 : decode cX10_laySafe 156 = .ok (.putfield 308, 3) := by decide +kernel
theorem dX10_laySafe_159 : decode cX10_laySafe 159 = .ok (.return_, 1) := by decide +kernel
theorem dX10_safe_0 : decode cX10_safe 0 = .ok (.aload_n 0, 1) := by decide +kernel
theorem dX10_safe_1 : decode cX10_safe 1 = .ok (.iconst 0, 1) := by decide +kernel
theorem dX10_safe_2 : decode cX10_safe 2 = .ok (.putfield 308, 3) := by decide +kernel
theorem dX10_safe_5 : decode cX10_safe 5 = .ok (.iload_n 1, 1) := by decide +kernel
theorem dX10_safe_6 : decode cX10_safe 6 = .ok (.ifCond .lt 22, 3) := by decide +kernel
theorem dX10_safe_9 : decode cX10_safe 9 = .ok (.iload_n 1, 1) := by decide +kernel
theorem dX10_safe_10 : decode cX10_safe 10 = .ok (.iconst 1, 1) := by decide +kernel
theorem dX10_safe_11 : decode cX10_safe 11 = .ok (.if_icmp .gt 17, 3) := by decide +kernel
theorem dX10_safe_14 : decode cX10_safe 14 = .ok (.aload_n 0, 1) := by decide +kernel
theorem dX10_safe_15 : decode cX10_safe 15 = .ok (.getfield 151, 3) := by decide +kernel
theorem dX10_safe_18 : decode cX10_safe 18 = .ok (.ifCond .lt 10, 3) := by decide +kernel
theorem dX10_safe_21 : decode cX10_safe 21 = .ok (.aload_n 0, 1) := by decide +kernel
theorem dX10_safe_22 : decode cX10_safe 22 = .ok (.getfield 154, 3) := by decide +kernel
theorem dX10_safe_25 : decode cX10_safe 25 = .ok (.ifCond .ge 7, 3) := by decide +kernel
theorem dX10_safe_28 : decode cX10_safe 28 = .ok (.ldc2_w 342, 3) := by decide +kernel
theorem dX10_safe_31 : decode cX10_safe 31 = .ok (.lreturn, 1) := by decide +kernel
theorem dX10_safe_32 : decode cX10_safe 32 = .ok (.aload_n 0, 1) := by decide +kernel
theorem dX10_safe_33 : decode cX10_safe 33 = .ok (.getfield 151, 3) := by decide +kernel
theorem dX10_safe_36 : decode cX10_safe 36 = .ok (.aload_n 0, 1) := by decide +kernel
theorem dX10_safe_37 : decode cX10_safe 37 = .ok (.getfield 154, 3) := by decide +kernel
theorem dX10_safe_40 : decode cX10_safe 40 = .ok (.if_icmp .ne 20, 3) := by decide +kernel
theorem dX10_safe_43 : decode cX10_safe 43 = .ok (.aload_n 0, 1) := by decide +kernel
theorem dX10_safe_44 : decode cX10_safe 44 = .ok (.getfield 66, 3) := by decide +kernel
theorem dX10_safe_47 : decode cX10_safe 47 = .ok (.iconst 0, 1) := by decide +kernel
theorem dX10_safe_48 : decode cX10_safe 48 = .ok (.aload_n 0, 1) := by decide +kernel
theorem dX10_safe_49 : decode cX10_safe 49 = .ok (.getfield 151, 3) := by decide +kernel
theorem dX10_safe_52 : decode cX10_safe 52 = .ok (.iastore, 1) := by decide +kernel
theorem dX10_safe_53 : decode cX10_safe 53 = .ok (.aload_n 0, 1) := by decide +kernel
theorem dX10_safe_54 : decode cX10_safe 54 = .ok (.iconst 1, 1) := by decide +kernel
theorem dX10_safe_55 : decode cX10_safe 55 = .ok (.putfield 308, 3) := by decide +kernel
theorem dX10_safe_58 : decode cX10_safe 58 = .ok (.lconst 1, 1) := by decide +kernel
theorem dX10_safe_59 : decode cX10_safe 59 = .ok (.lreturn, 1) := by decide +kernel
theorem dX10_safe_60 : decode cX10_safe 60 = .ok (.aload_n 0, 1) := by decide +kernel
theorem dX10_safe_61 : decode cX10_safe 61 = .ok (.invokevirtual 344, 3) := by decide +kernel
theorem dX10_safe_64 : decode cX10_safe 64 = .ok (.iconst (-1), 1) := by decide +kernel
theorem dX10_safe_65 : decode cX10_safe 65 = .ok (.istore_n 2, 1) := by decide +kernel
theorem dX10_safe_66 : decode cX10_safe 66 = .ok (.lconst 0, 1) := by decide +kernel
theorem dX10_safe_67 : decode cX10_safe 67 = .ok (.lstore_n 3, 1) := by decide +kernel
theorem dX10_safe_68 : decode cX10_safe 68 = .ok (.iconst 0, 1) := by decide +kernel
theorem dX10_safe_69 : decode cX10_safe 69 = .ok (.istore 5, 2) := by decide +kernel
theorem dX10_safe_71 : decode cX10_safe 71 = .ok (.iload 5, 2) := by decide +kernel
theorem dX10_safe_73 : decode cX10_safe 73 = .ok (.bipush 9, 2) := by decide +kernel
theorem dX10_safe_75 : decode cX10_safe 75 = .ok (.if_icmp .gt 51, 3) := by decide +kernel
theorem dX10_safe_78 : decode cX10_safe 78 = .ok (.aload_n 0, 1) := by decide +kernel
theorem dX10_safe_79 : decode cX10_safe 79 = .ok (.getfield 69, 3) := by decide +kernel
theorem dX10_safe_82 : decode cX10_safe 82 = .ok (.bipush 12, 2) := by decide +kernel
theorem dX10_safe_84 : decode cX10_safe 84 = .ok (.iload 5, 2) := by decide +kernel
theorem dX10_safe_86 : decode cX10_safe 86 = .ok (.imul, 1) := by decide +kernel
theorem dX10_safe_87 : decode cX10_safe 87 = .ok (.aload_n 0, 1) := by decide +kernel
theorem dX10_safe_88 : decode cX10_safe 88 = .ok (.getfield 151, 3) := by decide +kernel
theorem dX10_safe_91 : decode cX10_safe 91 = .ok (.iadd, 1) := by decide +kernel
theorem dX10_safe_92 : decode cX10_safe 92 = .ok (.laload, 1) := by decide +kernel
theorem dX10_safe_93 : decode cX10_safe 93 = .ok (.bipush 9, 2) := by decide +kernel
theorem dX10_safe_95 : decode cX10_safe 95 = .ok (.iload 5, 2) := by decide +kernel
theorem dX10_safe_97 : decode cX10_safe 97 = .ok (.isub, 1) := by decide +kernel
theorem dX10_safe_98 : decode cX10_safe 98 = .ok (.invokestatic 347, 3) := by decide +kernel
theorem dX10_safe_101 : decode cX10_safe 101 = .ok (.lmul, 1) := by decide +kernel
theorem dX10_safe_102 : decode cX10_safe 102 = .ok (.lstore 6, 2) := by decide +kernel
theorem dX10_safe_104 : decode cX10_safe 104 = .ok (.lload 6, 2) := by decide +kernel
theorem dX10_safe_106 : decode cX10_safe 106 = .ok (.lload_n 3, 1) := by decide +kernel
theorem dX10_safe_107 : decode cX10_safe 107 = .ok (.lcmp, 1) := by decide +kernel
theorem dX10_safe_108 : decode cX10_safe 108 = .ok (.ifCond .gt 6, 3) := by decide +kernel
theorem dX10_safe_111 : decode cX10_safe 111 = .ok (.goto 9, 3) := by decide +kernel
theorem dX10_safe_114 : decode cX10_safe 114 = .ok (.iload 5, 2) := by decide +kernel
theorem dX10_safe_116 : decode cX10_safe 116 = .ok (.istore_n 2, 1) := by decide +kernel
theorem dX10_safe_117 : decode cX10_safe 117 = .ok (.lload 6, 2) := by decide +kernel
theorem dX10_safe_119 : decode cX10_safe 119 = .ok (.lstore_n 3, 1) := by decide +kernel
theorem dX10_safe_120 : decode cX10_safe 120 = .ok (.iinc 5 1, 3) := by decide +kernel
theorem dX10_safe_123 : decode cX10_safe 123 = .ok (.goto (-52), 3) := by decide +kernel
theorem dX10_safe_126 : decode cX10_safe 126 = .ok (.iload_n 2, 1) := by decide +kernel
theorem dX10_safe_127 : decode cX10_safe 127 = .ok (.ifCond .ge 7, 3) := by decide +kernel
theorem dX10_safe_130 : decode cX10_safe 130 = .ok (.ldc2_w 342, 3) := by decide +kernel
theorem dX10_safe_133 : decode cX10_safe 133 = .ok (.lreturn, 1) := by decide +kernel
theorem dX10_safe_134 : decode cX10_safe 134 = .ok (.aload_n 0, 1) := by decide +kernel
theorem dX10_safe_135 : decode cX10_safe 135 = .ok (.iload_n 2, 1) := by decide +kernel
theorem dX10_safe_136 : decode cX10_safe 136 = .ok (.invokevirtual 351, 3) := by decide +kernel
theorem dX10_safe_139 : decode cX10_safe 139 = .ok (.iload_n 2, 1) := by decide +kernel
theorem dX10_safe_140 : decode cX10_safe 140 = .ok (.invokestatic 347, 3) := by decide +kernel
theorem dX10_safe_143 : decode cX10_safe 143 = .ok (.aload_n 0, 1) := by decide +kernel
theorem dX10_safe_144 : decode cX10_safe 144 = .ok (.getfield 69, 3) := by decide +kernel
theorem dX10_safe_147 : decode cX10_safe 147 = .ok (.bipush 12, 2) := by decide +kernel
theorem dX10_safe_149 : decode cX10_safe 149 = .ok (.iload_n 2, 1) := by decide +kernel
theorem dX10_safe_150 : decode cX10_safe 150 = .ok (.imul, 1) := by decide +kernel
theorem dX10_safe_151 : decode cX10_safe 151 = .ok (.aload_n 0, 1) := by decide +kernel
theorem dX10_safe_152 : decode cX10_safe 152 = .ok (.getfield 151, 3) := by decide +kernel
theorem dX10_safe_155 : decode cX10_safe 155 = .ok (.iadd, 1) := by decide +kernel
theorem dX10_safe_156 : decode cX10_safe 156 = .ok (.laload, 1) := by decide +kernel
theorem dX10_safe_157 : decode cX10_safe 157 = .ok (.invokestatic 354, 3) := by decide +kernel
theorem dX10_safe_160 : decode cX10_safe 160 = .ok (.lstore 5, 2) := by decide +kernel
theorem dX10_safe_162 : decode cX10_safe 162 = .ok (.iload_n 1, 1) := by decide +kernel
theorem dX10_safe_163 : decode cX10_safe 163 = .ok (.ifCond .ne 23, 3) := by decide +kernel
theorem dX10_safe_166 : decode cX10_safe 166 = .ok (.aload_n 0, 1) := by decide +kernel
theorem dX10_safe_167 : decode cX10_safe 167 = .ok (.getfield 69, 3) := by decide +kernel
theorem dX10_safe_170 : decode cX10_safe 170 = .ok (.bipush 12, 2) := by decide +kernel
theorem dX10_safe_172 : decode cX10_safe 172 = .ok (.iload_n 2, 1) := by decide +kernel
theorem dX10_safe_173 : decode cX10_safe 173 = .ok (.imul, 1) := by decide +kernel
theorem dX10_safe_174 : decode cX10_safe 174 = .ok (.aload_n 0, 1) := by decide +kernel
theorem dX10_safe_175 : decode cX10_safe 175 = .ok (.getfield 151, 3) := by decide +kernel
theorem dX10_safe_178 : decode cX10_safe 178 = .ok (.iadd, 1) := by decide +kernel
theorem dX10_safe_179 : decode cX10_safe 179 = .ok (.laload, 1) := by decide +kernel
theorem dX10_safe_180 : decode cX10_safe 180 = .ok (.lload 5, 2) := by decide +kernel
theorem dX10_safe_182 : decode cX10_safe 182 = .ok (.ldiv, 1) := by decide +kernel
theorem dX10_safe_183 : decode cX10_safe 183 = .ok (.goto 10, 3) := by decide +kernel
theorem dX10_safe_186 : decode cX10_safe 186 = .ok (.iload_n 2, 1) := by decide +kernel
theorem dX10_safe_187 : decode cX10_safe 187 = .ok (.invokestatic 347, 3) := by decide +kernel
theorem dX10_safe_190 : decode cX10_safe 190 = .ok (.lload 5, 2) := by decide +kernel
theorem dX10_safe_192 : decode cX10_safe 192 = .ok (.ldiv, 1) := by decide +kernel
theorem dX10_safe_193 : decode cX10_safe 193 = .ok (.lreturn, 1) := by decide +kernel
theorem dX10_layFlow_0 : decode cX10_layFlow 0 = .ok (.iconst 0, 1) := by decide +kernel
theorem dX10_layFlow_1 : decode cX10_layFlow 1 = .ok (.istore_n 1, 1) := by decide +kernel
theorem dX10_layFlow_2 : decode cX10_layFlow 2 = .ok (.iload_n 1, 1) := by decide +kernel
theorem dX10_layFlow_3 : decode cX10_layFlow 3 = .ok (.sipush 576, 3) := by decide +kernel
theorem dX10_layFlow_6 : decode cX10_layFlow 6 = .ok (.if_icmp .ge 16, 3) := by decide +kernel
theorem dX10_layFlow_9 : decode cX10_layFlow 9 = .ok (.aload_n 0, 1) := by decide +kernel
theorem dX10_layFlow_10 : decode cX10_layFlow 10 = .ok (.getfield 72, 3) := by decide +kernel
theorem dX10_layFlow_13 : decode cX10_layFlow 13 = .ok (.iload_n 1, 1) := by decide +kernel
theorem dX10_layFlow_14 : decode cX10_layFlow 14 = .ok (.iconst 0, 1) := by decide +kernel
theorem dX10_layFlow_15 : decode cX10_layFlow 15 = .ok (.iastore, 1) := by decide +kernel
theorem dX10_layFlow_16 : decode cX10_layFlow 16 = .ok (.iinc 1 1, 3) := by decide +kernel
theorem dX10_layFlow_19 : decode cX10_layFlow 19 = .ok (.goto (-17), 3) := by decide +kernel
theorem dX10_layFlow_22 : decode cX10_layFlow 22 = .ok (.iconst 0, 1) := by decide +kernel
theorem dX10_layFlow_23 : decode cX10_layFlow 23 = .ok (.istore_n 1, 1) := by decide +kernel
theorem dX10_layFlow_24 : decode cX10_layFlow 24 = .ok (.iload_n 1, 1) := by decide +kernel
theorem dX10_layFlow_25 : decode cX10_layFlow 25 = .ok (.aload_n 0, 1) := by decide +kernel
theorem dX10_layFlow_26 : decode cX10_layFlow 26 = .ok (.getfield 289, 3) := by decide +kernel
theorem dX10_layFlow_29 : decode cX10_layFlow 29 = .ok (.if_icmp .ge 96, 3) := by decide +kernel
theorem dX10_layFlow_32 : decode cX10_layFlow 32 = .ok (.aload_n 0, 1) := by decide +kernel
theorem dX10_layFlow_33 : decode cX10_layFlow 33 = .ok (.getfield 72, 3) := by decide +kernel
theorem dX10_layFlow_36 : decode cX10_layFlow 36 = .ok (.bipush 24, 2) := by decide +kernel
theorem dX10_layFlow_38 : decode cX10_layFlow 38 = .ok (.iconst 2, 1) := by decide +kernel
theorem dX10_layFlow_39 : decode cX10_layFlow 39 = .ok (.iload_n 1, 1) := by decide +kernel
theorem dX10_layFlow_40 : decode cX10_layFlow 40 = .ok (.imul, 1) := by decide +kernel
theorem dX10_layFlow_41 : decode cX10_layFlow 41 = .ok (.imul, 1) := by decide +kernel
theorem dX10_layFlow_42 : decode cX10_layFlow 42 = .ok (.iconst 2, 1) := by decide +kernel
theorem dX10_layFlow_43 : decode cX10_layFlow 43 = .ok (.iload_n 1, 1) := by decide +kernel
theorem dX10_layFlow_44 : decode cX10_layFlow 44 = .ok (.imul, 1) := by decide +kernel
theorem dX10_layFlow_45 : decode cX10_layFlow 45 = .ok (.iadd, 1) := by decide +kernel
theorem dX10_layFlow_46 : decode cX10_layFlow 46 = .ok (.iconst 1, 1) := by decide +kernel
theorem dX10_layFlow_47 : decode cX10_layFlow 47 = .ok (.iadd, 1) := by decide +kernel
theorem dX10_layFlow_48 : decode cX10_layFlow 48 = .ok (.iload_n 1, 1) := by decide +kernel
theorem dX10_layFlow_49 : decode cX10_layFlow 49 = .ok (.aload_n 0, 1) := by decide +kernel
theorem dX10_layFlow_50 : decode cX10_layFlow 50 = .ok (.getfield 151, 3) := by decide +kernel
theorem dX10_layFlow_53 : decode cX10_layFlow 53 = .ok (.if_icmp .eq 11, 3) := by decide +kernel
theorem dX10_layFlow_56 : decode cX10_layFlow 56 = .ok (.iload_n 1, 1) := by decide +kernel
theorem dX10_layFlow_57 : decode cX10_layFlow 57 = .ok (.aload_n 0, 1) := by decide +kernel
theorem dX10_layFlow_58 : decode cX10_layFlow 58 = .ok (.getfield 154, 3) := by decide +kernel
theorem dX10_layFlow_61 : decode cX10_layFlow 61 = .ok (.if_icmp .ne 8, 3) := by decide +kernel
theorem dX10_layFlow_64 : decode cX10_layFlow 64 = .ok (.bipush 12, 2) := by decide +kernel
theorem dX10_layFlow_66 : decode cX10_layFlow 66 = .ok (.goto 4, 3) := by decide +kernel
theorem dX10_layFlow_69 : decode cX10_layFlow 69 = .ok (.iconst 1, 1) := by decide +kernel
theorem dX10_layFlow_70 : decode cX10_layFlow 70 = .ok (.iastore, 1) := by decide +kernel
theorem dX10_layFlow_71 : decode cX10_layFlow 71 = .ok (.iconst 0, 1) := by decide +kernel
theorem dX10_layFlow_72 : decode cX10_layFlow 72 = .ok (.istore_n 2, 1) := by decide +kernel
theorem dX10_layFlow_73 : decode cX10_layFlow 73 = .ok (.iload_n 2, 1) := by decide +kernel
theorem dX10_layFlow_74 : decode cX10_layFlow 74 = .ok (.aload_n 0, 1) := by decide +kernel
theorem dX10_layFlow_75 : decode cX10_layFlow 75 = .ok (.getfield 289, 3) := by decide +kernel
theorem dX10_layFlow_78 : decode cX10_layFlow 78 = .ok (.if_icmp .ge 41, 3) := by decide +kernel
theorem dX10_layFlow_81 : decode cX10_layFlow 81 = .ok (.aload_n 0, 1) := by decide +kernel
theorem dX10_layFlow_82 : decode cX10_layFlow 82 = .ok (.getfield 54, 3) := by decide +kernel
theorem dX10_layFlow_85 : decode cX10_layFlow 85 = .ok (.bipush 12, 2) := by decide +kernel
theorem dX10_layFlow_87 : decode cX10_layFlow 87 = .ok (.iload_n 1, 1) := by decide +kernel
theorem dX10_layFlow_88 : decode cX10_layFlow 88 = .ok (.imul, 1) := by decide +kernel
theorem dX10_layFlow_89 : decode cX10_layFlow 89 = .ok (.iload_n 2, 1) := by decide +kernel
theorem dX10_layFlow_90 : decode cX10_layFlow 90 = .ok (.iadd, 1) := by decide +kernel
theorem dX10_layFlow_91 : decode cX10_layFlow 91 = .ok (.iaload, 1) := by decide +kernel
theorem dX10_layFlow_92 : decode cX10_layFlow 92 = .ok (.ifCond .le 21, 3) := by decide +kernel
theorem dX10_layFlow_95 : decode cX10_layFlow 95 = .ok (.aload_n 0, 1) := by decide +kernel
theorem dX10_layFlow_96 : decode cX10_layFlow 96 = .ok (.getfield 72, 3) := by decide +kernel
theorem dX10_layFlow_99 : decode cX10_layFlow 99 = .ok (.bipush 24, 2) := by decide +kernel
theorem dX10_layFlow_101 : decode cX10_layFlow 101 = .ok (.iconst 2, 1) := by decide +kernel
theorem dX10_layFlow_102 : decode cX10_layFlow 102 = .ok (.iload_n 1, 1) := by decide +kernel
theorem dX10_layFlow_103 : decode cX10_layFlow 103 = .ok (.imul, 1) := by decide +kernel
theorem dX10_layFlow_104 : decode cX10_layFlow 104 = .ok (.iconst 1, 1) := by decide +kernel
theorem dX10_layFlow_105 : decode cX10_layFlow 105 = .ok (.iadd, 1) := by decide +kernel
theorem dX10_layFlow_106 : decode cX10_layFlow 106 = .ok (.imul, 1) := by decide +kernel
theorem dX10_layFlow_107 : decode cX10_layFlow 107 = .ok (.iconst 2, 1) := by decide +kernel
theorem dX10_layFlow_108 : decode cX10_layFlow 108 = .ok (.iload_n 2, 1) := by decide +kernel
theorem dX10_layFlow_109 : decode cX10_layFlow 109 = .ok (.imul, 1) := by decide +kernel
theorem dX10_layFlow_110 : decode cX10_layFlow 110 = .ok (.iadd, 1) := by decide +kernel
theorem dX10_layFlow_111 : decode cX10_layFlow 111 = .ok (.iconst 1, 1) := by decide +kernel
theorem dX10_layFlow_112 : decode cX10_layFlow 112 = .ok (.iastore, 1) := by decide +kernel
theorem dX10_layFlow_113 : decode cX10_layFlow 113 = .ok (.iinc 2 1, 3) := by decide +kernel
theorem dX10_layFlow_116 : decode cX10_layFlow 116 = .ok (.goto (-43), 3) := by decide +kernel
theorem dX10_layFlow_119 : decode cX10_layFlow 119 = .ok (.iinc 1 1, 3) := by decide +kernel
theorem dX10_layFlow_122 : decode cX10_layFlow 122 = .ok (.goto (-98), 3) := by decide +kernel
theorem dX10_layFlow_125 : decode cX10_layFlow 125 = .ok (.return_, 1) := by decide +kernel
theorem dX10_oneMore_0 : decode cX10_oneMore 0 = .ok (.iconst 0, 1) := by decide +kernel
theorem dX10_oneMore_1 : decode cX10_oneMore 1 = .ok (.istore_n 1, 1) := by decide +kernel
theorem dX10_oneMore_2 : decode cX10_oneMore 2 = .ok (.iload_n 1, 1) := by decide +kernel
theorem dX10_oneMore_3 : decode cX10_oneMore 3 = .ok (.bipush 24, 2) := by decide +kernel
theorem dX10_oneMore_5 : decode cX10_oneMore 5 = .ok (.if_icmp .ge 16, 3) := by decide +kernel
theorem dX10_oneMore_8 : decode cX10_oneMore 8 = .ok (.aload_n 0, 1) := by decide +kernel
theorem dX10_oneMore_9 : decode cX10_oneMore 9 = .ok (.getfield 75, 3) := by decide +kernel
theorem dX10_oneMore_12 : decode cX10_oneMore 12 = .ok (.iload_n 1, 1) := by decide +kernel
theorem dX10_oneMore_13 : decode cX10_oneMore 13 = .ok (.iconst (-1), 1) := by decide +kernel
theorem dX10_oneMore_14 : decode cX10_oneMore 14 = .ok (.iastore, 1) := by decide +kernel
theorem dX10_oneMore_15 : decode cX10_oneMore 15 = .ok (.iinc 1 1, 3) := by decide +kernel
theorem dX10_oneMore_18 : decode cX10_oneMore 18 = .ok (.goto (-16), 3) := by decide +kernel
theorem dX10_oneMore_21 : decode cX10_oneMore 21 = .ok (.iconst 2, 1) := by decide +kernel
theorem dX10_oneMore_22 : decode cX10_oneMore 22 = .ok (.aload_n 0, 1) := by decide +kernel
theorem dX10_oneMore_23 : decode cX10_oneMore 23 = .ok (.getfield 151, 3) := by decide +kernel
theorem dX10_oneMore_26 : decode cX10_oneMore 26 = .ok (.imul, 1) := by decide +kernel
theorem dX10_oneMore_27 : decode cX10_oneMore 27 = .ok (.iconst 1, 1) := by decide +kernel
theorem dX10_oneMore_28 : decode cX10_oneMore 28 = .ok (.iadd, 1) := by decide +kernel
theorem dX10_oneMore_29 : decode cX10_oneMore 29 = .ok (.istore_n 1, 1) := by decide +kernel
theorem dX10_oneMore_30 : decode cX10_oneMore 30 = .ok (.iconst 2, 1) := by decide +kernel
theorem dX10_oneMore_31 : decode cX10_oneMore 31 = .ok (.aload_n 0, 1) := by decide +kernel
theorem dX10_oneMore_32 : decode cX10_oneMore 32 = .ok (.getfield 154, 3) := by decide +kernel
theorem dX10_oneMore_35 : decode cX10_oneMore 35 = .ok (.imul, 1) := by decide +kernel
theorem dX10_oneMore_36 : decode cX10_oneMore 36 = .ok (.istore_n 2, 1) := by decide +kernel
theorem dX10_oneMore_37 : decode cX10_oneMore 37 = .ok (.iconst 0, 1) := by decide +kernel
theorem dX10_oneMore_38 : decode cX10_oneMore 38 = .ok (.istore_n 3, 1) := by decide +kernel
theorem dX10_oneMore_39 : decode cX10_oneMore 39 = .ok (.iconst 1, 1) := by decide +kernel
theorem dX10_oneMore_40 : decode cX10_oneMore 40 = .ok (.istore 4, 2) := by decide +kernel
theorem dX10_oneMore_42 : decode cX10_oneMore 42 = .ok (.aload_n 0, 1) := by decide +kernel
theorem dX10_oneMore_43 : decode cX10_oneMore 43 = .ok (.getfield 78, 3) := by decide +kernel
theorem dX10_oneMore_46 : decode cX10_oneMore 46 = .ok (.iconst 0, 1) := by decide +kernel
theorem dX10_oneMore_47 : decode cX10_oneMore 47 = .ok (.iload_n 1, 1) := by decide +kernel
theorem dX10_oneMore_48 : decode cX10_oneMore 48 = .ok (.iastore, 1) := by decide +kernel
theorem dX10_oneMore_49 : decode cX10_oneMore 49 = .ok (.aload_n 0, 1) := by decide +kernel
theorem dX10_oneMore_50 : decode cX10_oneMore 50 = .ok (.getfield 75, 3) := by decide +kernel
theorem dX10_oneMore_53 : decode cX10_oneMore 53 = .ok (.iload_n 1, 1) := by decide +kernel
theorem dX10_oneMore_54 : decode cX10_oneMore 54 = .ok (.iload_n 1, 1) := by decide +kernel
theorem dX10_oneMore_55 : decode cX10_oneMore 55 = .ok (.iastore, 1) := by decide +kernel
theorem dX10_oneMore_56 : decode cX10_oneMore 56 = .ok (.iload_n 3, 1) := by decide +kernel
theorem dX10_oneMore_57 : decode cX10_oneMore 57 = .ok (.iload 4, 2) := by decide +kernel
theorem dX10_oneMore_59 : decode cX10_oneMore 59 = .ok (.if_icmp .ge 96, 3) := by decide +kernel
theorem dX10_oneMore_62 : decode cX10_oneMore 62 = .ok (.aload_n 0, 1) := by decide +kernel
theorem dX10_oneMore_63 : decode cX10_oneMore 63 = .ok (.getfield 75, 3) := by decide +kernel
theorem dX10_oneMore_66 : decode cX10_oneMore 66 = .ok (.iload_n 2, 1) := by decide +kernel
theorem dX10_oneMore_67 : decode cX10_oneMore 67 = .ok (.iaload, 1) := by decide +kernel
theorem dX10_oneMore_68 : decode cX10_oneMore 68 = .ok (.ifCond .ge 87, 3) := by decide +kernel
theorem dX10_oneMore_71 : decode cX10_oneMore 71 = .ok (.aload_n 0, 1) := by decide +kernel
theorem dX10_oneMore_72 : decode cX10_oneMore 72 = .ok (.getfield 78, 3) := by decide +kernel
theorem dX10_oneMore_75 : decode cX10_oneMore 75 = .ok (.iload_n 3, 1) := by decide +kernel
theorem dX10_oneMore_76 : decode cX10_oneMore 76 = .ok (.iaload, 1) := by decide +kernel
theorem dX10_oneMore_77 : decode cX10_oneMore 77 = .ok (.istore 5, 2) := by decide +kernel
theorem dX10_oneMore_79 : decode cX10_oneMore 79 = .ok (.iinc 3 1, 3) := by decide +kernel
theorem dX10_oneMore_82 : decode cX10_oneMore 82 = .ok (.iconst 0, 1) := by decide +kernel
theorem dX10_oneMore_83 : decode cX10_oneMore 83 = .ok (.istore 6, 2) := by decide +kernel
theorem dX10_oneMore_85 : decode cX10_oneMore 85 = .ok (.iload 6, 2) := by decide +kernel
theorem dX10_oneMore_87 : decode cX10_oneMore 87 = .ok (.iconst 2, 1) := by decide +kernel
theorem dX10_oneMore_88 : decode cX10_oneMore 88 = .ok (.aload_n 0, 1) := by decide +kernel
theorem dX10_oneMore_89 : decode cX10_oneMore 89 = .ok (.getfield 289, 3) := by decide +kernel
theorem dX10_oneMore_92 : decode cX10_oneMore 92 = .ok (.imul, 1) := by decide +kernel
theorem dX10_oneMore_93 : decode cX10_oneMore 93 = .ok (.if_icmp .ge 59, 3) := by decide +kernel
theorem dX10_oneMore_96 : decode cX10_oneMore 96 = .ok (.aload_n 0, 1) := by decide +kernel
theorem dX10_oneMore_97 : decode cX10_oneMore 97 = .ok (.getfield 72, 3) := by decide +kernel
theorem dX10_oneMore_100 : decode cX10_oneMore 100 = .ok (.bipush 24, 2) := by decide +kernel
theorem dX10_oneMore_102 : decode cX10_oneMore 102 = .ok (.iload 5, 2) := by decide +kernel
theorem dX10_oneMore_104 : decode cX10_oneMore 104 = .ok (.imul, 1) := by decide +kernel
theorem dX10_oneMore_105 : decode cX10_oneMore 105 = .ok (.iload 6, 2) := by decide +kernel
theorem dX10_oneMore_107 : decode cX10_oneMore 107 = .ok (.iadd, 1) := by decide +kernel
theorem dX10_oneMore_108 : decode cX10_oneMore 108 = .ok (.iaload, 1) := by decide +kernel
theorem dX10_oneMore_109 : decode cX10_oneMore 109 = .ok (.ifCond .eq 37, 3) := by decide +kernel
theorem dX10_oneMore_112 : decode cX10_oneMore 112 = .ok (.aload_n 0, 1) := by decide +kernel
theorem dX10_oneMore_113 : decode cX10_oneMore 113 = .ok (.getfield 75, 3) := by decide +kernel
theorem dX10_oneMore_116 : decode cX10_oneMore 116 = .ok (.iload 6, 2) := by decide +kernel
theorem dX10_oneMore_118 : decode cX10_oneMore 118 = .ok (.iaload, 1) := by decide +kernel
theorem dX10_oneMore_119 : decode cX10_oneMore 119 = .ok (.ifCond .lt 6, 3) := by decide +kernel
theorem dX10_oneMore_122 : decode cX10_oneMore 122 = .ok (.goto 24, 3) := by decide +kernel
theorem dX10_oneMore_125 : decode cX10_oneMore 125 = .ok (.aload_n 0, 1) := by decide +kernel
theorem dX10_oneMore_126 : decode cX10_oneMore 126 = .ok (.getfield 75, 3) := by decide +kernel
theorem dX10_oneMore_129 : decode cX10_oneMore 129 = .ok (.iload 6, 2) := by decide +kernel
theorem dX10_oneMore_131 : decode cX10_oneMore 131 = .ok (.iload 5, 2) := by decide +kernel
theorem dX10_oneMore_133 : decode cX10_oneMore 133 = .ok (.iastore, 1) := by decide +kernel
theorem dX10_oneMore_134 : decode cX10_oneMore 134 = .ok (.aload_n 0, 1) := by decide +kernel
theorem dX10_oneMore_135 : decode cX10_oneMore 135 = .ok (.getfield 78, 3) := by decide +kernel
