theorem dX0_init_0 : decode cX0_init 0 = .ok (.aload_n 0, 1) := by decide +kernel
theorem dX0_init_1 : decode cX0_init 1 = .ok (.invokespecial 3, 3) := by decide +kernel
theorem dX0_init_4 : decode cX0_init 4 = .ok (.aload_n 0, 1) := by decide +kernel
theorem dX0_init_5 : decode cX0_init 5 = .ok (.iconst (-1), 1) := by decide +kernel
theorem dX0_init_6 : decode cX0_init 6 = .ok (.putfield 9, 3) := by decide +kernel
theorem dX0_init_9 : decode cX0_init 9 = .ok (.aload_n 0, 1) := by decide +kernel
theorem dX0_init_10 : decode cX0_init 10 = .ok (.iconst (-1), 1) := by decide +kernel
theorem dX0_init_11 : decode cX0_init 11 = .ok (.putfield 15, 3) := by decide +kernel
theorem dX0_init_14 : decode cX0_init 14 = .ok (.aload_n 0, 1) := by decide +kernel
theorem dX0_init_15 : decode cX0_init 15 = .ok (.bipush 12, 2) := by decide +kernel
theorem dX0_init_17 : decode cX0_init 17 = .ok (.newarray .long, 2) := by decide +kernel
theorem dX0_init_19 : decode cX0_init 19 = .ok (.putfield 18, 3) := by decide +kernel
theorem dX0_init_22 : decode cX0_init 22 = .ok (.aload_n 0, 1) := by decide +kernel
theorem dX0_init_23 : decode cX0_init 23 = .ok (.bipush 12, 2) := by decide +kernel
theorem dX0_init_25 : decode cX0_init 25 = .ok (.newarray .int, 2) := by decide +kernel
theorem dX0_init_27 : decode cX0_init 27 = .ok (.putfield 22, 3) := by decide +kernel
theorem dX0_init_30 : decode cX0_init 30 = .ok (.aload_n 0, 1) := by decide +kernel
theorem dX0_init_31 : decode cX0_init 31 = .ok (.bipush 12, 2) := by decide +kernel
theorem dX0_init_33 : decode cX0_init 33 = .ok (.newarray .int, 2) := by decide +kernel
theorem dX0_init_35 : decode cX0_init 35 = .ok (.putfield 26, 3) := by decide +kernel
theorem dX0_init_38 : decode cX0_init 38 = .ok (.aload_n 0, 1) := by decide +kernel
theorem dX0_init_39 : decode cX0_init 39 = .ok (.bipush 12, 2) := by decide +kernel
theorem dX0_init_41 : decode cX0_init 41 = .ok (.newarray .int, 2) := by decide +kernel
theorem dX0_init_43 : decode cX0_init 43 = .ok (.putfield 29, 3) := by decide +kernel
theorem dX0_init_46 : decode cX0_init 46 = .ok (.aload_n 0, 1) := by decide +kernel
theorem dX0_init_47 : decode cX0_init 47 = .ok (.bipush 12, 2) := by decide +kernel
theorem dX0_init_49 : decode cX0_init 49 = .ok (.newarray .int, 2) := by decide +kernel
theorem dX0_init_51 : decode cX0_init 51 = .ok (.putfield 32, 3) := by decide +kernel
theorem dX0_init_54 : decode cX0_init 54 = .ok (.aload_n 0, 1) := by decide +kernel
theorem dX0_init_55 : decode cX0_init 55 = .ok (.bipush 12, 2) := by decide +kernel
theorem dX0_init_57 : decode cX0_init 57 = .ok (.newarray .int, 2) := by decide +kernel
theorem dX0_init_59 : decode cX0_init 59 = .ok (.putfield 35, 3) := by decide +kernel
theorem dX0_init_62 : decode cX0_init 62 = .ok (.aload_n 0, 1) := by decide +kernel
theorem dX0_init_63 : decode cX0_init 63 = .ok (.sipush 144, 3) := by decide +kernel
theorem dX0_init_66 : decode cX0_init 66 = .ok (.newarray .int, 2) := by decide +kernel
theorem dX0_init_68 : decode cX0_init 68 = .ok (.putfield 38, 3) := by decide +kernel
theorem dX0_init_71 : decode cX0_init 71 = .ok (.aload_n 0, 1) := by decide +kernel
theorem dX0_init_72 : decode cX0_init 72 = .ok (.bipush 12, 2) := by decide +kernel
theorem dX0_init_74 : decode cX0_init 74 = .ok (.newarray .int, 2) := by decide +kernel
theorem dX0_init_76 : decode cX0_init 76 = .ok (.putfield 41, 3) := by decide +kernel
theorem dX0_init_79 : decode cX0_init 79 = .ok (.aload_n 0, 1) := by decide +kernel
theorem dX0_init_80 : decode cX0_init 80 = .ok (.bipush 12, 2) := by decide +kernel
theorem dX0_init_82 : decode cX0_init 82 = .ok (.newarray .int, 2) := by decide +kernel
theorem dX0_init_84 : decode cX0_init 84 = .ok (.putfield 44, 3) := by decide +kernel
theorem dX0_init_87 : decode cX0_init 87 = .ok (.return_, 1) := by decide +kernel
theorem dX0_clear_0 : decode cX0_clear 0 = .ok (.aload_n 0, 1) := by decide +kernel
theorem dX0_clear_1 : decode cX0_clear 1 = .ok (.iconst 0, 1) := by decide +kernel
theorem dX0_clear_2 : decode cX0_clear 2 = .ok (.putfield 47, 3) := by decide +kernel
theorem dX0_clear_5 : decode cX0_clear 5 = .ok (.aload_n 0, 1) := by decide +kernel
theorem dX0_clear_6 : decode cX0_clear 6 = .ok (.iconst 0, 1) := by decide +kernel
theorem dX0_clear_7 : decode cX0_clear 7 = .ok (.putfield 50, 3) := by decide +kernel
theorem dX0_clear_10 : decode cX0_clear 10 = .ok (.aload_n 0, 1) := by decide +kernel
theorem dX0_clear_11 : decode cX0_clear 11 = .ok (.iconst (-1), 1) := by decide +kernel
theorem dX0_clear_12 : decode cX0_clear 12 = .ok (.putfield 9, 3) := by decide +kernel
theorem dX0_clear_15 : decode cX0_clear 15 = .ok (.aload_n 0, 1) := by decide +kernel
theorem dX0_clear_16 : decode cX0_clear 16 = .ok (.iconst (-1), 1) := by decide +kernel
theorem dX0_clear_17 : decode cX0_clear 17 = .ok (.putfield 15, 3) := by decide +kernel
theorem dX0_clear_20 : decode cX0_clear 20 = .ok (.aload_n 0, 1) := by decide +kernel
theorem dX0_clear_21 : decode cX0_clear 21 = .ok (.iconst 0, 1) := by decide +kernel
theorem dX0_clear_22 : decode cX0_clear 22 = .ok (.putfield 53, 3) := by decide +kernel
theorem dX0_clear_25 : decode cX0_clear 25 = .ok (.aload_n 0, 1) := by decide +kernel
theorem dX0_clear_26 : decode cX0_clear 26 = .ok (.getfield 38, 3) := by decide +kernel
theorem dX0_clear_29 : decode cX0_clear 29 = .ok (.iconst 0, 1) := by decide +kernel
theorem dX0_clear_30 : decode cX0_clear 30 = .ok (.invokestatic 56, 3) := by decide +kernel
theorem dX0_clear_33 : decode cX0_clear 33 = .ok (.return_, 1) := by decide +kernel
theorem dX0_has_0 : decode cX0_has 0 = .ok (.iload_n 1, 1) := by decide +kernel
theorem dX0_has_1 : decode cX0_has 1 = .ok (.ifCond .lt 15, 3) := by decide +kernel
theorem dX0_has_4 : decode cX0_has 4 = .ok (.iload_n 1, 1) := by decide +kernel
theorem dX0_has_5 : decode cX0_has 5 = .ok (.aload_n 0, 1) := by decide +kernel
theorem dX0_has_6 : decode cX0_has 6 = .ok (.getfield 47, 3) := by decide +kernel
theorem dX0_has_9 : decode cX0_has 9 = .ok (.if_icmp .ge 7, 3) := by decide +kernel
theorem dX0_has_12 : decode cX0_has 12 = .ok (.iconst 1, 1) := by decide +kernel
theorem dX0_has_13 : decode cX0_has 13 = .ok (.goto 4, 3) := by decide +kernel
theorem dX0_has_16 : decode cX0_has 16 = .ok (.iconst 0, 1) := by decide +kernel
theorem dX0_has_17 : decode cX0_has 17 = .ok (.ireturn, 1) := by decide +kernel
theorem dX0_hasEnds_0 : decode cX0_hasEnds 0 = .ok (.aload_n 0, 1) := by decide +kernel
theorem dX0_hasEnds_1 : decode cX0_hasEnds 1 = .ok (.aload_n 0, 1) := by decide +kernel
theorem dX0_hasEnds_2 : decode cX0_hasEnds 2 = .ok (.getfield 9, 3) := by decide +kernel
theorem dX0_hasEnds_5 : decode cX0_hasEnds 5 = .ok (.invokevirtual 62, 3) := by decide +kernel
theorem dX0_hasEnds_8 : decode cX0_hasEnds 8 = .ok (.ifCond .eq 18, 3) := by decide +kernel
theorem dX0_hasEnds_11 : decode cX0_hasEnds 11 = .ok (.aload_n 0, 1) := by decide +kernel
theorem dX0_hasEnds_12 : decode cX0_hasEnds 12 = .ok (.aload_n 0, 1) := by decide +kernel
theorem dX0_hasEnds_13 : decode cX0_hasEnds 13 = .ok (.getfield 15, 3) := by decide +kernel
theorem dX0_hasEnds_16 : decode cX0_hasEnds 16 = .ok (.invokevirtual 62, 3) := by decide +kernel
theorem dX0_hasEnds_19 : decode cX0_hasEnds 19 = .ok (.ifCond .eq 7, 3) := by decide +kernel
theorem dX0_hasEnds_22 : decode cX0_hasEnds 22 = .ok (.iconst 1, 1) := by decide +kernel
theorem dX0_hasEnds_23 : decode cX0_hasEnds 23 = .ok (.goto 4, 3) := by decide +kernel
theorem dX0_hasEnds_26 : decode cX0_hasEnds 26 = .ok (.iconst 0, 1) := by decide +kernel
theorem dX0_hasEnds_27 : decode cX0_hasEnds 27 = .ok (.ireturn, 1) := by decide +kernel
theorem dX0_isBox_0 : decode cX0_isBox 0 = .ok (.aload_n 0, 1) := by decide +kernel
theorem dX0_isBox_1 : decode cX0_isBox 1 = .ok (.getfield 66, 3) := by decide +kernel
theorem dX0_isBox_4 : decode cX0_isBox 4 = .ok (.iload_n 1, 1) := by decide +kernel
theorem dX0_isBox_5 : decode cX0_isBox 5 = .ok (.invokestatic 69, 3) := by decide +kernel
theorem dX0_isBox_8 : decode cX0_isBox 8 = .ok (.ireturn, 1) := by decide +kernel
theorem dX0_gives_0 : decode cX0_gives 0 = .ok (.aload_n 0, 1) := by decide +kernel
theorem dX0_gives_1 : decode cX0_gives 1 = .ok (.getfield 38, 3) := by decide +kernel
theorem dX0_gives_4 : decode cX0_gives 4 = .ok (.iload_n 1, 1) := by decide +kernel
theorem dX0_gives_5 : decode cX0_gives 5 = .ok (.iload_n 2, 1) := by decide +kernel
theorem dX0_gives_6 : decode cX0_gives 6 = .ok (.invokestatic 73, 3) := by decide +kernel
theorem dX0_gives_9 : decode cX0_gives 9 = .ok (.iaload, 1) := by decide +kernel
theorem dX0_gives_10 : decode cX0_gives 10 = .ok (.ifCond .le 7, 3) := by decide +kernel
theorem dX0_gives_13 : decode cX0_gives 13 = .ok (.iconst 1, 1) := by decide +kernel
theorem dX0_gives_14 : decode cX0_gives 14 = .ok (.goto 4, 3) := by decide +kernel
theorem dX0_gives_17 : decode cX0_gives 17 = .ok (.iconst 0, 1) := by decide +kernel
theorem dX0_gives_18 : decode cX0_gives 18 = .ok (.ireturn, 1) := by decide +kernel
theorem dX0_everybody_0 : decode cX0_everybody 0 = .ok (.iconst 1, 1) := by decide +kernel
theorem dX0_everybody_1 : decode cX0_everybody 1 = .ok (.aload_n 0, 1) := by decide +kernel
theorem dX0_everybody_2 : decode cX0_everybody 2 = .ok (.getfield 47, 3) := by decide +kernel
theorem dX0_everybody_5 : decode cX0_everybody 5 = .ok (.ishl, 1) := by decide +kernel
theorem dX0_everybody_6 : decode cX0_everybody 6 = .ok (.iconst 1, 1) := by decide +kernel
theorem dX0_everybody_7 : decode cX0_everybody 7 = .ok (.isub, 1) := by decide +kernel
theorem dX0_everybody_8 : decode cX0_everybody 8 = .ok (.ireturn, 1) := by decide +kernel
theorem dX0_between_0 : decode cX0_between 0 = .ok (.aload_n 0, 1) := by decide +kernel
theorem dX0_between_1 : decode cX0_between 1 = .ok (.invokevirtual 77, 3) := by decide +kernel
theorem dX0_between_4 : decode cX0_between 4 = .ok (.iconst 1, 1) := by decide +kernel
theorem dX0_between_5 : decode cX0_between 5 = .ok (.aload_n 0, 1) := by decide +kernel
theorem dX0_between_6 : decode cX0_between 6 = .ok (.getfield 9, 3) := by decide +kernel
theorem dX0_between_9 : decode cX0_between 9 = .ok (.ishl, 1) := by decide +kernel
theorem dX0_between_10 : decode cX0_between 10 = .ok (.iconst (-1), 1) := by decide +kernel
theorem dX0_between_11 : decode cX0_between 11 = .ok (.ixor, 1) := by decide +kernel
theorem dX0_between_12 : decode cX0_between 12 = .ok (.iand, 1) := by decide +kernel
theorem dX0_between_13 : decode cX0_between 13 = .ok (.iconst 1, 1) := by decide +kernel
theorem dX0_between_14 : decode cX0_between 14 = .ok (.aload_n 0, 1) := by decide +kernel
theorem dX0_between_15 : decode cX0_between 15 = .ok (.getfield 15, 3) := by decide +kernel
theorem dX0_between_18 : decode cX0_between 18 = .ok (.ishl, 1) := by decide +kernel
theorem dX0_between_19 : decode cX0_between 19 = .ok (.iconst (-1), 1) := by decide +kernel
theorem dX0_between_20 : decode cX0_between 20 = .ok (.ixor, 1) := by decide +kernel
theorem dX0_between_21 : decode cX0_between 21 = .ok (.iand, 1) := by decide +kernel
theorem dX0_between_22 : decode cX0_between 22 = .ok (.ireturn, 1) := by decide +kernel
theorem dX0_called_0 : decode cX0_called 0 = .ok (.iconst 0, 1) := by decide +kernel
theorem dX0_called_1 : decode cX0_called 1 = .ok (.istore_n 3, 1) := by decide +kernel
theorem dX0_called_2 : decode cX0_called 2 = .ok (.iload_n 3, 1) := by decide +kernel
theorem dX0_called_3 : decode cX0_called 3 = .ok (.aload_n 0, 1) := by decide +kernel
theorem dX0_called_4 : decode cX0_called 4 = .ok (.getfield 47, 3) := by decide +kernel
theorem dX0_called_7 : decode cX0_called 7 = .ok (.if_icmp .ge 22, 3) := by decide +kernel
theorem dX0_called_10 : decode cX0_called 10 = .ok (.aload_n 0, 1) := by decide +kernel
theorem dX0_called_11 : decode cX0_called 11 = .ok (.getfield 18, 3) := by decide +kernel
theorem dX0_called_14 : decode cX0_called 14 = .ok (.iload_n 3, 1) := by decide +kernel
theorem dX0_called_15 : decode cX0_called 15 = .ok (.laload, 1) := by decide +kernel
theorem dX0_called_16 : decode cX0_called 16 = .ok (.lload_n 1, 1) := by decide +kernel
theorem dX0_called_17 : decode cX0_called 17 = .ok (.lcmp, 1) := by decide +kernel
theorem dX0_called_18 : decode cX0_called 18 = .ok (.ifCond .ne 5, 3) := by decide +kernel
theorem dX0_called_21 : decode cX0_called 21 = .ok (.iload_n 3, 1) := by decide +kernel
theorem dX0_called_22 : decode cX0_called 22 = .ok (.ireturn, 1) := by decide +kernel
theorem dX0_called_23 : decode cX0_called 23 = .ok (.iinc 3 1, 3) := by decide +kernel
theorem dX0_called_26 : decode cX0_called 26 = .ok (.goto (-24), 3) := by decide +kernel
theorem dX0_called_29 : decode cX0_called 29 = .ok (.iconst (-1), 1) := by decide +kernel
theorem dX0_called_30 : decode cX0_called 30 = .ok (.ireturn, 1) := by decide +kernel
theorem dX0_settle_0 : decode cX0_settle 0 = .ok (.aload_n 0, 1) := by decide +kernel
theorem dX0_settle_1 : decode cX0_settle 1 = .ok (.iconst 0, 1) := by decide +kernel
theorem dX0_settle_2 : decode cX0_settle 2 = .ok (.putfield 66, 3) := by decide +kernel
theorem dX0_settle_5 : decode cX0_settle 5 = .ok (.aload_n 0, 1) := by decide +kernel
theorem dX0_settle_6 : decode cX0_settle 6 = .ok (.iconst 0, 1) := by decide +kernel
theorem dX0_settle_7 : decode cX0_settle 7 = .ok (.putfield 81, 3) := by decide +kernel
theorem dX0_settle_10 : decode cX0_settle 10 = .ok (.aload_n 0, 1) := by decide +kernel
theorem dX0_settle_11 : decode cX0_settle 11 = .ok (.iconst 0, 1) := by decide +kernel
theorem dX0_settle_12 : decode cX0_settle 12 = .ok (.putfield 84, 3) := by decide +kernel
theorem dX0_settle_15 : decode cX0_settle 15 = .ok (.iconst 0, 1) := by decide +kernel
theorem dX0_settle_16 : decode cX0_settle 16 = .ok (.istore_n 1, 1) := by decide +kernel
theorem dX0_settle_17 : decode cX0_settle 17 = .ok (.iload_n 1, 1) := by decide +kernel
theorem dX0_settle_18 : decode cX0_settle 18 = .ok (.aload_n 0, 1) := by decide +kernel
theorem dX0_settle_19 : decode cX0_settle 19 = .ok (.getfield 47, 3) := by decide +kernel
theorem dX0_settle_22 : decode cX0_settle 22 = .ok (.if_icmp .ge 120, 3) := by decide +kernel
theorem dX0_settle_25 : decode cX0_settle 25 = .ok (.aload_n 0, 1) := by decide +kernel
theorem dX0_settle_26 : decode cX0_settle 26 = .ok (.getfield 41, 3) := by decide +kernel
theorem dX0_settle_29 : decode cX0_settle 29 = .ok (.iload_n 1, 1) := by decide +kernel
theorem dX0_settle_30 : decode cX0_settle 30 = .ok (.iconst 0, 1) := by decide +kernel
theorem dX0_settle_31 : decode cX0_settle 31 = .ok (.iastore, 1) := by decide +kernel
theorem dX0_settle_32 : decode cX0_settle 32 = .ok (.aload_n 0, 1) := by decide +kernel
theorem dX0_settle_33 : decode cX0_settle 33 = .ok (.getfield 44, 3) := by decide +kernel
theorem dX0_settle_36 : decode cX0_settle 36 = .ok (.iload_n 1, 1) := by decide +kernel
theorem dX0_settle_37 : decode cX0_settle 37 = .ok (.iconst 0, 1) := by decide +kernel
theorem dX0_settle_38 : decode cX0_settle 38 = .ok (.iastore, 1) := by decide +kernel
theorem dX0_settle_39 : decode cX0_settle 39 = .ok (.aload_n 0, 1) := by decide +kernel
theorem dX0_settle_40 : decode cX0_settle 40 = .ok (.dup, 1) := by decide +kernel
theorem dX0_settle_41 : decode cX0_settle 41 = .ok (.getfield 66, 3) := by decide +kernel
theorem dX0_settle_44 : decode cX0_settle 44 = .ok (.aload_n 0, 1) := by decide +kernel
theorem dX0_settle_45 : decode cX0_settle 45 = .ok (.getfield 22, 3) := by decide +kernel
theorem dX0_settle_48 : decode cX0_settle 48 = .ok (.iload_n 1, 1) := by decide +kernel
theorem dX0_settle_49 : decode cX0_settle 49 = .ok (.iaload, 1) := by decide +kernel
theorem dX0_settle_50 : decode cX0_settle 50 = .ok (.iconst 3, 1) := by decide +kernel
theorem dX0_settle_51 : decode cX0_settle 51 = .ok (.if_icmp .ne 9, 3) := by decide +kernel
theorem dX0_settle_54 : decode cX0_settle 54 = .ok (.iconst 1, 1) := by decide +kernel
theorem dX0_settle_55 : decode cX0_settle 55 = .ok (.iload_n 1, 1) := by decide +kernel
theorem dX0_settle_56 : decode cX0_settle 56 = .ok (.ishl, 1) := by decide +kernel
theorem dX0_settle_57 : decode cX0_settle 57 = .ok (.goto 4, 3) := by decide +kernel
theorem dX0_settle_60 : decode cX0_settle 60 = .ok (.iconst 0, 1) := by decide +kernel
theorem dX0_settle_61 : decode cX0_settle 61 = .ok (.ior, 1) := by decide +kernel
theorem dX0_settle_62 : decode cX0_settle 62 = .ok (.putfield 66, 3) := by decide +kernel
theorem dX0_settle_65 : decode cX0_settle 65 = .ok (.aload_n 0, 1) := by decide +kernel
theorem dX0_settle_66 : decode cX0_settle 66 = .ok (.dup, 1) := by decide +kernel
theorem dX0_settle_67 : decode cX0_settle 67 = .ok (.getfield 81, 3) := by decide +kernel
theorem dX0_settle_70 : decode cX0_settle 70 = .ok (.aload_n 0, 1) := by decide +kernel
theorem dX0_settle_71 : decode cX0_settle 71 = .ok (.getfield 22, 3) := by decide +kernel
theorem dX0_settle_74 : decode cX0_settle 74 = .ok (.iload_n 1, 1) := by decide +kernel
theorem dX0_settle_75 : decode cX0_settle 75 = .ok (.iaload, 1) := by decide +kernel
theorem dX0_settle_76 : decode cX0_settle 76 = .ok (.iconst 2, 1) := by decide +kernel
theorem dX0_settle_77 : decode cX0_settle 77 = .ok (.if_icmp .eq 12, 3) := by decide +kernel
theorem dX0_settle_80 : decode cX0_settle 80 = .ok (.aload_n 0, 1) := by decide +kernel
theorem dX0_settle_81 : decode cX0_settle 81 = .ok (.getfield 29, 3) := by decide +kernel
theorem dX0_settle_84 : decode cX0_settle 84 = .ok (.iload_n 1, 1) := by decide +kernel
theorem dX0_settle_85 : decode cX0_settle 85 = .ok (.iaload, 1) := by decide +kernel
theorem dX0_settle_86 : decode cX0_settle 86 = .ok (.ifCond .ne 9, 3) := by decide +kernel
theorem dX0_settle_89 : decode cX0_settle 89 = .ok (.iconst 1, 1) := by decide +kernel
theorem dX0_settle_90 : decode cX0_settle 90 = .ok (.iload_n 1, 1) := by decide +kernel
theorem dX0_settle_91 : decode cX0_settle 91 = .ok (.ishl, 1) := by decide +kernel
theorem dX0_settle_92 : decode cX0_settle 92 = .ok (.goto 4, 3) := by decide +kernel
theorem dX0_settle_95 : decode cX0_settle 95 = .ok (.iconst 0, 1) := by decide +kernel
theorem dX0_settle_96 : decode cX0_settle 96 = .ok (.ior, 1) := by decide +kernel
theorem dX0_settle_97 : decode cX0_settle 97 = .ok (.putfield 81, 3) := by decide +kernel
theorem dX0_settle_100 : decode cX0_settle 100 = .ok (.aload_n 0, 1) := by decide +kernel
theorem dX0_settle_101 : decode cX0_settle 101 = .ok (.dup, 1) := by decide +kernel
theorem dX0_settle_102 : decode cX0_settle 102 = .ok (.getfield 84, 3) := by decide +kernel
theorem dX0_settle_105 : decode cX0_settle 105 = .ok (.aload_n 0, 1) := by decide +kernel
theorem dX0_settle_106 : decode cX0_settle 106 = .ok (.getfield 22, 3) := by decide +kernel
theorem dX0_settle_109 : decode cX0_settle 109 = .ok (.iload_n 1, 1) := by decide +kernel
theorem dX0_settle_110 : decode cX0_settle 110 = .ok (.iaload, 1) := by decide +kernel
theorem dX0_settle_111 : decode cX0_settle 111 = .ok (.iconst 2, 1) := by decide +kernel
theorem dX0_settle_112 : decode cX0_settle 112 = .ok (.if_icmp .eq 13, 3) := by decide +kernel
theorem dX0_settle_115 : decode cX0_settle 115 = .ok (.aload_n 0, 1) := by decide +kernel
theorem dX0_settle_116 : decode cX0_settle 116 = .ok (.getfield 22, 3) := by decide +kernel
theorem dX0_settle_119 : decode cX0_settle 119 = .ok (.iload_n 1, 1) := by decide +kernel
theorem dX0_settle_120 : decode cX0_settle 120 = .ok (.iaload, 1) := by decide +kernel
theorem dX0_settle_121 : decode cX0_settle 121 = .ok (.iconst 3, 1) := by decide +kernel
theorem dX0_settle_122 : decode cX0_settle 122 = .ok (.if_icmp .ne 9, 3) := by decide +kernel
theorem dX0_settle_125 : decode cX0_settle 125 = .ok (.iconst 1, 1) := by decide +kernel
theorem dX0_settle_126 : decode cX0_settle 126 = .ok (.iload_n 1, 1) := by decide +kernel
theorem dX0_settle_127 : decode cX0_settle 127 = .ok (.ishl, 1) := by decide +kernel
theorem dX0_settle_128 : decode cX0_settle 128 = .ok (.goto 4, 3) := by decide +kernel
theorem dX0_settle_131 : decode cX0_settle 131 = .ok (.iconst 0, 1) := by decide +kernel
theorem dX0_settle_132 : decode cX0_settle 132 = .ok (.ior, 1) := by decide +kernel
theorem dX0_settle_133 : decode cX0_settle 133 = .ok (.putfield 84, 3) := by decide +kernel
theorem dX0_settle_136 : decode cX0_settle 136 = .ok (.iinc 1 1, 3) := by decide +kernel
theorem dX0_settle_139 : decode cX0_settle 139 = .ok (.goto (-122), 3) := by decide +kernel
theorem dX0_settle_142 : decode cX0_settle 142 = .ok (.iconst 0, 1) := by decide +kernel
theorem dX0_settle_143 : decode cX0_settle 143 = .ok (.istore_n 1, 1) := by decide +kernel
theorem dX0_settle_144 : decode cX0_settle 144 = .ok (.iload_n 1, 1) := by decide +kernel
theorem dX0_settle_145 : decode cX0_settle 145 = .ok (.aload_n 0, 1) := by decide +kernel
theorem dX0_settle_146 : decode cX0_settle 146 = .ok (.getfield 47, 3) := by decide +kernel
theorem dX0_settle_149 : decode cX0_settle 149 = .ok (.if_icmp .ge 52, 3) := by decide +kernel
theorem dX0_settle_152 : decode cX0_settle 152 = .ok (.iconst 0, 1) := by decide +kernel
theorem dX0_settle_153 : decode cX0_settle 153 = .ok (.istore_n 2, 1) := by decide +kernel
theorem dX0_settle_154 : decode cX0_settle 154 = .ok (.iload_n 2, 1) := by decide +kernel
theorem dX0_settle_155 : decode cX0_settle 155 = .ok (.aload_n 0, 1) := by decide +kernel
theorem dX0_settle_156 : decode cX0_settle 156 = .ok (.getfield 47, 3) := by decide +kernel
theorem dX0_settle_159 : decode cX0_settle 159 = .ok (.if_icmp .ge 36, 3) := by decide +kernel
theorem dX0_settle_162 : decode cX0_settle 162 = .ok (.aload_n 0, 1) := by decide +kernel
theorem dX0_settle_163 : decode cX0_settle 163 = .ok (.iload_n 1, 1) := by decide +kernel
theorem dX0_settle_164 : decode cX0_settle 164 = .ok (.iload_n 2, 1) := by decide +kernel
theorem dX0_settle_165 : decode cX0_settle 165 = .ok (.invokevirtual 87, 3) := by decide +kernel
theorem dX0_settle_168 : decode cX0_settle 168 = .ok (.ifCond .eq 21, 3) := by decide +kernel
theorem dX0_settle_171 : decode cX0_settle 171 = .ok (.aload_n 0, 1) := by decide +kernel
theorem dX0_settle_172 : decode cX0_settle 172 = .ok (.getfield 41, 3) := by decide +kernel
theorem dX0_settle_175 : decode cX0_settle 175 = .ok (.iload_n 1, 1) := by decide +kernel
theorem dX0_settle_176 : decode cX0_settle 176 = .ok (.dup2, 1) := by decide +kernel
theorem dX0_settle_177 : decode cX0_settle 177 = .ok (.iaload, 1) := by decide +kernel
theorem dX0_settle_178 : decode cX0_settle 178 = .ok (.iconst 1, 1) := by decide +kernel
theorem dX0_settle_179 : decode cX0_settle 179 = .ok (.iload_n 2, 1) := by decide +kernel
theorem dX0_settle_180 : decode cX0_settle 180 = .ok (.ishl, 1) := by decide +kernel
theorem dX0_settle_181 : decode cX0_settle 181 = .ok (.ior, 1) := by decide +kernel
theorem dX0_settle_182 : decode cX0_settle 182 = .ok (.iastore, 1) := by decide +kernel
theorem dX0_settle_183 : decode cX0_settle 183 = .ok (.aload_n 0, 1) := by decide +kernel
theorem dX0_settle_184 : decode cX0_settle 184 = .ok (.iload_n 1, 1) := by decide +kernel
theorem dX0_settle_185 : decode cX0_settle 185 = .ok (.iload_n 2, 1) := by decide +kernel
theorem dX0_settle_186 : decode cX0_settle 186 = .ok (.invokevirtual 90, 3) := by decide +kernel
theorem dX0_settle_189 : decode cX0_settle 189 = .ok (.iinc 2 1, 3) := by decide +kernel
theorem dX0_settle_192 : decode cX0_settle 192 = .ok (.goto (-38), 3) := by decide +kernel
theorem dX0_settle_195 : decode cX0_settle 195 = .ok (.iinc 1 1, 3) := by decide +kernel
theorem dX0_settle_198 : decode cX0_settle 198 = .ok (.goto (-54), 3) := by decide +kernel
theorem dX0_settle_201 : decode cX0_settle 201 = .ok (.return_, 1) := by decide +kernel
theorem dX0_introduce_0 : decode cX0_introduce 0 = .ok (.aload_n 0, 1) := by decide +kernel
theorem dX0_introduce_1 : decode cX0_introduce 1 = .ok (.iload_n 1, 1) := by decide +kernel
theorem dX0_introduce_2 : decode cX0_introduce 2 = .ok (.invokevirtual 94, 3) := by decide +kernel
theorem dX0_introduce_5 : decode cX0_introduce 5 = .ok (.ifCond .ne 11, 3) := by decide +kernel
theorem dX0_introduce_8 : decode cX0_introduce 8 = .ok (.aload_n 0, 1) := by decide +kernel
theorem dX0_introduce_9 : decode cX0_introduce 9 = .ok (.iload_n 2, 1) := by decide +kernel
theorem dX0_introduce_10 : decode cX0_introduce 10 = .ok (.invokevirtual 94, 3) := by decide +kernel
theorem dX0_introduce_13 : decode cX0_introduce 13 = .ok (.ifCond .eq 4, 3) := by decide +kernel
theorem dX0_introduce_16 : decode cX0_introduce 16 = .ok (.return_, 1) := by decide +kernel
theorem dX0_introduce_17 : decode cX0_introduce 17 = .ok (.aload_n 0, 1) := by decide +kernel
theorem dX0_introduce_18 : decode cX0_introduce 18 = .ok (.getfield 44, 3) := by decide +kernel
theorem dX0_introduce_21 : decode cX0_introduce 21 = .ok (.iload_n 1, 1) := by decide +kernel
theorem dX0_introduce_22 : decode cX0_introduce 22 = .ok (.dup2, 1) := by decide +kernel
theorem dX0_introduce_23 : decode cX0_introduce 23 = .ok (.iaload, 1) := by decide +kernel
theorem dX0_introduce_24 : decode cX0_introduce 24 = .ok (.iconst 1, 1) := by decide +kernel
theorem dX0_introduce_25 : decode cX0_introduce 25 = .ok (.iload_n 2, 1) := by decide +kernel
theorem dX0_introduce_26 : decode cX0_introduce 26 = .ok (.ishl, 1) := by decide +kernel
theorem dX0_introduce_27 : decode cX0_introduce 27 = .ok (.ior, 1) := by decide +kernel
theorem dX0_introduce_28 : decode cX0_introduce 28 = .ok (.iastore, 1) := by decide +kernel
theorem dX0_introduce_29 : decode cX0_introduce 29 = .ok (.aload_n 0, 1) := by decide +kernel
theorem dX0_introduce_30 : decode cX0_introduce 30 = .ok (.getfield 22, 3) := by decide +kernel
theorem dX0_introduce_33 : decode cX0_introduce 33 = .ok (.iload_n 2, 1) := by decide +kernel
theorem dX0_introduce_34 : decode cX0_introduce 34 = .ok (.iaload, 1) := by decide +kernel
theorem dX0_introduce_35 : decode cX0_introduce 35 = .ok (.iconst 1, 1) := by decide +kernel
theorem dX0_introduce_36 : decode cX0_introduce 36 = .ok (.if_icmp .eq 15, 3) := by decide +kernel
theorem dX0_introduce_39 : decode cX0_introduce 39 = .ok (.aload_n 0, 1) := by decide +kernel
theorem dX0_introduce_40 : decode cX0_introduce 40 = .ok (.getfield 44, 3) := by decide +kernel
theorem dX0_introduce_43 : decode cX0_introduce 43 = .ok (.iload_n 2, 1) := by decide +kernel
theorem dX0_introduce_44 : decode cX0_introduce 44 = .ok (.dup2, 1) := by decide +kernel
theorem dX0_introduce_45 : decode cX0_introduce 45 = .ok (.iaload, 1) := by decide +kernel
theorem dX0_introduce_46 : decode cX0_introduce 46 = .ok (.iconst 1, 1) := by decide +kernel
theorem dX0_introduce_47 : decode cX0_introduce 47 = .ok (.iload_n 1, 1) := by decide +kernel
theorem dX0_introduce_48 : decode cX0_introduce 48 = .ok (.ishl, 1) := by decide +kernel
theorem dX0_introduce_49 : decode cX0_introduce 49 = .ok (.ior, 1) := by decide +kernel
theorem dX0_introduce_50 : decode cX0_introduce 50 = .ok (.iastore, 1) := by decide +kernel
theorem dX0_introduce_51 : decode cX0_introduce 51 = .ok (.return_, 1) := by decide +kernel
theorem dX0_hasWay_0 : decode cX0_hasWay 0 = .ok (.aload_n 0, 1) := by decide +kernel
theorem dX0_hasWay_1 : decode cX0_hasWay 1 = .ok (.invokevirtual 77, 3) := by decide +kernel
theorem dX0_hasWay_4 : decode cX0_hasWay 4 = .ok (.iload_n 1, 1) := by decide +kernel
theorem dX0_hasWay_5 : decode cX0_hasWay 5 = .ok (.iconst (-1), 1) := by decide +kernel
theorem dX0_hasWay_6 : decode cX0_hasWay 6 = .ok (.ixor, 1) := by decide +kernel
theorem dX0_hasWay_7 : decode cX0_hasWay 7 = .ok (.iand, 1) := by decide +kernel
theorem dX0_hasWay_8 : decode cX0_hasWay 8 = .ok (.istore_n 3, 1) := by decide +kernel
theorem dX0_hasWay_9 : decode cX0_hasWay 9 = .ok (.iconst 1, 1) := by decide +kernel
theorem dX0_hasWay_10 : decode cX0_hasWay 10 = .ok (.aload_n 0, 1) := by decide +kernel
theorem dX0_hasWay_11 : decode cX0_hasWay 11 = .ok (.getfield 9, 3) := by decide +kernel
theorem dX0_hasWay_14 : decode cX0_hasWay 14 = .ok (.ishl, 1) := by decide +kernel
theorem dX0_hasWay_15 : decode cX0_hasWay 15 = .ok (.istore 4, 2) := by decide +kernel
theorem dX0_hasWay_17 : decode cX0_hasWay 17 = .ok (.iload 4, 2) := by decide +kernel
theorem dX0_hasWay_19 : decode cX0_hasWay 19 = .ok (.istore 5, 2) := by decide +kernel
theorem dX0_hasWay_21 : decode cX0_hasWay 21 = .ok (.iconst 0, 1) := by decide +kernel
theorem dX0_hasWay_22 : decode cX0_hasWay 22 = .ok (.istore 6, 2) := by decide +kernel
theorem dX0_hasWay_24 : decode cX0_hasWay 24 = .ok (.iload 6, 2) := by decide +kernel
theorem dX0_hasWay_26 : decode cX0_hasWay 26 = .ok (.bipush 12, 2) := by decide +kernel
theorem dX0_hasWay_28 : decode cX0_hasWay 28 = .ok (.if_icmp .ge 109, 3) := by decide +kernel
theorem dX0_hasWay_31 : decode cX0_hasWay 31 = .ok (.iload 5, 2) := by decide +kernel
theorem dX0_hasWay_33 : decode cX0_hasWay 33 = .ok (.ifCond .eq 104, 3) := by decide +kernel
theorem dX0_hasWay_36 : decode cX0_hasWay 36 = .ok (.iload 4, 2) := by decide +kernel
theorem dX0_hasWay_38 : decode cX0_hasWay 38 = .ok (.aload_n 0, 1) := by decide +kernel
theorem dX0_hasWay_39 : decode cX0_hasWay 39 = .ok (.getfield 15, 3) := by decide +kernel
theorem dX0_hasWay_42 : decode cX0_hasWay 42 = .ok (.invokestatic 69, 3) := by decide +kernel
theorem dX0_hasWay_45 : decode cX0_hasWay 45 = .ok (.ifCond .ne 92, 3) := by decide +kernel
theorem dX0_hasWay_48 : decode cX0_hasWay 48 = .ok (.iconst 0, 1) := by decide +kernel
theorem dX0_hasWay_49 : decode cX0_hasWay 49 = .ok (.istore 7, 2) := by decide +kernel
theorem dX0_hasWay_51 : decode cX0_hasWay 51 = .ok (.iconst 0, 1) := by decide +kernel
theorem dX0_hasWay_52 : decode cX0_hasWay 52 = .ok (.istore 8, 2) := by decide +kernel
theorem dX0_hasWay_54 : decode cX0_hasWay 54 = .ok (.iload 8, 2) := by decide +kernel
theorem dX0_hasWay_56 : decode cX0_hasWay 56 = .ok (.aload_n 0, 1) := by decide +kernel
theorem dX0_hasWay_57 : decode cX0_hasWay 57 = .ok (.getfield 47, 3) := by decide +kernel
theorem dX0_hasWay_60 : decode cX0_hasWay 60 = .ok (.if_icmp .ge 31, 3) := by decide +kernel
theorem dX0_hasWay_63 : decode cX0_hasWay 63 = .ok (.iload 5, 2) := by decide +kernel
theorem dX0_hasWay_65 : decode cX0_hasWay 65 = .ok (.iload 8, 2) := by decide +kernel
theorem dX0_hasWay_67 : decode cX0_hasWay 67 = .ok (.invokestatic 69, 3) := by decide +kernel
theorem dX0_hasWay_70 : decode cX0_hasWay 70 = .ok (.ifCond .eq 15, 3) := by decide +kernel
theorem dX0_hasWay_73 : decode cX0_hasWay 73 = .ok (.iload 7, 2) := by decide +kernel
theorem dX0_hasWay_75 : decode cX0_hasWay 75 = .ok (.aload_n 0, 1) := by decide +kernel
theorem dX0_hasWay_76 : decode cX0_hasWay 76 = .ok (.getfield 41, 3) := by decide +kernel
theorem dX0_hasWay_79 : decode cX0_hasWay 79 = .ok (.iload 8, 2) := by decide +kernel
theorem dX0_hasWay_81 : decode cX0_hasWay 81 = .ok (.iaload, 1) := by decide +kernel
theorem dX0_hasWay_82 : decode cX0_hasWay 82 = .ok (.ior, 1) := by decide +kernel
theorem dX0_hasWay_83 : decode cX0_hasWay 83 = .ok (.istore 7, 2) := by decide +kernel
theorem dX0_hasWay_85 : decode cX0_hasWay 85 = .ok (.iinc 8 1, 3) := by decide +kernel
theorem dX0_hasWay_88 : decode cX0_hasWay 88 = .ok (.goto (-34), 3) := by decide +kernel
theorem dX0_hasWay_91 : decode cX0_hasWay 91 = .ok (.iload 6, 2) := by decide +kernel
theorem dX0_hasWay_93 : decode cX0_hasWay 93 = .ok (.ifCond .ne 20, 3) := by decide +kernel
theorem dX0_hasWay_96 : decode cX0_hasWay 96 = .ok (.iload_n 2, 1) := by decide +kernel
theorem dX0_hasWay_97 : decode cX0_hasWay 97 = .ok (.ifCond .eq 16, 3) := by decide +kernel
theorem dX0_hasWay_100 : decode cX0_hasWay 100 = .ok (.iload 7, 2) := by decide +kernel
theorem dX0_hasWay_102 : decode cX0_hasWay 102 = .ok (.iconst 1, 1) := by decide +kernel
theorem dX0_hasWay_103 : decode cX0_hasWay 103 = .ok (.aload_n 0, 1) := by decide +kernel
theorem dX0_hasWay_104 : decode cX0_hasWay 104 = .ok (.getfield 15, 3) := by decide +kernel
theorem dX0_hasWay_107 : decode cX0_hasWay 107 = .ok (.ishl, 1) := by decide +kernel
theorem dX0_hasWay_108 : decode cX0_hasWay 108 = .ok (.iconst (-1), 1) := by decide +kernel
theorem dX0_hasWay_109 : decode cX0_hasWay 109 = .ok (.ixor, 1) := by decide +kernel
theorem dX0_hasWay_110 : decode cX0_hasWay 110 = .ok (.iand, 1) := by decide +kernel
theorem dX0_hasWay_111 : decode cX0_hasWay 111 = .ok (.istore 7, 2) := by decide +kernel
theorem dX0_hasWay_113 : decode cX0_hasWay 113 = .ok (.iload 7, 2) := by decide +kernel
theorem dX0_hasWay_115 : decode cX0_hasWay 115 = .ok (.iload_n 3, 1) := by decide +kernel
theorem dX0_hasWay_116 : decode cX0_hasWay 116 = .ok (.iand, 1) := by decide +kernel
theorem dX0_hasWay_117 : decode cX0_hasWay 117 = .ok (.iload 4, 2) := by decide +kernel
theorem dX0_hasWay_119 : decode cX0_hasWay 119 = .ok (.iconst (-1), 1) := by decide +kernel
theorem dX0_hasWay_120 : decode cX0_hasWay 120 = .ok (.ixor, 1) := by decide +kernel
theorem dX0_hasWay_121 : decode cX0_hasWay 121 = .ok (.iand, 1) := by decide +kernel
theorem dX0_hasWay_122 : decode cX0_hasWay 122 = .ok (.istore 5, 2) := by decide +kernel
theorem dX0_hasWay_124 : decode cX0_hasWay 124 = .ok (.iload 4, 2) := by decide +kernel
theorem dX0_hasWay_126 : decode cX0_hasWay 126 = .ok (.iload 5, 2) := by decide +kernel
theorem dX0_hasWay_128 : decode cX0_hasWay 128 = .ok (.ior, 1) := by decide +kernel
theorem dX0_hasWay_129 : decode cX0_hasWay 129 = .ok (.istore 4, 2) := by decide +kernel
theorem dX0_hasWay_131 : decode cX0_hasWay 131 = .ok (.iinc 6 1, 3) := by decide +kernel
theorem dX0_hasWay_134 : decode cX0_hasWay 134 = .ok (.goto (-110), 3) := by decide +kernel
theorem dX0_hasWay_137 : decode cX0_hasWay 137 = .ok (.iload 4, 2) := by decide +kernel
theorem dX0_hasWay_139 : decode cX0_hasWay 139 = .ok (.aload_n 0, 1) := by decide +kernel
theorem dX0_hasWay_140 : decode cX0_hasWay 140 = .ok (.getfield 15, 3) := by decide +kernel
theorem dX0_hasWay_143 : decode cX0_hasWay 143 = .ok (.invokestatic 69, 3) := by decide +kernel
theorem dX0_hasWay_146 : decode cX0_hasWay 146 = .ok (.ireturn, 1) := by decide +kernel
theorem dX1_init_0 : decode cX1_init 0 = .ok (.aload_n 0, 1) := by decide +kernel
theorem dX1_init_1 : decode cX1_init 1 = .ok (.invokespecial 3, 3) := by decide +kernel
theorem dX1_init_4 : decode cX1_init 4 = .ok (.aload_n 0, 1) := by decide +kernel
theorem dX1_init_5 : decode cX1_init 5 = .ok (.new 9, 3) := by decide +kernel
theorem dX1_init_8 : decode cX1_init 8 = .ok (.dup, 1) := by decide +kernel
theorem dX1_init_9 : decode cX1_init 9 = .ok (.invokespecial 11, 3) := by decide +kernel
theorem dX1_init_12 : decode cX1_init 12 = .ok (.putfield 12, 3) := by decide +kernel
theorem dX1_init_15 : decode cX1_init 15 = .ok (.aload_n 0, 1) := by decide +kernel
theorem dX1_init_16 : decode cX1_init 16 = .ok (.new 18, 3) := by decide +kernel
theorem dX1_init_19 : decode cX1_init 19 = .ok (.dup, 1) := by decide +kernel
theorem dX1_init_20 : decode cX1_init 20 = .ok (.invokespecial 20, 3) := by decide +kernel
theorem dX1_init_23 : decode cX1_init 23 = .ok (.putfield 21, 3) := by decide +kernel
theorem dX1_init_26 : decode cX1_init 26 = .ok (.aload_n 0, 1) := by decide +kernel
theorem dX1_init_27 : decode cX1_init 27 = .ok (.sipush 144, 3) := by decide +kernel
theorem dX1_init_30 : decode cX1_init 30 = .ok (.newarray .int, 2) := by decide +kernel
theorem dX1_init_32 : decode cX1_init 32 = .ok (.putfield 25, 3) := by decide +kernel
theorem dX1_init_35 : decode cX1_init 35 = .ok (.aload_n 0, 1) := by decide +kernel
theorem dX1_init_36 : decode cX1_init 36 = .ok (.bipush 12, 2) := by decide +kernel
theorem dX1_init_38 : decode cX1_init 38 = .ok (.newarray .int, 2) := by decide +kernel
theorem dX1_init_40 : decode cX1_init 40 = .ok (.putfield 29, 3) := by decide +kernel
theorem dX1_init_43 : decode cX1_init 43 = .ok (.aload_n 0, 1) := by decide +kernel
theorem dX1_init_44 : decode cX1_init 44 = .ok (.bipush 12, 2) := by decide +kernel
theorem dX1_init_46 : decode cX1_init 46 = .ok (.newarray .int, 2) := by decide +kernel
theorem dX1_init_48 : decode cX1_init 48 = .ok (.putfield 32, 3) := by decide +kernel
theorem dX1_init_51 : decode cX1_init 51 = .ok (.return_, 1) := by decide +kernel
theorem dX1_begin_0 : decode cX1_begin 0 = .ok (.aload_n 0, 1) := by decide +kernel
theorem dX1_begin_1 : decode cX1_begin 1 = .ok (.iconst 0, 1) := by decide +kernel
theorem dX1_begin_2 : decode cX1_begin 2 = .ok (.putfield 35, 3) := by decide +kernel
theorem dX1_begin_5 : decode cX1_begin 5 = .ok (.aload_n 0, 1) := by decide +kernel
theorem dX1_begin_6 : decode cX1_begin 6 = .ok (.getfield 12, 3) := by decide +kernel
theorem dX1_begin_9 : decode cX1_begin 9 = .ok (.aload_n 1, 1) := by decide +kernel
theorem dX1_begin_10 : decode cX1_begin 10 = .ok (.invokevirtual 39, 3) := by decide +kernel
theorem dX1_begin_13 : decode cX1_begin 13 = .ok (.aload_n 0, 1) := by decide +kernel
theorem dX1_begin_14 : decode cX1_begin 14 = .ok (.getfield 21, 3) := by decide +kernel
theorem dX1_begin_17 : decode cX1_begin 17 = .ok (.iconst 0, 1) := by decide +kernel
theorem dX1_begin_18 : decode cX1_begin 18 = .ok (.putfield 43, 3) := by decide +kernel
theorem dX1_begin_21 : decode cX1_begin 21 = .ok (.aload_n 1, 1) := by decide +kernel
theorem dX1_begin_22 : decode cX1_begin 22 = .ok (.getfield 46, 3) := by decide +kernel
theorem dX1_begin_25 : decode cX1_begin 25 = .ok (.iconst 0, 1) := by decide +kernel
theorem dX1_begin_26 : decode cX1_begin 26 = .ok (.aload_n 0, 1) := by decide +kernel
theorem dX1_begin_27 : decode cX1_begin 27 = .ok (.getfield 25, 3) := by decide +kernel
theorem dX1_begin_30 : decode cX1_begin 30 = .ok (.iconst 0, 1) := by decide +kernel
theorem dX1_begin_31 : decode cX1_begin 31 = .ok (.sipush 144, 3) := by decide +kernel
theorem dX1_begin_34 : decode cX1_begin 34 = .ok (.invokestatic 49, 3) := by decide +kernel
theorem dX1_begin_37 : decode cX1_begin 37 = .ok (.aload_n 1, 1) := by decide +kernel
theorem dX1_begin_38 : decode cX1_begin 38 = .ok (.getfield 55, 3) := by decide +kernel
theorem dX1_begin_41 : decode cX1_begin 41 = .ok (.iconst 0, 1) := by decide +kernel
theorem dX1_begin_42 : decode cX1_begin 42 = .ok (.aload_n 0, 1) := by decide +kernel
theorem dX1_begin_43 : decode cX1_begin 43 = .ok (.getfield 29, 3) := by decide +kernel
theorem dX1_begin_46 : decode cX1_begin 46 = .ok (.iconst 0, 1) := by decide +kernel
theorem dX1_begin_47 : decode cX1_begin 47 = .ok (.bipush 12, 2) := by decide +kernel
theorem dX1_begin_49 : decode cX1_begin 49 = .ok (.invokestatic 49, 3) := by decide +kernel
theorem dX1_begin_52 : decode cX1_begin 52 = .ok (.return_, 1) := by decide +kernel
theorem dX1_copy_0 : decode cX1_copy 0 = .ok (.aload_n 0, 1) := by decide +kernel
theorem dX1_copy_1 : decode cX1_copy 1 = .ok (.aload_n 1, 1) := by decide +kernel
theorem dX1_copy_2 : decode cX1_copy 2 = .ok (.getfield 35, 3) := by decide +kernel
theorem dX1_copy_5 : decode cX1_copy 5 = .ok (.putfield 35, 3) := by decide +kernel
theorem dX1_copy_8 : decode cX1_copy 8 = .ok (.aload_n 0, 1) := by decide +kernel
theorem dX1_copy_9 : decode cX1_copy 9 = .ok (.getfield 12, 3) := by decide +kernel
theorem dX1_copy_12 : decode cX1_copy 12 = .ok (.aload_n 1, 1) := by decide +kernel
theorem dX1_copy_13 : decode cX1_copy 13 = .ok (.getfield 12, 3) := by decide +kernel
theorem dX1_copy_16 : decode cX1_copy 16 = .ok (.invokevirtual 56, 3) := by decide +kernel
theorem dX1_copy_19 : decode cX1_copy 19 = .ok (.aload_n 0, 1) := by decide +kernel
theorem dX1_copy_20 : decode cX1_copy 20 = .ok (.getfield 21, 3) := by decide +kernel
theorem dX1_copy_23 : decode cX1_copy 23 = .ok (.aload_n 1, 1) := by decide +kernel
theorem dX1_copy_24 : decode cX1_copy 24 = .ok (.getfield 21, 3) := by decide +kernel
theorem dX1_copy_27 : decode cX1_copy 27 = .ok (.invokevirtual 60, 3) := by decide +kernel
theorem dX1_copy_30 : decode cX1_copy 30 = .ok (.aload_n 1, 1) := by decide +kernel
theorem dX1_copy_31 : decode cX1_copy 31 = .ok (.getfield 25, 3) := by decide +kernel
theorem dX1_copy_34 : decode cX1_copy 34 = .ok (.iconst 0, 1) := by decide +kernel
theorem dX1_copy_35 : decode cX1_copy 35 = .ok (.aload_n 0, 1) := by decide +kernel
theorem dX1_copy_36 : decode cX1_copy 36 = .ok (.getfield 25, 3) := by decide +kernel
theorem dX1_copy_39 : decode cX1_copy 39 = .ok (.iconst 0, 1) := by decide +kernel
theorem dX1_copy_40 : decode cX1_copy 40 = .ok (.sipush 144, 3) := by decide +kernel
theorem dX1_copy_43 : decode cX1_copy 43 = .ok (.invokestatic 49, 3) := by decide +kernel
theorem dX1_copy_46 : decode cX1_copy 46 = .ok (.aload_n 1, 1) := by decide +kernel
theorem dX1_copy_47 : decode cX1_copy 47 = .ok (.getfield 29, 3) := by decide +kernel
theorem dX1_copy_50 : decode cX1_copy 50 = .ok (.iconst 0, 1) := by decide +kernel
theorem dX1_copy_51 : decode cX1_copy 51 = .ok (.aload_n 0, 1) := by decide +kernel
theorem dX1_copy_52 : decode cX1_copy 52 = .ok (.getfield 29, 3) := by decide +kernel
theorem dX1_copy_55 : decode cX1_copy 55 = .ok (.iconst 0, 1) := by decide +kernel
theorem dX1_copy_56 : decode cX1_copy 56 = .ok (.bipush 12, 2) := by decide +kernel
theorem dX1_copy_58 : decode cX1_copy 58 = .ok (.invokestatic 49, 3) := by decide +kernel
theorem dX1_copy_61 : decode cX1_copy 61 = .ok (.return_, 1) := by decide +kernel
theorem dX1_dispatch_0 : decode cX1_dispatch 0 = .ok (.aload_n 1, 1) := by decide +kernel
theorem dX1_dispatch_1 : decode cX1_dispatch 1 = .ok (.aload_n 1, 1) := by decide +kernel
theorem dX1_dispatch_2 : decode cX1_dispatch 2 = .ok (.getfield 63, 3) := by decide +kernel
theorem dX1_dispatch_5 : decode cX1_dispatch 5 = .ok (.invokevirtual 66, 3) := by decide +kernel
theorem dX1_dispatch_8 : decode cX1_dispatch 8 = .ok (.ifCond .eq 29, 3) := by decide +kernel
theorem dX1_dispatch_11 : decode cX1_dispatch 11 = .ok (.aload_n 0, 1) := by decide +kernel
theorem dX1_dispatch_12 : decode cX1_dispatch 12 = .ok (.getfield 12, 3) := by decide +kernel
theorem dX1_dispatch_15 : decode cX1_dispatch 15 = .ok (.aload_n 1, 1) := by decide +kernel
theorem dX1_dispatch_16 : decode cX1_dispatch 16 = .ok (.getfield 63, 3) := by decide +kernel
theorem dX1_dispatch_19 : decode cX1_dispatch 19 = .ok (.invokevirtual 70, 3) := by decide +kernel
theorem dX1_dispatch_22 : decode cX1_dispatch 22 = .ok (.ifCond .eq 15, 3) := by decide +kernel
theorem dX1_dispatch_25 : decode cX1_dispatch 25 = .ok (.aload_n 0, 1) := by decide +kernel
theorem dX1_dispatch_26 : decode cX1_dispatch 26 = .ok (.getfield 21, 3) := by decide +kernel
theorem dX1_dispatch_29 : decode cX1_dispatch 29 = .ok (.getfield 43, 3) := by decide +kernel
theorem dX1_dispatch_32 : decode cX1_dispatch 32 = .ok (.bipush 12, 2) := by decide +kernel
theorem dX1_dispatch_34 : decode cX1_dispatch 34 = .ok (.if_icmp .lt 5, 3) := by decide +kernel
theorem dX1_dispatch_37 : decode cX1_dispatch 37 = .ok (.iconst (-1), 1) := by decide +kernel
theorem dX1_dispatch_38 : decode cX1_dispatch 38 = .ok (.ireturn, 1) := by decide +kernel
theorem dX1_dispatch_39 : decode cX1_dispatch 39 = .ok (.aload_n 0, 1) := by decide +kernel
theorem dX1_dispatch_40 : decode cX1_dispatch 40 = .ok (.getfield 21, 3) := by decide +kernel
theorem dX1_dispatch_43 : decode cX1_dispatch 43 = .ok (.aload_n 0, 1) := by decide +kernel
theorem dX1_dispatch_44 : decode cX1_dispatch 44 = .ok (.getfield 35, 3) := by decide +kernel
theorem dX1_dispatch_47 : decode cX1_dispatch 47 = .ok (.invokevirtual 73, 3) := by decide +kernel
theorem dX1_dispatch_50 : decode cX1_dispatch 50 = .ok (.istore_n 2, 1) := by decide +kernel
theorem dX1_dispatch_51 : decode cX1_dispatch 51 = .ok (.aload_n 0, 1) := by decide +kernel
theorem dX1_dispatch_52 : decode cX1_dispatch 52 = .ok (.getfield 21, 3) := by decide +kernel
theorem dX1_dispatch_55 : decode cX1_dispatch 55 = .ok (.iload_n 2, 1) := by decide +kernel
theorem dX1_dispatch_56 : decode cX1_dispatch 56 = .ok (.aload_n 1, 1) := by decide +kernel
theorem dX1_dispatch_57 : decode cX1_dispatch 57 = .ok (.getfield 63, 3) := by decide +kernel
theorem dX1_dispatch_60 : decode cX1_dispatch 60 = .ok (.aload_n 1, 1) := by decide +kernel
theorem dX1_dispatch_61 : decode cX1_dispatch 61 = .ok (.aload_n 0, 1) := by decide +kernel
theorem dX1_dispatch_62 : decode cX1_dispatch 62 = .ok (.getfield 35, 3) := by decide +kernel
theorem dX1_dispatch_65 : decode cX1_dispatch 65 = .ok (.invokevirtual 77, 3) := by decide +kernel
theorem dX1_dispatch_68 : decode cX1_dispatch 68 = .ok (.aload_n 0, 1) := by decide +kernel
theorem dX1_dispatch_69 : decode cX1_dispatch 69 = .ok (.getfield 21, 3) := by decide +kernel
theorem dX1_dispatch_72 : decode cX1_dispatch 72 = .ok (.iload_n 2, 1) := by decide +kernel
theorem dX1_dispatch_73 : decode cX1_dispatch 73 = .ok (.invokevirtual 81, 3) := by decide +kernel
theorem dX1_dispatch_76 : decode cX1_dispatch 76 = .ok (.ifCond .eq 14, 3) := by decide +kernel
theorem dX1_dispatch_79 : decode cX1_dispatch 79 = .ok (.aload_n 0, 1) := by decide +kernel
theorem dX1_dispatch_80 : decode cX1_dispatch 80 = .ok (.aload_n 1, 1) := by decide +kernel
theorem dX1_dispatch_81 : decode cX1_dispatch 81 = .ok (.invokevirtual 84, 3) := by decide +kernel
theorem dX1_dispatch_84 : decode cX1_dispatch 84 = .ok (.aload_n 0, 1) := by decide +kernel
theorem dX1_dispatch_85 : decode cX1_dispatch 85 = .ok (.aload_n 1, 1) := by decide +kernel
theorem dX1_dispatch_86 : decode cX1_dispatch 86 = .ok (.iload_n 2, 1) := by decide +kernel
theorem dX1_dispatch_87 : decode cX1_dispatch 87 = .ok (.invokevirtual 87, 3) := by decide +kernel
theorem dX1_dispatch_90 : decode cX1_dispatch 90 = .ok (.iload_n 2, 1) := by decide +kernel
theorem dX1_dispatch_91 : decode cX1_dispatch 91 = .ok (.ireturn, 1) := by decide +kernel
theorem dX1_pass_0 : decode cX1_pass 0 = .ok (.aload_n 0, 1) := by decide +kernel
theorem dX1_pass_1 : decode cX1_pass 1 = .ok (.dup, 1) := by decide +kernel
theorem dX1_pass_2 : decode cX1_pass 2 = .ok (.getfield 35, 3) := by decide +kernel
theorem dX1_pass_5 : decode cX1_pass 5 = .ok (.iconst 1, 1) := by decide +kernel
theorem dX1_pass_6 : decode cX1_pass 6 = .ok (.iadd, 1) := by decide +kernel
theorem dX1_pass_7 : decode cX1_pass 7 = .ok (.putfield 35, 3) := by decide +kernel
theorem dX1_pass_10 : decode cX1_pass 10 = .ok (.aload_n 0, 1) := by decide +kernel
theorem dX1_pass_11 : decode cX1_pass 11 = .ok (.aload_n 1, 1) := by decide +kernel
theorem dX1_pass_12 : decode cX1_pass 12 = .ok (.invokevirtual 91, 3) := by decide +kernel
theorem dX1_pass_15 : decode cX1_pass 15 = .ok (.aload_n 0, 1) := by decide +kernel
theorem dX1_pass_16 : decode cX1_pass 16 = .ok (.getfield 12, 3) := by decide +kernel
theorem dX1_pass_19 : decode cX1_pass 19 = .ok (.aload_n 1, 1) := by decide +kernel
theorem dX1_pass_20 : decode cX1_pass 20 = .ok (.aload_n 0, 1) := by decide +kernel
theorem dX1_pass_21 : decode cX1_pass 21 = .ok (.getfield 29, 3) := by decide +kernel
theorem dX1_pass_24 : decode cX1_pass 24 = .ok (.aload_n 0, 1) := by decide +kernel
theorem dX1_pass_25 : decode cX1_pass 25 = .ok (.getfield 35, 3) := by decide +kernel
theorem dX1_pass_28 : decode cX1_pass 28 = .ok (.invokevirtual 94, 3) := by decide +kernel
theorem dX1_pass_31 : decode cX1_pass 31 = .ok (.aload_n 0, 1) := by decide +kernel
theorem dX1_pass_32 : decode cX1_pass 32 = .ok (.getfield 12, 3) := by decide +kernel
theorem dX1_pass_35 : decode cX1_pass 35 = .ok (.aload_n 1, 1) := by decide +kernel
theorem dX1_pass_36 : decode cX1_pass 36 = .ok (.aload_n 0, 1) := by decide +kernel
theorem dX1_pass_37 : decode cX1_pass 37 = .ok (.getfield 29, 3) := by decide +kernel
theorem dX1_pass_40 : decode cX1_pass 40 = .ok (.aload_n 0, 1) := by decide +kernel
theorem dX1_pass_41 : decode cX1_pass 41 = .ok (.getfield 35, 3) := by decide +kernel
theorem dX1_pass_44 : decode cX1_pass 44 = .ok (.invokevirtual 98, 3) := by decide +kernel
theorem dX1_pass_47 : decode cX1_pass 47 = .ok (.aload_n 0, 1) := by decide +kernel
theorem dX1_pass_48 : decode cX1_pass 48 = .ok (.invokevirtual 101, 3) := by decide +kernel
theorem dX1_pass_51 : decode cX1_pass 51 = .ok (.aload_n 0, 1) := by decide +kernel
theorem dX1_pass_52 : decode cX1_pass 52 = .ok (.aload_n 1, 1) := by decide +kernel
theorem dX1_pass_53 : decode cX1_pass 53 = .ok (.invokevirtual 104, 3) := by decide +kernel
theorem dX1_pass_56 : decode cX1_pass 56 = .ok (.return_, 1) := by decide +kernel
theorem dX1_handOn_0 : decode cX1_handOn 0 = .ok (.iconst 0, 1) := by decide +kernel
theorem dX1_handOn_1 : decode cX1_handOn 1 = .ok (.istore_n 2, 1) := by decide +kernel
theorem dX1_handOn_2 : decode cX1_handOn 2 = .ok (.iload_n 2, 1) := by decide +kernel
theorem dX1_handOn_3 : decode cX1_handOn 3 = .ok (.aload_n 0, 1) := by decide +kernel
theorem dX1_handOn_4 : decode cX1_handOn 4 = .ok (.getfield 21, 3) := by decide +kernel
theorem dX1_handOn_7 : decode cX1_handOn 7 = .ok (.getfield 43, 3) := by decide +kernel
theorem dX1_handOn_10 : decode cX1_handOn 10 = .ok (.if_icmp .ge 95, 3) := by decide +kernel
theorem dX1_handOn_13 : decode cX1_handOn 13 = .ok (.aload_n 0, 1) := by decide +kernel
theorem dX1_handOn_14 : decode cX1_handOn 14 = .ok (.getfield 21, 3) := by decide +kernel
theorem dX1_handOn_17 : decode cX1_handOn 17 = .ok (.getfield 107, 3) := by decide +kernel
theorem dX1_handOn_20 : decode cX1_handOn 20 = .ok (.iload_n 2, 1) := by decide +kernel
theorem dX1_handOn_21 : decode cX1_handOn 21 = .ok (.iaload, 1) := by decide +kernel
theorem dX1_handOn_22 : decode cX1_handOn 22 = .ok (.istore_n 3, 1) := by decide +kernel
theorem dX1_handOn_23 : decode cX1_handOn 23 = .ok (.aload_n 0, 1) := by decide +kernel
theorem dX1_handOn_24 : decode cX1_handOn 24 = .ok (.getfield 21, 3) := by decide +kernel
theorem dX1_handOn_27 : decode cX1_handOn 27 = .ok (.iload_n 2, 1) := by decide +kernel
theorem dX1_handOn_28 : decode cX1_handOn 28 = .ok (.invokevirtual 81, 3) := by decide +kernel
theorem dX1_handOn_31 : decode cX1_handOn 31 = .ok (.ifCond .eq 68, 3) := by decide +kernel
theorem dX1_handOn_34 : decode cX1_handOn 34 = .ok (.iload_n 3, 1) := by decide +kernel
theorem dX1_handOn_35 : decode cX1_handOn 35 = .ok (.iconst (-1), 1) := by decide +kernel
theorem dX1_handOn_36 : decode cX1_handOn 36 = .ok (.if_icmp .eq 63, 3) := by decide +kernel
theorem dX1_handOn_39 : decode cX1_handOn 39 = .ok (.aload_n 0, 1) := by decide +kernel
theorem dX1_handOn_40 : decode cX1_handOn 40 = .ok (.getfield 21, 3) := by decide +kernel
theorem dX1_handOn_43 : decode cX1_handOn 43 = .ok (.getfield 110, 3) := by decide +kernel
theorem dX1_handOn_46 : decode cX1_handOn 46 = .ok (.iload_n 2, 1) := by decide +kernel
theorem dX1_handOn_47 : decode cX1_handOn 47 = .ok (.iaload, 1) := by decide +kernel
theorem dX1_handOn_48 : decode cX1_handOn 48 = .ok (.aload_n 0, 1) := by decide +kernel
theorem dX1_handOn_49 : decode cX1_handOn 49 = .ok (.getfield 35, 3) := by decide +kernel
theorem dX1_handOn_52 : decode cX1_handOn 52 = .ok (.if_icmp .ne 47, 3) := by decide +kernel
theorem dX1_handOn_55 : decode cX1_handOn 55 = .ok (.aload_n 0, 1) := by decide +kernel
theorem dX1_handOn_56 : decode cX1_handOn 56 = .ok (.getfield 12, 3) := by decide +kernel
theorem dX1_handOn_59 : decode cX1_handOn 59 = .ok (.aload_n 0, 1) := by decide +kernel
theorem dX1_handOn_60 : decode cX1_handOn 60 = .ok (.getfield 21, 3) := by decide +kernel
theorem dX1_handOn_63 : decode cX1_handOn 63 = .ok (.getfield 113, 3) := by decide +kernel
theorem dX1_handOn_66 : decode cX1_handOn 66 = .ok (.iload_n 2, 1) := by decide +kernel
theorem dX1_handOn_67 : decode cX1_handOn 67 = .ok (.iaload, 1) := by decide +kernel
theorem dX1_handOn_68 : decode cX1_handOn 68 = .ok (.invokevirtual 70, 3) := by decide +kernel
theorem dX1_handOn_71 : decode cX1_handOn 71 = .ok (.ifCond .eq 28, 3) := by decide +kernel
theorem dX1_handOn_74 : decode cX1_handOn 74 = .ok (.aload_n 0, 1) := by decide +kernel
theorem dX1_handOn_75 : decode cX1_handOn 75 = .ok (.getfield 12, 3) := by decide +kernel
theorem dX1_handOn_78 : decode cX1_handOn 78 = .ok (.iload_n 3, 1) := by decide +kernel
theorem dX1_handOn_79 : decode cX1_handOn 79 = .ok (.invokevirtual 70, 3) := by decide +kernel
theorem dX1_handOn_82 : decode cX1_handOn 82 = .ok (.ifCond .eq 17, 3) := by decide +kernel
theorem dX1_handOn_85 : decode cX1_handOn 85 = .ok (.aload_n 0, 1) := by decide +kernel
theorem dX1_handOn_86 : decode cX1_handOn 86 = .ok (.getfield 21, 3) := by decide +kernel
theorem dX1_handOn_89 : decode cX1_handOn 89 = .ok (.iload_n 2, 1) := by decide +kernel
theorem dX1_handOn_90 : decode cX1_handOn 90 = .ok (.iload_n 3, 1) := by decide +kernel
theorem dX1_handOn_91 : decode cX1_handOn 91 = .ok (.aload_n 1, 1) := by decide +kernel
theorem dX1_handOn_92 : decode cX1_handOn 92 = .ok (.aload_n 0, 1) := by decide +kernel
theorem dX1_handOn_93 : decode cX1_handOn 93 = .ok (.getfield 35, 3) := by decide +kernel
theorem dX1_handOn_96 : decode cX1_handOn 96 = .ok (.invokevirtual 77, 3) := by decide +kernel
theorem dX1_handOn_99 : decode cX1_handOn 99 = .ok (.iinc 2 1, 3) := by decide +kernel
theorem dX1_handOn_102 : decode cX1_handOn 102 = .ok (.goto (-100), 3) := by decide +kernel
theorem dX1_handOn_105 : decode cX1_handOn 105 = .ok (.return_, 1) := by decide +kernel
theorem dX1_loseThings_0 : decode cX1_loseThings 0 = .ok (.iconst 0, 1) := by decide +kernel
theorem dX1_loseThings_1 : decode cX1_loseThings 1 = .ok (.istore_n 1, 1) := by decide +kernel
theorem dX1_loseThings_2 : decode cX1_loseThings 2 = .ok (.iload_n 1, 1) := by decide +kernel
theorem dX1_loseThings_3 : decode cX1_loseThings 3 = .ok (.aload_n 0, 1) := by decide +kernel
theorem dX1_loseThings_4 : decode cX1_loseThings 4 = .ok (.getfield 21, 3) := by decide +kernel
theorem dX1_loseThings_7 : decode cX1_loseThings 7 = .ok (.getfield 43, 3) := by decide +kernel
theorem dX1_loseThings_10 : decode cX1_loseThings 10 = .ok (.if_icmp .ge 53, 3) := by decide +kernel
theorem dX1_loseThings_13 : decode cX1_loseThings 13 = .ok (.aload_n 0, 1) := by decide +kernel
theorem dX1_loseThings_14 : decode cX1_loseThings 14 = .ok (.getfield 21, 3) := by decide +kernel
theorem dX1_loseThings_17 : decode cX1_loseThings 17 = .ok (.iload_n 1, 1) := by decide +kernel
theorem dX1_loseThings_18 : decode cX1_loseThings 18 = .ok (.invokevirtual 81, 3) := by decide +kernel
theorem dX1_loseThings_21 : decode cX1_loseThings 21 = .ok (.ifCond .eq 36, 3) := by decide +kernel
theorem dX1_loseThings_24 : decode cX1_loseThings 24 = .ok (.aload_n 0, 1) := by decide +kernel
theorem dX1_loseThings_25 : decode cX1_loseThings 25 = .ok (.getfield 12, 3) := by decide +kernel
theorem dX1_loseThings_28 : decode cX1_loseThings 28 = .ok (.aload_n 0, 1) := by decide +kernel
theorem dX1_loseThings_29 : decode cX1_loseThings 29 = .ok (.getfield 21, 3) := by decide +kernel
theorem dX1_loseThings_32 : decode cX1_loseThings 32 = .ok (.getfield 113, 3) := by decide +kernel
theorem dX1_loseThings_35 : decode cX1_loseThings 35 = .ok (.iload_n 1, 1) := by decide +kernel
theorem dX1_loseThings_36 : decode cX1_loseThings 36 = .ok (.iaload, 1) := by decide +kernel
theorem dX1_loseThings_37 : decode cX1_loseThings 37 = .ok (.invokevirtual 70, 3) := by decide +kernel
theorem dX1_loseThings_40 : decode cX1_loseThings 40 = .ok (.ifCond .ne 17, 3) := by decide +kernel
theorem dX1_loseThings_43 : decode cX1_loseThings 43 = .ok (.aload_n 0, 1) := by decide +kernel
theorem dX1_loseThings_44 : decode cX1_loseThings 44 = .ok (.getfield 21, 3) := by decide +kernel
theorem dX1_loseThings_47 : decode cX1_loseThings 47 = .ok (.iload_n 1, 1) := by decide +kernel
theorem dX1_loseThings_48 : decode cX1_loseThings 48 = .ok (.bipush (-2), 2) := by decide +kernel
theorem dX1_loseThings_50 : decode cX1_loseThings 50 = .ok (.aload_n 0, 1) := by decide +kernel
theorem dX1_loseThings_51 : decode cX1_loseThings 51 = .ok (.getfield 35, 3) := by decide +kernel
theorem dX1_loseThings_54 : decode cX1_loseThings 54 = .ok (.invokevirtual 116, 3) := by decide +kernel
theorem dX1_loseThings_57 : decode cX1_loseThings 57 = .ok (.iinc 1 1, 3) := by decide +kernel
theorem dX1_loseThings_60 : decode cX1_loseThings 60 = .ok (.goto (-58), 3) := by decide +kernel
theorem dX1_loseThings_63 : decode cX1_loseThings 63 = .ok (.return_, 1) := by decide +kernel
theorem dX1_chooseAnew_0 : decode cX1_chooseAnew 0 = .ok (.iconst 0, 1) := by decide +kernel
theorem dX1_chooseAnew_1 : decode cX1_chooseAnew 1 = .ok (.istore_n 2, 1) := by decide +kernel
theorem dX1_chooseAnew_2 : decode cX1_chooseAnew 2 = .ok (.iconst 0, 1) := by decide +kernel
theorem dX1_chooseAnew_3 : decode cX1_chooseAnew 3 = .ok (.istore_n 3, 1) := by decide +kernel
theorem dX1_chooseAnew_4 : decode cX1_chooseAnew 4 = .ok (.iload_n 3, 1) := by decide +kernel
theorem dX1_chooseAnew_5 : decode cX1_chooseAnew 5 = .ok (.aload_n 0, 1) := by decide +kernel
theorem dX1_chooseAnew_6 : decode cX1_chooseAnew 6 = .ok (.getfield 21, 3) := by decide +kernel
theorem dX1_chooseAnew_9 : decode cX1_chooseAnew 9 = .ok (.getfield 43, 3) := by decide +kernel
theorem dX1_chooseAnew_12 : decode cX1_chooseAnew 12 = .ok (.if_icmp .ge 66, 3) := by decide +kernel
theorem dX1_chooseAnew_15 : decode cX1_chooseAnew 15 = .ok (.aload_n 0, 1) := by decide +kernel
theorem dX1_chooseAnew_16 : decode cX1_chooseAnew 16 = .ok (.getfield 21, 3) := by decide +kernel
theorem dX1_chooseAnew_19 : decode cX1_chooseAnew 19 = .ok (.getfield 107, 3) := by decide +kernel
theorem dX1_chooseAnew_22 : decode cX1_chooseAnew 22 = .ok (.iload_n 3, 1) := by decide +kernel
theorem dX1_chooseAnew_23 : decode cX1_chooseAnew 23 = .ok (.iaload, 1) := by decide +kernel
theorem dX1_chooseAnew_24 : decode cX1_chooseAnew 24 = .ok (.istore 4, 2) := by decide +kernel
theorem dX1_chooseAnew_26 : decode cX1_chooseAnew 26 = .ok (.aload_n 0, 1) := by decide +kernel
theorem dX1_chooseAnew_27 : decode cX1_chooseAnew 27 = .ok (.getfield 21, 3) := by decide +kernel
theorem dX1_chooseAnew_30 : decode cX1_chooseAnew 30 = .ok (.iload_n 3, 1) := by decide +kernel
theorem dX1_chooseAnew_31 : decode cX1_chooseAnew 31 = .ok (.invokevirtual 81, 3) := by decide +kernel
theorem dX1_chooseAnew_34 : decode cX1_chooseAnew 34 = .ok (.ifCond .eq 38, 3) := by decide +kernel
theorem dX1_chooseAnew_37 : decode cX1_chooseAnew 37 = .ok (.iload 4, 2) := by decide +kernel
theorem dX1_chooseAnew_39 : decode cX1_chooseAnew 39 = .ok (.iconst (-1), 1) := by decide +kernel
theorem dX1_chooseAnew_40 : decode cX1_chooseAnew 40 = .ok (.if_icmp .eq 15, 3) := by decide +kernel
theorem dX1_chooseAnew_43 : decode cX1_chooseAnew 43 = .ok (.aload_n 0, 1) := by decide +kernel
theorem dX1_chooseAnew_44 : decode cX1_chooseAnew 44 = .ok (.getfield 12, 3) := by decide +kernel
theorem dX1_chooseAnew_47 : decode cX1_chooseAnew 47 = .ok (.iload 4, 2) := by decide +kernel
theorem dX1_chooseAnew_49 : decode cX1_chooseAnew 49 = .ok (.invokevirtual 70, 3) := by decide +kernel
theorem dX1_chooseAnew_52 : decode cX1_chooseAnew 52 = .ok (.ifCond .ne 20, 3) := by decide +kernel
theorem dX1_chooseAnew_55 : decode cX1_chooseAnew 55 = .ok (.iload_n 2, 1) := by decide +kernel
theorem dX1_chooseAnew_56 : decode cX1_chooseAnew 56 = .ok (.ifCond .ne 10, 3) := by decide +kernel
theorem dX1_chooseAnew_59 : decode cX1_chooseAnew 59 = .ok (.aload_n 0, 1) := by decide +kernel
theorem dX1_chooseAnew_60 : decode cX1_chooseAnew 60 = .ok (.aload_n 1, 1) := by decide +kernel
theorem dX1_chooseAnew_61 : decode cX1_chooseAnew 61 = .ok (.invokevirtual 84, 3) := by decide +kernel
theorem dX1_chooseAnew_64 : decode cX1_chooseAnew 64 = .ok (.iconst 1, 1) := by decide +kernel
theorem dX1_chooseAnew_65 : decode cX1_chooseAnew 65 = .ok (.istore_n 2, 1) := by decide +kernel
theorem dX1_chooseAnew_66 : decode cX1_chooseAnew 66 = .ok (.aload_n 0, 1) := by decide +kernel
theorem dX1_chooseAnew_67 : decode cX1_chooseAnew 67 = .ok (.aload_n 1, 1) := by decide +kernel
theorem dX1_chooseAnew_68 : decode cX1_chooseAnew 68 = .ok (.iload_n 3, 1) := by decide +kernel
theorem dX1_chooseAnew_69 : decode cX1_chooseAnew 69 = .ok (.invokevirtual 87, 3) := by decide +kernel
theorem dX1_chooseAnew_72 : decode cX1_chooseAnew 72 = .ok (.iinc 3 1, 3) := by decide +kernel
theorem dX1_chooseAnew_75 : decode cX1_chooseAnew 75 = .ok (.goto (-71), 3) := by decide +kernel
theorem dX1_chooseAnew_78 : decode cX1_chooseAnew 78 = .ok (.return_, 1) := by decide +kernel
theorem dX1_measure_0 : decode cX1_measure 0 = .ok (.aload_n 0, 1) := by decide +kernel
theorem dX1_measure_1 : decode cX1_measure 1 = .ok (.getfield 32, 3) := by decide +kernel
theorem dX1_measure_4 : decode cX1_measure 4 = .ok (.ldc 120, 2) := by decide +kernel
theorem dX1_measure_6 : decode cX1_measure 6 = .ok (.invokestatic 121, 3) := by decide +kernel
theorem dX1_measure_9 : decode cX1_measure 9 = .ok (.aload_n 1, 1) := by decide +kernel
theorem dX1_measure_10 : decode cX1_measure 10 = .ok (.aload_n 1, 1) := by decide +kernel
theorem dX1_measure_11 : decode cX1_measure 11 = .ok (.getfield 127, 3) := by decide +kernel
theorem dX1_measure_14 : decode cX1_measure 14 = .ok (.invokevirtual 66, 3) := by decide +kernel
theorem dX1_measure_17 : decode cX1_measure 17 = .ok (.ifCond .eq 17, 3) := by decide +kernel
theorem dX1_measure_20 : decode cX1_measure 20 = .ok (.aload_n 0, 1) := by decide +kernel
theorem dX1_measure_21 : decode cX1_measure 21 = .ok (.getfield 12, 3) := by decide +kernel
theorem dX1_measure_24 : decode cX1_measure 24 = .ok (.aload_n 1, 1) := by decide +kernel
theorem dX1_measure_25 : decode cX1_measure 25 = .ok (.getfield 127, 3) := by decide +kernel
theorem dX1_measure_28 : decode cX1_measure 28 = .ok (.invokevirtual 70, 3) := by decide +kernel
theorem dX1_measure_31 : decode cX1_measure 31 = .ok (.ifCond .ne 4, 3) := by decide +kernel
theorem dX1_measure_34 : decode cX1_measure 34 = .ok (.return_, 1) := by decide +kernel
theorem dX1_measure_35 : decode cX1_measure 35 = .ok (.aload_n 0, 1) := by decide +kernel
theorem dX1_measure_36 : decode cX1_measure 36 = .ok (.getfield 32, 3) := by decide +kernel
theorem dX1_measure_39 : decode cX1_measure 39 = .ok (.aload_n 1, 1) := by decide +kernel
theorem dX1_measure_40 : decode cX1_measure 40 = .ok (.getfield 127, 3) := by decide +kernel
theorem dX1_measure_43 : decode cX1_measure 43 = .ok (.iconst 0, 1) := by decide +kernel
theorem dX1_measure_44 : decode cX1_measure 44 = .ok (.iastore, 1) := by decide +kernel
theorem dX1_measure_45 : decode cX1_measure 45 = .ok (.iconst 1, 1) := by decide +kernel
theorem dX1_measure_46 : decode cX1_measure 46 = .ok (.istore_n 2, 1) := by decide +kernel
theorem dX1_measure_47 : decode cX1_measure 47 = .ok (.iconst 0, 1) := by decide +kernel
theorem dX1_measure_48 : decode cX1_measure 48 = .ok (.istore_n 3, 1) := by decide +kernel
theorem dX1_measure_49 : decode cX1_measure 49 = .ok (.iload_n 3, 1) := by decide +kernel
theorem dX1_measure_50 : decode cX1_measure 50 = .ok (.bipush 12, 2) := by decide +kernel
theorem dX1_measure_52 : decode cX1_measure 52 = .ok (.if_icmp .ge 82, 3) := by decide +kernel
theorem dX1_measure_55 : decode cX1_measure 55 = .ok (.iload_n 2, 1) := by decide +kernel
theorem dX1_measure_56 : decode cX1_measure 56 = .ok (.ifCond .eq 78, 3) := by decide +kernel
theorem dX1_measure_59 : decode cX1_measure 59 = .ok (.iconst 0, 1) := by decide +kernel
theorem dX1_measure_60 : decode cX1_measure 60 = .ok (.istore_n 2, 1) := by decide +kernel
theorem dX1_measure_61 : decode cX1_measure 61 = .ok (.iconst 0, 1) := by decide +kernel
theorem dX1_measure_62 : decode cX1_measure 62 = .ok (.istore 4, 2) := by decide +kernel
theorem dX1_measure_64 : decode cX1_measure 64 = .ok (.iload 4, 2) := by decide +kernel
theorem dX1_measure_66 : decode cX1_measure 66 = .ok (.aload_n 1, 1) := by decide +kernel
theorem dX1_measure_67 : decode cX1_measure 67 = .ok (.getfield 130, 3) := by decide +kernel
theorem dX1_measure_70 : decode cX1_measure 70 = .ok (.if_icmp .ge 58, 3) := by decide +kernel
theorem dX1_measure_73 : decode cX1_measure 73 = .ok (.aload_n 0, 1) := by decide +kernel
theorem dX1_measure_74 : decode cX1_measure 74 = .ok (.getfield 12, 3) := by decide +kernel
theorem dX1_measure_77 : decode cX1_measure 77 = .ok (.iload 4, 2) := by decide +kernel
theorem dX1_measure_79 : decode cX1_measure 79 = .ok (.invokevirtual 70, 3) := by decide +kernel
theorem dX1_measure_82 : decode cX1_measure 82 = .ok (.ifCond .eq 13, 3) := by decide +kernel
theorem dX1_measure_85 : decode cX1_measure 85 = .ok (.aload_n 0, 1) := by decide +kernel
theorem dX1_measure_86 : decode cX1_measure 86 = .ok (.aload_n 1, 1) := by decide +kernel
theorem dX1_measure_87 : decode cX1_measure 87 = .ok (.iload 4, 2) := by decide +kernel
theorem dX1_measure_89 : decode cX1_measure 89 = .ok (.invokevirtual 133, 3) := by decide +kernel
theorem dX1_measure_92 : decode cX1_measure 92 = .ok (.goto 5, 3) := by decide +kernel
theorem dX1_measure_95 : decode cX1_measure 95 = .ok (.ldc 120, 2) := by decide +kernel
theorem dX1_measure_97 : decode cX1_measure 97 = .ok (.istore 5, 2) := by decide +kernel
theorem dX1_measure_99 : decode cX1_measure 99 = .ok (.iload 5, 2) := by decide +kernel
theorem dX1_measure_101 : decode cX1_measure 101 = .ok (.aload_n 0, 1) := by decide +kernel
theorem dX1_measure_102 : decode cX1_measure 102 = .ok (.getfield 32, 3) := by decide +kernel
theorem dX1_measure_105 : decode cX1_measure 105 = .ok (.iload 4, 2) := by decide +kernel
theorem dX1_measure_107 : decode cX1_measure 107 = .ok (.iaload, 1) := by decide +kernel
theorem dX1_measure_108 : decode cX1_measure 108 = .ok (.if_icmp .ge 14, 3) := by decide +kernel
theorem dX1_measure_111 : decode cX1_measure 111 = .ok (.aload_n 0, 1) := by decide +kernel
theorem dX1_measure_112 : decode cX1_measure 112 = .ok (.getfield 32, 3) := by decide +kernel
theorem dX1_measure_115 : decode cX1_measure 115 = .ok (.iload 4, 2) := by decide +kernel
theorem dX1_measure_117 : decode cX1_measure 117 = .ok (.iload 5, 2) := by decide +kernel
theorem dX1_measure_119 : decode cX1_measure 119 = .ok (.iastore, 1) := by decide +kernel
theorem dX1_measure_120 : decode cX1_measure 120 = .ok (.iconst 1, 1) := by decide +kernel
theorem dX1_measure_121 : decode cX1_measure 121 = .ok (.istore_n 2, 1) := by decide +kernel
theorem dX1_measure_122 : decode cX1_measure 122 = .ok (.iinc 4 1, 3) := by decide +kernel
theorem dX1_measure_125 : decode cX1_measure 125 = .ok (.goto (-61), 3) := by decide +kernel
theorem dX1_measure_128 : decode cX1_measure 128 = .ok (.iinc 3 1, 3) := by decide +kernel
theorem dX1_measure_131 : decode cX1_measure 131 = .ok (.goto (-82), 3) := by decide +kernel
theorem dX1_measure_134 : decode cX1_measure 134 = .ok (.return_, 1) := by decide +kernel
theorem dX1_leastBy_0 : decode cX1_leastBy 0 = .ok (.ldc 120, 2) := by decide +kernel
theorem dX1_leastBy_2 : decode cX1_leastBy 2 = .ok (.istore_n 3, 1) := by decide +kernel
theorem dX1_leastBy_3 : decode cX1_leastBy 3 = .ok (.iconst 0, 1) := by decide +kernel
theorem dX1_leastBy_4 : decode cX1_leastBy 4 = .ok (.istore 4, 2) := by decide +kernel
theorem dX1_leastBy_6 : decode cX1_leastBy 6 = .ok (.iload 4, 2) := by decide +kernel
theorem dX1_leastBy_8 : decode cX1_leastBy 8 = .ok (.aload_n 1, 1) := by decide +kernel
theorem dX1_leastBy_9 : decode cX1_leastBy 9 = .ok (.getfield 130, 3) := by decide +kernel
theorem dX1_leastBy_12 : decode cX1_leastBy 12 = .ok (.if_icmp .ge 21, 3) := by decide +kernel
theorem dX1_leastBy_15 : decode cX1_leastBy 15 = .ok (.iload_n 3, 1) := by decide +kernel
theorem dX1_leastBy_16 : decode cX1_leastBy 16 = .ok (.aload_n 0, 1) := by decide +kernel
theorem dX1_leastBy_17 : decode cX1_leastBy 17 = .ok (.iload_n 2, 1) := by decide +kernel
theorem dX1_leastBy_18 : decode cX1_leastBy 18 = .ok (.iload 4, 2) := by decide +kernel
theorem dX1_leastBy_20 : decode cX1_leastBy 20 = .ok (.invokevirtual 137, 3) := by decide +kernel
theorem dX1_leastBy_23 : decode cX1_leastBy 23 = .ok (.invokestatic 141, 3) := by decide +kernel
theorem dX1_leastBy_26 : decode cX1_leastBy 26 = .ok (.istore_n 3, 1) := by decide +kernel
theorem dX1_leastBy_27 : decode cX1_leastBy 27 = .ok (.iinc 4 1, 3) := by decide +kernel
theorem dX1_leastBy_30 : decode cX1_leastBy 30 = .ok (.goto (-24), 3) := by decide +kernel
theorem dX1_leastBy_33 : decode cX1_leastBy 33 = .ok (.iload_n 3, 1) := by decide +kernel
theorem dX1_leastBy_34 : decode cX1_leastBy 34 = .ok (.ireturn, 1) := by decide +kernel
theorem dX1_by_0 : decode cX1_by 0 = .ok (.aload_n 0, 1) := by decide +kernel
theorem dX1_by_1 : decode cX1_by 1 = .ok (.getfield 25, 3) := by decide +kernel
theorem dX1_by_4 : decode cX1_by 4 = .ok (.iload_n 1, 1) := by decide +kernel
theorem dX1_by_5 : decode cX1_by 5 = .ok (.iload_n 2, 1) := by decide +kernel
theorem dX1_by_6 : decode cX1_by 6 = .ok (.invokestatic 146, 3) := by decide +kernel
theorem dX1_by_9 : decode cX1_by 9 = .ok (.iaload, 1) := by decide +kernel
theorem dX1_by_10 : decode cX1_by 10 = .ok (.istore_n 3, 1) := by decide +kernel
theorem dX1_by_11 : decode cX1_by 11 = .ok (.iload_n 3, 1) := by decide +kernel
theorem dX1_by_12 : decode cX1_by 12 = .ok (.ifCond .le 28, 3) := by decide +kernel
theorem dX1_by_15 : decode cX1_by 15 = .ok (.aload_n 0, 1) := by decide +kernel
theorem dX1_by_16 : decode cX1_by 16 = .ok (.getfield 12, 3) := by decide +kernel
theorem dX1_by_19 : decode cX1_by 19 = .ok (.getfield 149, 3) := by decide +kernel
theorem dX1_by_22 : decode cX1_by 22 = .ok (.iload_n 2, 1) := by decide +kernel
theorem dX1_by_23 : decode cX1_by 23 = .ok (.invokestatic 152, 3) := by decide +kernel
theorem dX1_by_26 : decode cX1_by 26 = .ok (.ifCond .eq 14, 3) := by decide +kernel
theorem dX1_by_29 : decode cX1_by 29 = .ok (.iload_n 3, 1) := by decide +kernel
theorem dX1_by_30 : decode cX1_by 30 = .ok (.aload_n 0, 1) := by decide +kernel
theorem dX1_by_31 : decode cX1_by 31 = .ok (.getfield 32, 3) := by decide +kernel
theorem dX1_by_34 : decode cX1_by 34 = .ok (.iload_n 2, 1) := by decide +kernel
theorem dX1_by_35 : decode cX1_by 35 = .ok (.iaload, 1) := by decide +kernel
theorem dX1_by_36 : decode cX1_by 36 = .ok (.iadd, 1) := by decide +kernel
theorem dX1_by_37 : decode cX1_by 37 = .ok (.goto 5, 3) := by decide +kernel
theorem dX1_by_40 : decode cX1_by 40 = .ok (.ldc 120, 2) := by decide +kernel
theorem dX1_by_42 : decode cX1_by 42 = .ok (.ireturn, 1) := by decide +kernel
theorem dX1_choose_0 : decode cX1_choose 0 = .ok (.aload_n 0, 1) := by decide +kernel
theorem dX1_choose_1 : decode cX1_choose 1 = .ok (.getfield 21, 3) := by decide +kernel
theorem dX1_choose_4 : decode cX1_choose 4 = .ok (.getfield 113, 3) := by decide +kernel
theorem dX1_choose_7 : decode cX1_choose 7 = .ok (.iload_n 2, 1) := by decide +kernel
theorem dX1_choose_8 : decode cX1_choose 8 = .ok (.iaload, 1) := by decide +kernel
theorem dX1_choose_9 : decode cX1_choose 9 = .ok (.istore_n 3, 1) := by decide +kernel
theorem dX1_choose_10 : decode cX1_choose 10 = .ok (.ldc 120, 2) := by decide +kernel
theorem dX1_choose_12 : decode cX1_choose 12 = .ok (.istore 4, 2) := by decide +kernel
theorem dX1_choose_14 : decode cX1_choose 14 = .ok (.aload_n 0, 1) := by decide +kernel
theorem dX1_choose_15 : decode cX1_choose 15 = .ok (.getfield 21, 3) := by decide +kernel
theorem dX1_choose_18 : decode cX1_choose 18 = .ok (.getfield 107, 3) := by decide +kernel
theorem dX1_choose_21 : decode cX1_choose 21 = .ok (.iload_n 2, 1) := by decide +kernel
theorem dX1_choose_22 : decode cX1_choose 22 = .ok (.iconst (-1), 1) := by decide +kernel
theorem dX1_choose_23 : decode cX1_choose 23 = .ok (.iastore, 1) := by decide +kernel
theorem dX1_choose_24 : decode cX1_choose 24 = .ok (.aload_n 0, 1) := by decide +kernel
theorem dX1_choose_25 : decode cX1_choose 25 = .ok (.getfield 21, 3) := by decide +kernel
theorem dX1_choose_28 : decode cX1_choose 28 = .ok (.getfield 110, 3) := by decide +kernel
theorem dX1_choose_31 : decode cX1_choose 31 = .ok (.iload_n 2, 1) := by decide +kernel
theorem dX1_choose_32 : decode cX1_choose 32 = .ok (.iconst (-1), 1) := by decide +kernel
theorem dX1_choose_33 : decode cX1_choose 33 = .ok (.iastore, 1) := by decide +kernel
theorem dX1_choose_34 : decode cX1_choose 34 = .ok (.iconst 0, 1) := by decide +kernel
theorem dX1_choose_35 : decode cX1_choose 35 = .ok (.istore 5, 2) := by decide +kernel
theorem dX1_choose_37 : decode cX1_choose 37 = .ok (.iload 5, 2) := by decide +kernel
theorem dX1_choose_39 : decode cX1_choose 39 = .ok (.aload_n 1, 1) := by decide +kernel
theorem dX1_choose_40 : decode cX1_choose 40 = .ok (.getfield 130, 3) := by decide +kernel
theorem dX1_choose_43 : decode cX1_choose 43 = .ok (.if_icmp .ge 66, 3) := by decide +kernel
theorem dX1_choose_46 : decode cX1_choose 46 = .ok (.aload_n 0, 1) := by decide +kernel
theorem dX1_choose_47 : decode cX1_choose 47 = .ok (.iload_n 3, 1) := by decide +kernel
theorem dX1_choose_48 : decode cX1_choose 48 = .ok (.iload 5, 2) := by decide +kernel
theorem dX1_choose_50 : decode cX1_choose 50 = .ok (.invokevirtual 137, 3) := by decide +kernel
theorem dX1_choose_53 : decode cX1_choose 53 = .ok (.iload 4, 2) := by decide +kernel
theorem dX1_choose_55 : decode cX1_choose 55 = .ok (.if_icmp .ge 48, 3) := by decide +kernel
theorem dX1_choose_58 : decode cX1_choose 58 = .ok (.aload_n 0, 1) := by decide +kernel
theorem dX1_choose_59 : decode cX1_choose 59 = .ok (.iload_n 3, 1) := by decide +kernel
theorem dX1_choose_60 : decode cX1_choose 60 = .ok (.iload 5, 2) := by decide +kernel
theorem dX1_choose_62 : decode cX1_choose 62 = .ok (.invokevirtual 137, 3) := by decide +kernel
theorem dX1_choose_65 : decode cX1_choose 65 = .ok (.istore 4, 2) := by decide +kernel
theorem dX1_choose_67 : decode cX1_choose 67 = .ok (.aload_n 0, 1) := by decide +kernel
theorem dX1_choose_68 : decode cX1_choose 68 = .ok (.getfield 21, 3) := by decide +kernel
theorem dX1_choose_71 : decode cX1_choose 71 = .ok (.getfield 107, 3) := by decide +kernel
theorem dX1_choose_74 : decode cX1_choose 74 = .ok (.iload_n 2, 1) := by decide +kernel
theorem dX1_choose_75 : decode cX1_choose 75 = .ok (.iload 5, 2) := by decide +kernel
theorem dX1_choose_77 : decode cX1_choose 77 = .ok (.iastore, 1) := by decide +kernel
theorem dX1_choose_78 : decode cX1_choose 78 = .ok (.aload_n 0, 1) := by decide +kernel
theorem dX1_choose_79 : decode cX1_choose 79 = .ok (.getfield 21, 3) := by decide +kernel
theorem dX1_choose_82 : decode cX1_choose 82 = .ok (.getfield 110, 3) := by decide +kernel
theorem dX1_choose_85 : decode cX1_choose 85 = .ok (.iload_n 2, 1) := by decide +kernel
theorem dX1_choose_86 : decode cX1_choose 86 = .ok (.aload_n 0, 1) := by decide +kernel
theorem dX1_choose_87 : decode cX1_choose 87 = .ok (.getfield 35, 3) := by decide +kernel
theorem dX1_choose_90 : decode cX1_choose 90 = .ok (.aload_n 0, 1) := by decide +kernel
theorem dX1_choose_91 : decode cX1_choose 91 = .ok (.getfield 25, 3) := by decide +kernel
theorem dX1_choose_94 : decode cX1_choose 94 = .ok (.iload_n 3, 1) := by decide +kernel
theorem dX1_choose_95 : decode cX1_choose 95 = .ok (.iload 5, 2) := by decide +kernel
theorem dX1_choose_97 : decode cX1_choose 97 = .ok (.invokestatic 146, 3) := by decide +kernel
theorem dX1_choose_100 : decode cX1_choose 100 = .ok (.iaload, 1) := by decide +kernel
theorem dX1_choose_101 : decode cX1_choose 101 = .ok (.iadd, 1) := by decide +kernel
theorem dX1_choose_102 : decode cX1_choose 102 = .ok (.iastore, 1) := by decide +kernel
theorem dX1_choose_103 : decode cX1_choose 103 = .ok (.iinc 5 1, 3) := by decide +kernel
theorem dX1_choose_106 : decode cX1_choose 106 = .ok (.goto (-69), 3) := by decide +kernel
theorem dX1_choose_109 : decode cX1_choose 109 = .ok (.return_, 1) := by decide +kernel
theorem dX1_canMeet_0 : decode cX1_canMeet 0 = .ok (.iload_n 1, 1) := by decide +kernel
theorem dX1_canMeet_1 : decode cX1_canMeet 1 = .ok (.iload_n 2, 1) := by decide +kernel
theorem dX1_canMeet_2 : decode cX1_canMeet 2 = .ok (.if_icmp .eq 89, 3) := by decide +kernel
theorem dX1_canMeet_5 : decode cX1_canMeet 5 = .ok (.iload_n 1, 1) := by decide +kernel
theorem dX1_canMeet_6 : decode cX1_canMeet 6 = .ok (.iload_n 3, 1) := by decide +kernel
theorem dX1_canMeet_7 : decode cX1_canMeet 7 = .ok (.if_icmp .eq 84, 3) := by decide +kernel
theorem dX1_canMeet_10 : decode cX1_canMeet 10 = .ok (.iload_n 2, 1) := by decide +kernel
theorem dX1_canMeet_11 : decode cX1_canMeet 11 = .ok (.iload_n 3, 1) := by decide +kernel
theorem dX1_canMeet_12 : decode cX1_canMeet 12 = .ok (.if_icmp .eq 79, 3) := by decide +kernel
theorem dX1_canMeet_15 : decode cX1_canMeet 15 = .ok (.aload_n 0, 1) := by decide +kernel
theorem dX1_canMeet_16 : decode cX1_canMeet 16 = .ok (.getfield 25, 3) := by decide +kernel
theorem dX1_canMeet_19 : decode cX1_canMeet 19 = .ok (.iload_n 1, 1) := by decide +kernel
theorem dX1_canMeet_20 : decode cX1_canMeet 20 = .ok (.iload_n 2, 1) := by decide +kernel
theorem dX1_canMeet_21 : decode cX1_canMeet 21 = .ok (.invokestatic 146, 3) := by decide +kernel
theorem dX1_canMeet_24 : decode cX1_canMeet 24 = .ok (.iaload, 1) := by decide +kernel
theorem dX1_canMeet_25 : decode cX1_canMeet 25 = .ok (.ifCond .ne 66, 3) := by decide +kernel
theorem dX1_canMeet_28 : decode cX1_canMeet 28 = .ok (.aload_n 0, 1) := by decide +kernel
theorem dX1_canMeet_29 : decode cX1_canMeet 29 = .ok (.getfield 12, 3) := by decide +kernel
theorem dX1_canMeet_32 : decode cX1_canMeet 32 = .ok (.iload_n 1, 1) := by decide +kernel
theorem dX1_canMeet_33 : decode cX1_canMeet 33 = .ok (.invokevirtual 70, 3) := by decide +kernel
theorem dX1_canMeet_36 : decode cX1_canMeet 36 = .ok (.ifCond .eq 55, 3) := by decide +kernel
theorem dX1_canMeet_39 : decode cX1_canMeet 39 = .ok (.aload_n 0, 1) := by decide +kernel
theorem dX1_canMeet_40 : decode cX1_canMeet 40 = .ok (.getfield 12, 3) := by decide +kernel
theorem dX1_canMeet_43 : decode cX1_canMeet 43 = .ok (.iload_n 2, 1) := by decide +kernel
theorem dX1_canMeet_44 : decode cX1_canMeet 44 = .ok (.invokevirtual 70, 3) := by decide +kernel
theorem dX1_canMeet_47 : decode cX1_canMeet 47 = .ok (.ifCond .eq 44, 3) := by decide +kernel
theorem dX1_canMeet_50 : decode cX1_canMeet 50 = .ok (.aload_n 0, 1) := by decide +kernel
theorem dX1_canMeet_51 : decode cX1_canMeet 51 = .ok (.getfield 12, 3) := by decide +kernel
theorem dX1_canMeet_54 : decode cX1_canMeet 54 = .ok (.iload_n 3, 1) := by decide +kernel
theorem dX1_canMeet_55 : decode cX1_canMeet 55 = .ok (.invokevirtual 70, 3) := by decide +kernel
theorem dX1_canMeet_58 : decode cX1_canMeet 58 = .ok (.ifCond .eq 33, 3) := by decide +kernel
theorem dX1_canMeet_61 : decode cX1_canMeet 61 = .ok (.aload_n 0, 1) := by decide +kernel
theorem dX1_canMeet_62 : decode cX1_canMeet 62 = .ok (.getfield 29, 3) := by decide +kernel
theorem dX1_canMeet_65 : decode cX1_canMeet 65 = .ok (.iload_n 3, 1) := by decide +kernel
theorem dX1_canMeet_66 : decode cX1_canMeet 66 = .ok (.iaload, 1) := by decide +kernel
theorem dX1_canMeet_67 : decode cX1_canMeet 67 = .ok (.iload_n 1, 1) := by decide +kernel
theorem dX1_canMeet_68 : decode cX1_canMeet 68 = .ok (.invokestatic 152, 3) := by decide +kernel
theorem dX1_canMeet_71 : decode cX1_canMeet 71 = .ok (.ifCond .eq 20, 3) := by decide +kernel
theorem dX1_canMeet_74 : decode cX1_canMeet 74 = .ok (.aload_n 0, 1) := by decide +kernel
theorem dX1_canMeet_75 : decode cX1_canMeet 75 = .ok (.getfield 29, 3) := by decide +kernel
theorem dX1_canMeet_78 : decode cX1_canMeet 78 = .ok (.iload_n 3, 1) := by decide +kernel
theorem dX1_canMeet_79 : decode cX1_canMeet 79 = .ok (.iaload, 1) := by decide +kernel
theorem dX1_canMeet_80 : decode cX1_canMeet 80 = .ok (.iload_n 2, 1) := by decide +kernel
theorem dX1_canMeet_81 : decode cX1_canMeet 81 = .ok (.invokestatic 152, 3) := by decide +kernel
theorem dX1_canMeet_84 : decode cX1_canMeet 84 = .ok (.ifCond .eq 7, 3) := by decide +kernel
theorem dX1_canMeet_87 : decode cX1_canMeet 87 = .ok (.iconst 1, 1) := by decide +kernel
theorem dX1_canMeet_88 : decode cX1_canMeet 88 = .ok (.goto 4, 3) := by decide +kernel
theorem dX1_canMeet_91 : decode cX1_canMeet 91 = .ok (.iconst 0, 1) := by decide +kernel
theorem dX1_canMeet_92 : decode cX1_canMeet 92 = .ok (.ireturn, 1) := by decide +kernel
theorem dX1_acquaint_0 : decode cX1_acquaint 0 = .ok (.aload_n 0, 1) := by decide +kernel
theorem dX1_acquaint_1 : decode cX1_acquaint 1 = .ok (.getfield 25, 3) := by decide +kernel
theorem dX1_acquaint_4 : decode cX1_acquaint 4 = .ok (.iload_n 1, 1) := by decide +kernel
theorem dX1_acquaint_5 : decode cX1_acquaint 5 = .ok (.iload_n 2, 1) := by decide +kernel
theorem dX1_acquaint_6 : decode cX1_acquaint 6 = .ok (.invokestatic 146, 3) := by decide +kernel
theorem dX1_acquaint_9 : decode cX1_acquaint 9 = .ok (.iconst 1, 1) := by decide +kernel
theorem dX1_acquaint_10 : decode cX1_acquaint 10 = .ok (.iastore, 1) := by decide +kernel
theorem dX1_acquaint_11 : decode cX1_acquaint 11 = .ok (.aload_n 0, 1) := by decide +kernel
theorem dX1_acquaint_12 : decode cX1_acquaint 12 = .ok (.getfield 29, 3) := by decide +kernel
theorem dX1_acquaint_15 : decode cX1_acquaint 15 = .ok (.iload_n 1, 1) := by decide +kernel
theorem dX1_acquaint_16 : decode cX1_acquaint 16 = .ok (.dup2, 1) := by decide +kernel
theorem dX1_acquaint_17 : decode cX1_acquaint 17 = .ok (.iaload, 1) := by decide +kernel
theorem dX1_acquaint_18 : decode cX1_acquaint 18 = .ok (.iconst 1, 1) := by decide +kernel
theorem dX1_acquaint_19 : decode cX1_acquaint 19 = .ok (.iload_n 2, 1) := by decide +kernel
theorem dX1_acquaint_20 : decode cX1_acquaint 20 = .ok (.ishl, 1) := by decide +kernel
theorem dX1_acquaint_21 : decode cX1_acquaint 21 = .ok (.ior, 1) := by decide +kernel
theorem dX1_acquaint_22 : decode cX1_acquaint 22 = .ok (.iastore, 1) := by decide +kernel
theorem dX1_acquaint_23 : decode cX1_acquaint 23 = .ok (.aload_n 0, 1) := by decide +kernel
theorem dX1_acquaint_24 : decode cX1_acquaint 24 = .ok (.getfield 29, 3) := by decide +kernel
theorem dX1_acquaint_27 : decode cX1_acquaint 27 = .ok (.iload_n 2, 1) := by decide +kernel
theorem dX1_acquaint_28 : decode cX1_acquaint 28 = .ok (.dup2, 1) := by decide +kernel
theorem dX1_acquaint_29 : decode cX1_acquaint 29 = .ok (.iaload, 1) := by decide +kernel
theorem dX1_acquaint_30 : decode cX1_acquaint 30 = .ok (.iconst 1, 1) := by decide +kernel
theorem dX1_acquaint_31 : decode cX1_acquaint 31 = .ok (.iload_n 1, 1) := by decide +kernel
theorem dX1_acquaint_32 : decode cX1_acquaint 32 = .ok (.ishl, 1) := by decide +kernel
theorem dX1_acquaint_33 : decode cX1_acquaint 33 = .ok (.ior, 1) := by decide +kernel
theorem dX1_acquaint_34 : decode cX1_acquaint 34 = .ok (.iastore, 1) := by decide +kernel
theorem dX1_acquaint_35 : decode cX1_acquaint 35 = .ok (.return_, 1) := by decide +kernel
theorem dX1_acquaintancesFor_0 : decode cX1_acquaintancesFor 0 = .ok (.aload_n 0, 1) := by decide +kernel
theorem dX1_acquaintancesFor_1 : decode cX1_acquaintancesFor 1 = .ok (.getfield 12, 3) := by decide +kernel
theorem dX1_acquaintancesFor_4 : decode cX1_acquaintancesFor 4 = .ok (.iload_n 2, 1) := by decide +kernel
theorem dX1_acquaintancesFor_5 : decode cX1_acquaintancesFor 5 = .ok (.invokevirtual 70, 3) := by decide +kernel
theorem dX1_acquaintancesFor_8 : decode cX1_acquaintancesFor 8 = .ok (.ifCond .eq 14, 3) := by decide +kernel
theorem dX1_acquaintancesFor_11 : decode cX1_acquaintancesFor 11 = .ok (.aload_n 0, 1) := by decide +kernel
theorem dX1_acquaintancesFor_12 : decode cX1_acquaintancesFor 12 = .ok (.getfield 12, 3) := by decide +kernel
theorem dX1_acquaintancesFor_15 : decode cX1_acquaintancesFor 15 = .ok (.iload_n 3, 1) := by decide +kernel
theorem dX1_acquaintancesFor_16 : decode cX1_acquaintancesFor 16 = .ok (.invokevirtual 70, 3) := by decide +kernel
theorem dX1_acquaintancesFor_19 : decode cX1_acquaintancesFor 19 = .ok (.ifCond .ne 5, 3) := by decide +kernel
theorem dX1_acquaintancesFor_22 : decode cX1_acquaintancesFor 22 = .ok (.iconst (-1), 1) := by decide +kernel
theorem dX1_acquaintancesFor_23 : decode cX1_acquaintancesFor 23 = .ok (.ireturn, 1) := by decide +kernel
theorem dX1_acquaintancesFor_24 : decode cX1_acquaintancesFor 24 = .ok (.aload_n 0, 1) := by decide +kernel
theorem dX1_acquaintancesFor_25 : decode cX1_acquaintancesFor 25 = .ok (.getfield 25, 3) := by decide +kernel
theorem dX1_acquaintancesFor_28 : decode cX1_acquaintancesFor 28 = .ok (.iload_n 2, 1) := by decide +kernel
theorem dX1_acquaintancesFor_29 : decode cX1_acquaintancesFor 29 = .ok (.iload_n 3, 1) := by decide +kernel
theorem dX1_acquaintancesFor_30 : decode cX1_acquaintancesFor 30 = .ok (.invokestatic 146, 3) := by decide +kernel
theorem dX1_acquaintancesFor_33 : decode cX1_acquaintancesFor 33 = .ok (.iaload, 1) := by decide +kernel
theorem dX1_acquaintancesFor_34 : decode cX1_acquaintancesFor 34 = .ok (.ifCond .le 5, 3) := by decide +kernel
theorem dX1_acquaintancesFor_37 : decode cX1_acquaintancesFor 37 = .ok (.iconst 0, 1) := by decide +kernel
theorem dX1_acquaintancesFor_38 : decode cX1_acquaintancesFor 38 = .ok (.ireturn, 1) := by decide +kernel
theorem dX1_acquaintancesFor_39 : decode cX1_acquaintancesFor 39 = .ok (.iconst 0, 1) := by decide +kernel
theorem dX1_acquaintancesFor_40 : decode cX1_acquaintancesFor 40 = .ok (.istore 4, 2) := by decide +kernel
theorem dX1_acquaintancesFor_42 : decode cX1_acquaintancesFor 42 = .ok (.iload 4, 2) := by decide +kernel
theorem dX1_acquaintancesFor_44 : decode cX1_acquaintancesFor 44 = .ok (.aload_n 1, 1) := by decide +kernel
theorem dX1_acquaintancesFor_45 : decode cX1_acquaintancesFor 45 = .ok (.getfield 130, 3) := by decide +kernel
theorem dX1_acquaintancesFor_48 : decode cX1_acquaintancesFor 48 = .ok (.if_icmp .ge 22, 3) := by decide +kernel
theorem dX1_acquaintancesFor_51 : decode cX1_acquaintancesFor 51 = .ok (.aload_n 0, 1) := by decide +kernel
theorem dX1_acquaintancesFor_52 : decode cX1_acquaintancesFor 52 = .ok (.iload_n 2, 1) := by decide +kernel
theorem dX1_acquaintancesFor_53 : decode cX1_acquaintancesFor 53 = .ok (.iload_n 3, 1) := by decide +kernel
theorem dX1_acquaintancesFor_54 : decode cX1_acquaintancesFor 54 = .ok (.iload 4, 2) := by decide +kernel
theorem dX1_acquaintancesFor_56 : decode cX1_acquaintancesFor 56 = .ok (.invokevirtual 156, 3) := by decide +kernel
theorem dX1_acquaintancesFor_59 : decode cX1_acquaintancesFor 59 = .ok (.ifCond .eq 5, 3) := by decide +kernel
theorem dX1_acquaintancesFor_62 : decode cX1_acquaintancesFor 62 = .ok (.iconst 1, 1) := by decide +kernel
theorem dX1_acquaintancesFor_63 : decode cX1_acquaintancesFor 63 = .ok (.ireturn, 1) := by decide +kernel
theorem dX1_acquaintancesFor_64 : decode cX1_acquaintancesFor 64 = .ok (.iinc 4 1, 3) := by decide +kernel
theorem dX1_acquaintancesFor_67 : decode cX1_acquaintancesFor 67 = .ok (.goto (-25), 3) := by decide +kernel
theorem dX1_acquaintancesFor_70 : decode cX1_acquaintancesFor 70 = .ok (.iconst (-1), 1) := by decide +kernel
theorem dX1_acquaintancesFor_71 : decode cX1_acquaintancesFor 71 = .ok (.ireturn, 1) := by decide +kernel
theorem dX2_init_0 : decode cX2_init 0 = .ok (.aload_n 0, 1) := by decide +kernel
theorem dX2_init_1 : decode cX2_init 1 = .ok (.invokespecial 3, 3) := by decide +kernel
theorem dX2_init_4 : decode cX2_init 4 = .ok (.aload_n 0, 1) := by decide +kernel
theorem dX2_init_5 : decode cX2_init 5 = .ok (.bipush 40, 2) := by decide +kernel
theorem dX2_init_7 : decode cX2_init 7 = .ok (.newarray .int, 2) := by decide +kernel
theorem dX2_init_9 : decode cX2_init 9 = .ok (.putfield 9, 3) := by decide +kernel
theorem dX2_init_12 : decode cX2_init 12 = .ok (.aload_n 0, 1) := by decide +kernel
theorem dX2_init_13 : decode cX2_init 13 = .ok (.bipush 40, 2) := by decide +kernel
theorem dX2_init_15 : decode cX2_init 15 = .ok (.newarray .int, 2) := by decide +kernel
theorem dX2_init_17 : decode cX2_init 17 = .ok (.putfield 15, 3) := by decide +kernel
theorem dX2_init_20 : decode cX2_init 20 = .ok (.aload_n 0, 1) := by decide +kernel
theorem dX2_init_21 : decode cX2_init 21 = .ok (.bipush 40, 2) := by decide +kernel
theorem dX2_init_23 : decode cX2_init 23 = .ok (.newarray .int, 2) := by decide +kernel
theorem dX2_init_25 : decode cX2_init 25 = .ok (.putfield 18, 3) := by decide +kernel
theorem dX2_init_28 : decode cX2_init 28 = .ok (.aload_n 0, 1) := by decide +kernel
theorem dX2_init_29 : decode cX2_init 29 = .ok (.bipush 40, 2) := by decide +kernel
theorem dX2_init_31 : decode cX2_init 31 = .ok (.newarray .int, 2) := by decide +kernel
theorem dX2_init_33 : decode cX2_init 33 = .ok (.putfield 21, 3) := by decide +kernel
theorem dX2_init_36 : decode cX2_init 36 = .ok (.aload_n 0, 1) := by decide +kernel
theorem dX2_init_37 : decode cX2_init 37 = .ok (.bipush 40, 2) := by decide +kernel
theorem dX2_init_39 : decode cX2_init 39 = .ok (.newarray .int, 2) := by decide +kernel
theorem dX2_init_41 : decode cX2_init 41 = .ok (.putfield 24, 3) := by decide +kernel
theorem dX2_init_44 : decode cX2_init 44 = .ok (.return_, 1) := by decide +kernel
theorem dX2_forget_0 : decode cX2_forget 0 = .ok (.aload_n 0, 1) := by decide +kernel
theorem dX2_forget_1 : decode cX2_forget 1 = .ok (.iconst 0, 1) := by decide +kernel
theorem dX2_forget_2 : decode cX2_forget 2 = .ok (.putfield 27, 3) := by decide +kernel
theorem dX2_forget_5 : decode cX2_forget 5 = .ok (.return_, 1) := by decide +kernel
theorem dX2_tell_0 : decode cX2_tell 0 = .ok (.iload_n 3, 1) := by decide +kernel
theorem dX2_tell_1 : decode cX2_tell 1 = .ok (.ifCond .lt 18, 3) := by decide +kernel
theorem dX2_tell_4 : decode cX2_tell 4 = .ok (.iload_n 3, 1) := by decide +kernel
theorem dX2_tell_5 : decode cX2_tell 5 = .ok (.bipush 99, 2) := by decide +kernel
theorem dX2_tell_7 : decode cX2_tell 7 = .ok (.if_icmp .gt 12, 3) := by decide +kernel
theorem dX2_tell_10 : decode cX2_tell 10 = .ok (.aload_n 0, 1) := by decide +kernel
theorem dX2_tell_11 : decode cX2_tell 11 = .ok (.getfield 27, 3) := by decide +kernel
theorem dX2_tell_14 : decode cX2_tell 14 = .ok (.bipush 40, 2) := by decide +kernel
theorem dX2_tell_16 : decode cX2_tell 16 = .ok (.if_icmp .lt 5, 3) := by decide +kernel
theorem dX2_tell_19 : decode cX2_tell 19 = .ok (.iconst (-1), 1) := by decide +kernel
theorem dX2_tell_20 : decode cX2_tell 20 = .ok (.ireturn, 1) := by decide +kernel
theorem dX2_tell_21 : decode cX2_tell 21 = .ok (.aload_n 0, 1) := by decide +kernel
theorem dX2_tell_22 : decode cX2_tell 22 = .ok (.getfield 27, 3) := by decide +kernel
theorem dX2_tell_25 : decode cX2_tell 25 = .ok (.istore 4, 2) := by decide +kernel
theorem dX2_tell_27 : decode cX2_tell 27 = .ok (.aload_n 0, 1) := by decide +kernel
theorem dX2_tell_28 : decode cX2_tell 28 = .ok (.dup, 1) := by decide +kernel
theorem dX2_tell_29 : decode cX2_tell 29 = .ok (.getfield 27, 3) := by decide +kernel
theorem dX2_tell_32 : decode cX2_tell 32 = .ok (.iconst 1, 1) := by decide +kernel
theorem dX2_tell_33 : decode cX2_tell 33 = .ok (.iadd, 1) := by decide +kernel
theorem dX2_tell_34 : decode cX2_tell 34 = .ok (.putfield 27, 3) := by decide +kernel
theorem dX2_tell_37 : decode cX2_tell 37 = .ok (.aload_n 0, 1) := by decide +kernel
theorem dX2_tell_38 : decode cX2_tell 38 = .ok (.getfield 9, 3) := by decide +kernel
theorem dX2_tell_41 : decode cX2_tell 41 = .ok (.iload 4, 2) := by decide +kernel
theorem dX2_tell_43 : decode cX2_tell 43 = .ok (.iload_n 1, 1) := by decide +kernel
theorem dX2_tell_44 : decode cX2_tell 44 = .ok (.iastore, 1) := by decide +kernel
theorem dX2_tell_45 : decode cX2_tell 45 = .ok (.aload_n 0, 1) := by decide +kernel
theorem dX2_tell_46 : decode cX2_tell 46 = .ok (.getfield 15, 3) := by decide +kernel
theorem dX2_tell_49 : decode cX2_tell 49 = .ok (.iload 4, 2) := by decide +kernel
theorem dX2_tell_51 : decode cX2_tell 51 = .ok (.iload_n 2, 1) := by decide +kernel
theorem dX2_tell_52 : decode cX2_tell 52 = .ok (.iastore, 1) := by decide +kernel
theorem dX2_tell_53 : decode cX2_tell 53 = .ok (.aload_n 0, 1) := by decide +kernel
theorem dX2_tell_54 : decode cX2_tell 54 = .ok (.getfield 18, 3) := by decide +kernel
theorem dX2_tell_57 : decode cX2_tell 57 = .ok (.iload 4, 2) := by decide +kernel
theorem dX2_tell_59 : decode cX2_tell 59 = .ok (.iload_n 3, 1) := by decide +kernel
theorem dX2_tell_60 : decode cX2_tell 60 = .ok (.iastore, 1) := by decide +kernel
theorem dX2_tell_61 : decode cX2_tell 61 = .ok (.aload_n 0, 1) := by decide +kernel
theorem dX2_tell_62 : decode cX2_tell 62 = .ok (.getfield 21, 3) := by decide +kernel
theorem dX2_tell_65 : decode cX2_tell 65 = .ok (.iload 4, 2) := by decide +kernel
theorem dX2_tell_67 : decode cX2_tell 67 = .ok (.aload_n 0, 1) := by decide +kernel
theorem dX2_tell_68 : decode cX2_tell 68 = .ok (.getfield 31, 3) := by decide +kernel
theorem dX2_tell_71 : decode cX2_tell 71 = .ok (.iastore, 1) := by decide +kernel
theorem dX2_tell_72 : decode cX2_tell 72 = .ok (.aload_n 0, 1) := by decide +kernel
theorem dX2_tell_73 : decode cX2_tell 73 = .ok (.getfield 24, 3) := by decide +kernel
theorem dX2_tell_76 : decode cX2_tell 76 = .ok (.iload 4, 2) := by decide +kernel
theorem dX2_tell_78 : decode cX2_tell 78 = .ok (.iconst (-1), 1) := by decide +kernel
theorem dX2_tell_79 : decode cX2_tell 79 = .ok (.iastore, 1) := by decide +kernel
theorem dX2_tell_80 : decode cX2_tell 80 = .ok (.iload 4, 2) := by decide +kernel
theorem dX2_tell_82 : decode cX2_tell 82 = .ok (.ireturn, 1) := by decide +kernel
theorem dX2_withdraw_0 : decode cX2_withdraw 0 = .ok (.iload_n 1, 1) := by decide +kernel
theorem dX2_withdraw_1 : decode cX2_withdraw 1 = .ok (.ifCond .lt 21, 3) := by decide +kernel
theorem dX2_withdraw_4 : decode cX2_withdraw 4 = .ok (.iload_n 1, 1) := by decide +kernel
theorem dX2_withdraw_5 : decode cX2_withdraw 5 = .ok (.aload_n 0, 1) := by decide +kernel
theorem dX2_withdraw_6 : decode cX2_withdraw 6 = .ok (.getfield 27, 3) := by decide +kernel
theorem dX2_withdraw_9 : decode cX2_withdraw 9 = .ok (.if_icmp .ge 13, 3) := by decide +kernel
theorem dX2_withdraw_12 : decode cX2_withdraw 12 = .ok (.aload_n 0, 1) := by decide +kernel
theorem dX2_withdraw_13 : decode cX2_withdraw 13 = .ok (.getfield 24, 3) := by decide +kernel
theorem dX2_withdraw_16 : decode cX2_withdraw 16 = .ok (.iload_n 1, 1) := by decide +kernel
theorem dX2_withdraw_17 : decode cX2_withdraw 17 = .ok (.iaload, 1) := by decide +kernel
theorem dX2_withdraw_18 : decode cX2_withdraw 18 = .ok (.iconst (-1), 1) := by decide +kernel
theorem dX2_withdraw_19 : decode cX2_withdraw 19 = .ok (.if_icmp .eq 5, 3) := by decide +kernel
theorem dX2_withdraw_22 : decode cX2_withdraw 22 = .ok (.iconst 0, 1) := by decide +kernel
theorem dX2_withdraw_23 : decode cX2_withdraw 23 = .ok (.ireturn, 1) := by decide +kernel
theorem dX2_withdraw_24 : decode cX2_withdraw 24 = .ok (.aload_n 0, 1) := by decide +kernel
theorem dX2_withdraw_25 : decode cX2_withdraw 25 = .ok (.getfield 24, 3) := by decide +kernel
theorem dX2_withdraw_28 : decode cX2_withdraw 28 = .ok (.iload_n 1, 1) := by decide +kernel
theorem dX2_withdraw_29 : decode cX2_withdraw 29 = .ok (.aload_n 0, 1) := by decide +kernel
theorem dX2_withdraw_30 : decode cX2_withdraw 30 = .ok (.getfield 31, 3) := by decide +kernel
theorem dX2_withdraw_33 : decode cX2_withdraw 33 = .ok (.iastore, 1) := by decide +kernel
theorem dX2_withdraw_34 : decode cX2_withdraw 34 = .ok (.iconst 1, 1) := by decide +kernel
theorem dX2_withdraw_35 : decode cX2_withdraw 35 = .ok (.ireturn, 1) := by decide +kernel
theorem dX2_counts_0 : decode cX2_counts 0 = .ok (.aload_n 0, 1) := by decide +kernel
theorem dX2_counts_1 : decode cX2_counts 1 = .ok (.getfield 21, 3) := by decide +kernel
theorem dX2_counts_4 : decode cX2_counts 4 = .ok (.iload_n 1, 1) := by decide +kernel
theorem dX2_counts_5 : decode cX2_counts 5 = .ok (.iaload, 1) := by decide +kernel
theorem dX2_counts_6 : decode cX2_counts 6 = .ok (.iload_n 2, 1) := by decide +kernel
theorem dX2_counts_7 : decode cX2_counts 7 = .ok (.if_icmp .gt 27, 3) := by decide +kernel
theorem dX2_counts_10 : decode cX2_counts 10 = .ok (.aload_n 0, 1) := by decide +kernel
theorem dX2_counts_11 : decode cX2_counts 11 = .ok (.getfield 24, 3) := by decide +kernel
theorem dX2_counts_14 : decode cX2_counts 14 = .ok (.iload_n 1, 1) := by decide +kernel
theorem dX2_counts_15 : decode cX2_counts 15 = .ok (.iaload, 1) := by decide +kernel
theorem dX2_counts_16 : decode cX2_counts 16 = .ok (.iconst (-1), 1) := by decide +kernel
theorem dX2_counts_17 : decode cX2_counts 17 = .ok (.if_icmp .eq 13, 3) := by decide +kernel
theorem dX2_counts_20 : decode cX2_counts 20 = .ok (.aload_n 0, 1) := by decide +kernel
theorem dX2_counts_21 : decode cX2_counts 21 = .ok (.getfield 24, 3) := by decide +kernel
theorem dX2_counts_24 : decode cX2_counts 24 = .ok (.iload_n 1, 1) := by decide +kernel
theorem dX2_counts_25 : decode cX2_counts 25 = .ok (.iaload, 1) := by decide +kernel
theorem dX2_counts_26 : decode cX2_counts 26 = .ok (.iload_n 2, 1) := by decide +kernel
theorem dX2_counts_27 : decode cX2_counts 27 = .ok (.if_icmp .le 7, 3) := by decide +kernel
theorem dX2_counts_30 : decode cX2_counts 30 = .ok (.iconst 1, 1) := by decide +kernel
theorem dX2_counts_31 : decode cX2_counts 31 = .ok (.goto 4, 3) := by decide +kernel
theorem dX2_counts_34 : decode cX2_counts 34 = .ok (.iconst 0, 1) := by decide +kernel
theorem dX2_counts_35 : decode cX2_counts 35 = .ok (.ireturn, 1) := by decide +kernel
theorem dX2_explainedBy_0 : decode cX2_explainedBy 0 = .ok (.iconst 0, 1) := by decide +kernel
theorem dX2_explainedBy_1 : decode cX2_explainedBy 1 = .ok (.istore 4, 2) := by decide +kernel
theorem dX2_explainedBy_3 : decode cX2_explainedBy 3 = .ok (.iload 4, 2) := by decide +kernel
theorem dX2_explainedBy_5 : decode cX2_explainedBy 5 = .ok (.aload_n 0, 1) := by decide +kernel
theorem dX2_explainedBy_6 : decode cX2_explainedBy 6 = .ok (.getfield 27, 3) := by decide +kernel
theorem dX2_explainedBy_9 : decode cX2_explainedBy 9 = .ok (.if_icmp .ge 65, 3) := by decide +kernel
theorem dX2_explainedBy_12 : decode cX2_explainedBy 12 = .ok (.aload_n 0, 1) := by decide +kernel
theorem dX2_explainedBy_13 : decode cX2_explainedBy 13 = .ok (.getfield 9, 3) := by decide +kernel
theorem dX2_explainedBy_16 : decode cX2_explainedBy 16 = .ok (.iload 4, 2) := by decide +kernel
theorem dX2_explainedBy_18 : decode cX2_explainedBy 18 = .ok (.iaload, 1) := by decide +kernel
theorem dX2_explainedBy_19 : decode cX2_explainedBy 19 = .ok (.iconst (-1), 1) := by decide +kernel
theorem dX2_explainedBy_20 : decode cX2_explainedBy 20 = .ok (.if_icmp .ne 48, 3) := by decide +kernel
theorem dX2_explainedBy_23 : decode cX2_explainedBy 23 = .ok (.aload_n 0, 1) := by decide +kernel
theorem dX2_explainedBy_24 : decode cX2_explainedBy 24 = .ok (.iload 4, 2) := by decide +kernel
theorem dX2_explainedBy_26 : decode cX2_explainedBy 26 = .ok (.iload_n 3, 1) := by decide +kernel
theorem dX2_explainedBy_27 : decode cX2_explainedBy 27 = .ok (.invokevirtual 34, 3) := by decide +kernel
theorem dX2_explainedBy_30 : decode cX2_explainedBy 30 = .ok (.ifCond .eq 38, 3) := by decide +kernel
theorem dX2_explainedBy_33 : decode cX2_explainedBy 33 = .ok (.aload_n 0, 1) := by decide +kernel
theorem dX2_explainedBy_34 : decode cX2_explainedBy 34 = .ok (.getfield 18, 3) := by decide +kernel
theorem dX2_explainedBy_37 : decode cX2_explainedBy 37 = .ok (.iload 4, 2) := by decide +kernel
theorem dX2_explainedBy_39 : decode cX2_explainedBy 39 = .ok (.iaload, 1) := by decide +kernel
theorem dX2_explainedBy_40 : decode cX2_explainedBy 40 = .ok (.aload_n 0, 1) := by decide +kernel
theorem dX2_explainedBy_41 : decode cX2_explainedBy 41 = .ok (.getfield 15, 3) := by decide +kernel
theorem dX2_explainedBy_44 : decode cX2_explainedBy 44 = .ok (.iload 4, 2) := by decide +kernel
theorem dX2_explainedBy_46 : decode cX2_explainedBy 46 = .ok (.iaload, 1) := by decide +kernel
theorem dX2_explainedBy_47 : decode cX2_explainedBy 47 = .ok (.iload_n 1, 1) := by decide +kernel
theorem dX2_explainedBy_48 : decode cX2_explainedBy 48 = .ok (.iand, 1) := by decide +kernel
theorem dX2_explainedBy_49 : decode cX2_explainedBy 49 = .ok (.invokestatic 38, 3) := by decide +kernel
theorem dX2_explainedBy_52 : decode cX2_explainedBy 52 = .ok (.isub, 1) := by decide +kernel
theorem dX2_explainedBy_53 : decode cX2_explainedBy 53 = .ok (.istore 5, 2) := by decide +kernel
theorem dX2_explainedBy_55 : decode cX2_explainedBy 55 = .ok (.iload 5, 2) := by decide +kernel
theorem dX2_explainedBy_57 : decode cX2_explainedBy 57 = .ok (.ifCond .lt 9, 3) := by decide +kernel
theorem dX2_explainedBy_60 : decode cX2_explainedBy 60 = .ok (.iload 5, 2) := by decide +kernel
theorem dX2_explainedBy_62 : decode cX2_explainedBy 62 = .ok (.iload_n 2, 1) := by decide +kernel
theorem dX2_explainedBy_63 : decode cX2_explainedBy 63 = .ok (.if_icmp .le 5, 3) := by decide +kernel
theorem dX2_explainedBy_66 : decode cX2_explainedBy 66 = .ok (.iconst 0, 1) := by decide +kernel
theorem dX2_explainedBy_67 : decode cX2_explainedBy 67 = .ok (.ireturn, 1) := by decide +kernel
theorem dX2_explainedBy_68 : decode cX2_explainedBy 68 = .ok (.iinc 4 1, 3) := by decide +kernel
theorem dX2_explainedBy_71 : decode cX2_explainedBy 71 = .ok (.goto (-68), 3) := by decide +kernel
theorem dX2_explainedBy_74 : decode cX2_explainedBy 74 = .ok (.iconst 1, 1) := by decide +kernel
theorem dX2_explainedBy_75 : decode cX2_explainedBy 75 = .ok (.ireturn, 1) := by decide +kernel
theorem dX2_startOf_0 : decode cX2_startOf 0 = .ok (.bipush 100, 2) := by decide +kernel
theorem dX2_startOf_2 : decode cX2_startOf 2 = .ok (.istore 4, 2) := by decide +kernel
theorem dX2_startOf_4 : decode cX2_startOf 4 = .ok (.iconst 0, 1) := by decide +kernel
theorem dX2_startOf_5 : decode cX2_startOf 5 = .ok (.istore 5, 2) := by decide +kernel
theorem dX2_startOf_7 : decode cX2_startOf 7 = .ok (.iload 5, 2) := by decide +kernel
theorem dX2_startOf_9 : decode cX2_startOf 9 = .ok (.aload_n 0, 1) := by decide +kernel
theorem dX2_startOf_10 : decode cX2_startOf 10 = .ok (.getfield 27, 3) := by decide +kernel
theorem dX2_startOf_13 : decode cX2_startOf 13 = .ok (.if_icmp .ge 91, 3) := by decide +kernel
theorem dX2_startOf_16 : decode cX2_startOf 16 = .ok (.aload_n 0, 1) := by decide +kernel
theorem dX2_startOf_17 : decode cX2_startOf 17 = .ok (.getfield 9, 3) := by decide +kernel
theorem dX2_startOf_20 : decode cX2_startOf 20 = .ok (.iload 5, 2) := by decide +kernel
theorem dX2_startOf_22 : decode cX2_startOf 22 = .ok (.iaload, 1) := by decide +kernel
theorem dX2_startOf_23 : decode cX2_startOf 23 = .ok (.iconst (-1), 1) := by decide +kernel
theorem dX2_startOf_24 : decode cX2_startOf 24 = .ok (.if_icmp .eq 74, 3) := by decide +kernel
theorem dX2_startOf_27 : decode cX2_startOf 27 = .ok (.aload_n 0, 1) := by decide +kernel
theorem dX2_startOf_28 : decode cX2_startOf 28 = .ok (.iload 5, 2) := by decide +kernel
theorem dX2_startOf_30 : decode cX2_startOf 30 = .ok (.iload_n 3, 1) := by decide +kernel
theorem dX2_startOf_31 : decode cX2_startOf 31 = .ok (.invokevirtual 34, 3) := by decide +kernel
theorem dX2_startOf_34 : decode cX2_startOf 34 = .ok (.ifCond .eq 64, 3) := by decide +kernel
theorem dX2_startOf_37 : decode cX2_startOf 37 = .ok (.aload_n 1, 1) := by decide +kernel
theorem dX2_startOf_38 : decode cX2_startOf 38 = .ok (.getfield 44, 3) := by decide +kernel
theorem dX2_startOf_41 : decode cX2_startOf 41 = .ok (.iload_n 2, 1) := by decide +kernel
theorem dX2_startOf_42 : decode cX2_startOf 42 = .ok (.aload_n 0, 1) := by decide +kernel
theorem dX2_startOf_43 : decode cX2_startOf 43 = .ok (.getfield 9, 3) := by decide +kernel
theorem dX2_startOf_46 : decode cX2_startOf 46 = .ok (.iload 5, 2) := by decide +kernel
theorem dX2_startOf_48 : decode cX2_startOf 48 = .ok (.iaload, 1) := by decide +kernel
theorem dX2_startOf_49 : decode cX2_startOf 49 = .ok (.invokestatic 49, 3) := by decide +kernel
theorem dX2_startOf_52 : decode cX2_startOf 52 = .ok (.iaload, 1) := by decide +kernel
theorem dX2_startOf_53 : decode cX2_startOf 53 = .ok (.istore 6, 2) := by decide +kernel
theorem dX2_startOf_55 : decode cX2_startOf 55 = .ok (.aload_n 0, 1) := by decide +kernel
theorem dX2_startOf_56 : decode cX2_startOf 56 = .ok (.getfield 18, 3) := by decide +kernel
theorem dX2_startOf_59 : decode cX2_startOf 59 = .ok (.iload 5, 2) := by decide +kernel
theorem dX2_startOf_61 : decode cX2_startOf 61 = .ok (.iaload, 1) := by decide +kernel
theorem dX2_startOf_62 : decode cX2_startOf 62 = .ok (.iload 6, 2) := by decide +kernel
theorem dX2_startOf_64 : decode cX2_startOf 64 = .ok (.isub, 1) := by decide +kernel
theorem dX2_startOf_65 : decode cX2_startOf 65 = .ok (.istore 7, 2) := by decide +kernel
theorem dX2_startOf_67 : decode cX2_startOf 67 = .ok (.iload 6, 2) := by decide +kernel
theorem dX2_startOf_69 : decode cX2_startOf 69 = .ok (.iconst (-1), 1) := by decide +kernel
theorem dX2_startOf_70 : decode cX2_startOf 70 = .ok (.if_icmp .eq 22, 3) := by decide +kernel
theorem dX2_startOf_73 : decode cX2_startOf 73 = .ok (.iload 7, 2) := by decide +kernel
theorem dX2_startOf_75 : decode cX2_startOf 75 = .ok (.ifCond .lt 17, 3) := by decide +kernel
theorem dX2_startOf_78 : decode cX2_startOf 78 = .ok (.iload 4, 2) := by decide +kernel
theorem dX2_startOf_80 : decode cX2_startOf 80 = .ok (.bipush 100, 2) := by decide +kernel
theorem dX2_startOf_82 : decode cX2_startOf 82 = .ok (.if_icmp .eq 12, 3) := by decide +kernel
theorem dX2_startOf_85 : decode cX2_startOf 85 = .ok (.iload 4, 2) := by decide +kernel
theorem dX2_startOf_87 : decode cX2_startOf 87 = .ok (.iload 7, 2) := by decide +kernel
theorem dX2_startOf_89 : decode cX2_startOf 89 = .ok (.if_icmp .eq 5, 3) := by decide +kernel
theorem dX2_startOf_92 : decode cX2_startOf 92 = .ok (.iconst (-1), 1) := by decide +kernel
theorem dX2_startOf_93 : decode cX2_startOf 93 = .ok (.ireturn, 1) := by decide +kernel
theorem dX2_startOf_94 : decode cX2_startOf 94 = .ok (.iload 7, 2) := by decide +kernel
theorem dX2_startOf_96 : decode cX2_startOf 96 = .ok (.istore 4, 2) := by decide +kernel
theorem dX2_startOf_98 : decode cX2_startOf 98 = .ok (.iinc 5 1, 3) := by decide +kernel
theorem dX2_startOf_101 : decode cX2_startOf 101 = .ok (.goto (-94), 3) := by decide +kernel
theorem dX2_startOf_104 : decode cX2_startOf 104 = .ok (.iload 4, 2) := by decide +kernel
theorem dX2_startOf_106 : decode cX2_startOf 106 = .ok (.ireturn, 1) := by decide +kernel
theorem dX3_init_0 : decode cX3_init 0 = .ok (.aload_n 0, 1) := by decide +kernel
theorem dX3_init_1 : decode cX3_init 1 = .ok (.invokespecial 3, 3) := by decide +kernel
theorem dX3_init_4 : decode cX3_init 4 = .ok (.aload_n 0, 1) := by decide +kernel
theorem dX3_init_5 : decode cX3_init 5 = .ok (.sipush 144, 3) := by decide +kernel
theorem dX3_init_8 : decode cX3_init 8 = .ok (.newarray .int, 2) := by decide +kernel
theorem dX3_init_10 : decode cX3_init 10 = .ok (.putfield 9, 3) := by decide +kernel
theorem dX3_init_13 : decode cX3_init 13 = .ok (.aload_n 0, 1) := by decide +kernel
theorem dX3_init_14 : decode cX3_init 14 = .ok (.sipush 144, 3) := by decide +kernel
theorem dX3_init_17 : decode cX3_init 17 = .ok (.newarray .int, 2) := by decide +kernel
theorem dX3_init_19 : decode cX3_init 19 = .ok (.putfield 15, 3) := by decide +kernel
theorem dX3_init_22 : decode cX3_init 22 = .ok (.aload_n 0, 1) := by decide +kernel
theorem dX3_init_23 : decode cX3_init 23 = .ok (.bipush 12, 2) := by decide +kernel
theorem dX3_init_25 : decode cX3_init 25 = .ok (.newarray .int, 2) := by decide +kernel
theorem dX3_init_27 : decode cX3_init 27 = .ok (.putfield 18, 3) := by decide +kernel
theorem dX3_init_30 : decode cX3_init 30 = .ok (.aload_n 0, 1) := by decide +kernel
theorem dX3_init_31 : decode cX3_init 31 = .ok (.new 21, 3) := by decide +kernel
theorem dX3_init_34 : decode cX3_init 34 = .ok (.dup, 1) := by decide +kernel
theorem dX3_init_35 : decode cX3_init 35 = .ok (.invokespecial 23, 3) := by decide +kernel
theorem dX3_init_38 : decode cX3_init 38 = .ok (.putfield 24, 3) := by decide +kernel
theorem dX3_init_41 : decode cX3_init 41 = .ok (.return_, 1) := by decide +kernel
theorem dX3_reckon_0 : decode cX3_reckon 0 = .ok (.aload_n 0, 1) := by decide +kernel
theorem dX3_reckon_1 : decode cX3_reckon 1 = .ok (.getfield 9, 3) := by decide +kernel
theorem dX3_reckon_4 : decode cX3_reckon 4 = .ok (.iconst (-1), 1) := by decide +kernel
theorem dX3_reckon_5 : decode cX3_reckon 5 = .ok (.invokestatic 28, 3) := by decide +kernel
theorem dX3_reckon_8 : decode cX3_reckon 8 = .ok (.aload_n 0, 1) := by decide +kernel
theorem dX3_reckon_9 : decode cX3_reckon 9 = .ok (.getfield 15, 3) := by decide +kernel
theorem dX3_reckon_12 : decode cX3_reckon 12 = .ok (.iconst (-1), 1) := by decide +kernel
theorem dX3_reckon_13 : decode cX3_reckon 13 = .ok (.invokestatic 28, 3) := by decide +kernel
theorem dX3_reckon_16 : decode cX3_reckon 16 = .ok (.aload_n 0, 1) := by decide +kernel
theorem dX3_reckon_17 : decode cX3_reckon 17 = .ok (.getfield 18, 3) := by decide +kernel
theorem dX3_reckon_20 : decode cX3_reckon 20 = .ok (.iconst 0, 1) := by decide +kernel
theorem dX3_reckon_21 : decode cX3_reckon 21 = .ok (.invokestatic 28, 3) := by decide +kernel
theorem dX3_reckon_24 : decode cX3_reckon 24 = .ok (.iconst 0, 1) := by decide +kernel
theorem dX3_reckon_25 : decode cX3_reckon 25 = .ok (.istore_n 2, 1) := by decide +kernel
theorem dX3_reckon_26 : decode cX3_reckon 26 = .ok (.iload_n 2, 1) := by decide +kernel
theorem dX3_reckon_27 : decode cX3_reckon 27 = .ok (.aload_n 1, 1) := by decide +kernel
theorem dX3_reckon_28 : decode cX3_reckon 28 = .ok (.getfield 34, 3) := by decide +kernel
theorem dX3_reckon_31 : decode cX3_reckon 31 = .ok (.if_icmp .ge 23, 3) := by decide +kernel
theorem dX3_reckon_34 : decode cX3_reckon 34 = .ok (.aload_n 1, 1) := by decide +kernel
theorem dX3_reckon_35 : decode cX3_reckon 35 = .ok (.iload_n 2, 1) := by decide +kernel
theorem dX3_reckon_36 : decode cX3_reckon 36 = .ok (.invokevirtual 40, 3) := by decide +kernel
theorem dX3_reckon_39 : decode cX3_reckon 39 = .ok (.ifCond .ne 9, 3) := by decide +kernel
theorem dX3_reckon_42 : decode cX3_reckon 42 = .ok (.aload_n 0, 1) := by decide +kernel
theorem dX3_reckon_43 : decode cX3_reckon 43 = .ok (.aload_n 1, 1) := by decide +kernel
theorem dX3_reckon_44 : decode cX3_reckon 44 = .ok (.iload_n 2, 1) := by decide +kernel
theorem dX3_reckon_45 : decode cX3_reckon 45 = .ok (.invokevirtual 44, 3) := by decide +kernel
theorem dX3_reckon_48 : decode cX3_reckon 48 = .ok (.iinc 2 1, 3) := by decide +kernel
theorem dX3_reckon_51 : decode cX3_reckon 51 = .ok (.goto (-25), 3) := by decide +kernel
theorem dX3_reckon_54 : decode cX3_reckon 54 = .ok (.return_, 1) := by decide +kernel
theorem dX3_reckonOne_0 : decode cX3_reckonOne 0 = .ok (.aload_n 0, 1) := by decide +kernel
theorem dX3_reckonOne_1 : decode cX3_reckonOne 1 = .ok (.getfield 24, 3) := by decide +kernel
theorem dX3_reckonOne_4 : decode cX3_reckonOne 4 = .ok (.aload_n 1, 1) := by decide +kernel
theorem dX3_reckonOne_5 : decode cX3_reckonOne 5 = .ok (.invokevirtual 48, 3) := by decide +kernel
theorem dX3_reckonOne_8 : decode cX3_reckonOne 8 = .ok (.aload_n 0, 1) := by decide +kernel
theorem dX3_reckonOne_9 : decode cX3_reckonOne 9 = .ok (.getfield 24, 3) := by decide +kernel
theorem dX3_reckonOne_12 : decode cX3_reckonOne 12 = .ok (.aload_n 1, 1) := by decide +kernel
theorem dX3_reckonOne_13 : decode cX3_reckonOne 13 = .ok (.aload_n 1, 1) := by decide +kernel
theorem dX3_reckonOne_14 : decode cX3_reckonOne 14 = .ok (.getfield 52, 3) := by decide +kernel
theorem dX3_reckonOne_17 : decode cX3_reckonOne 17 = .ok (.iconst 1, 1) := by decide +kernel
theorem dX3_reckonOne_18 : decode cX3_reckonOne 18 = .ok (.iload_n 2, 1) := by decide +kernel
theorem dX3_reckonOne_19 : decode cX3_reckonOne 19 = .ok (.ishl, 1) := by decide +kernel
theorem dX3_reckonOne_20 : decode cX3_reckonOne 20 = .ok (.iconst 0, 1) := by decide +kernel
theorem dX3_reckonOne_21 : decode cX3_reckonOne 21 = .ok (.invokevirtual 55, 3) := by decide +kernel
theorem dX3_reckonOne_24 : decode cX3_reckonOne 24 = .ok (.pop, 1) := by decide +kernel
theorem dX3_reckonOne_25 : decode cX3_reckonOne 25 = .ok (.iconst 0, 1) := by decide +kernel
theorem dX3_reckonOne_26 : decode cX3_reckonOne 26 = .ok (.istore_n 3, 1) := by decide +kernel
theorem dX3_reckonOne_27 : decode cX3_reckonOne 27 = .ok (.iconst 1, 1) := by decide +kernel
theorem dX3_reckonOne_28 : decode cX3_reckonOne 28 = .ok (.istore 4, 2) := by decide +kernel
theorem dX3_reckonOne_30 : decode cX3_reckonOne 30 = .ok (.iload 4, 2) := by decide +kernel
theorem dX3_reckonOne_32 : decode cX3_reckonOne 32 = .ok (.bipush 120, 2) := by decide +kernel
theorem dX3_reckonOne_34 : decode cX3_reckonOne 34 = .ok (.if_icmp .gt 74, 3) := by decide +kernel
theorem dX3_reckonOne_37 : decode cX3_reckonOne 37 = .ok (.iload 4, 2) := by decide +kernel
theorem dX3_reckonOne_39 : decode cX3_reckonOne 39 = .ok (.iload_n 3, 1) := by decide +kernel
theorem dX3_reckonOne_40 : decode cX3_reckonOne 40 = .ok (.bipush 10, 2) := by decide +kernel
theorem dX3_reckonOne_42 : decode cX3_reckonOne 42 = .ok (.iadd, 1) := by decide +kernel
theorem dX3_reckonOne_43 : decode cX3_reckonOne 43 = .ok (.if_icmp .gt 65, 3) := by decide +kernel
theorem dX3_reckonOne_46 : decode cX3_reckonOne 46 = .ok (.aload_n 0, 1) := by decide +kernel
theorem dX3_reckonOne_47 : decode cX3_reckonOne 47 = .ok (.getfield 24, 3) := by decide +kernel
theorem dX3_reckonOne_50 : decode cX3_reckonOne 50 = .ok (.getfield 59, 3) := by decide +kernel
theorem dX3_reckonOne_53 : decode cX3_reckonOne 53 = .ok (.istore 5, 2) := by decide +kernel
theorem dX3_reckonOne_55 : decode cX3_reckonOne 55 = .ok (.aload_n 0, 1) := by decide +kernel
theorem dX3_reckonOne_56 : decode cX3_reckonOne 56 = .ok (.getfield 24, 3) := by decide +kernel
theorem dX3_reckonOne_59 : decode cX3_reckonOne 59 = .ok (.aload_n 1, 1) := by decide +kernel
theorem dX3_reckonOne_60 : decode cX3_reckonOne 60 = .ok (.aload_n 1, 1) := by decide +kernel
theorem dX3_reckonOne_61 : decode cX3_reckonOne 61 = .ok (.getfield 52, 3) := by decide +kernel
theorem dX3_reckonOne_64 : decode cX3_reckonOne 64 = .ok (.iload 4, 2) := by decide +kernel
theorem dX3_reckonOne_66 : decode cX3_reckonOne 66 = .ok (.invokevirtual 62, 3) := by decide +kernel
theorem dX3_reckonOne_69 : decode cX3_reckonOne 69 = .ok (.aload_n 0, 1) := by decide +kernel
theorem dX3_reckonOne_70 : decode cX3_reckonOne 70 = .ok (.getfield 24, 3) := by decide +kernel
theorem dX3_reckonOne_73 : decode cX3_reckonOne 73 = .ok (.aload_n 1, 1) := by decide +kernel
theorem dX3_reckonOne_74 : decode cX3_reckonOne 74 = .ok (.aload_n 1, 1) := by decide +kernel
theorem dX3_reckonOne_75 : decode cX3_reckonOne 75 = .ok (.getfield 52, 3) := by decide +kernel
theorem dX3_reckonOne_78 : decode cX3_reckonOne 78 = .ok (.iload 4, 2) := by decide +kernel
theorem dX3_reckonOne_80 : decode cX3_reckonOne 80 = .ok (.invokevirtual 66, 3) := by decide +kernel
theorem dX3_reckonOne_83 : decode cX3_reckonOne 83 = .ok (.aload_n 0, 1) := by decide +kernel
theorem dX3_reckonOne_84 : decode cX3_reckonOne 84 = .ok (.getfield 24, 3) := by decide +kernel
theorem dX3_reckonOne_87 : decode cX3_reckonOne 87 = .ok (.getfield 59, 3) := by decide +kernel
theorem dX3_reckonOne_90 : decode cX3_reckonOne 90 = .ok (.iload 5, 2) := by decide +kernel
theorem dX3_reckonOne_92 : decode cX3_reckonOne 92 = .ok (.if_icmp .ne 7, 3) := by decide +kernel
theorem dX3_reckonOne_95 : decode cX3_reckonOne 95 = .ok (.iload_n 3, 1) := by decide +kernel
theorem dX3_reckonOne_96 : decode cX3_reckonOne 96 = .ok (.goto 5, 3) := by decide +kernel
theorem dX3_reckonOne_99 : decode cX3_reckonOne 99 = .ok (.iload 4, 2) := by decide +kernel
theorem dX3_reckonOne_101 : decode cX3_reckonOne 101 = .ok (.istore_n 3, 1) := by decide +kernel
theorem dX3_reckonOne_102 : decode cX3_reckonOne 102 = .ok (.iinc 4 1, 3) := by decide +kernel
theorem dX3_reckonOne_105 : decode cX3_reckonOne 105 = .ok (.goto (-75), 3) := by decide +kernel
theorem dX3_reckonOne_108 : decode cX3_reckonOne 108 = .ok (.aload_n 0, 1) := by decide +kernel
theorem dX3_reckonOne_109 : decode cX3_reckonOne 109 = .ok (.getfield 18, 3) := by decide +kernel
theorem dX3_reckonOne_112 : decode cX3_reckonOne 112 = .ok (.iload_n 2, 1) := by decide +kernel
theorem dX3_reckonOne_113 : decode cX3_reckonOne 113 = .ok (.aload_n 0, 1) := by decide +kernel
theorem dX3_reckonOne_114 : decode cX3_reckonOne 114 = .ok (.getfield 24, 3) := by decide +kernel
theorem dX3_reckonOne_117 : decode cX3_reckonOne 117 = .ok (.getfield 59, 3) := by decide +kernel
theorem dX3_reckonOne_120 : decode cX3_reckonOne 120 = .ok (.invokestatic 69, 3) := by decide +kernel
theorem dX3_reckonOne_123 : decode cX3_reckonOne 123 = .ok (.iastore, 1) := by decide +kernel
theorem dX3_reckonOne_124 : decode cX3_reckonOne 124 = .ok (.iconst 0, 1) := by decide +kernel
theorem dX3_reckonOne_125 : decode cX3_reckonOne 125 = .ok (.istore 4, 2) := by decide +kernel
theorem dX3_reckonOne_127 : decode cX3_reckonOne 127 = .ok (.iload 4, 2) := by decide +kernel
theorem dX3_reckonOne_129 : decode cX3_reckonOne 129 = .ok (.aload_n 1, 1) := by decide +kernel
theorem dX3_reckonOne_130 : decode cX3_reckonOne 130 = .ok (.getfield 34, 3) := by decide +kernel
theorem dX3_reckonOne_133 : decode cX3_reckonOne 133 = .ok (.if_icmp .ge 82, 3) := by decide +kernel
theorem dX3_reckonOne_136 : decode cX3_reckonOne 136 = .ok (.aload_n 0, 1) := by decide +kernel
theorem dX3_reckonOne_137 : decode cX3_reckonOne 137 = .ok (.getfield 24, 3) := by decide +kernel
theorem dX3_reckonOne_140 : decode cX3_reckonOne 140 = .ok (.iload 4, 2) := by decide +kernel
theorem dX3_reckonOne_142 : decode cX3_reckonOne 142 = .ok (.invokevirtual 75, 3) := by decide +kernel
theorem dX3_reckonOne_145 : decode cX3_reckonOne 145 = .ok (.istore 5, 2) := by decide +kernel
theorem dX3_reckonOne_147 : decode cX3_reckonOne 147 = .ok (.aload_n 0, 1) := by decide +kernel
theorem dX3_reckonOne_148 : decode cX3_reckonOne 148 = .ok (.getfield 9, 3) := by decide +kernel
theorem dX3_reckonOne_151 : decode cX3_reckonOne 151 = .ok (.iload_n 2, 1) := by decide +kernel
theorem dX3_reckonOne_152 : decode cX3_reckonOne 152 = .ok (.iload 4, 2) := by decide +kernel
theorem dX3_reckonOne_154 : decode cX3_reckonOne 154 = .ok (.invokestatic 78, 3) := by decide +kernel
theorem dX3_reckonOne_157 : decode cX3_reckonOne 157 = .ok (.iload 5, 2) := by decide +kernel
theorem dX3_reckonOne_159 : decode cX3_reckonOne 159 = .ok (.iconst 1, 1) := by decide +kernel
theorem dX3_reckonOne_160 : decode cX3_reckonOne 160 = .ok (.if_icmp .ne 16, 3) := by decide +kernel
theorem dX3_reckonOne_163 : decode cX3_reckonOne 163 = .ok (.aload_n 0, 1) := by decide +kernel
theorem dX3_reckonOne_164 : decode cX3_reckonOne 164 = .ok (.getfield 24, 3) := by decide +kernel
theorem dX3_reckonOne_167 : decode cX3_reckonOne 167 = .ok (.getfield 82, 3) := by decide +kernel
theorem dX3_reckonOne_170 : decode cX3_reckonOne 170 = .ok (.iload 4, 2) := by decide +kernel
theorem dX3_reckonOne_172 : decode cX3_reckonOne 172 = .ok (.iaload, 1) := by decide +kernel
theorem dX3_reckonOne_173 : decode cX3_reckonOne 173 = .ok (.goto 4, 3) := by decide +kernel
theorem dX3_reckonOne_176 : decode cX3_reckonOne 176 = .ok (.iconst (-1), 1) := by decide +kernel
theorem dX3_reckonOne_177 : decode cX3_reckonOne 177 = .ok (.iastore, 1) := by decide +kernel
theorem dX3_reckonOne_178 : decode cX3_reckonOne 178 = .ok (.aload_n 0, 1) := by decide +kernel
theorem dX3_reckonOne_179 : decode cX3_reckonOne 179 = .ok (.getfield 15, 3) := by decide +kernel
theorem dX3_reckonOne_182 : decode cX3_reckonOne 182 = .ok (.iload_n 2, 1) := by decide +kernel
theorem dX3_reckonOne_183 : decode cX3_reckonOne 183 = .ok (.iload 4, 2) := by decide +kernel
theorem dX3_reckonOne_185 : decode cX3_reckonOne 185 = .ok (.invokestatic 78, 3) := by decide +kernel
theorem dX3_reckonOne_188 : decode cX3_reckonOne 188 = .ok (.iload 5, 2) := by decide +kernel
theorem dX3_reckonOne_190 : decode cX3_reckonOne 190 = .ok (.iconst 2, 1) := by decide +kernel
theorem dX3_reckonOne_191 : decode cX3_reckonOne 191 = .ok (.if_icmp .ne 16, 3) := by decide +kernel
theorem dX3_reckonOne_194 : decode cX3_reckonOne 194 = .ok (.aload_n 0, 1) := by decide +kernel
theorem dX3_reckonOne_195 : decode cX3_reckonOne 195 = .ok (.getfield 24, 3) := by decide +kernel
theorem dX3_reckonOne_198 : decode cX3_reckonOne 198 = .ok (.getfield 82, 3) := by decide +kernel
theorem dX3_reckonOne_201 : decode cX3_reckonOne 201 = .ok (.iload 4, 2) := by decide +kernel
theorem dX3_reckonOne_203 : decode cX3_reckonOne 203 = .ok (.iaload, 1) := by decide +kernel
theorem dX3_reckonOne_204 : decode cX3_reckonOne 204 = .ok (.goto 4, 3) := by decide +kernel
theorem dX3_reckonOne_207 : decode cX3_reckonOne 207 = .ok (.iconst (-1), 1) := by decide +kernel
theorem dX3_reckonOne_208 : decode cX3_reckonOne 208 = .ok (.iastore, 1) := by decide +kernel
theorem dX3_reckonOne_209 : decode cX3_reckonOne 209 = .ok (.iinc 4 1, 3) := by decide +kernel
theorem dX3_reckonOne_212 : decode cX3_reckonOne 212 = .ok (.goto (-85), 3) := by decide +kernel
theorem dX3_reckonOne_215 : decode cX3_reckonOne 215 = .ok (.return_, 1) := by decide +kernel
theorem dX4_init_0 : decode cX4_init 0 = .ok (.aload_n 0, 1) := by decide +kernel
theorem dX4_init_1 : decode cX4_init 1 = .ok (.invokespecial 3, 3) := by decide +kernel
theorem dX4_init_4 : decode cX4_init 4 = .ok (.aload_n 0, 1) := by decide +kernel
theorem dX4_init_5 : decode cX4_init 5 = .ok (.bipush 12, 2) := by decide +kernel
theorem dX4_init_7 : decode cX4_init 7 = .ok (.newarray .int, 2) := by decide +kernel
theorem dX4_init_9 : decode cX4_init 9 = .ok (.putfield 9, 3) := by decide +kernel
theorem dX4_init_12 : decode cX4_init 12 = .ok (.return_, 1) := by decide +kernel
theorem dX4_clear_0 : decode cX4_clear 0 = .ok (.aload_n 0, 1) := by decide +kernel
theorem dX4_clear_1 : decode cX4_clear 1 = .ok (.aload_n 1, 1) := by decide +kernel
theorem dX4_clear_2 : decode cX4_clear 2 = .ok (.invokevirtual 15, 3) := by decide +kernel
theorem dX4_clear_5 : decode cX4_clear 5 = .ok (.putfield 21, 3) := by decide +kernel
theorem dX4_clear_8 : decode cX4_clear 8 = .ok (.aload_n 0, 1) := by decide +kernel
theorem dX4_clear_9 : decode cX4_clear 9 = .ok (.iconst 0, 1) := by decide +kernel
theorem dX4_clear_10 : decode cX4_clear 10 = .ok (.putfield 25, 3) := by decide +kernel
theorem dX4_clear_13 : decode cX4_clear 13 = .ok (.aload_n 0, 1) := by decide +kernel
theorem dX4_clear_14 : decode cX4_clear 14 = .ok (.getfield 9, 3) := by decide +kernel
theorem dX4_clear_17 : decode cX4_clear 17 = .ok (.iconst (-1), 1) := by decide +kernel
theorem dX4_clear_18 : decode cX4_clear 18 = .ok (.invokestatic 28, 3) := by decide +kernel
theorem dX4_clear_21 : decode cX4_clear 21 = .ok (.return_, 1) := by decide +kernel
theorem dX4_copy_0 : decode cX4_copy 0 = .ok (.aload_n 0, 1) := by decide +kernel
theorem dX4_copy_1 : decode cX4_copy 1 = .ok (.aload_n 1, 1) := by decide +kernel
theorem dX4_copy_2 : decode cX4_copy 2 = .ok (.getfield 21, 3) := by decide +kernel
theorem dX4_copy_5 : decode cX4_copy 5 = .ok (.putfield 21, 3) := by decide +kernel
theorem dX4_copy_8 : decode cX4_copy 8 = .ok (.aload_n 0, 1) := by decide +kernel
theorem dX4_copy_9 : decode cX4_copy 9 = .ok (.aload_n 1, 1) := by decide +kernel
theorem dX4_copy_10 : decode cX4_copy 10 = .ok (.getfield 25, 3) := by decide +kernel
theorem dX4_copy_13 : decode cX4_copy 13 = .ok (.putfield 25, 3) := by decide +kernel
theorem dX4_copy_16 : decode cX4_copy 16 = .ok (.aload_n 1, 1) := by decide +kernel
theorem dX4_copy_17 : decode cX4_copy 17 = .ok (.getfield 9, 3) := by decide +kernel
theorem dX4_copy_20 : decode cX4_copy 20 = .ok (.iconst 0, 1) := by decide +kernel
theorem dX4_copy_21 : decode cX4_copy 21 = .ok (.aload_n 0, 1) := by decide +kernel
theorem dX4_copy_22 : decode cX4_copy 22 = .ok (.getfield 9, 3) := by decide +kernel
theorem dX4_copy_25 : decode cX4_copy 25 = .ok (.iconst 0, 1) := by decide +kernel
theorem dX4_copy_26 : decode cX4_copy 26 = .ok (.bipush 12, 2) := by decide +kernel
theorem dX4_copy_28 : decode cX4_copy 28 = .ok (.invokestatic 34, 3) := by decide +kernel
theorem dX4_copy_31 : decode cX4_copy 31 = .ok (.return_, 1) := by decide +kernel
theorem dX4_isThere_0 : decode cX4_isThere 0 = .ok (.aload_n 0, 1) := by decide +kernel
theorem dX4_isThere_1 : decode cX4_isThere 1 = .ok (.getfield 21, 3) := by decide +kernel
theorem dX4_isThere_4 : decode cX4_isThere 4 = .ok (.iload_n 1, 1) := by decide +kernel
theorem dX4_isThere_5 : decode cX4_isThere 5 = .ok (.invokestatic 40, 3) := by decide +kernel
theorem dX4_isThere_8 : decode cX4_isThere 8 = .ok (.ireturn, 1) := by decide +kernel
theorem dX4_stateOf_0 : decode cX4_stateOf 0 = .ok (.aload_n 0, 1) := by decide +kernel
theorem dX4_stateOf_1 : decode cX4_stateOf 1 = .ok (.iload_n 1, 1) := by decide +kernel
theorem dX4_stateOf_2 : decode cX4_stateOf 2 = .ok (.invokevirtual 44, 3) := by decide +kernel
theorem dX4_stateOf_5 : decode cX4_stateOf 5 = .ok (.ifCond .eq 5, 3) := by decide +kernel
theorem dX4_stateOf_8 : decode cX4_stateOf 8 = .ok (.iconst 0, 1) := by decide +kernel
theorem dX4_stateOf_9 : decode cX4_stateOf 9 = .ok (.ireturn, 1) := by decide +kernel
theorem dX4_stateOf_10 : decode cX4_stateOf 10 = .ok (.aload_n 0, 1) := by decide +kernel
theorem dX4_stateOf_11 : decode cX4_stateOf 11 = .ok (.getfield 25, 3) := by decide +kernel
theorem dX4_stateOf_14 : decode cX4_stateOf 14 = .ok (.iload_n 1, 1) := by decide +kernel
theorem dX4_stateOf_15 : decode cX4_stateOf 15 = .ok (.invokestatic 40, 3) := by decide +kernel
theorem dX4_stateOf_18 : decode cX4_stateOf 18 = .ok (.ifCond .eq 7, 3) := by decide +kernel
theorem dX4_stateOf_21 : decode cX4_stateOf 21 = .ok (.iconst 1, 1) := by decide +kernel
theorem dX4_stateOf_22 : decode cX4_stateOf 22 = .ok (.goto 4, 3) := by decide +kernel
theorem dX4_stateOf_25 : decode cX4_stateOf 25 = .ok (.iconst 2, 1) := by decide +kernel
theorem dX4_stateOf_26 : decode cX4_stateOf 26 = .ok (.ireturn, 1) := by decide +kernel
theorem dX4_seize_0 : decode cX4_seize 0 = .ok (.aload_n 0, 1) := by decide +kernel
theorem dX4_seize_1 : decode cX4_seize 1 = .ok (.getfield 25, 3) := by decide +kernel
theorem dX4_seize_4 : decode cX4_seize 4 = .ok (.invokestatic 48, 3) := by decide +kernel
theorem dX4_seize_7 : decode cX4_seize 7 = .ok (.istore 5, 2) := by decide +kernel
theorem dX4_seize_9 : decode cX4_seize 9 = .ok (.iload_n 3, 1) := by decide +kernel
theorem dX4_seize_10 : decode cX4_seize 10 = .ok (.aload_n 0, 1) := by decide +kernel
theorem dX4_seize_11 : decode cX4_seize 11 = .ok (.getfield 21, 3) := by decide +kernel
theorem dX4_seize_14 : decode cX4_seize 14 = .ok (.iand, 1) := by decide +kernel
theorem dX4_seize_15 : decode cX4_seize 15 = .ok (.istore 6, 2) := by decide +kernel
theorem dX4_seize_17 : decode cX4_seize 17 = .ok (.iconst 0, 1) := by decide +kernel
theorem dX4_seize_18 : decode cX4_seize 18 = .ok (.istore 7, 2) := by decide +kernel
theorem dX4_seize_20 : decode cX4_seize 20 = .ok (.iload 7, 2) := by decide +kernel
theorem dX4_seize_22 : decode cX4_seize 22 = .ok (.bipush 12, 2) := by decide +kernel
theorem dX4_seize_24 : decode cX4_seize 24 = .ok (.if_icmp .ge 53, 3) := by decide +kernel
theorem dX4_seize_27 : decode cX4_seize 27 = .ok (.iload 6, 2) := by decide +kernel
theorem dX4_seize_29 : decode cX4_seize 29 = .ok (.ifCond .eq 48, 3) := by decide +kernel
theorem dX4_seize_32 : decode cX4_seize 32 = .ok (.aload_n 0, 1) := by decide +kernel
theorem dX4_seize_33 : decode cX4_seize 33 = .ok (.dup, 1) := by decide +kernel
theorem dX4_seize_34 : decode cX4_seize 34 = .ok (.getfield 25, 3) := by decide +kernel
theorem dX4_seize_37 : decode cX4_seize 37 = .ok (.iload 6, 2) := by decide +kernel
theorem dX4_seize_39 : decode cX4_seize 39 = .ok (.ior, 1) := by decide +kernel
theorem dX4_seize_40 : decode cX4_seize 40 = .ok (.putfield 25, 3) := by decide +kernel
theorem dX4_seize_43 : decode cX4_seize 43 = .ok (.aload_n 0, 1) := by decide +kernel
theorem dX4_seize_44 : decode cX4_seize 44 = .ok (.aload_n 1, 1) := by decide +kernel
theorem dX4_seize_45 : decode cX4_seize 45 = .ok (.iload 6, 2) := by decide +kernel
theorem dX4_seize_47 : decode cX4_seize 47 = .ok (.iload 4, 2) := by decide +kernel
theorem dX4_seize_49 : decode cX4_seize 49 = .ok (.invokevirtual 54, 3) := by decide +kernel
theorem dX4_seize_52 : decode cX4_seize 52 = .ok (.aload_n 1, 1) := by decide +kernel
theorem dX4_seize_53 : decode cX4_seize 53 = .ok (.aload_n 2, 1) := by decide +kernel
theorem dX4_seize_54 : decode cX4_seize 54 = .ok (.iload 6, 2) := by decide +kernel
theorem dX4_seize_56 : decode cX4_seize 56 = .ok (.aload_n 1, 1) := by decide +kernel
theorem dX4_seize_57 : decode cX4_seize 57 = .ok (.getfield 58, 3) := by decide +kernel
theorem dX4_seize_60 : decode cX4_seize 60 = .ok (.iand, 1) := by decide +kernel
theorem dX4_seize_61 : decode cX4_seize 61 = .ok (.invokestatic 61, 3) := by decide +kernel
theorem dX4_seize_64 : decode cX4_seize 64 = .ok (.aload_n 0, 1) := by decide +kernel
theorem dX4_seize_65 : decode cX4_seize 65 = .ok (.getfield 21, 3) := by decide +kernel
theorem dX4_seize_68 : decode cX4_seize 68 = .ok (.iand, 1) := by decide +kernel
theorem dX4_seize_69 : decode cX4_seize 69 = .ok (.istore 6, 2) := by decide +kernel
theorem dX4_seize_71 : decode cX4_seize 71 = .ok (.iinc 7 1, 3) := by decide +kernel
theorem dX4_seize_74 : decode cX4_seize 74 = .ok (.goto (-54), 3) := by decide +kernel
theorem dX4_seize_77 : decode cX4_seize 77 = .ok (.aload_n 0, 1) := by decide +kernel
theorem dX4_seize_78 : decode cX4_seize 78 = .ok (.getfield 25, 3) := by decide +kernel
theorem dX4_seize_81 : decode cX4_seize 81 = .ok (.invokestatic 48, 3) := by decide +kernel
theorem dX4_seize_84 : decode cX4_seize 84 = .ok (.iload 5, 2) := by decide +kernel
theorem dX4_seize_86 : decode cX4_seize 86 = .ok (.isub, 1) := by decide +kernel
theorem dX4_seize_87 : decode cX4_seize 87 = .ok (.ireturn, 1) := by decide +kernel
theorem dX4_tellOn_0 : decode cX4_tellOn 0 = .ok (.iconst 0, 1) := by decide +kernel
theorem dX4_tellOn_1 : decode cX4_tellOn 1 = .ok (.istore 4, 2) := by decide +kernel
theorem dX4_tellOn_3 : decode cX4_tellOn 3 = .ok (.iconst 0, 1) := by decide +kernel
theorem dX4_tellOn_4 : decode cX4_tellOn 4 = .ok (.istore 5, 2) := by decide +kernel
theorem dX4_tellOn_6 : decode cX4_tellOn 6 = .ok (.iload 5, 2) := by decide +kernel
theorem dX4_tellOn_8 : decode cX4_tellOn 8 = .ok (.aload_n 1, 1) := by decide +kernel
theorem dX4_tellOn_9 : decode cX4_tellOn 9 = .ok (.getfield 65, 3) := by decide +kernel
theorem dX4_tellOn_12 : decode cX4_tellOn 12 = .ok (.if_icmp .ge 56, 3) := by decide +kernel
theorem dX4_tellOn_15 : decode cX4_tellOn 15 = .ok (.aload_n 0, 1) := by decide +kernel
theorem dX4_tellOn_16 : decode cX4_tellOn 16 = .ok (.getfield 25, 3) := by decide +kernel
theorem dX4_tellOn_19 : decode cX4_tellOn 19 = .ok (.aload_n 1, 1) := by decide +kernel
theorem dX4_tellOn_20 : decode cX4_tellOn 20 = .ok (.getfield 58, 3) := by decide +kernel
theorem dX4_tellOn_23 : decode cX4_tellOn 23 = .ok (.iconst (-1), 1) := by decide +kernel
theorem dX4_tellOn_24 : decode cX4_tellOn 24 = .ok (.ixor, 1) := by decide +kernel
theorem dX4_tellOn_25 : decode cX4_tellOn 25 = .ok (.iand, 1) := by decide +kernel
theorem dX4_tellOn_26 : decode cX4_tellOn 26 = .ok (.iload 5, 2) := by decide +kernel
theorem dX4_tellOn_28 : decode cX4_tellOn 28 = .ok (.invokestatic 40, 3) := by decide +kernel
theorem dX4_tellOn_31 : decode cX4_tellOn 31 = .ok (.ifCond .eq 31, 3) := by decide +kernel
theorem dX4_tellOn_34 : decode cX4_tellOn 34 = .ok (.aload_n 0, 1) := by decide +kernel
theorem dX4_tellOn_35 : decode cX4_tellOn 35 = .ok (.getfield 9, 3) := by decide +kernel
theorem dX4_tellOn_38 : decode cX4_tellOn 38 = .ok (.iload 5, 2) := by decide +kernel
theorem dX4_tellOn_40 : decode cX4_tellOn 40 = .ok (.iaload, 1) := by decide +kernel
theorem dX4_tellOn_41 : decode cX4_tellOn 41 = .ok (.aload_n 1, 1) := by decide +kernel
theorem dX4_tellOn_42 : decode cX4_tellOn 42 = .ok (.getfield 68, 3) := by decide +kernel
theorem dX4_tellOn_45 : decode cX4_tellOn 45 = .ok (.iload 5, 2) := by decide +kernel
theorem dX4_tellOn_47 : decode cX4_tellOn 47 = .ok (.iaload, 1) := by decide +kernel
theorem dX4_tellOn_48 : decode cX4_tellOn 48 = .ok (.iadd, 1) := by decide +kernel
theorem dX4_tellOn_49 : decode cX4_tellOn 49 = .ok (.iload_n 3, 1) := by decide +kernel
theorem dX4_tellOn_50 : decode cX4_tellOn 50 = .ok (.if_icmp .ne 12, 3) := by decide +kernel
theorem dX4_tellOn_53 : decode cX4_tellOn 53 = .ok (.iload 4, 2) := by decide +kernel
theorem dX4_tellOn_55 : decode cX4_tellOn 55 = .ok (.iconst 1, 1) := by decide +kernel
theorem dX4_tellOn_56 : decode cX4_tellOn 56 = .ok (.iload 5, 2) := by decide +kernel
theorem dX4_tellOn_58 : decode cX4_tellOn 58 = .ok (.ishl, 1) := by decide +kernel
theorem dX4_tellOn_59 : decode cX4_tellOn 59 = .ok (.ior, 1) := by decide +kernel
theorem dX4_tellOn_60 : decode cX4_tellOn 60 = .ok (.istore 4, 2) := by decide +kernel
theorem dX4_tellOn_62 : decode cX4_tellOn 62 = .ok (.iinc 5 1, 3) := by decide +kernel
theorem dX4_tellOn_65 : decode cX4_tellOn 65 = .ok (.goto (-59), 3) := by decide +kernel
theorem dX4_tellOn_68 : decode cX4_tellOn 68 = .ok (.aload_n 0, 1) := by decide +kernel
theorem dX4_tellOn_69 : decode cX4_tellOn 69 = .ok (.aload_n 1, 1) := by decide +kernel
theorem dX4_tellOn_70 : decode cX4_tellOn 70 = .ok (.aload_n 2, 1) := by decide +kernel
theorem dX4_tellOn_71 : decode cX4_tellOn 71 = .ok (.aload_n 1, 1) := by decide +kernel
theorem dX4_tellOn_72 : decode cX4_tellOn 72 = .ok (.aload_n 2, 1) := by decide +kernel
theorem dX4_tellOn_73 : decode cX4_tellOn 73 = .ok (.iload 4, 2) := by decide +kernel
theorem dX4_tellOn_75 : decode cX4_tellOn 75 = .ok (.invokestatic 61, 3) := by decide +kernel
theorem dX4_tellOn_78 : decode cX4_tellOn 78 = .ok (.iload_n 3, 1) := by decide +kernel
theorem dX4_tellOn_79 : decode cX4_tellOn 79 = .ok (.invokevirtual 71, 3) := by decide +kernel
theorem dX4_tellOn_82 : decode cX4_tellOn 82 = .ok (.pop, 1) := by decide +kernel
theorem dX4_tellOn_83 : decode cX4_tellOn 83 = .ok (.return_, 1) := by decide +kernel
theorem dX4_fleeOn_0 : decode cX4_fleeOn 0 = .ok (.iconst 0, 1) := by decide +kernel
theorem dX4_fleeOn_1 : decode cX4_fleeOn 1 = .ok (.istore 4, 2) := by decide +kernel
theorem dX4_fleeOn_3 : decode cX4_fleeOn 3 = .ok (.iconst 0, 1) := by decide +kernel
theorem dX4_fleeOn_4 : decode cX4_fleeOn 4 = .ok (.istore 5, 2) := by decide +kernel
theorem dX4_fleeOn_6 : decode cX4_fleeOn 6 = .ok (.iload 5, 2) := by decide +kernel
theorem dX4_fleeOn_8 : decode cX4_fleeOn 8 = .ok (.aload_n 1, 1) := by decide +kernel
theorem dX4_fleeOn_9 : decode cX4_fleeOn 9 = .ok (.getfield 65, 3) := by decide +kernel
theorem dX4_fleeOn_12 : decode cX4_fleeOn 12 = .ok (.if_icmp .ge 65, 3) := by decide +kernel
theorem dX4_fleeOn_15 : decode cX4_fleeOn 15 = .ok (.aload_n 0, 1) := by decide +kernel
theorem dX4_fleeOn_16 : decode cX4_fleeOn 16 = .ok (.getfield 21, 3) := by decide +kernel
theorem dX4_fleeOn_19 : decode cX4_fleeOn 19 = .ok (.aload_n 1, 1) := by decide +kernel
theorem dX4_fleeOn_20 : decode cX4_fleeOn 20 = .ok (.getfield 75, 3) := by decide +kernel
theorem dX4_fleeOn_23 : decode cX4_fleeOn 23 = .ok (.iconst (-1), 1) := by decide +kernel
theorem dX4_fleeOn_24 : decode cX4_fleeOn 24 = .ok (.ixor, 1) := by decide +kernel
theorem dX4_fleeOn_25 : decode cX4_fleeOn 25 = .ok (.iand, 1) := by decide +kernel
theorem dX4_fleeOn_26 : decode cX4_fleeOn 26 = .ok (.iload 5, 2) := by decide +kernel
theorem dX4_fleeOn_28 : decode cX4_fleeOn 28 = .ok (.invokestatic 40, 3) := by decide +kernel
theorem dX4_fleeOn_31 : decode cX4_fleeOn 31 = .ok (.ifCond .eq 40, 3) := by decide +kernel
theorem dX4_fleeOn_34 : decode cX4_fleeOn 34 = .ok (.aload_n 0, 1) := by decide +kernel
theorem dX4_fleeOn_35 : decode cX4_fleeOn 35 = .ok (.aload_n 1, 1) := by decide +kernel
theorem dX4_fleeOn_36 : decode cX4_fleeOn 36 = .ok (.aload_n 2, 1) := by decide +kernel
theorem dX4_fleeOn_37 : decode cX4_fleeOn 37 = .ok (.iload 5, 2) := by decide +kernel
theorem dX4_fleeOn_39 : decode cX4_fleeOn 39 = .ok (.iaload, 1) := by decide +kernel
theorem dX4_fleeOn_40 : decode cX4_fleeOn 40 = .ok (.aload_n 0, 1) := by decide +kernel
theorem dX4_fleeOn_41 : decode cX4_fleeOn 41 = .ok (.getfield 25, 3) := by decide +kernel
theorem dX4_fleeOn_44 : decode cX4_fleeOn 44 = .ok (.iand, 1) := by decide +kernel
theorem dX4_fleeOn_45 : decode cX4_fleeOn 45 = .ok (.iload_n 3, 1) := by decide +kernel
theorem dX4_fleeOn_46 : decode cX4_fleeOn 46 = .ok (.iconst 1, 1) := by decide +kernel
theorem dX4_fleeOn_47 : decode cX4_fleeOn 47 = .ok (.isub, 1) := by decide +kernel
theorem dX4_fleeOn_48 : decode cX4_fleeOn 48 = .ok (.aload_n 1, 1) := by decide +kernel
theorem dX4_fleeOn_49 : decode cX4_fleeOn 49 = .ok (.getfield 78, 3) := by decide +kernel
theorem dX4_fleeOn_52 : decode cX4_fleeOn 52 = .ok (.iload 5, 2) := by decide +kernel
theorem dX4_fleeOn_54 : decode cX4_fleeOn 54 = .ok (.iaload, 1) := by decide +kernel
theorem dX4_fleeOn_55 : decode cX4_fleeOn 55 = .ok (.isub, 1) := by decide +kernel
theorem dX4_fleeOn_56 : decode cX4_fleeOn 56 = .ok (.invokevirtual 81, 3) := by decide +kernel
theorem dX4_fleeOn_59 : decode cX4_fleeOn 59 = .ok (.ifCond .eq 12, 3) := by decide +kernel
theorem dX4_fleeOn_62 : decode cX4_fleeOn 62 = .ok (.iload 4, 2) := by decide +kernel
theorem dX4_fleeOn_64 : decode cX4_fleeOn 64 = .ok (.iconst 1, 1) := by decide +kernel
theorem dX4_fleeOn_65 : decode cX4_fleeOn 65 = .ok (.iload 5, 2) := by decide +kernel
theorem dX4_fleeOn_67 : decode cX4_fleeOn 67 = .ok (.ishl, 1) := by decide +kernel
theorem dX4_fleeOn_68 : decode cX4_fleeOn 68 = .ok (.ior, 1) := by decide +kernel
theorem dX4_fleeOn_69 : decode cX4_fleeOn 69 = .ok (.istore 4, 2) := by decide +kernel
theorem dX4_fleeOn_71 : decode cX4_fleeOn 71 = .ok (.iinc 5 1, 3) := by decide +kernel
theorem dX4_fleeOn_74 : decode cX4_fleeOn 74 = .ok (.goto (-68), 3) := by decide +kernel
theorem dX4_fleeOn_77 : decode cX4_fleeOn 77 = .ok (.aload_n 0, 1) := by decide +kernel
theorem dX4_fleeOn_78 : decode cX4_fleeOn 78 = .ok (.aload_n 1, 1) := by decide +kernel
theorem dX4_fleeOn_79 : decode cX4_fleeOn 79 = .ok (.iload 4, 2) := by decide +kernel
theorem dX4_fleeOn_81 : decode cX4_fleeOn 81 = .ok (.iload_n 3, 1) := by decide +kernel
theorem dX4_fleeOn_82 : decode cX4_fleeOn 82 = .ok (.invokevirtual 54, 3) := by decide +kernel
theorem dX4_fleeOn_85 : decode cX4_fleeOn 85 = .ok (.return_, 1) := by decide +kernel
theorem dX4_sawBy_0 : decode cX4_sawBy 0 = .ok (.iconst 0, 1) := by decide +kernel
theorem dX4_sawBy_1 : decode cX4_sawBy 1 = .ok (.istore 4, 2) := by decide +kernel
theorem dX4_sawBy_3 : decode cX4_sawBy 3 = .ok (.iload 4, 2) := by decide +kernel
theorem dX4_sawBy_5 : decode cX4_sawBy 5 = .ok (.aload_n 1, 1) := by decide +kernel
theorem dX4_sawBy_6 : decode cX4_sawBy 6 = .ok (.getfield 65, 3) := by decide +kernel
theorem dX4_sawBy_9 : decode cX4_sawBy 9 = .ok (.if_icmp .ge 35, 3) := by decide +kernel
theorem dX4_sawBy_12 : decode cX4_sawBy 12 = .ok (.iload_n 2, 1) := by decide +kernel
theorem dX4_sawBy_13 : decode cX4_sawBy 13 = .ok (.ifCond .eq 31, 3) := by decide +kernel
theorem dX4_sawBy_16 : decode cX4_sawBy 16 = .ok (.iload_n 2, 1) := by decide +kernel
theorem dX4_sawBy_17 : decode cX4_sawBy 17 = .ok (.iload 4, 2) := by decide +kernel
theorem dX4_sawBy_19 : decode cX4_sawBy 19 = .ok (.invokestatic 40, 3) := by decide +kernel
theorem dX4_sawBy_22 : decode cX4_sawBy 22 = .ok (.ifCond .eq 16, 3) := by decide +kernel
theorem dX4_sawBy_25 : decode cX4_sawBy 25 = .ok (.aload_n 0, 1) := by decide +kernel
theorem dX4_sawBy_26 : decode cX4_sawBy 26 = .ok (.getfield 9, 3) := by decide +kernel
theorem dX4_sawBy_29 : decode cX4_sawBy 29 = .ok (.iload 4, 2) := by decide +kernel
theorem dX4_sawBy_31 : decode cX4_sawBy 31 = .ok (.iaload, 1) := by decide +kernel
theorem dX4_sawBy_32 : decode cX4_sawBy 32 = .ok (.iload_n 3, 1) := by decide +kernel
theorem dX4_sawBy_33 : decode cX4_sawBy 33 = .ok (.if_icmp .gt 5, 3) := by decide +kernel
theorem dX4_sawBy_36 : decode cX4_sawBy 36 = .ok (.iconst 1, 1) := by decide +kernel
theorem dX4_sawBy_37 : decode cX4_sawBy 37 = .ok (.ireturn, 1) := by decide +kernel
theorem dX4_sawBy_38 : decode cX4_sawBy 38 = .ok (.iinc 4 1, 3) := by decide +kernel
theorem dX4_sawBy_41 : decode cX4_sawBy 41 = .ok (.goto (-38), 3) := by decide +kernel
theorem dX4_sawBy_44 : decode cX4_sawBy 44 = .ok (.iconst 0, 1) := by decide +kernel
theorem dX4_sawBy_45 : decode cX4_sawBy 45 = .ok (.ireturn, 1) := by decide +kernel
theorem dX4_remove_0 : decode cX4_remove 0 = .ok (.aload_n 0, 1) := by decide +kernel
theorem dX4_remove_1 : decode cX4_remove 1 = .ok (.dup, 1) := by decide +kernel
theorem dX4_remove_2 : decode cX4_remove 2 = .ok (.getfield 21, 3) := by decide +kernel
theorem dX4_remove_5 : decode cX4_remove 5 = .ok (.iload_n 2, 1) := by decide +kernel
theorem dX4_remove_6 : decode cX4_remove 6 = .ok (.iconst (-1), 1) := by decide +kernel
theorem dX4_remove_7 : decode cX4_remove 7 = .ok (.ixor, 1) := by decide +kernel
theorem dX4_remove_8 : decode cX4_remove 8 = .ok (.iand, 1) := by decide +kernel
theorem dX4_remove_9 : decode cX4_remove 9 = .ok (.putfield 21, 3) := by decide +kernel
theorem dX4_remove_12 : decode cX4_remove 12 = .ok (.iconst 0, 1) := by decide +kernel
theorem dX4_remove_13 : decode cX4_remove 13 = .ok (.istore 4, 2) := by decide +kernel
theorem dX4_remove_15 : decode cX4_remove 15 = .ok (.iload 4, 2) := by decide +kernel
theorem dX4_remove_17 : decode cX4_remove 17 = .ok (.aload_n 1, 1) := by decide +kernel
theorem dX4_remove_18 : decode cX4_remove 18 = .ok (.getfield 65, 3) := by decide +kernel
theorem dX4_remove_21 : decode cX4_remove 21 = .ok (.if_icmp .ge 26, 3) := by decide +kernel
theorem dX4_remove_24 : decode cX4_remove 24 = .ok (.iload_n 2, 1) := by decide +kernel
theorem dX4_remove_25 : decode cX4_remove 25 = .ok (.iload 4, 2) := by decide +kernel
theorem dX4_remove_27 : decode cX4_remove 27 = .ok (.invokestatic 40, 3) := by decide +kernel
theorem dX4_remove_30 : decode cX4_remove 30 = .ok (.ifCond .eq 11, 3) := by decide +kernel
theorem dX4_remove_33 : decode cX4_remove 33 = .ok (.aload_n 0, 1) := by decide +kernel
theorem dX4_remove_34 : decode cX4_remove 34 = .ok (.getfield 9, 3) := by decide +kernel
theorem dX4_remove_37 : decode cX4_remove 37 = .ok (.iload 4, 2) := by decide +kernel
theorem dX4_remove_39 : decode cX4_remove 39 = .ok (.iload_n 3, 1) := by decide +kernel
theorem dX4_remove_40 : decode cX4_remove 40 = .ok (.iastore, 1) := by decide +kernel
theorem dX4_remove_41 : decode cX4_remove 41 = .ok (.iinc 4 1, 3) := by decide +kernel
theorem dX4_remove_44 : decode cX4_remove 44 = .ok (.goto (-29), 3) := by decide +kernel
theorem dX4_remove_47 : decode cX4_remove 47 = .ok (.return_, 1) := by decide +kernel
theorem dX4_knownToAny_0 : decode cX4_knownToAny 0 = .ok (.iconst 0, 1) := by decide +kernel
theorem dX4_knownToAny_1 : decode cX4_knownToAny 1 = .ok (.istore_n 3, 1) := by decide +kernel
theorem dX4_knownToAny_2 : decode cX4_knownToAny 2 = .ok (.iconst 0, 1) := by decide +kernel
theorem dX4_knownToAny_3 : decode cX4_knownToAny 3 = .ok (.istore 4, 2) := by decide +kernel
theorem dX4_knownToAny_5 : decode cX4_knownToAny 5 = .ok (.iload 4, 2) := by decide +kernel
theorem dX4_knownToAny_7 : decode cX4_knownToAny 7 = .ok (.aload_n 0, 1) := by decide +kernel
theorem dX4_knownToAny_8 : decode cX4_knownToAny 8 = .ok (.getfield 65, 3) := by decide +kernel
theorem dX4_knownToAny_11 : decode cX4_knownToAny 11 = .ok (.if_icmp .ge 29, 3) := by decide +kernel
theorem dX4_knownToAny_14 : decode cX4_knownToAny 14 = .ok (.iload_n 2, 1) := by decide +kernel
theorem dX4_knownToAny_15 : decode cX4_knownToAny 15 = .ok (.ifCond .eq 25, 3) := by decide +kernel
theorem dX4_knownToAny_18 : decode cX4_knownToAny 18 = .ok (.iload_n 2, 1) := by decide +kernel
theorem dX4_knownToAny_19 : decode cX4_knownToAny 19 = .ok (.iload 4, 2) := by decide +kernel
theorem dX4_knownToAny_21 : decode cX4_knownToAny 21 = .ok (.invokestatic 40, 3) := by decide +kernel
theorem dX4_knownToAny_24 : decode cX4_knownToAny 24 = .ok (.ifCond .eq 10, 3) := by decide +kernel
theorem dX4_knownToAny_27 : decode cX4_knownToAny 27 = .ok (.iload_n 3, 1) := by decide +kernel
theorem dX4_knownToAny_28 : decode cX4_knownToAny 28 = .ok (.aload_n 1, 1) := by decide +kernel
theorem dX4_knownToAny_29 : decode cX4_knownToAny 29 = .ok (.iload 4, 2) := by decide +kernel
theorem dX4_knownToAny_31 : decode cX4_knownToAny 31 = .ok (.iaload, 1) := by decide +kernel
theorem dX4_knownToAny_32 : decode cX4_knownToAny 32 = .ok (.ior, 1) := by decide +kernel
theorem dX4_knownToAny_33 : decode cX4_knownToAny 33 = .ok (.istore_n 3, 1) := by decide +kernel
theorem dX4_knownToAny_34 : decode cX4_knownToAny 34 = .ok (.iinc 4 1, 3) := by decide +kernel
theorem dX4_knownToAny_37 : decode cX4_knownToAny 37 = .ok (.goto (-32), 3) := by decide +kernel
theorem dX4_knownToAny_40 : decode cX4_knownToAny 40 = .ok (.iload_n 3, 1) := by decide +kernel
theorem dX4_knownToAny_41 : decode cX4_knownToAny 41 = .ok (.ireturn, 1) := by decide +kernel
theorem dX5_init_0 : decode cX5_init 0 = .ok (.aload_n 0, 1) := by decide +kernel
theorem dX5_init_1 : decode cX5_init 1 = .ok (.invokespecial 1, 3) := by decide +kernel
theorem dX5_init_4 : decode cX5_init 4 = .ok (.aload_n 0, 1) := by decide +kernel
theorem dX5_init_5 : decode cX5_init 5 = .ok (.bipush 16, 2) := by decide +kernel
theorem dX5_init_7 : decode cX5_init 7 = .ok (.putfield 9, 3) := by decide +kernel
theorem dX5_init_10 : decode cX5_init 10 = .ok (.return_, 1) := by decide +kernel
theorem dX5_open_0 : decode cX5_open 0 = .ok (.aload_n 0, 1) := by decide +kernel
theorem dX5_open_1 : decode cX5_open 1 = .ok (.aload_n 1, 1) := by decide +kernel
theorem dX5_open_2 : decode cX5_open 2 = .ok (.putfield 13, 3) := by decide +kernel
theorem dX5_open_5 : decode cX5_open 5 = .ok (.aload_n 0, 1) := by decide +kernel
theorem dX5_open_6 : decode cX5_open 6 = .ok (.aload_n 1, 1) := by decide +kernel
theorem dX5_open_7 : decode cX5_open 7 = .ok (.ifnonnull 7, 3) := by decide +kernel
theorem dX5_open_10 : decode cX5_open 10 = .ok (.iconst 0, 1) := by decide +kernel
theorem dX5_open_11 : decode cX5_open 11 = .ok (.goto 9, 3) := by decide +kernel
theorem dX5_open_14 : decode cX5_open 14 = .ok (.iload_n 2, 1) := by decide +kernel
theorem dX5_open_15 : decode cX5_open 15 = .ok (.aload_n 1, 1) := by decide +kernel
theorem dX5_open_16 : decode cX5_open 16 = .ok (.arraylength, 1) := by decide +kernel
theorem dX5_open_17 : decode cX5_open 17 = .ok (.invokestatic 17, 3) := by decide +kernel
theorem dX5_open_20 : decode cX5_open 20 = .ok (.putfield 23, 3) := by decide +kernel
theorem dX5_open_23 : decode cX5_open 23 = .ok (.aload_n 0, 1) := by decide +kernel
theorem dX5_open_24 : decode cX5_open 24 = .ok (.iconst 0, 1) := by decide +kernel
theorem dX5_open_25 : decode cX5_open 25 = .ok (.putfield 26, 3) := by decide +kernel
theorem dX5_open_28 : decode cX5_open 28 = .ok (.aload_n 0, 1) := by decide +kernel
theorem dX5_open_29 : decode cX5_open 29 = .ok (.invokevirtual 29, 3) := by decide +kernel
theorem dX5_open_32 : decode cX5_open 32 = .ok (.return_, 1) := by decide +kernel
theorem dX5_advance_0 : decode cX5_advance 0 = .ok (.aload_n 0, 1) := by decide +kernel
theorem dX5_advance_1 : decode cX5_advance 1 = .ok (.getfield 26, 3) := by decide +kernel
theorem dX5_advance_4 : decode cX5_advance 4 = .ok (.aload_n 0, 1) := by decide +kernel
theorem dX5_advance_5 : decode cX5_advance 5 = .ok (.getfield 23, 3) := by decide +kernel
theorem dX5_advance_8 : decode cX5_advance 8 = .ok (.if_icmp .ge 44, 3) := by decide +kernel
theorem dX5_advance_11 : decode cX5_advance 11 = .ok (.aload_n 0, 1) := by decide +kernel
theorem dX5_advance_12 : decode cX5_advance 12 = .ok (.getfield 13, 3) := by decide +kernel
theorem dX5_advance_15 : decode cX5_advance 15 = .ok (.aload_n 0, 1) := by decide +kernel
theorem dX5_advance_16 : decode cX5_advance 16 = .ok (.getfield 26, 3) := by decide +kernel
theorem dX5_advance_19 : decode cX5_advance 19 = .ok (.baload, 1) := by decide +kernel
theorem dX5_advance_20 : decode cX5_advance 20 = .ok (.bipush 32, 2) := by decide +kernel
theorem dX5_advance_22 : decode cX5_advance 22 = .ok (.if_icmp .eq 17, 3) := by decide +kernel
theorem dX5_advance_25 : decode cX5_advance 25 = .ok (.aload_n 0, 1) := by decide +kernel
theorem dX5_advance_26 : decode cX5_advance 26 = .ok (.getfield 13, 3) := by decide +kernel
theorem dX5_advance_29 : decode cX5_advance 29 = .ok (.aload_n 0, 1) := by decide +kernel
theorem dX5_advance_30 : decode cX5_advance 30 = .ok (.getfield 26, 3) := by decide +kernel
theorem dX5_advance_33 : decode cX5_advance 33 = .ok (.baload, 1) := by decide +kernel
theorem dX5_advance_34 : decode cX5_advance 34 = .ok (.bipush 10, 2) := by decide +kernel
theorem dX5_advance_36 : decode cX5_advance 36 = .ok (.if_icmp .ne 16, 3) := by decide +kernel
theorem dX5_advance_39 : decode cX5_advance 39 = .ok (.aload_n 0, 1) := by decide +kernel
theorem dX5_advance_40 : decode cX5_advance 40 = .ok (.dup, 1) := by decide +kernel
theorem dX5_advance_41 : decode cX5_advance 41 = .ok (.getfield 26, 3) := by decide +kernel
theorem dX5_advance_44 : decode cX5_advance 44 = .ok (.iconst 1, 1) := by decide +kernel
theorem dX5_advance_45 : decode cX5_advance 45 = .ok (.iadd, 1) := by decide +kernel
theorem dX5_advance_46 : decode cX5_advance 46 = .ok (.putfield 26, 3) := by decide +kernel
theorem dX5_advance_49 : decode cX5_advance 49 = .ok (.goto (-49), 3) := by decide +kernel
theorem dX5_advance_52 : decode cX5_advance 52 = .ok (.aload_n 0, 1) := by decide +kernel
theorem dX5_advance_53 : decode cX5_advance 53 = .ok (.aload_n 0, 1) := by decide +kernel
theorem dX5_advance_54 : decode cX5_advance 54 = .ok (.getfield 26, 3) := by decide +kernel
theorem dX5_advance_57 : decode cX5_advance 57 = .ok (.putfield 32, 3) := by decide +kernel
theorem dX5_advance_60 : decode cX5_advance 60 = .ok (.aload_n 0, 1) := by decide +kernel
theorem dX5_advance_61 : decode cX5_advance 61 = .ok (.bipush 97, 2) := by decide +kernel
theorem dX5_advance_63 : decode cX5_advance 63 = .ok (.bipush 122, 2) := by decide +kernel
theorem dX5_advance_65 : decode cX5_advance 65 = .ok (.invokevirtual 35, 3) := by decide +kernel
theorem dX5_advance_68 : decode cX5_advance 68 = .ok (.istore_n 1, 1) := by decide +kernel
theorem dX5_advance_69 : decode cX5_advance 69 = .ok (.aload_n 0, 1) := by decide +kernel
theorem dX5_advance_70 : decode cX5_advance 70 = .ok (.bipush 48, 2) := by decide +kernel
theorem dX5_advance_72 : decode cX5_advance 72 = .ok (.bipush 57, 2) := by decide +kernel
theorem dX5_advance_74 : decode cX5_advance 74 = .ok (.invokevirtual 35, 3) := by decide +kernel
theorem dX5_advance_77 : decode cX5_advance 77 = .ok (.istore_n 2, 1) := by decide +kernel
theorem dX5_advance_78 : decode cX5_advance 78 = .ok (.aload_n 0, 1) := by decide +kernel
theorem dX5_advance_79 : decode cX5_advance 79 = .ok (.getfield 26, 3) := by decide +kernel
theorem dX5_advance_82 : decode cX5_advance 82 = .ok (.aload_n 0, 1) := by decide +kernel
theorem dX5_advance_83 : decode cX5_advance 83 = .ok (.getfield 23, 3) := by decide +kernel
theorem dX5_advance_86 : decode cX5_advance 86 = .ok (.if_icmp .lt 12, 3) := by decide +kernel
theorem dX5_advance_89 : decode cX5_advance 89 = .ok (.aload_n 0, 1) := by decide +kernel
theorem dX5_advance_90 : decode cX5_advance 90 = .ok (.bipush 16, 2) := by decide +kernel
theorem dX5_advance_92 : decode cX5_advance 92 = .ok (.putfield 9, 3) := by decide +kernel
theorem dX5_advance_95 : decode cX5_advance 95 = .ok (.goto 139, 3) := by decide +kernel
theorem dX5_advance_98 : decode cX5_advance 98 = .ok (.iload_n 1, 1) := by decide +kernel
theorem dX5_advance_99 : decode cX5_advance 99 = .ok (.ifCond .le 47, 3) := by decide +kernel
theorem dX5_advance_102 : decode cX5_advance 102 = .ok (.aload_n 0, 1) := by decide +kernel
theorem dX5_advance_103 : decode cX5_advance 103 = .ok (.aload_n 0, 1) := by decide +kernel
theorem dX5_advance_104 : decode cX5_advance 104 = .ok (.iload_n 1, 1) := by decide +kernel
theorem dX5_advance_105 : decode cX5_advance 105 = .ok (.invokevirtual 38, 3) := by decide +kernel
theorem dX5_advance_108 : decode cX5_advance 108 = .ok (.putfield 42, 3) := by decide +kernel
theorem dX5_advance_111 : decode cX5_advance 111 = .ok (.aload_n 0, 1) := by decide +kernel
theorem dX5_advance_112 : decode cX5_advance 112 = .ok (.dup, 1) := by decide +kernel
theorem dX5_advance_113 : decode cX5_advance 113 = .ok (.getfield 26, 3) := by decide +kernel
theorem dX5_advance_116 : decode cX5_advance 116 = .ok (.iload_n 1, 1) := by decide +kernel
theorem dX5_advance_117 : decode cX5_advance 117 = .ok (.iadd, 1) := by decide +kernel
theorem dX5_advance_118 : decode cX5_advance 118 = .ok (.putfield 26, 3) := by decide +kernel
theorem dX5_advance_121 : decode cX5_advance 121 = .ok (.aload_n 0, 1) := by decide +kernel
theorem dX5_advance_122 : decode cX5_advance 122 = .ok (.iload_n 1, 1) := by decide +kernel
theorem dX5_advance_123 : decode cX5_advance 123 = .ok (.bipush 8, 2) := by decide +kernel
theorem dX5_advance_125 : decode cX5_advance 125 = .ok (.if_icmp .le 8, 3) := by decide +kernel
theorem dX5_advance_128 : decode cX5_advance 128 = .ok (.bipush 17, 2) := by decide +kernel
theorem dX5_advance_130 : decode cX5_advance 130 = .ok (.goto 10, 3) := by decide +kernel
theorem dX5_advance_133 : decode cX5_advance 133 = .ok (.aload_n 0, 1) := by decide +kernel
theorem dX5_advance_134 : decode cX5_advance 134 = .ok (.getfield 42, 3) := by decide +kernel
theorem dX5_advance_137 : decode cX5_advance 137 = .ok (.invokestatic 46, 3) := by decide +kernel
theorem dX5_advance_140 : decode cX5_advance 140 = .ok (.putfield 9, 3) := by decide +kernel
theorem dX5_advance_143 : decode cX5_advance 143 = .ok (.goto 91, 3) := by decide +kernel
theorem dX5_advance_146 : decode cX5_advance 146 = .ok (.iload_n 2, 1) := by decide +kernel
theorem dX5_advance_147 : decode cX5_advance 147 = .ok (.ifCond .le 52, 3) := by decide +kernel
theorem dX5_advance_150 : decode cX5_advance 150 = .ok (.aload_n 0, 1) := by decide +kernel
theorem dX5_advance_151 : decode cX5_advance 151 = .ok (.aload_n 0, 1) := by decide +kernel
theorem dX5_advance_152 : decode cX5_advance 152 = .ok (.iload_n 2, 1) := by decide +kernel
theorem dX5_advance_153 : decode cX5_advance 153 = .ok (.invokevirtual 50, 3) := by decide +kernel
theorem dX5_advance_156 : decode cX5_advance 156 = .ok (.putfield 54, 3) := by decide +kernel
theorem dX5_advance_159 : decode cX5_advance 159 = .ok (.aload_n 0, 1) := by decide +kernel
theorem dX5_advance_160 : decode cX5_advance 160 = .ok (.dup, 1) := by decide +kernel
theorem dX5_advance_161 : decode cX5_advance 161 = .ok (.getfield 26, 3) := by decide +kernel
theorem dX5_advance_164 : decode cX5_advance 164 = .ok (.iload_n 2, 1) := by decide +kernel
theorem dX5_advance_165 : decode cX5_advance 165 = .ok (.iadd, 1) := by decide +kernel
theorem dX5_advance_166 : decode cX5_advance 166 = .ok (.putfield 26, 3) := by decide +kernel
theorem dX5_advance_169 : decode cX5_advance 169 = .ok (.aload_n 0, 1) := by decide +kernel
theorem dX5_advance_170 : decode cX5_advance 170 = .ok (.iload_n 2, 1) := by decide +kernel
theorem dX5_advance_171 : decode cX5_advance 171 = .ok (.iconst 4, 1) := by decide +kernel
theorem dX5_advance_172 : decode cX5_advance 172 = .ok (.if_icmp .gt 14, 3) := by decide +kernel
theorem dX5_advance_175 : decode cX5_advance 175 = .ok (.aload_n 0, 1) := by decide +kernel
theorem dX5_advance_176 : decode cX5_advance 176 = .ok (.bipush 97, 2) := by decide +kernel
theorem dX5_advance_178 : decode cX5_advance 178 = .ok (.bipush 122, 2) := by decide +kernel
theorem dX5_advance_180 : decode cX5_advance 180 = .ok (.invokevirtual 35, 3) := by decide +kernel
theorem dX5_advance_183 : decode cX5_advance 183 = .ok (.ifCond .le 8, 3) := by decide +kernel
theorem dX5_advance_186 : decode cX5_advance 186 = .ok (.bipush 17, 2) := by decide +kernel
theorem dX5_advance_188 : decode cX5_advance 188 = .ok (.goto 5, 3) := by decide +kernel
theorem dX5_advance_191 : decode cX5_advance 191 = .ok (.bipush 14, 2) := by decide +kernel
theorem dX5_advance_193 : decode cX5_advance 193 = .ok (.putfield 9, 3) := by decide +kernel
theorem dX5_advance_196 : decode cX5_advance 196 = .ok (.goto 38, 3) := by decide +kernel
theorem dX5_advance_199 : decode cX5_advance 199 = .ok (.aload_n 0, 1) := by decide +kernel
theorem dX5_advance_200 : decode cX5_advance 200 = .ok (.aload_n 0, 1) := by decide +kernel
theorem dX5_advance_201 : decode cX5_advance 201 = .ok (.getfield 13, 3) := by decide +kernel
theorem dX5_advance_204 : decode cX5_advance 204 = .ok (.aload_n 0, 1) := by decide +kernel
theorem dX5_advance_205 : decode cX5_advance 205 = .ok (.getfield 26, 3) := by decide +kernel
theorem dX5_advance_208 : decode cX5_advance 208 = .ok (.baload, 1) := by decide +kernel
theorem dX5_advance_209 : decode cX5_advance 209 = .ok (.bipush 59, 2) := by decide +kernel
theorem dX5_advance_211 : decode cX5_advance 211 = .ok (.if_icmp .ne 8, 3) := by decide +kernel
theorem dX5_advance_214 : decode cX5_advance 214 = .ok (.bipush 15, 2) := by decide +kernel
theorem dX5_advance_216 : decode cX5_advance 216 = .ok (.goto 5, 3) := by decide +kernel
theorem dX5_advance_219 : decode cX5_advance 219 = .ok (.bipush 17, 2) := by decide +kernel
theorem dX5_advance_221 : decode cX5_advance 221 = .ok (.putfield 9, 3) := by decide +kernel
theorem dX5_advance_224 : decode cX5_advance 224 = .ok (.aload_n 0, 1) := by decide +kernel
theorem dX5_advance_225 : decode cX5_advance 225 = .ok (.dup, 1) := by decide +kernel
theorem dX5_advance_226 : decode cX5_advance 226 = .ok (.getfield 26, 3) := by decide +kernel
theorem dX5_advance_229 : decode cX5_advance 229 = .ok (.iconst 1, 1) := by decide +kernel
theorem dX5_advance_230 : decode cX5_advance 230 = .ok (.iadd, 1) := by decide +kernel
theorem dX5_advance_231 : decode cX5_advance 231 = .ok (.putfield 26, 3) := by decide +kernel
theorem dX5_advance_234 : decode cX5_advance 234 = .ok (.return_, 1) := by decide +kernel
theorem dX5_runOf_0 : decode cX5_runOf 0 = .ok (.aload_n 0, 1) := by decide +kernel
theorem dX5_runOf_1 : decode cX5_runOf 1 = .ok (.getfield 26, 3) := by decide +kernel
theorem dX5_runOf_4 : decode cX5_runOf 4 = .ok (.istore_n 3, 1) := by decide +kernel
theorem dX5_runOf_5 : decode cX5_runOf 5 = .ok (.iload_n 3, 1) := by decide +kernel
theorem dX5_runOf_6 : decode cX5_runOf 6 = .ok (.aload_n 0, 1) := by decide +kernel
theorem dX5_runOf_7 : decode cX5_runOf 7 = .ok (.getfield 23, 3) := by decide +kernel
theorem dX5_runOf_10 : decode cX5_runOf 10 = .ok (.if_icmp .ge 29, 3) := by decide +kernel
theorem dX5_runOf_13 : decode cX5_runOf 13 = .ok (.aload_n 0, 1) := by decide +kernel
theorem dX5_runOf_14 : decode cX5_runOf 14 = .ok (.getfield 13, 3) := by decide +kernel
theorem dX5_runOf_17 : decode cX5_runOf 17 = .ok (.iload_n 3, 1) := by decide +kernel
theorem dX5_runOf_18 : decode cX5_runOf 18 = .ok (.baload, 1) := by decide +kernel
theorem dX5_runOf_19 : decode cX5_runOf 19 = .ok (.iload_n 1, 1) := by decide +kernel
theorem dX5_runOf_20 : decode cX5_runOf 20 = .ok (.if_icmp .lt 19, 3) := by decide +kernel
theorem dX5_runOf_23 : decode cX5_runOf 23 = .ok (.aload_n 0, 1) := by decide +kernel
theorem dX5_runOf_24 : decode cX5_runOf 24 = .ok (.getfield 13, 3) := by decide +kernel
theorem dX5_runOf_27 : decode cX5_runOf 27 = .ok (.iload_n 3, 1) := by decide +kernel
theorem dX5_runOf_28 : decode cX5_runOf 28 = .ok (.baload, 1) := by decide +kernel
theorem dX5_runOf_29 : decode cX5_runOf 29 = .ok (.iload_n 2, 1) := by decide +kernel
theorem dX5_runOf_30 : decode cX5_runOf 30 = .ok (.if_icmp .gt 9, 3) := by decide +kernel
theorem dX5_runOf_33 : decode cX5_runOf 33 = .ok (.iinc 3 1, 3) := by decide +kernel
theorem dX5_runOf_36 : decode cX5_runOf 36 = .ok (.goto (-31), 3) := by decide +kernel
theorem dX5_runOf_39 : decode cX5_runOf 39 = .ok (.iload_n 3, 1) := by decide +kernel
theorem dX5_runOf_40 : decode cX5_runOf 40 = .ok (.aload_n 0, 1) := by decide +kernel
theorem dX5_runOf_41 : decode cX5_runOf 41 = .ok (.getfield 26, 3) := by decide +kernel
theorem dX5_runOf_44 : decode cX5_runOf 44 = .ok (.isub, 1) := by decide +kernel
theorem dX5_runOf_45 : decode cX5_runOf 45 = .ok (.ireturn, 1) := by decide +kernel
theorem dX5_packed_0 : decode cX5_packed 0 = .ok (.lconst 0, 1) := by decide +kernel
theorem dX5_packed_1 : decode cX5_packed 1 = .ok (.lstore_n 2, 1) := by decide +kernel
theorem dX5_packed_2 : decode cX5_packed 2 = .ok (.aload_n 0, 1) := by decide +kernel
theorem dX5_packed_3 : decode cX5_packed 3 = .ok (.getfield 26, 3) := by decide +kernel
theorem dX5_packed_6 : decode cX5_packed 6 = .ok (.istore 4, 2) := by decide +kernel
theorem dX5_packed_8 : decode cX5_packed 8 = .ok (.iload 4, 2) := by decide +kernel
theorem dX5_packed_10 : decode cX5_packed 10 = .ok (.aload_n 0, 1) := by decide +kernel
theorem dX5_packed_11 : decode cX5_packed 11 = .ok (.getfield 26, 3) := by decide +kernel
theorem dX5_packed_14 : decode cX5_packed 14 = .ok (.iload_n 1, 1) := by decide +kernel
theorem dX5_packed_15 : decode cX5_packed 15 = .ok (.iadd, 1) := by decide +kernel
theorem dX5_packed_16 : decode cX5_packed 16 = .ok (.if_icmp .ge 32, 3) := by decide +kernel
theorem dX5_packed_19 : decode cX5_packed 19 = .ok (.iload 4, 2) := by decide +kernel
theorem dX5_packed_21 : decode cX5_packed 21 = .ok (.aload_n 0, 1) := by decide +kernel
theorem dX5_packed_22 : decode cX5_packed 22 = .ok (.getfield 23, 3) := by decide +kernel
theorem dX5_packed_25 : decode cX5_packed 25 = .ok (.if_icmp .ge 23, 3) := by decide +kernel
theorem dX5_packed_28 : decode cX5_packed 28 = .ok (.lload_n 2, 1) := by decide +kernel
theorem dX5_packed_29 : decode cX5_packed 29 = .ok (.bipush 8, 2) := by decide +kernel
theorem dX5_packed_31 : decode cX5_packed 31 = .ok (.lshl, 1) := by decide +kernel
theorem dX5_packed_32 : decode cX5_packed 32 = .ok (.aload_n 0, 1) := by decide +kernel
theorem dX5_packed_33 : decode cX5_packed 33 = .ok (.getfield 13, 3) := by decide +kernel
theorem dX5_packed_36 : decode cX5_packed 36 = .ok (.iload 4, 2) := by decide +kernel
theorem dX5_packed_38 : decode cX5_packed 38 = .ok (.baload, 1) := by decide +kernel
theorem dX5_packed_39 : decode cX5_packed 39 = .ok (.i2l, 1) := by decide +kernel
theorem dX5_packed_40 : decode cX5_packed 40 = .ok (.lor, 1) := by decide +kernel
theorem dX5_packed_41 : decode cX5_packed 41 = .ok (.lstore_n 2, 1) := by decide +kernel
theorem dX5_packed_42 : decode cX5_packed 42 = .ok (.iinc 4 1, 3) := by decide +kernel
theorem dX5_packed_45 : decode cX5_packed 45 = .ok (.goto (-37), 3) := by decide +kernel
theorem dX5_packed_48 : decode cX5_packed 48 = .ok (.lload_n 2, 1) := by decide +kernel
theorem dX5_packed_49 : decode cX5_packed 49 = .ok (.lreturn, 1) := by decide +kernel
theorem dX5_valueOf_0 : decode cX5_valueOf 0 = .ok (.iconst 0, 1) := by decide +kernel
theorem dX5_valueOf_1 : decode cX5_valueOf 1 = .ok (.istore_n 2, 1) := by decide +kernel
theorem dX5_valueOf_2 : decode cX5_valueOf 2 = .ok (.aload_n 0, 1) := by decide +kernel
theorem dX5_valueOf_3 : decode cX5_valueOf 3 = .ok (.getfield 26, 3) := by decide +kernel
theorem dX5_valueOf_6 : decode cX5_valueOf 6 = .ok (.istore_n 3, 1) := by decide +kernel
theorem dX5_valueOf_7 : decode cX5_valueOf 7 = .ok (.iload_n 3, 1) := by decide +kernel
theorem dX5_valueOf_8 : decode cX5_valueOf 8 = .ok (.aload_n 0, 1) := by decide +kernel
theorem dX5_valueOf_9 : decode cX5_valueOf 9 = .ok (.getfield 26, 3) := by decide +kernel
theorem dX5_valueOf_12 : decode cX5_valueOf 12 = .ok (.iload_n 1, 1) := by decide +kernel
theorem dX5_valueOf_13 : decode cX5_valueOf 13 = .ok (.iadd, 1) := by decide +kernel
theorem dX5_valueOf_14 : decode cX5_valueOf 14 = .ok (.if_icmp .ge 32, 3) := by decide +kernel
theorem dX5_valueOf_17 : decode cX5_valueOf 17 = .ok (.iload_n 3, 1) := by decide +kernel
theorem dX5_valueOf_18 : decode cX5_valueOf 18 = .ok (.aload_n 0, 1) := by decide +kernel
theorem dX5_valueOf_19 : decode cX5_valueOf 19 = .ok (.getfield 23, 3) := by decide +kernel
theorem dX5_valueOf_22 : decode cX5_valueOf 22 = .ok (.if_icmp .ge 24, 3) := by decide +kernel
theorem dX5_valueOf_25 : decode cX5_valueOf 25 = .ok (.iload_n 2, 1) := by decide +kernel
theorem dX5_valueOf_26 : decode cX5_valueOf 26 = .ok (.bipush 10, 2) := by decide +kernel
theorem dX5_valueOf_28 : decode cX5_valueOf 28 = .ok (.imul, 1) := by decide +kernel
theorem dX5_valueOf_29 : decode cX5_valueOf 29 = .ok (.aload_n 0, 1) := by decide +kernel
theorem dX5_valueOf_30 : decode cX5_valueOf 30 = .ok (.getfield 13, 3) := by decide +kernel
theorem dX5_valueOf_33 : decode cX5_valueOf 33 = .ok (.iload_n 3, 1) := by decide +kernel
theorem dX5_valueOf_34 : decode cX5_valueOf 34 = .ok (.baload, 1) := by decide +kernel
theorem dX5_valueOf_35 : decode cX5_valueOf 35 = .ok (.bipush 48, 2) := by decide +kernel
theorem dX5_valueOf_37 : decode cX5_valueOf 37 = .ok (.isub, 1) := by decide +kernel
theorem dX5_valueOf_38 : decode cX5_valueOf 38 = .ok (.iadd, 1) := by decide +kernel
theorem dX5_valueOf_39 : decode cX5_valueOf 39 = .ok (.istore_n 2, 1) := by decide +kernel
theorem dX5_valueOf_40 : decode cX5_valueOf 40 = .ok (.iinc 3 1, 3) := by decide +kernel
theorem dX5_valueOf_43 : decode cX5_valueOf 43 = .ok (.goto (-36), 3) := by decide +kernel
theorem dX5_valueOf_46 : decode cX5_valueOf 46 = .ok (.iload_n 2, 1) := by decide +kernel
theorem dX5_valueOf_47 : decode cX5_valueOf 47 = .ok (.ireturn, 1) := by decide +kernel
theorem dX5_meaningOf_0 : decode cX5_meaningOf 0 = .ok (.iconst 0, 1) := by decide +kernel
theorem dX5_meaningOf_1 : decode cX5_meaningOf 1 = .ok (.istore_n 2, 1) := by decide +kernel
theorem dX5_meaningOf_2 : decode cX5_meaningOf 2 = .ok (.iload_n 2, 1) := by decide +kernel
theorem dX5_meaningOf_3 : decode cX5_meaningOf 3 = .ok (.getstatic 57, 3) := by decide +kernel
theorem dX5_meaningOf_6 : decode cX5_meaningOf 6 = .ok (.arraylength, 1) := by decide +kernel
theorem dX5_meaningOf_7 : decode cX5_meaningOf 7 = .ok (.if_icmp .ge 21, 3) := by decide +kernel
theorem dX5_meaningOf_10 : decode cX5_meaningOf 10 = .ok (.getstatic 57, 3) := by decide +kernel
theorem dX5_meaningOf_13 : decode cX5_meaningOf 13 = .ok (.iload_n 2, 1) := by decide +kernel
theorem dX5_meaningOf_14 : decode cX5_meaningOf 14 = .ok (.laload, 1) := by decide +kernel
theorem dX5_meaningOf_15 : decode cX5_meaningOf 15 = .ok (.lload_n 0, 1) := by decide +kernel
theorem dX5_meaningOf_16 : decode cX5_meaningOf 16 = .ok (.lcmp, 1) := by decide +kernel
theorem dX5_meaningOf_17 : decode cX5_meaningOf 17 = .ok (.ifCond .ne 5, 3) := by decide +kernel
theorem dX5_meaningOf_20 : decode cX5_meaningOf 20 = .ok (.iload_n 2, 1) := by decide +kernel
theorem dX5_meaningOf_21 : decode cX5_meaningOf 21 = .ok (.ireturn, 1) := by decide +kernel
theorem dX5_meaningOf_22 : decode cX5_meaningOf 22 = .ok (.iinc 2 1, 3) := by decide +kernel
theorem dX5_meaningOf_25 : decode cX5_meaningOf 25 = .ok (.goto (-23), 3) := by decide +kernel
theorem dX5_meaningOf_28 : decode cX5_meaningOf 28 = .ok (.bipush 13, 2) := by decide +kernel
theorem dX5_meaningOf_30 : decode cX5_meaningOf 30 = .ok (.ireturn, 1) := by decide +kernel
theorem dX6_init_0 : decode cX6_init 0 = .ok (.aload_n 0, 1) := by decide +kernel
theorem dX6_init_1 : decode cX6_init 1 = .ok (.invokespecial 3, 3) := by decide +kernel
theorem dX6_init_4 : decode cX6_init 4 = .ok (.aload_n 0, 1) := by decide +kernel
theorem dX6_init_5 : decode cX6_init 5 = .ok (.new 9, 3) := by decide +kernel
theorem dX6_init_8 : decode cX6_init 8 = .ok (.dup, 1) := by decide +kernel
theorem dX6_init_9 : decode cX6_init 9 = .ok (.invokespecial 11, 3) := by decide +kernel
theorem dX6_init_12 : decode cX6_init 12 = .ok (.putfield 12, 3) := by decide +kernel
theorem dX6_init_15 : decode cX6_init 15 = .ok (.aload_n 0, 1) := by decide +kernel
theorem dX6_init_16 : decode cX6_init 16 = .ok (.iconst (-1), 1) := by decide +kernel
theorem dX6_init_17 : decode cX6_init 17 = .ok (.putfield 18, 3) := by decide +kernel
theorem dX6_init_20 : decode cX6_init 20 = .ok (.return_, 1) := by decide +kernel
theorem dX6_read_0 : decode cX6_read 0 = .ok (.aload_n 0, 1) := by decide +kernel
theorem dX6_read_1 : decode cX6_read 1 = .ok (.aload_n 3, 1) := by decide +kernel
theorem dX6_read_2 : decode cX6_read 2 = .ok (.putfield 22, 3) := by decide +kernel
theorem dX6_read_5 : decode cX6_read 5 = .ok (.aload_n 0, 1) := by decide +kernel
theorem dX6_read_6 : decode cX6_read 6 = .ok (.getfield 22, 3) := by decide +kernel
theorem dX6_read_9 : decode cX6_read 9 = .ok (.invokevirtual 26, 3) := by decide +kernel
theorem dX6_read_12 : decode cX6_read 12 = .ok (.aload_n 0, 1) := by decide +kernel
theorem dX6_read_13 : decode cX6_read 13 = .ok (.iconst 0, 1) := by decide +kernel
theorem dX6_read_14 : decode cX6_read 14 = .ok (.putfield 31, 3) := by decide +kernel
theorem dX6_read_17 : decode cX6_read 17 = .ok (.aload_n 0, 1) := by decide +kernel
theorem dX6_read_18 : decode cX6_read 18 = .ok (.iconst 0, 1) := by decide +kernel
theorem dX6_read_19 : decode cX6_read 19 = .ok (.putfield 35, 3) := by decide +kernel
theorem dX6_read_22 : decode cX6_read 22 = .ok (.aload_n 0, 1) := by decide +kernel
theorem dX6_read_23 : decode cX6_read 23 = .ok (.iconst (-1), 1) := by decide +kernel
theorem dX6_read_24 : decode cX6_read 24 = .ok (.putfield 18, 3) := by decide +kernel
theorem dX6_read_27 : decode cX6_read 27 = .ok (.aload_n 0, 1) := by decide +kernel
theorem dX6_read_28 : decode cX6_read 28 = .ok (.getfield 12, 3) := by decide +kernel
theorem dX6_read_31 : decode cX6_read 31 = .ok (.aload_n 1, 1) := by decide +kernel
theorem dX6_read_32 : decode cX6_read 32 = .ok (.iload_n 2, 1) := by decide +kernel
theorem dX6_read_33 : decode cX6_read 33 = .ok (.invokevirtual 38, 3) := by decide +kernel
theorem dX6_read_36 : decode cX6_read 36 = .ok (.iconst 0, 1) := by decide +kernel
theorem dX6_read_37 : decode cX6_read 37 = .ok (.istore 4, 2) := by decide +kernel
theorem dX6_read_39 : decode cX6_read 39 = .ok (.iload 4, 2) := by decide +kernel
theorem dX6_read_41 : decode cX6_read 41 = .ok (.sipush 1600, 3) := by decide +kernel
theorem dX6_read_44 : decode cX6_read 44 = .ok (.if_icmp .gt 32, 3) := by decide +kernel
theorem dX6_read_47 : decode cX6_read 47 = .ok (.aload_n 0, 1) := by decide +kernel
theorem dX6_read_48 : decode cX6_read 48 = .ok (.getfield 35, 3) := by decide +kernel
theorem dX6_read_51 : decode cX6_read 51 = .ok (.ifCond .ne 25, 3) := by decide +kernel
theorem dX6_read_54 : decode cX6_read 54 = .ok (.aload_n 0, 1) := by decide +kernel
theorem dX6_read_55 : decode cX6_read 55 = .ok (.getfield 12, 3) := by decide +kernel
theorem dX6_read_58 : decode cX6_read 58 = .ok (.getfield 42, 3) := by decide +kernel
theorem dX6_read_61 : decode cX6_read 61 = .ok (.bipush 16, 2) := by decide +kernel
theorem dX6_read_63 : decode cX6_read 63 = .ok (.if_icmp .eq 13, 3) := by decide +kernel
theorem dX6_read_66 : decode cX6_read 66 = .ok (.aload_n 0, 1) := by decide +kernel
theorem dX6_read_67 : decode cX6_read 67 = .ok (.invokevirtual 45, 3) := by decide +kernel
theorem dX6_read_70 : decode cX6_read 70 = .ok (.iinc 4 1, 3) := by decide +kernel
theorem dX6_read_73 : decode cX6_read 73 = .ok (.goto (-34), 3) := by decide +kernel
theorem dX6_read_76 : decode cX6_read 76 = .ok (.aload_n 0, 1) := by decide +kernel
theorem dX6_read_77 : decode cX6_read 77 = .ok (.getfield 35, 3) := by decide +kernel
theorem dX6_read_80 : decode cX6_read 80 = .ok (.ifCond .ne 10, 3) := by decide +kernel
theorem dX6_read_83 : decode cX6_read 83 = .ok (.aload_n 0, 1) := by decide +kernel
theorem dX6_read_84 : decode cX6_read 84 = .ok (.getfield 22, 3) := by decide +kernel
theorem dX6_read_87 : decode cX6_read 87 = .ok (.invokevirtual 48, 3) := by decide +kernel
theorem dX6_read_90 : decode cX6_read 90 = .ok (.aload_n 0, 1) := by decide +kernel
theorem dX6_read_91 : decode cX6_read 91 = .ok (.getfield 35, 3) := by decide +kernel
theorem dX6_read_94 : decode cX6_read 94 = .ok (.ifCond .ne 7, 3) := by decide +kernel
theorem dX6_read_97 : decode cX6_read 97 = .ok (.iconst 1, 1) := by decide +kernel
theorem dX6_read_98 : decode cX6_read 98 = .ok (.goto 4, 3) := by decide +kernel
theorem dX6_read_101 : decode cX6_read 101 = .ok (.iconst 0, 1) := by decide +kernel
theorem dX6_read_102 : decode cX6_read 102 = .ok (.ireturn, 1) := by decide +kernel
theorem dX6_readLine_0 : decode cX6_readLine 0 = .ok (.aload_n 0, 1) := by decide +kernel
theorem dX6_readLine_1 : decode cX6_readLine 1 = .ok (.getfield 12, 3) := by decide +kernel
theorem dX6_readLine_4 : decode cX6_readLine 4 = .ok (.getfield 42, 3) := by decide +kernel
theorem dX6_readLine_7 : decode cX6_readLine 7 = .ok (.istore_n 1, 1) := by decide +kernel
theorem dX6_readLine_8 : decode cX6_readLine 8 = .ok (.aload_n 0, 1) := by decide +kernel
theorem dX6_readLine_9 : decode cX6_readLine 9 = .ok (.iload_n 1, 1) := by decide +kernel
theorem dX6_readLine_10 : decode cX6_readLine 10 = .ok (.invokevirtual 51, 3) := by decide +kernel
theorem dX6_readLine_13 : decode cX6_readLine 13 = .ok (.ifCond .ne 9, 3) := by decide +kernel
theorem dX6_readLine_16 : decode cX6_readLine 16 = .ok (.aload_n 0, 1) := by decide +kernel
theorem dX6_readLine_17 : decode cX6_readLine 17 = .ok (.iconst 2, 1) := by decide +kernel
theorem dX6_readLine_18 : decode cX6_readLine 18 = .ok (.invokevirtual 55, 3) := by decide +kernel
theorem dX6_readLine_21 : decode cX6_readLine 21 = .ok (.return_, 1) := by decide +kernel
theorem dX6_readLine_22 : decode cX6_readLine 22 = .ok (.aload_n 0, 1) := by decide +kernel
theorem dX6_readLine_23 : decode cX6_readLine 23 = .ok (.getfield 12, 3) := by decide +kernel
theorem dX6_readLine_26 : decode cX6_readLine 26 = .ok (.invokevirtual 59, 3) := by decide +kernel
theorem dX6_readLine_29 : decode cX6_readLine 29 = .ok (.iload_n 1, 1) := by decide +kernel
theorem dX6_readLine_30 : decode cX6_readLine 30 = .ok (.lookupswitch 84 #[(0, 42), (8, 49), (10, 56), (11, 70)], 42) := by decide +kernel
theorem dX6_readLine_72 : decode cX6_readLine 72 = .ok (.aload_n 0, 1) := by decide +kernel
theorem dX6_readLine_73 : decode cX6_readLine 73 = .ok (.invokevirtual 62, 3) := by decide +kernel
theorem dX6_readLine_76 : decode cX6_readLine 76 = .ok (.goto 57, 3) := by decide +kernel
theorem dX6_readLine_79 : decode cX6_readLine 79 = .ok (.aload_n 0, 1) := by decide +kernel
theorem dX6_readLine_80 : decode cX6_readLine 80 = .ok (.invokevirtual 65, 3) := by decide +kernel
theorem dX6_readLine_83 : decode cX6_readLine 83 = .ok (.goto 50, 3) := by decide +kernel
theorem dX6_readLine_86 : decode cX6_readLine 86 = .ok (.aload_n 0, 1) := by decide +kernel
theorem dX6_readLine_87 : decode cX6_readLine 87 = .ok (.getfield 22, 3) := by decide +kernel
theorem dX6_readLine_90 : decode cX6_readLine 90 = .ok (.aload_n 0, 1) := by decide +kernel
theorem dX6_readLine_91 : decode cX6_readLine 91 = .ok (.invokevirtual 68, 3) := by decide +kernel
theorem dX6_readLine_94 : decode cX6_readLine 94 = .ok (.putfield 72, 3) := by decide +kernel
theorem dX6_readLine_97 : decode cX6_readLine 97 = .ok (.goto 36, 3) := by decide +kernel
theorem dX6_readLine_100 : decode cX6_readLine 100 = .ok (.aload_n 0, 1) := by decide +kernel
theorem dX6_readLine_101 : decode cX6_readLine 101 = .ok (.getfield 22, 3) := by decide +kernel
theorem dX6_readLine_104 : decode cX6_readLine 104 = .ok (.aload_n 0, 1) := by decide +kernel
theorem dX6_readLine_105 : decode cX6_readLine 105 = .ok (.invokevirtual 68, 3) := by decide +kernel
theorem dX6_readLine_108 : decode cX6_readLine 108 = .ok (.putfield 75, 3) := by decide +kernel
theorem dX6_readLine_111 : decode cX6_readLine 111 = .ok (.goto 22, 3) := by decide +kernel
theorem dX6_readLine_114 : decode cX6_readLine 114 = .ok (.aload_n 0, 1) := by decide +kernel
theorem dX6_readLine_115 : decode cX6_readLine 115 = .ok (.getfield 22, 3) := by decide +kernel
theorem dX6_readLine_118 : decode cX6_readLine 118 = .ok (.aload_n 0, 1) := by decide +kernel
theorem dX6_readLine_119 : decode cX6_readLine 119 = .ok (.iconst 0, 1) := by decide +kernel
theorem dX6_readLine_120 : decode cX6_readLine 120 = .ok (.bipush 9, 2) := by decide +kernel
theorem dX6_readLine_122 : decode cX6_readLine 122 = .ok (.invokevirtual 78, 3) := by decide +kernel
theorem dX6_readLine_125 : decode cX6_readLine 125 = .ok (.putfield 82, 3) := by decide +kernel
theorem dX6_readLine_128 : decode cX6_readLine 128 = .ok (.aload_n 0, 1) := by decide +kernel
theorem dX6_readLine_129 : decode cX6_readLine 129 = .ok (.iconst 1, 1) := by decide +kernel
theorem dX6_readLine_130 : decode cX6_readLine 130 = .ok (.putfield 31, 3) := by decide +kernel
theorem dX6_readLine_133 : decode cX6_readLine 133 = .ok (.aload_n 0, 1) := by decide +kernel
theorem dX6_readLine_134 : decode cX6_readLine 134 = .ok (.bipush 15, 2) := by decide +kernel
theorem dX6_readLine_136 : decode cX6_readLine 136 = .ok (.invokevirtual 85, 3) := by decide +kernel
theorem dX6_readLine_139 : decode cX6_readLine 139 = .ok (.return_, 1) := by decide +kernel
theorem dX6_mayBegin_0 : decode cX6_mayBegin 0 = .ok (.iload_n 1, 1) := by decide +kernel
theorem dX6_mayBegin_1 : decode cX6_mayBegin 1 = .ok (.lookupswitch 113 #[(0, 43), (8, 61), (10, 79), (11, 96)], 43) := by decide +kernel
theorem dX6_mayBegin_44 : decode cX6_mayBegin 44 = .ok (.aload_n 0, 1) := by decide +kernel
theorem dX6_mayBegin_45 : decode cX6_mayBegin 45 = .ok (.getfield 22, 3) := by decide +kernel
theorem dX6_mayBegin_48 : decode cX6_mayBegin 48 = .ok (.getfield 88, 3) := by decide +kernel
theorem dX6_mayBegin_51 : decode cX6_mayBegin 51 = .ok (.bipush 12, 2) := by decide +kernel
theorem dX6_mayBegin_53 : decode cX6_mayBegin 53 = .ok (.if_icmp .ge 7, 3) := by decide +kernel
theorem dX6_mayBegin_56 : decode cX6_mayBegin 56 = .ok (.iconst 1, 1) := by decide +kernel
theorem dX6_mayBegin_57 : decode cX6_mayBegin 57 = .ok (.goto 4, 3) := by decide +kernel
theorem dX6_mayBegin_60 : decode cX6_mayBegin 60 = .ok (.iconst 0, 1) := by decide +kernel
theorem dX6_mayBegin_61 : decode cX6_mayBegin 61 = .ok (.ireturn, 1) := by decide +kernel
theorem dX6_mayBegin_62 : decode cX6_mayBegin 62 = .ok (.aload_n 0, 1) := by decide +kernel
theorem dX6_mayBegin_63 : decode cX6_mayBegin 63 = .ok (.getfield 22, 3) := by decide +kernel
theorem dX6_mayBegin_66 : decode cX6_mayBegin 66 = .ok (.getfield 91, 3) := by decide +kernel
theorem dX6_mayBegin_69 : decode cX6_mayBegin 69 = .ok (.bipush 30, 2) := by decide +kernel
theorem dX6_mayBegin_71 : decode cX6_mayBegin 71 = .ok (.if_icmp .ge 7, 3) := by decide +kernel
theorem dX6_mayBegin_74 : decode cX6_mayBegin 74 = .ok (.iconst 1, 1) := by decide +kernel
theorem dX6_mayBegin_75 : decode cX6_mayBegin 75 = .ok (.goto 4, 3) := by decide +kernel
theorem dX6_mayBegin_78 : decode cX6_mayBegin 78 = .ok (.iconst 0, 1) := by decide +kernel
theorem dX6_mayBegin_79 : decode cX6_mayBegin 79 = .ok (.ireturn, 1) := by decide +kernel
theorem dX6_mayBegin_80 : decode cX6_mayBegin 80 = .ok (.aload_n 0, 1) := by decide +kernel
theorem dX6_mayBegin_81 : decode cX6_mayBegin 81 = .ok (.getfield 22, 3) := by decide +kernel
theorem dX6_mayBegin_84 : decode cX6_mayBegin 84 = .ok (.getfield 72, 3) := by decide +kernel
theorem dX6_mayBegin_87 : decode cX6_mayBegin 87 = .ok (.iconst (-1), 1) := by decide +kernel
theorem dX6_mayBegin_88 : decode cX6_mayBegin 88 = .ok (.if_icmp .ne 7, 3) := by decide +kernel
theorem dX6_mayBegin_91 : decode cX6_mayBegin 91 = .ok (.iconst 1, 1) := by decide +kernel
theorem dX6_mayBegin_92 : decode cX6_mayBegin 92 = .ok (.goto 4, 3) := by decide +kernel
theorem dX6_mayBegin_95 : decode cX6_mayBegin 95 = .ok (.iconst 0, 1) := by decide +kernel
theorem dX6_mayBegin_96 : decode cX6_mayBegin 96 = .ok (.ireturn, 1) := by decide +kernel
theorem dX6_mayBegin_97 : decode cX6_mayBegin 97 = .ok (.aload_n 0, 1) := by decide +kernel
theorem dX6_mayBegin_98 : decode cX6_mayBegin 98 = .ok (.getfield 22, 3) := by decide +kernel
theorem dX6_mayBegin_101 : decode cX6_mayBegin 101 = .ok (.getfield 75, 3) := by decide +kernel
theorem dX6_mayBegin_104 : decode cX6_mayBegin 104 = .ok (.iconst (-1), 1) := by decide +kernel
theorem dX6_mayBegin_105 : decode cX6_mayBegin 105 = .ok (.if_icmp .ne 7, 3) := by decide +kernel
theorem dX6_mayBegin_108 : decode cX6_mayBegin 108 = .ok (.iconst 1, 1) := by decide +kernel
theorem dX6_mayBegin_109 : decode cX6_mayBegin 109 = .ok (.goto 4, 3) := by decide +kernel
theorem dX6_mayBegin_112 : decode cX6_mayBegin 112 = .ok (.iconst 0, 1) := by decide +kernel
theorem dX6_mayBegin_113 : decode cX6_mayBegin 113 = .ok (.ireturn, 1) := by decide +kernel
theorem dX6_mayBegin_114 : decode cX6_mayBegin 114 = .ok (.iload_n 1, 1) := by decide +kernel
theorem dX6_mayBegin_115 : decode cX6_mayBegin 115 = .ok (.bipush 12, 2) := by decide +kernel
theorem dX6_mayBegin_117 : decode cX6_mayBegin 117 = .ok (.if_icmp .ne 14, 3) := by decide +kernel
theorem dX6_mayBegin_120 : decode cX6_mayBegin 120 = .ok (.aload_n 0, 1) := by decide +kernel
theorem dX6_mayBegin_121 : decode cX6_mayBegin 121 = .ok (.getfield 31, 3) := by decide +kernel
theorem dX6_mayBegin_124 : decode cX6_mayBegin 124 = .ok (.ifCond .ne 7, 3) := by decide +kernel
theorem dX6_mayBegin_127 : decode cX6_mayBegin 127 = .ok (.iconst 1, 1) := by decide +kernel
theorem dX6_mayBegin_128 : decode cX6_mayBegin 128 = .ok (.goto 4, 3) := by decide +kernel
theorem dX6_mayBegin_131 : decode cX6_mayBegin 131 = .ok (.iconst 0, 1) := by decide +kernel
theorem dX6_mayBegin_132 : decode cX6_mayBegin 132 = .ok (.ireturn, 1) := by decide +kernel
theorem dX6_readOne_0 : decode cX6_readOne 0 = .ok (.aload_n 0, 1) := by decide +kernel
theorem dX6_readOne_1 : decode cX6_readOne 1 = .ok (.getfield 12, 3) := by decide +kernel
theorem dX6_readOne_4 : decode cX6_readOne 4 = .ok (.getfield 42, 3) := by decide +kernel
theorem dX6_readOne_7 : decode cX6_readOne 7 = .ok (.bipush 13, 2) := by decide +kernel
theorem dX6_readOne_9 : decode cX6_readOne 9 = .ok (.if_icmp .eq 9, 3) := by decide +kernel
theorem dX6_readOne_12 : decode cX6_readOne 12 = .ok (.aload_n 0, 1) := by decide +kernel
theorem dX6_readOne_13 : decode cX6_readOne 13 = .ok (.iconst 2, 1) := by decide +kernel
theorem dX6_readOne_14 : decode cX6_readOne 14 = .ok (.invokevirtual 55, 3) := by decide +kernel
theorem dX6_readOne_17 : decode cX6_readOne 17 = .ok (.return_, 1) := by decide +kernel
theorem dX6_readOne_18 : decode cX6_readOne 18 = .ok (.aload_n 0, 1) := by decide +kernel
theorem dX6_readOne_19 : decode cX6_readOne 19 = .ok (.getfield 22, 3) := by decide +kernel
theorem dX6_readOne_22 : decode cX6_readOne 22 = .ok (.aload_n 0, 1) := by decide +kernel
theorem dX6_readOne_23 : decode cX6_readOne 23 = .ok (.getfield 12, 3) := by decide +kernel
theorem dX6_readOne_26 : decode cX6_readOne 26 = .ok (.getfield 94, 3) := by decide +kernel
theorem dX6_readOne_29 : decode cX6_readOne 29 = .ok (.invokevirtual 98, 3) := by decide +kernel
theorem dX6_readOne_32 : decode cX6_readOne 32 = .ok (.iconst (-1), 1) := by decide +kernel
theorem dX6_readOne_33 : decode cX6_readOne 33 = .ok (.if_icmp .eq 9, 3) := by decide +kernel
theorem dX6_readOne_36 : decode cX6_readOne 36 = .ok (.aload_n 0, 1) := by decide +kernel
theorem dX6_readOne_37 : decode cX6_readOne 37 = .ok (.iconst 3, 1) := by decide +kernel
theorem dX6_readOne_38 : decode cX6_readOne 38 = .ok (.invokevirtual 55, 3) := by decide +kernel
theorem dX6_readOne_41 : decode cX6_readOne 41 = .ok (.return_, 1) := by decide +kernel
theorem dX6_readOne_42 : decode cX6_readOne 42 = .ok (.aload_n 0, 1) := by decide +kernel
theorem dX6_readOne_43 : decode cX6_readOne 43 = .ok (.getfield 22, 3) := by decide +kernel
theorem dX6_readOne_46 : decode cX6_readOne 46 = .ok (.getfield 88, 3) := by decide +kernel
theorem dX6_readOne_49 : decode cX6_readOne 49 = .ok (.istore_n 1, 1) := by decide +kernel
theorem dX6_readOne_50 : decode cX6_readOne 50 = .ok (.aload_n 0, 1) := by decide +kernel
theorem dX6_readOne_51 : decode cX6_readOne 51 = .ok (.getfield 22, 3) := by decide +kernel
theorem dX6_readOne_54 : decode cX6_readOne 54 = .ok (.dup, 1) := by decide +kernel
theorem dX6_readOne_55 : decode cX6_readOne 55 = .ok (.getfield 88, 3) := by decide +kernel
theorem dX6_readOne_58 : decode cX6_readOne 58 = .ok (.iconst 1, 1) := by decide +kernel
theorem dX6_readOne_59 : decode cX6_readOne 59 = .ok (.iadd, 1) := by decide +kernel
theorem dX6_readOne_60 : decode cX6_readOne 60 = .ok (.putfield 88, 3) := by decide +kernel
theorem dX6_readOne_63 : decode cX6_readOne 63 = .ok (.aload_n 0, 1) := by decide +kernel
theorem dX6_readOne_64 : decode cX6_readOne 64 = .ok (.getfield 22, 3) := by decide +kernel
theorem dX6_readOne_67 : decode cX6_readOne 67 = .ok (.getfield 102, 3) := by decide +kernel
theorem dX6_readOne_70 : decode cX6_readOne 70 = .ok (.iload_n 1, 1) := by decide +kernel
theorem dX6_readOne_71 : decode cX6_readOne 71 = .ok (.aload_n 0, 1) := by decide +kernel
theorem dX6_readOne_72 : decode cX6_readOne 72 = .ok (.getfield 12, 3) := by decide +kernel
theorem dX6_readOne_75 : decode cX6_readOne 75 = .ok (.getfield 94, 3) := by decide +kernel
theorem dX6_readOne_78 : decode cX6_readOne 78 = .ok (.lastore, 1) := by decide +kernel
theorem dX6_readOne_79 : decode cX6_readOne 79 = .ok (.aload_n 0, 1) := by decide +kernel
theorem dX6_readOne_80 : decode cX6_readOne 80 = .ok (.getfield 12, 3) := by decide +kernel
theorem dX6_readOne_83 : decode cX6_readOne 83 = .ok (.invokevirtual 59, 3) := by decide +kernel
theorem dX6_readOne_86 : decode cX6_readOne 86 = .ok (.aload_n 0, 1) := by decide +kernel
theorem dX6_readOne_87 : decode cX6_readOne 87 = .ok (.getfield 22, 3) := by decide +kernel
theorem dX6_readOne_90 : decode cX6_readOne 90 = .ok (.getfield 106, 3) := by decide +kernel
theorem dX6_readOne_93 : decode cX6_readOne 93 = .ok (.iload_n 1, 1) := by decide +kernel
theorem dX6_readOne_94 : decode cX6_readOne 94 = .ok (.iconst 0, 1) := by decide +kernel
theorem dX6_readOne_95 : decode cX6_readOne 95 = .ok (.iastore, 1) := by decide +kernel
theorem dX6_readOne_96 : decode cX6_readOne 96 = .ok (.aload_n 0, 1) := by decide +kernel
theorem dX6_readOne_97 : decode cX6_readOne 97 = .ok (.getfield 12, 3) := by decide +kernel
theorem dX6_readOne_100 : decode cX6_readOne 100 = .ok (.getfield 42, 3) := by decide +kernel
theorem dX6_readOne_103 : decode cX6_readOne 103 = .ok (.iconst 1, 1) := by decide +kernel
theorem dX6_readOne_104 : decode cX6_readOne 104 = .ok (.if_icmp .eq 25, 3) := by decide +kernel
theorem dX6_readOne_107 : decode cX6_readOne 107 = .ok (.aload_n 0, 1) := by decide +kernel
theorem dX6_readOne_108 : decode cX6_readOne 108 = .ok (.getfield 12, 3) := by decide +kernel
theorem dX6_readOne_111 : decode cX6_readOne 111 = .ok (.getfield 42, 3) := by decide +kernel
theorem dX6_readOne_114 : decode cX6_readOne 114 = .ok (.iconst 2, 1) := by decide +kernel
theorem dX6_readOne_115 : decode cX6_readOne 115 = .ok (.if_icmp .eq 14, 3) := by decide +kernel
theorem dX6_readOne_118 : decode cX6_readOne 118 = .ok (.aload_n 0, 1) := by decide +kernel
theorem dX6_readOne_119 : decode cX6_readOne 119 = .ok (.getfield 12, 3) := by decide +kernel
theorem dX6_readOne_122 : decode cX6_readOne 122 = .ok (.getfield 42, 3) := by decide +kernel
theorem dX6_readOne_125 : decode cX6_readOne 125 = .ok (.iconst 3, 1) := by decide +kernel
theorem dX6_readOne_126 : decode cX6_readOne 126 = .ok (.if_icmp .ne 26, 3) := by decide +kernel
theorem dX6_readOne_129 : decode cX6_readOne 129 = .ok (.aload_n 0, 1) := by decide +kernel
theorem dX6_readOne_130 : decode cX6_readOne 130 = .ok (.getfield 22, 3) := by decide +kernel
theorem dX6_readOne_133 : decode cX6_readOne 133 = .ok (.getfield 106, 3) := by decide +kernel
theorem dX6_readOne_136 : decode cX6_readOne 136 = .ok (.iload_n 1, 1) := by decide +kernel
theorem dX6_readOne_137 : decode cX6_readOne 137 = .ok (.aload_n 0, 1) := by decide +kernel
theorem dX6_readOne_138 : decode cX6_readOne 138 = .ok (.getfield 12, 3) := by decide +kernel
theorem dX6_readOne_141 : decode cX6_readOne 141 = .ok (.getfield 42, 3) := by decide +kernel
theorem dX6_readOne_144 : decode cX6_readOne 144 = .ok (.iastore, 1) := by decide +kernel
theorem dX6_readOne_145 : decode cX6_readOne 145 = .ok (.aload_n 0, 1) := by decide +kernel
theorem dX6_readOne_146 : decode cX6_readOne 146 = .ok (.getfield 12, 3) := by decide +kernel
theorem dX6_readOne_149 : decode cX6_readOne 149 = .ok (.invokevirtual 59, 3) := by decide +kernel
theorem dX6_readOne_152 : decode cX6_readOne 152 = .ok (.aload_n 0, 1) := by decide +kernel
theorem dX6_readOne_153 : decode cX6_readOne 153 = .ok (.iconst 4, 1) := by decide +kernel
theorem dX6_readOne_154 : decode cX6_readOne 154 = .ok (.invokevirtual 85, 3) := by decide +kernel
theorem dX6_readOne_157 : decode cX6_readOne 157 = .ok (.aload_n 0, 1) := by decide +kernel
theorem dX6_readOne_158 : decode cX6_readOne 158 = .ok (.getfield 22, 3) := by decide +kernel
theorem dX6_readOne_161 : decode cX6_readOne 161 = .ok (.getfield 110, 3) := by decide +kernel
theorem dX6_readOne_164 : decode cX6_readOne 164 = .ok (.iload_n 1, 1) := by decide +kernel
theorem dX6_readOne_165 : decode cX6_readOne 165 = .ok (.aload_n 0, 1) := by decide +kernel
theorem dX6_readOne_166 : decode cX6_readOne 166 = .ok (.iconst 0, 1) := by decide +kernel
theorem dX6_readOne_167 : decode cX6_readOne 167 = .ok (.bipush 9, 2) := by decide +kernel
theorem dX6_readOne_169 : decode cX6_readOne 169 = .ok (.invokevirtual 78, 3) := by decide +kernel
theorem dX6_readOne_172 : decode cX6_readOne 172 = .ok (.iastore, 1) := by decide +kernel
theorem dX6_readOne_173 : decode cX6_readOne 173 = .ok (.aload_n 0, 1) := by decide +kernel
theorem dX6_readOne_174 : decode cX6_readOne 174 = .ok (.iconst 5, 1) := by decide +kernel
theorem dX6_readOne_175 : decode cX6_readOne 175 = .ok (.invokevirtual 85, 3) := by decide +kernel
theorem dX6_readOne_178 : decode cX6_readOne 178 = .ok (.aload_n 0, 1) := by decide +kernel
theorem dX6_readOne_179 : decode cX6_readOne 179 = .ok (.getfield 22, 3) := by decide +kernel
theorem dX6_readOne_182 : decode cX6_readOne 182 = .ok (.getfield 113, 3) := by decide +kernel
theorem dX6_readOne_185 : decode cX6_readOne 185 = .ok (.iload_n 1, 1) := by decide +kernel
theorem dX6_readOne_186 : decode cX6_readOne 186 = .ok (.aload_n 0, 1) := by decide +kernel
theorem dX6_readOne_187 : decode cX6_readOne 187 = .ok (.iconst 0, 1) := by decide +kernel
theorem dX6_readOne_188 : decode cX6_readOne 188 = .ok (.bipush 9, 2) := by decide +kernel
theorem dX6_readOne_190 : decode cX6_readOne 190 = .ok (.invokevirtual 78, 3) := by decide +kernel
theorem dX6_readOne_193 : decode cX6_readOne 193 = .ok (.iastore, 1) := by decide +kernel
theorem dX6_readOne_194 : decode cX6_readOne 194 = .ok (.aload_n 0, 1) := by decide +kernel
theorem dX6_readOne_195 : decode cX6_readOne 195 = .ok (.bipush 6, 2) := by decide +kernel
theorem dX6_readOne_197 : decode cX6_readOne 197 = .ok (.invokevirtual 85, 3) := by decide +kernel
theorem dX6_readOne_200 : decode cX6_readOne 200 = .ok (.aload_n 0, 1) := by decide +kernel
theorem dX6_readOne_201 : decode cX6_readOne 201 = .ok (.getfield 22, 3) := by decide +kernel
theorem dX6_readOne_204 : decode cX6_readOne 204 = .ok (.getfield 116, 3) := by decide +kernel
theorem dX6_readOne_207 : decode cX6_readOne 207 = .ok (.iload_n 1, 1) := by decide +kernel
theorem dX6_readOne_208 : decode cX6_readOne 208 = .ok (.aload_n 0, 1) := by decide +kernel
theorem dX6_readOne_209 : decode cX6_readOne 209 = .ok (.iconst 0, 1) := by decide +kernel
theorem dX6_readOne_210 : decode cX6_readOne 210 = .ok (.bipush 99, 2) := by decide +kernel
theorem dX6_readOne_212 : decode cX6_readOne 212 = .ok (.invokevirtual 78, 3) := by decide +kernel
theorem dX6_readOne_215 : decode cX6_readOne 215 = .ok (.iastore, 1) := by decide +kernel
theorem dX6_readOne_216 : decode cX6_readOne 216 = .ok (.aload_n 0, 1) := by decide +kernel
theorem dX6_readOne_217 : decode cX6_readOne 217 = .ok (.bipush 7, 2) := by decide +kernel
theorem dX6_readOne_219 : decode cX6_readOne 219 = .ok (.invokevirtual 85, 3) := by decide +kernel
theorem dX6_readOne_222 : decode cX6_readOne 222 = .ok (.aload_n 0, 1) := by decide +kernel
theorem dX6_readOne_223 : decode cX6_readOne 223 = .ok (.getfield 22, 3) := by decide +kernel
theorem dX6_readOne_226 : decode cX6_readOne 226 = .ok (.getfield 119, 3) := by decide +kernel
theorem dX6_readOne_229 : decode cX6_readOne 229 = .ok (.iload_n 1, 1) := by decide +kernel
theorem dX6_readOne_230 : decode cX6_readOne 230 = .ok (.aload_n 0, 1) := by decide +kernel
theorem dX6_readOne_231 : decode cX6_readOne 231 = .ok (.iconst 0, 1) := by decide +kernel
theorem dX6_readOne_232 : decode cX6_readOne 232 = .ok (.sipush 999, 3) := by decide +kernel
theorem dX6_readOne_235 : decode cX6_readOne 235 = .ok (.invokevirtual 78, 3) := by decide +kernel
theorem dX6_readOne_238 : decode cX6_readOne 238 = .ok (.iastore, 1) := by decide +kernel
theorem dX6_readOne_239 : decode cX6_readOne 239 = .ok (.return_, 1) := by decide +kernel
theorem dX6_readGives_0 : decode cX6_readGives 0 = .ok (.aload_n 0, 1) := by decide +kernel
theorem dX6_readGives_1 : decode cX6_readGives 1 = .ok (.invokevirtual 68, 3) := by decide +kernel
theorem dX6_readGives_4 : decode cX6_readGives 4 = .ok (.istore_n 1, 1) := by decide +kernel
theorem dX6_readGives_5 : decode cX6_readGives 5 = .ok (.aload_n 0, 1) := by decide +kernel
theorem dX6_readGives_6 : decode cX6_readGives 6 = .ok (.getfield 35, 3) := by decide +kernel
theorem dX6_readGives_9 : decode cX6_readGives 9 = .ok (.ifCond .eq 4, 3) := by decide +kernel
theorem dX6_readGives_12 : decode cX6_readGives 12 = .ok (.return_, 1) := by decide +kernel
theorem dX6_readGives_13 : decode cX6_readGives 13 = .ok (.aload_n 0, 1) := by decide +kernel
theorem dX6_readGives_14 : decode cX6_readGives 14 = .ok (.getfield 12, 3) := by decide +kernel
theorem dX6_readGives_17 : decode cX6_readGives 17 = .ok (.getfield 42, 3) := by decide +kernel
theorem dX6_readGives_20 : decode cX6_readGives 20 = .ok (.bipush 13, 2) := by decide +kernel
theorem dX6_readGives_22 : decode cX6_readGives 22 = .ok (.if_icmp .ne 20, 3) := by decide +kernel
theorem dX6_readGives_25 : decode cX6_readGives 25 = .ok (.aload_n 0, 1) := by decide +kernel
theorem dX6_readGives_26 : decode cX6_readGives 26 = .ok (.getfield 22, 3) := by decide +kernel
theorem dX6_readGives_29 : decode cX6_readGives 29 = .ok (.aload_n 0, 1) := by decide +kernel
theorem dX6_readGives_30 : decode cX6_readGives 30 = .ok (.getfield 12, 3) := by decide +kernel
theorem dX6_readGives_33 : decode cX6_readGives 33 = .ok (.getfield 94, 3) := by decide +kernel
theorem dX6_readGives_36 : decode cX6_readGives 36 = .ok (.invokevirtual 98, 3) := by decide +kernel
theorem dX6_readGives_39 : decode cX6_readGives 39 = .ok (.goto 4, 3) := by decide +kernel
theorem dX6_readGives_42 : decode cX6_readGives 42 = .ok (.iconst (-1), 1) := by decide +kernel
theorem dX6_readGives_43 : decode cX6_readGives 43 = .ok (.istore_n 2, 1) := by decide +kernel
theorem dX6_readGives_44 : decode cX6_readGives 44 = .ok (.iload_n 2, 1) := by decide +kernel
theorem dX6_readGives_45 : decode cX6_readGives 45 = .ok (.iconst (-1), 1) := by decide +kernel
theorem dX6_readGives_46 : decode cX6_readGives 46 = .ok (.if_icmp .eq 26, 3) := by decide +kernel
theorem dX6_readGives_49 : decode cX6_readGives 49 = .ok (.iload_n 2, 1) := by decide +kernel
theorem dX6_readGives_50 : decode cX6_readGives 50 = .ok (.iload_n 1, 1) := by decide +kernel
theorem dX6_readGives_51 : decode cX6_readGives 51 = .ok (.if_icmp .eq 15, 3) := by decide +kernel
theorem dX6_readGives_54 : decode cX6_readGives 54 = .ok (.aload_n 0, 1) := by decide +kernel
theorem dX6_readGives_55 : decode cX6_readGives 55 = .ok (.getfield 22, 3) := by decide +kernel
theorem dX6_readGives_58 : decode cX6_readGives 58 = .ok (.iload_n 1, 1) := by decide +kernel
theorem dX6_readGives_59 : decode cX6_readGives 59 = .ok (.iload_n 2, 1) := by decide +kernel
theorem dX6_readGives_60 : decode cX6_readGives 60 = .ok (.invokevirtual 122, 3) := by decide +kernel
theorem dX6_readGives_63 : decode cX6_readGives 63 = .ok (.ifCond .eq 9, 3) := by decide +kernel
theorem dX6_readGives_66 : decode cX6_readGives 66 = .ok (.aload_n 0, 1) := by decide +kernel
theorem dX6_readGives_67 : decode cX6_readGives 67 = .ok (.iconst 3, 1) := by decide +kernel
theorem dX6_readGives_68 : decode cX6_readGives 68 = .ok (.invokevirtual 55, 3) := by decide +kernel
theorem dX6_readGives_71 : decode cX6_readGives 71 = .ok (.return_, 1) := by decide +kernel
theorem dX6_readGives_72 : decode cX6_readGives 72 = .ok (.aload_n 0, 1) := by decide +kernel
theorem dX6_readGives_73 : decode cX6_readGives 73 = .ok (.invokevirtual 68, 3) := by decide +kernel
theorem dX6_readGives_76 : decode cX6_readGives 76 = .ok (.istore_n 2, 1) := by decide +kernel
theorem dX6_readGives_77 : decode cX6_readGives 77 = .ok (.aload_n 0, 1) := by decide +kernel
theorem dX6_readGives_78 : decode cX6_readGives 78 = .ok (.bipush 9, 2) := by decide +kernel
theorem dX6_readGives_80 : decode cX6_readGives 80 = .ok (.invokevirtual 85, 3) := by decide +kernel
theorem dX6_readGives_83 : decode cX6_readGives 83 = .ok (.aload_n 0, 1) := by decide +kernel
theorem dX6_readGives_84 : decode cX6_readGives 84 = .ok (.iconst 1, 1) := by decide +kernel
theorem dX6_readGives_85 : decode cX6_readGives 85 = .ok (.bipush 9, 2) := by decide +kernel
theorem dX6_readGives_87 : decode cX6_readGives 87 = .ok (.invokevirtual 78, 3) := by decide +kernel
theorem dX6_readGives_90 : decode cX6_readGives 90 = .ok (.istore_n 3, 1) := by decide +kernel
theorem dX6_readGives_91 : decode cX6_readGives 91 = .ok (.aload_n 0, 1) := by decide +kernel
theorem dX6_readGives_92 : decode cX6_readGives 92 = .ok (.getfield 35, 3) := by decide +kernel
theorem dX6_readGives_95 : decode cX6_readGives 95 = .ok (.ifCond .ne 30, 3) := by decide +kernel
theorem dX6_readGives_98 : decode cX6_readGives 98 = .ok (.aload_n 0, 1) := by decide +kernel
theorem dX6_readGives_99 : decode cX6_readGives 99 = .ok (.getfield 22, 3) := by decide +kernel
theorem dX6_readGives_102 : decode cX6_readGives 102 = .ok (.getfield 126, 3) := by decide +kernel
theorem dX6_readGives_105 : decode cX6_readGives 105 = .ok (.iload_n 1, 1) := by decide +kernel
theorem dX6_readGives_106 : decode cX6_readGives 106 = .ok (.iload_n 2, 1) := by decide +kernel
theorem dX6_readGives_107 : decode cX6_readGives 107 = .ok (.invokestatic 129, 3) := by decide +kernel
theorem dX6_readGives_110 : decode cX6_readGives 110 = .ok (.iload_n 3, 1) := by decide +kernel
theorem dX6_readGives_111 : decode cX6_readGives 111 = .ok (.iastore, 1) := by decide +kernel
theorem dX6_readGives_112 : decode cX6_readGives 112 = .ok (.aload_n 0, 1) := by decide +kernel
theorem dX6_readGives_113 : decode cX6_readGives 113 = .ok (.getfield 22, 3) := by decide +kernel
theorem dX6_readGives_116 : decode cX6_readGives 116 = .ok (.dup, 1) := by decide +kernel
theorem dX6_readGives_117 : decode cX6_readGives 117 = .ok (.getfield 91, 3) := by decide +kernel
theorem dX6_readGives_120 : decode cX6_readGives 120 = .ok (.iconst 1, 1) := by decide +kernel
theorem dX6_readGives_121 : decode cX6_readGives 121 = .ok (.iadd, 1) := by decide +kernel
theorem dX6_readGives_122 : decode cX6_readGives 122 = .ok (.putfield 91, 3) := by decide +kernel
theorem dX6_readGives_125 : decode cX6_readGives 125 = .ok (.return_, 1) := by decide +kernel
theorem dX6_readKnown_0 : decode cX6_readKnown 0 = .ok (.aload_n 0, 1) := by decide +kernel
theorem dX6_readKnown_1 : decode cX6_readKnown 1 = .ok (.getfield 35, 3) := by decide +kernel
theorem dX6_readKnown_4 : decode cX6_readKnown 4 = .ok (.ifCond .eq 5, 3) := by decide +kernel
theorem dX6_readKnown_7 : decode cX6_readKnown 7 = .ok (.iconst (-1), 1) := by decide +kernel
theorem dX6_readKnown_8 : decode cX6_readKnown 8 = .ok (.ireturn, 1) := by decide +kernel
theorem dX6_readKnown_9 : decode cX6_readKnown 9 = .ok (.aload_n 0, 1) := by decide +kernel
theorem dX6_readKnown_10 : decode cX6_readKnown 10 = .ok (.getfield 12, 3) := by decide +kernel
theorem dX6_readKnown_13 : decode cX6_readKnown 13 = .ok (.getfield 42, 3) := by decide +kernel
theorem dX6_readKnown_16 : decode cX6_readKnown 16 = .ok (.bipush 13, 2) := by decide +kernel
theorem dX6_readKnown_18 : decode cX6_readKnown 18 = .ok (.if_icmp .eq 10, 3) := by decide +kernel
theorem dX6_readKnown_21 : decode cX6_readKnown 21 = .ok (.aload_n 0, 1) := by decide +kernel
theorem dX6_readKnown_22 : decode cX6_readKnown 22 = .ok (.iconst 2, 1) := by decide +kernel
theorem dX6_readKnown_23 : decode cX6_readKnown 23 = .ok (.invokevirtual 55, 3) := by decide +kernel
theorem dX6_readKnown_26 : decode cX6_readKnown 26 = .ok (.iconst (-1), 1) := by decide +kernel
theorem dX6_readKnown_27 : decode cX6_readKnown 27 = .ok (.ireturn, 1) := by decide +kernel
theorem dX6_readKnown_28 : decode cX6_readKnown 28 = .ok (.aload_n 0, 1) := by decide +kernel
theorem dX6_readKnown_29 : decode cX6_readKnown 29 = .ok (.getfield 22, 3) := by decide +kernel
theorem dX6_readKnown_32 : decode cX6_readKnown 32 = .ok (.aload_n 0, 1) := by decide +kernel
theorem dX6_readKnown_33 : decode cX6_readKnown 33 = .ok (.getfield 12, 3) := by decide +kernel
theorem dX6_readKnown_36 : decode cX6_readKnown 36 = .ok (.getfield 94, 3) := by decide +kernel
theorem dX6_readKnown_39 : decode cX6_readKnown 39 = .ok (.invokevirtual 98, 3) := by decide +kernel
theorem dX6_readKnown_42 : decode cX6_readKnown 42 = .ok (.istore_n 1, 1) := by decide +kernel
theorem dX6_readKnown_43 : decode cX6_readKnown 43 = .ok (.iload_n 1, 1) := by decide +kernel
theorem dX6_readKnown_44 : decode cX6_readKnown 44 = .ok (.iconst (-1), 1) := by decide +kernel
theorem dX6_readKnown_45 : decode cX6_readKnown 45 = .ok (.if_icmp .ne 10, 3) := by decide +kernel
theorem dX6_readKnown_48 : decode cX6_readKnown 48 = .ok (.aload_n 0, 1) := by decide +kernel
theorem dX6_readKnown_49 : decode cX6_readKnown 49 = .ok (.iconst 5, 1) := by decide +kernel
theorem dX6_readKnown_50 : decode cX6_readKnown 50 = .ok (.invokevirtual 55, 3) := by decide +kernel
theorem dX6_readKnown_53 : decode cX6_readKnown 53 = .ok (.iconst (-1), 1) := by decide +kernel
theorem dX6_readKnown_54 : decode cX6_readKnown 54 = .ok (.ireturn, 1) := by decide +kernel
theorem dX6_readKnown_55 : decode cX6_readKnown 55 = .ok (.aload_n 0, 1) := by decide +kernel
theorem dX6_readKnown_56 : decode cX6_readKnown 56 = .ok (.getfield 12, 3) := by decide +kernel
theorem dX6_readKnown_59 : decode cX6_readKnown 59 = .ok (.invokevirtual 59, 3) := by decide +kernel
theorem dX6_readKnown_62 : decode cX6_readKnown 62 = .ok (.iload_n 1, 1) := by decide +kernel
theorem dX6_readKnown_63 : decode cX6_readKnown 63 = .ok (.ireturn, 1) := by decide +kernel
theorem dX6_readNumber_0 : decode cX6_readNumber 0 = .ok (.aload_n 0, 1) := by decide +kernel
theorem dX6_readNumber_1 : decode cX6_readNumber 1 = .ok (.getfield 35, 3) := by decide +kernel
theorem dX6_readNumber_4 : decode cX6_readNumber 4 = .ok (.ifCond .eq 5, 3) := by decide +kernel
theorem dX6_readNumber_7 : decode cX6_readNumber 7 = .ok (.iconst 0, 1) := by decide +kernel
theorem dX6_readNumber_8 : decode cX6_readNumber 8 = .ok (.ireturn, 1) := by decide +kernel
theorem dX6_readNumber_9 : decode cX6_readNumber 9 = .ok (.aload_n 0, 1) := by decide +kernel
theorem dX6_readNumber_10 : decode cX6_readNumber 10 = .ok (.getfield 12, 3) := by decide +kernel
theorem dX6_readNumber_13 : decode cX6_readNumber 13 = .ok (.getfield 42, 3) := by decide +kernel
theorem dX6_readNumber_16 : decode cX6_readNumber 16 = .ok (.bipush 14, 2) := by decide +kernel
theorem dX6_readNumber_18 : decode cX6_readNumber 18 = .ok (.if_icmp .eq 10, 3) := by decide +kernel
theorem dX6_readNumber_21 : decode cX6_readNumber 21 = .ok (.aload_n 0, 1) := by decide +kernel
theorem dX6_readNumber_22 : decode cX6_readNumber 22 = .ok (.iconst 2, 1) := by decide +kernel
theorem dX6_readNumber_23 : decode cX6_readNumber 23 = .ok (.invokevirtual 55, 3) := by decide +kernel
theorem dX6_readNumber_26 : decode cX6_readNumber 26 = .ok (.iconst 0, 1) := by decide +kernel
theorem dX6_readNumber_27 : decode cX6_readNumber 27 = .ok (.ireturn, 1) := by decide +kernel
theorem dX6_readNumber_28 : decode cX6_readNumber 28 = .ok (.aload_n 0, 1) := by decide +kernel
theorem dX6_readNumber_29 : decode cX6_readNumber 29 = .ok (.getfield 12, 3) := by decide +kernel
theorem dX6_readNumber_32 : decode cX6_readNumber 32 = .ok (.getfield 132, 3) := by decide +kernel
theorem dX6_readNumber_35 : decode cX6_readNumber 35 = .ok (.istore_n 3, 1) := by decide +kernel
theorem dX6_readNumber_36 : decode cX6_readNumber 36 = .ok (.iload_n 3, 1) := by decide +kernel
theorem dX6_readNumber_37 : decode cX6_readNumber 37 = .ok (.iload_n 1, 1) := by decide +kernel
theorem dX6_readNumber_38 : decode cX6_readNumber 38 = .ok (.if_icmp .lt 8, 3) := by decide +kernel
theorem dX6_readNumber_41 : decode cX6_readNumber 41 = .ok (.iload_n 3, 1) := by decide +kernel
theorem dX6_readNumber_42 : decode cX6_readNumber 42 = .ok (.iload_n 2, 1) := by decide +kernel
theorem dX6_readNumber_43 : decode cX6_readNumber 43 = .ok (.if_icmp .le 10, 3) := by decide +kernel
theorem dX6_readNumber_46 : decode cX6_readNumber 46 = .ok (.aload_n 0, 1) := by decide +kernel
theorem dX6_readNumber_47 : decode cX6_readNumber 47 = .ok (.iconst 4, 1) := by decide +kernel
theorem dX6_readNumber_48 : decode cX6_readNumber 48 = .ok (.invokevirtual 55, 3) := by decide +kernel
theorem dX6_readNumber_51 : decode cX6_readNumber 51 = .ok (.iconst 0, 1) := by decide +kernel
theorem dX6_readNumber_52 : decode cX6_readNumber 52 = .ok (.ireturn, 1) := by decide +kernel
theorem dX6_readNumber_53 : decode cX6_readNumber 53 = .ok (.aload_n 0, 1) := by decide +kernel
theorem dX6_readNumber_54 : decode cX6_readNumber 54 = .ok (.getfield 12, 3) := by decide +kernel
theorem dX6_readNumber_57 : decode cX6_readNumber 57 = .ok (.invokevirtual 59, 3) := by decide +kernel
theorem dX6_readNumber_60 : decode cX6_readNumber 60 = .ok (.iload_n 3, 1) := by decide +kernel
theorem dX6_readNumber_61 : decode cX6_readNumber 61 = .ok (.ireturn, 1) := by decide +kernel
theorem dX6_pass_0 : decode cX6_pass 0 = .ok (.aload_n 0, 1) := by decide +kernel
theorem dX6_pass_1 : decode cX6_pass 1 = .ok (.getfield 35, 3) := by decide +kernel
theorem dX6_pass_4 : decode cX6_pass 4 = .ok (.ifCond .eq 4, 3) := by decide +kernel
theorem dX6_pass_7 : decode cX6_pass 7 = .ok (.return_, 1) := by decide +kernel
theorem dX6_pass_8 : decode cX6_pass 8 = .ok (.aload_n 0, 1) := by decide +kernel
theorem dX6_pass_9 : decode cX6_pass 9 = .ok (.getfield 12, 3) := by decide +kernel
theorem dX6_pass_12 : decode cX6_pass 12 = .ok (.getfield 42, 3) := by decide +kernel
theorem dX6_pass_15 : decode cX6_pass 15 = .ok (.iload_n 1, 1) := by decide +kernel
theorem dX6_pass_16 : decode cX6_pass 16 = .ok (.if_icmp .eq 9, 3) := by decide +kernel
theorem dX6_pass_19 : decode cX6_pass 19 = .ok (.aload_n 0, 1) := by decide +kernel
theorem dX6_pass_20 : decode cX6_pass 20 = .ok (.iconst 2, 1) := by decide +kernel
theorem dX6_pass_21 : decode cX6_pass 21 = .ok (.invokevirtual 55, 3) := by decide +kernel
theorem dX6_pass_24 : decode cX6_pass 24 = .ok (.return_, 1) := by decide +kernel
theorem dX6_pass_25 : decode cX6_pass 25 = .ok (.aload_n 0, 1) := by decide +kernel
theorem dX6_pass_26 : decode cX6_pass 26 = .ok (.getfield 12, 3) := by decide +kernel
theorem dX6_pass_29 : decode cX6_pass 29 = .ok (.invokevirtual 59, 3) := by decide +kernel
theorem dX6_pass_32 : decode cX6_pass 32 = .ok (.return_, 1) := by decide +kernel
theorem dX6_refuse_0 : decode cX6_refuse 0 = .ok (.aload_n 0, 1) := by decide +kernel
theorem dX6_refuse_1 : decode cX6_refuse 1 = .ok (.aload_n 0, 1) := by decide +kernel
theorem dX6_refuse_2 : decode cX6_refuse 2 = .ok (.getfield 12, 3) := by decide +kernel
theorem dX6_refuse_5 : decode cX6_refuse 5 = .ok (.getfield 42, 3) := by decide +kernel
theorem dX6_refuse_8 : decode cX6_refuse 8 = .ok (.bipush 17, 2) := by decide +kernel
theorem dX6_refuse_10 : decode cX6_refuse 10 = .ok (.if_icmp .ne 7, 3) := by decide +kernel
theorem dX6_refuse_13 : decode cX6_refuse 13 = .ok (.iconst 1, 1) := by decide +kernel
theorem dX6_refuse_14 : decode cX6_refuse 14 = .ok (.goto 4, 3) := by decide +kernel
theorem dX6_refuse_17 : decode cX6_refuse 17 = .ok (.iload_n 1, 1) := by decide +kernel
theorem dX6_refuse_18 : decode cX6_refuse 18 = .ok (.putfield 35, 3) := by decide +kernel
theorem dX6_refuse_21 : decode cX6_refuse 21 = .ok (.aload_n 0, 1) := by decide +kernel
theorem dX6_refuse_22 : decode cX6_refuse 22 = .ok (.aload_n 0, 1) := by decide +kernel
theorem dX6_refuse_23 : decode cX6_refuse 23 = .ok (.getfield 12, 3) := by decide +kernel
theorem dX6_refuse_26 : decode cX6_refuse 26 = .ok (.getfield 135, 3) := by decide +kernel
theorem dX6_refuse_29 : decode cX6_refuse 29 = .ok (.putfield 18, 3) := by decide +kernel
theorem dX6_refuse_32 : decode cX6_refuse 32 = .ok (.return_, 1) := by decide +kernel
theorem dX7_init_0 : decode cX7_init 0 = .ok (.aload_n 0, 1) := by decide +kernel
theorem dX7_init_1 : decode cX7_init 1 = .ok (.invokespecial 3, 3) := by decide +kernel
theorem dX7_init_4 : decode cX7_init 4 = .ok (.aload_n 0, 1) := by decide +kernel
theorem dX7_init_5 : decode cX7_init 5 = .ok (.sipush 144, 3) := by decide +kernel
theorem dX7_init_8 : decode cX7_init 8 = .ok (.newarray .int, 2) := by decide +kernel
theorem dX7_init_10 : decode cX7_init 10 = .ok (.putfield 9, 3) := by decide +kernel
theorem dX7_init_13 : decode cX7_init 13 = .ok (.aload_n 0, 1) := by decide +kernel
theorem dX7_init_14 : decode cX7_init 14 = .ok (.sipush 144, 3) := by decide +kernel
theorem dX7_init_17 : decode cX7_init 17 = .ok (.newarray .long, 2) := by decide +kernel
theorem dX7_init_19 : decode cX7_init 19 = .ok (.putfield 15, 3) := by decide +kernel
theorem dX7_init_22 : decode cX7_init 22 = .ok (.aload_n 0, 1) := by decide +kernel
theorem dX7_init_23 : decode cX7_init 23 = .ok (.bipush 12, 2) := by decide +kernel
theorem dX7_init_25 : decode cX7_init 25 = .ok (.newarray .int, 2) := by decide +kernel
theorem dX7_init_27 : decode cX7_init 27 = .ok (.putfield 19, 3) := by decide +kernel
theorem dX7_init_30 : decode cX7_init 30 = .ok (.return_, 1) := by decide +kernel
theorem dX7_forget_0 : decode cX7_forget 0 = .ok (.aload_n 0, 1) := by decide +kernel
theorem dX7_forget_1 : decode cX7_forget 1 = .ok (.iconst 0, 1) := by decide +kernel
theorem dX7_forget_2 : decode cX7_forget 2 = .ok (.putfield 22, 3) := by decide +kernel
theorem dX7_forget_5 : decode cX7_forget 5 = .ok (.return_, 1) := by decide +kernel
theorem dX7_stepByDays_0 : decode cX7_stepByDays 0 = .ok (.iconst 0, 1) := by decide +kernel
theorem dX7_stepByDays_1 : decode cX7_stepByDays 1 = .ok (.istore_n 2, 1) := by decide +kernel
theorem dX7_stepByDays_2 : decode cX7_stepByDays 2 = .ok (.iload_n 2, 1) := by decide +kernel
theorem dX7_stepByDays_3 : decode cX7_stepByDays 3 = .ok (.sipush 144, 3) := by decide +kernel
theorem dX7_stepByDays_6 : decode cX7_stepByDays 6 = .ok (.if_icmp .ge 34, 3) := by decide +kernel
theorem dX7_stepByDays_9 : decode cX7_stepByDays 9 = .ok (.aload_n 0, 1) := by decide +kernel
theorem dX7_stepByDays_10 : decode cX7_stepByDays 10 = .ok (.getfield 9, 3) := by decide +kernel
theorem dX7_stepByDays_13 : decode cX7_stepByDays 13 = .ok (.iload_n 2, 1) := by decide +kernel
theorem dX7_stepByDays_14 : decode cX7_stepByDays 14 = .ok (.aload_n 1, 1) := by decide +kernel
theorem dX7_stepByDays_15 : decode cX7_stepByDays 15 = .ok (.getfield 26, 3) := by decide +kernel
theorem dX7_stepByDays_18 : decode cX7_stepByDays 18 = .ok (.iload_n 2, 1) := by decide +kernel
theorem dX7_stepByDays_19 : decode cX7_stepByDays 19 = .ok (.iaload, 1) := by decide +kernel
theorem dX7_stepByDays_20 : decode cX7_stepByDays 20 = .ok (.ifCond .le 12, 3) := by decide +kernel
theorem dX7_stepByDays_23 : decode cX7_stepByDays 23 = .ok (.aload_n 1, 1) := by decide +kernel
theorem dX7_stepByDays_24 : decode cX7_stepByDays 24 = .ok (.getfield 26, 3) := by decide +kernel
theorem dX7_stepByDays_27 : decode cX7_stepByDays 27 = .ok (.iload_n 2, 1) := by decide +kernel
theorem dX7_stepByDays_28 : decode cX7_stepByDays 28 = .ok (.iaload, 1) := by decide +kernel
theorem dX7_stepByDays_29 : decode cX7_stepByDays 29 = .ok (.goto 4, 3) := by decide +kernel
theorem dX7_stepByDays_32 : decode cX7_stepByDays 32 = .ok (.iconst (-1), 1) := by decide +kernel
theorem dX7_stepByDays_33 : decode cX7_stepByDays 33 = .ok (.iastore, 1) := by decide +kernel
theorem dX7_stepByDays_34 : decode cX7_stepByDays 34 = .ok (.iinc 2 1, 3) := by decide +kernel
theorem dX7_stepByDays_37 : decode cX7_stepByDays 37 = .ok (.goto (-35), 3) := by decide +kernel
theorem dX7_stepByDays_40 : decode cX7_stepByDays 40 = .ok (.return_, 1) := by decide +kernel
theorem dX7_stepByKeeps_0 : decode cX7_stepByKeeps 0 = .ok (.iconst 0, 1) := by decide +kernel
theorem dX7_stepByKeeps_1 : decode cX7_stepByKeeps 1 = .ok (.istore_n 2, 1) := by decide +kernel
theorem dX7_stepByKeeps_2 : decode cX7_stepByKeeps 2 = .ok (.iload_n 2, 1) := by decide +kernel
theorem dX7_stepByKeeps_3 : decode cX7_stepByKeeps 3 = .ok (.aload_n 1, 1) := by decide +kernel
theorem dX7_stepByKeeps_4 : decode cX7_stepByKeeps 4 = .ok (.getfield 31, 3) := by decide +kernel
theorem dX7_stepByKeeps_7 : decode cX7_stepByKeeps 7 = .ok (.if_icmp .ge 70, 3) := by decide +kernel
theorem dX7_stepByKeeps_10 : decode cX7_stepByKeeps 10 = .ok (.iconst 0, 1) := by decide +kernel
theorem dX7_stepByKeeps_11 : decode cX7_stepByKeeps 11 = .ok (.istore_n 3, 1) := by decide +kernel
theorem dX7_stepByKeeps_12 : decode cX7_stepByKeeps 12 = .ok (.iload_n 3, 1) := by decide +kernel
theorem dX7_stepByKeeps_13 : decode cX7_stepByKeeps 13 = .ok (.aload_n 1, 1) := by decide +kernel
theorem dX7_stepByKeeps_14 : decode cX7_stepByKeeps 14 = .ok (.getfield 31, 3) := by decide +kernel
theorem dX7_stepByKeeps_17 : decode cX7_stepByKeeps 17 = .ok (.if_icmp .ge 54, 3) := by decide +kernel
theorem dX7_stepByKeeps_20 : decode cX7_stepByKeeps 20 = .ok (.iload_n 3, 1) := by decide +kernel
theorem dX7_stepByKeeps_21 : decode cX7_stepByKeeps 21 = .ok (.aload_n 1, 1) := by decide +kernel
theorem dX7_stepByKeeps_22 : decode cX7_stepByKeeps 22 = .ok (.getfield 34, 3) := by decide +kernel
theorem dX7_stepByKeeps_25 : decode cX7_stepByKeeps 25 = .ok (.if_icmp .ne 7, 3) := by decide +kernel
theorem dX7_stepByKeeps_28 : decode cX7_stepByKeeps 28 = .ok (.iconst 0, 1) := by decide +kernel
theorem dX7_stepByKeeps_29 : decode cX7_stepByKeeps 29 = .ok (.goto 9, 3) := by decide +kernel
theorem dX7_stepByKeeps_32 : decode cX7_stepByKeeps 32 = .ok (.aload_n 1, 1) := by decide +kernel
theorem dX7_stepByKeeps_33 : decode cX7_stepByKeeps 33 = .ok (.getfield 37, 3) := by decide +kernel
theorem dX7_stepByKeeps_36 : decode cX7_stepByKeeps 36 = .ok (.iload_n 3, 1) := by decide +kernel
theorem dX7_stepByKeeps_37 : decode cX7_stepByKeeps 37 = .ok (.iaload, 1) := by decide +kernel
theorem dX7_stepByKeeps_38 : decode cX7_stepByKeeps 38 = .ok (.istore 4, 2) := by decide +kernel
theorem dX7_stepByKeeps_40 : decode cX7_stepByKeeps 40 = .ok (.aload_n 0, 1) := by decide +kernel
theorem dX7_stepByKeeps_41 : decode cX7_stepByKeeps 41 = .ok (.getfield 9, 3) := by decide +kernel
theorem dX7_stepByKeeps_44 : decode cX7_stepByKeeps 44 = .ok (.iload_n 2, 1) := by decide +kernel
theorem dX7_stepByKeeps_45 : decode cX7_stepByKeeps 45 = .ok (.iload_n 3, 1) := by decide +kernel
theorem dX7_stepByKeeps_46 : decode cX7_stepByKeeps 46 = .ok (.invokestatic 40, 3) := by decide +kernel
theorem dX7_stepByKeeps_49 : decode cX7_stepByKeeps 49 = .ok (.aload_n 1, 1) := by decide +kernel
theorem dX7_stepByKeeps_50 : decode cX7_stepByKeeps 50 = .ok (.iload_n 2, 1) := by decide +kernel
theorem dX7_stepByKeeps_51 : decode cX7_stepByKeeps 51 = .ok (.iload_n 3, 1) := by decide +kernel
theorem dX7_stepByKeeps_52 : decode cX7_stepByKeeps 52 = .ok (.invokevirtual 44, 3) := by decide +kernel
theorem dX7_stepByKeeps_55 : decode cX7_stepByKeeps 55 = .ok (.ifCond .eq 8, 3) := by decide +kernel
theorem dX7_stepByKeeps_58 : decode cX7_stepByKeeps 58 = .ok (.iload 4, 2) := by decide +kernel
theorem dX7_stepByKeeps_60 : decode cX7_stepByKeeps 60 = .ok (.goto 4, 3) := by decide +kernel
theorem dX7_stepByKeeps_63 : decode cX7_stepByKeeps 63 = .ok (.iconst (-1), 1) := by decide +kernel
theorem dX7_stepByKeeps_64 : decode cX7_stepByKeeps 64 = .ok (.iastore, 1) := by decide +kernel
theorem dX7_stepByKeeps_65 : decode cX7_stepByKeeps 65 = .ok (.iinc 3 1, 3) := by decide +kernel
theorem dX7_stepByKeeps_68 : decode cX7_stepByKeeps 68 = .ok (.goto (-56), 3) := by decide +kernel
theorem dX7_stepByKeeps_71 : decode cX7_stepByKeeps 71 = .ok (.iinc 2 1, 3) := by decide +kernel
theorem dX7_stepByKeeps_74 : decode cX7_stepByKeeps 74 = .ok (.goto (-72), 3) := by decide +kernel
theorem dX7_stepByKeeps_77 : decode cX7_stepByKeeps 77 = .ok (.return_, 1) := by decide +kernel
theorem dX7_stepByOdds_0 : decode cX7_stepByOdds 0 = .ok (.iconst 0, 1) := by decide +kernel
theorem dX7_stepByOdds_1 : decode cX7_stepByOdds 1 = .ok (.istore_n 2, 1) := by decide +kernel
theorem dX7_stepByOdds_2 : decode cX7_stepByOdds 2 = .ok (.iload_n 2, 1) := by decide +kernel
theorem dX7_stepByOdds_3 : decode cX7_stepByOdds 3 = .ok (.aload_n 1, 1) := by decide +kernel
theorem dX7_stepByOdds_4 : decode cX7_stepByOdds 4 = .ok (.getfield 31, 3) := by decide +kernel
theorem dX7_stepByOdds_7 : decode cX7_stepByOdds 7 = .ok (.if_icmp .ge 74, 3) := by decide +kernel
theorem dX7_stepByOdds_10 : decode cX7_stepByOdds 10 = .ok (.iconst 0, 1) := by decide +kernel
theorem dX7_stepByOdds_11 : decode cX7_stepByOdds 11 = .ok (.istore_n 3, 1) := by decide +kernel
theorem dX7_stepByOdds_12 : decode cX7_stepByOdds 12 = .ok (.iload_n 3, 1) := by decide +kernel
theorem dX7_stepByOdds_13 : decode cX7_stepByOdds 13 = .ok (.aload_n 1, 1) := by decide +kernel
theorem dX7_stepByOdds_14 : decode cX7_stepByOdds 14 = .ok (.getfield 31, 3) := by decide +kernel
theorem dX7_stepByOdds_17 : decode cX7_stepByOdds 17 = .ok (.if_icmp .ge 58, 3) := by decide +kernel
theorem dX7_stepByOdds_20 : decode cX7_stepByOdds 20 = .ok (.iload_n 3, 1) := by decide +kernel
theorem dX7_stepByOdds_21 : decode cX7_stepByOdds 21 = .ok (.aload_n 1, 1) := by decide +kernel
theorem dX7_stepByOdds_22 : decode cX7_stepByOdds 22 = .ok (.getfield 34, 3) := by decide +kernel
theorem dX7_stepByOdds_25 : decode cX7_stepByOdds 25 = .ok (.if_icmp .ne 8, 3) := by decide +kernel
theorem dX7_stepByOdds_28 : decode cX7_stepByOdds 28 = .ok (.bipush 100, 2) := by decide +kernel
theorem dX7_stepByOdds_30 : decode cX7_stepByOdds 30 = .ok (.goto 12, 3) := by decide +kernel
theorem dX7_stepByOdds_33 : decode cX7_stepByOdds 33 = .ok (.bipush 100, 2) := by decide +kernel
theorem dX7_stepByOdds_35 : decode cX7_stepByOdds 35 = .ok (.aload_n 1, 1) := by decide +kernel
theorem dX7_stepByOdds_36 : decode cX7_stepByOdds 36 = .ok (.getfield 48, 3) := by decide +kernel
theorem dX7_stepByOdds_39 : decode cX7_stepByOdds 39 = .ok (.iload_n 3, 1) := by decide +kernel
theorem dX7_stepByOdds_40 : decode cX7_stepByOdds 40 = .ok (.iaload, 1) := by decide +kernel
theorem dX7_stepByOdds_41 : decode cX7_stepByOdds 41 = .ok (.isub, 1) := by decide +kernel
theorem dX7_stepByOdds_42 : decode cX7_stepByOdds 42 = .ok (.istore 4, 2) := by decide +kernel
theorem dX7_stepByOdds_44 : decode cX7_stepByOdds 44 = .ok (.aload_n 0, 1) := by decide +kernel
theorem dX7_stepByOdds_45 : decode cX7_stepByOdds 45 = .ok (.getfield 9, 3) := by decide +kernel
theorem dX7_stepByOdds_48 : decode cX7_stepByOdds 48 = .ok (.iload_n 2, 1) := by decide +kernel
theorem dX7_stepByOdds_49 : decode cX7_stepByOdds 49 = .ok (.iload_n 3, 1) := by decide +kernel
theorem dX7_stepByOdds_50 : decode cX7_stepByOdds 50 = .ok (.invokestatic 40, 3) := by decide +kernel
theorem dX7_stepByOdds_53 : decode cX7_stepByOdds 53 = .ok (.aload_n 1, 1) := by decide +kernel
theorem dX7_stepByOdds_54 : decode cX7_stepByOdds 54 = .ok (.iload_n 2, 1) := by decide +kernel
theorem dX7_stepByOdds_55 : decode cX7_stepByOdds 55 = .ok (.iload_n 3, 1) := by decide +kernel
theorem dX7_stepByOdds_56 : decode cX7_stepByOdds 56 = .ok (.invokevirtual 44, 3) := by decide +kernel
theorem dX7_stepByOdds_59 : decode cX7_stepByOdds 59 = .ok (.ifCond .eq 8, 3) := by decide +kernel
theorem dX7_stepByOdds_62 : decode cX7_stepByOdds 62 = .ok (.iload 4, 2) := by decide +kernel
theorem dX7_stepByOdds_64 : decode cX7_stepByOdds 64 = .ok (.goto 4, 3) := by decide +kernel
theorem dX7_stepByOdds_67 : decode cX7_stepByOdds 67 = .ok (.iconst (-1), 1) := by decide +kernel
theorem dX7_stepByOdds_68 : decode cX7_stepByOdds 68 = .ok (.iastore, 1) := by decide +kernel
theorem dX7_stepByOdds_69 : decode cX7_stepByOdds 69 = .ok (.iinc 3 1, 3) := by decide +kernel
theorem dX7_stepByOdds_72 : decode cX7_stepByOdds 72 = .ok (.goto (-60), 3) := by decide +kernel
theorem dX7_stepByOdds_75 : decode cX7_stepByOdds 75 = .ok (.iinc 2 1, 3) := by decide +kernel
theorem dX7_stepByOdds_78 : decode cX7_stepByOdds 78 = .ok (.goto (-76), 3) := by decide +kernel
theorem dX7_stepByOdds_81 : decode cX7_stepByOdds 81 = .ok (.return_, 1) := by decide +kernel
theorem dX7_stepByAcquaintances_0 : decode cX7_stepByAcquaintances 0 = .ok (.iconst 0, 1) := by decide +kernel
theorem dX7_stepByAcquaintances_1 : decode cX7_stepByAcquaintances 1 = .ok (.istore_n 3, 1) := by decide +kernel
theorem dX7_stepByAcquaintances_2 : decode cX7_stepByAcquaintances 2 = .ok (.iload_n 3, 1) := by decide +kernel
theorem dX7_stepByAcquaintances_3 : decode cX7_stepByAcquaintances 3 = .ok (.aload_n 1, 1) := by decide +kernel
theorem dX7_stepByAcquaintances_4 : decode cX7_stepByAcquaintances 4 = .ok (.getfield 31, 3) := by decide +kernel
theorem dX7_stepByAcquaintances_7 : decode cX7_stepByAcquaintances 7 = .ok (.if_icmp .ge 46, 3) := by decide +kernel
theorem dX7_stepByAcquaintances_10 : decode cX7_stepByAcquaintances 10 = .ok (.iconst 0, 1) := by decide +kernel
theorem dX7_stepByAcquaintances_11 : decode cX7_stepByAcquaintances 11 = .ok (.istore 4, 2) := by decide +kernel
theorem dX7_stepByAcquaintances_13 : decode cX7_stepByAcquaintances 13 = .ok (.iload 4, 2) := by decide +kernel
theorem dX7_stepByAcquaintances_15 : decode cX7_stepByAcquaintances 15 = .ok (.aload_n 1, 1) := by decide +kernel
theorem dX7_stepByAcquaintances_16 : decode cX7_stepByAcquaintances 16 = .ok (.getfield 31, 3) := by decide +kernel
theorem dX7_stepByAcquaintances_19 : decode cX7_stepByAcquaintances 19 = .ok (.if_icmp .ge 28, 3) := by decide +kernel
theorem dX7_stepByAcquaintances_22 : decode cX7_stepByAcquaintances 22 = .ok (.aload_n 0, 1) := by decide +kernel
theorem dX7_stepByAcquaintances_23 : decode cX7_stepByAcquaintances 23 = .ok (.getfield 9, 3) := by decide +kernel
theorem dX7_stepByAcquaintances_26 : decode cX7_stepByAcquaintances 26 = .ok (.iload_n 3, 1) := by decide +kernel
theorem dX7_stepByAcquaintances_27 : decode cX7_stepByAcquaintances 27 = .ok (.iload 4, 2) := by decide +kernel
theorem dX7_stepByAcquaintances_29 : decode cX7_stepByAcquaintances 29 = .ok (.invokestatic 40, 3) := by decide +kernel
theorem dX7_stepByAcquaintances_32 : decode cX7_stepByAcquaintances 32 = .ok (.aload_n 2, 1) := by decide +kernel
theorem dX7_stepByAcquaintances_33 : decode cX7_stepByAcquaintances 33 = .ok (.aload_n 1, 1) := by decide +kernel
theorem dX7_stepByAcquaintances_34 : decode cX7_stepByAcquaintances 34 = .ok (.iload_n 3, 1) := by decide +kernel
theorem dX7_stepByAcquaintances_35 : decode cX7_stepByAcquaintances 35 = .ok (.iload 4, 2) := by decide +kernel
theorem dX7_stepByAcquaintances_37 : decode cX7_stepByAcquaintances 37 = .ok (.invokevirtual 51, 3) := by decide +kernel
theorem dX7_stepByAcquaintances_40 : decode cX7_stepByAcquaintances 40 = .ok (.iastore, 1) := by decide +kernel
theorem dX7_stepByAcquaintances_41 : decode cX7_stepByAcquaintances 41 = .ok (.iinc 4 1, 3) := by decide +kernel
theorem dX7_stepByAcquaintances_44 : decode cX7_stepByAcquaintances 44 = .ok (.goto (-31), 3) := by decide +kernel
theorem dX7_stepByAcquaintances_47 : decode cX7_stepByAcquaintances 47 = .ok (.iinc 3 1, 3) := by decide +kernel
theorem dX7_stepByAcquaintances_50 : decode cX7_stepByAcquaintances 50 = .ok (.goto (-48), 3) := by decide +kernel
theorem dX7_stepByAcquaintances_53 : decode cX7_stepByAcquaintances 53 = .ok (.return_, 1) := by decide +kernel
theorem dX7_layLeast_0 : decode cX7_layLeast 0 = .ok (.aload_n 0, 1) := by decide +kernel
theorem dX7_layLeast_1 : decode cX7_layLeast 1 = .ok (.iconst 0, 1) := by decide +kernel
theorem dX7_layLeast_2 : decode cX7_layLeast 2 = .ok (.putfield 57, 3) := by decide +kernel
theorem dX7_layLeast_5 : decode cX7_layLeast 5 = .ok (.aload_n 0, 1) := by decide +kernel
theorem dX7_layLeast_6 : decode cX7_layLeast 6 = .ok (.aload_n 1, 1) := by decide +kernel
theorem dX7_layLeast_7 : decode cX7_layLeast 7 = .ok (.bipush 11, 2) := by decide +kernel
theorem dX7_layLeast_9 : decode cX7_layLeast 9 = .ok (.lconst 0, 1) := by decide +kernel
theorem dX7_layLeast_10 : decode cX7_layLeast 10 = .ok (.invokevirtual 61, 3) := by decide +kernel
theorem dX7_layLeast_13 : decode cX7_layLeast 13 = .ok (.lreturn, 1) := by decide +kernel
theorem dX7_layLikeliest_0 : decode cX7_layLikeliest 0 = .ok (.aload_n 0, 1) := by decide +kernel
theorem dX7_layLikeliest_1 : decode cX7_layLikeliest 1 = .ok (.iconst 1, 1) := by decide +kernel
theorem dX7_layLikeliest_2 : decode cX7_layLikeliest 2 = .ok (.putfield 57, 3) := by decide +kernel
theorem dX7_layLikeliest_5 : decode cX7_layLikeliest 5 = .ok (.aload_n 0, 1) := by decide +kernel
theorem dX7_layLikeliest_6 : decode cX7_layLikeliest 6 = .ok (.aload_n 1, 1) := by decide +kernel
theorem dX7_layLikeliest_7 : decode cX7_layLikeliest 7 = .ok (.bipush 10, 2) := by decide +kernel
theorem dX7_layLikeliest_9 : decode cX7_layLikeliest 9 = .ok (.ldc2_w 65, 3) := by decide +kernel
theorem dX7_layLikeliest_12 : decode cX7_layLikeliest 12 = .ok (.invokevirtual 61, 3) := by decide +kernel
theorem dX7_layLikeliest_15 : decode cX7_layLikeliest 15 = .ok (.lstore_n 2, 1) := by decide +kernel
theorem dX7_layLikeliest_16 : decode cX7_layLikeliest 16 = .ok (.lload_n 2, 1) := by decide +kernel
theorem dX7_layLikeliest_17 : decode cX7_layLikeliest 17 = .ok (.ldc2_w 67, 3) := by decide +kernel
theorem dX7_layLikeliest_20 : decode cX7_layLikeliest 20 = .ok (.lcmp, 1) := by decide +kernel
theorem dX7_layLikeliest_21 : decode cX7_layLikeliest 21 = .ok (.ifCond .ne 9, 3) := by decide +kernel
theorem dX7_layLikeliest_24 : decode cX7_layLikeliest 24 = .ok (.ldc2_w 67, 3) := by decide +kernel
theorem dX7_layLikeliest_27 : decode cX7_layLikeliest 27 = .ok (.goto 5, 3) := by decide +kernel
theorem dX7_layLikeliest_30 : decode cX7_layLikeliest 30 = .ok (.lload_n 2, 1) := by decide +kernel
theorem dX7_layLikeliest_31 : decode cX7_layLikeliest 31 = .ok (.lneg, 1) := by decide +kernel
theorem dX7_layLikeliest_32 : decode cX7_layLikeliest 32 = .ok (.lreturn, 1) := by decide +kernel
theorem dX7_lay_0 : decode cX7_lay 0 = .ok (.aload_n 0, 1) := by decide +kernel
theorem dX7_lay_1 : decode cX7_lay 1 = .ok (.iconst 0, 1) := by decide +kernel
theorem dX7_lay_2 : decode cX7_lay 2 = .ok (.putfield 22, 3) := by decide +kernel
theorem dX7_lay_5 : decode cX7_lay 5 = .ok (.aload_n 1, 1) := by decide +kernel
theorem dX7_lay_6 : decode cX7_lay 6 = .ok (.invokevirtual 69, 3) := by decide +kernel
theorem dX7_lay_9 : decode cX7_lay 9 = .ok (.ifCond .ne 7, 3) := by decide +kernel
theorem dX7_lay_12 : decode cX7_lay 12 = .ok (.ldc2_w 67, 3) := by decide +kernel
theorem dX7_lay_15 : decode cX7_lay 15 = .ok (.lreturn, 1) := by decide +kernel
theorem dX7_lay_16 : decode cX7_lay 16 = .ok (.aload_n 0, 1) := by decide +kernel
theorem dX7_lay_17 : decode cX7_lay 17 = .ok (.aload_n 1, 1) := by decide +kernel
theorem dX7_lay_18 : decode cX7_lay 18 = .ok (.iload_n 2, 1) := by decide +kernel
theorem dX7_lay_19 : decode cX7_lay 19 = .ok (.lload_n 3, 1) := by decide +kernel
theorem dX7_lay_20 : decode cX7_lay 20 = .ok (.invokevirtual 73, 3) := by decide +kernel
theorem dX7_lay_23 : decode cX7_lay 23 = .ok (.ldc2_w 67, 3) := by decide +kernel
theorem dX7_lay_26 : decode cX7_lay 26 = .ok (.lstore 5, 2) := by decide +kernel
theorem dX7_lay_28 : decode cX7_lay 28 = .ok (.iconst 0, 1) := by decide +kernel
theorem dX7_lay_29 : decode cX7_lay 29 = .ok (.istore 7, 2) := by decide +kernel
theorem dX7_lay_31 : decode cX7_lay 31 = .ok (.iconst 0, 1) := by decide +kernel
theorem dX7_lay_32 : decode cX7_lay 32 = .ok (.istore 8, 2) := by decide +kernel
theorem dX7_lay_34 : decode cX7_lay 34 = .ok (.iload 8, 2) := by decide +kernel
theorem dX7_lay_36 : decode cX7_lay 36 = .ok (.iload_n 2, 1) := by decide +kernel
theorem dX7_lay_37 : decode cX7_lay 37 = .ok (.if_icmp .gt 49, 3) := by decide +kernel
theorem dX7_lay_40 : decode cX7_lay 40 = .ok (.aload_n 0, 1) := by decide +kernel
theorem dX7_lay_41 : decode cX7_lay 41 = .ok (.getfield 15, 3) := by decide +kernel
theorem dX7_lay_44 : decode cX7_lay 44 = .ok (.iload 8, 2) := by decide +kernel
theorem dX7_lay_46 : decode cX7_lay 46 = .ok (.aload_n 1, 1) := by decide +kernel
theorem dX7_lay_47 : decode cX7_lay 47 = .ok (.getfield 77, 3) := by decide +kernel
theorem dX7_lay_50 : decode cX7_lay 50 = .ok (.invokestatic 40, 3) := by decide +kernel
theorem dX7_lay_53 : decode cX7_lay 53 = .ok (.laload, 1) := by decide +kernel
theorem dX7_lay_54 : decode cX7_lay 54 = .ok (.lload 5, 2) := by decide +kernel
theorem dX7_lay_56 : decode cX7_lay 56 = .ok (.lcmp, 1) := by decide +kernel
theorem dX7_lay_57 : decode cX7_lay 57 = .ok (.ifCond .ge 23, 3) := by decide +kernel
theorem dX7_lay_60 : decode cX7_lay 60 = .ok (.aload_n 0, 1) := by decide +kernel
theorem dX7_lay_61 : decode cX7_lay 61 = .ok (.getfield 15, 3) := by decide +kernel
theorem dX7_lay_64 : decode cX7_lay 64 = .ok (.iload 8, 2) := by decide +kernel
theorem dX7_lay_66 : decode cX7_lay 66 = .ok (.aload_n 1, 1) := by decide +kernel
theorem dX7_lay_67 : decode cX7_lay 67 = .ok (.getfield 77, 3) := by decide +kernel
theorem dX7_lay_70 : decode cX7_lay 70 = .ok (.invokestatic 40, 3) := by decide +kernel
theorem dX7_lay_73 : decode cX7_lay 73 = .ok (.laload, 1) := by decide +kernel
theorem dX7_lay_74 : decode cX7_lay 74 = .ok (.lstore 5, 2) := by decide +kernel
theorem dX7_lay_76 : decode cX7_lay 76 = .ok (.iload 8, 2) := by decide +kernel
theorem dX7_lay_78 : decode cX7_lay 78 = .ok (.istore 7, 2) := by decide +kernel
theorem dX7_lay_80 : decode cX7_lay 80 = .ok (.iinc 8 1, 3) := by decide +kernel
theorem dX7_lay_83 : decode cX7_lay 83 = .ok (.goto (-49), 3) := by decide +kernel
theorem dX7_lay_86 : decode cX7_lay 86 = .ok (.lload 5, 2) := by decide +kernel
theorem dX7_lay_88 : decode cX7_lay 88 = .ok (.ldc2_w 67, 3) := by decide +kernel
theorem dX7_lay_91 : decode cX7_lay 91 = .ok (.lcmp, 1) := by decide +kernel
theorem dX7_lay_92 : decode cX7_lay 92 = .ok (.ifCond .eq 10, 3) := by decide +kernel
theorem dX7_lay_95 : decode cX7_lay 95 = .ok (.aload_n 0, 1) := by decide +kernel
theorem dX7_lay_96 : decode cX7_lay 96 = .ok (.aload_n 1, 1) := by decide +kernel
theorem dX7_lay_97 : decode cX7_lay 97 = .ok (.iload 7, 2) := by decide +kernel
theorem dX7_lay_99 : decode cX7_lay 99 = .ok (.invokevirtual 80, 3) := by decide +kernel
theorem dX7_lay_102 : decode cX7_lay 102 = .ok (.lload 5, 2) := by decide +kernel
theorem dX7_lay_104 : decode cX7_lay 104 = .ok (.lreturn, 1) := by decide +kernel
theorem dX7_fillBest_0 : decode cX7_fillBest 0 = .ok (.aload_n 0, 1) := by decide +kernel
theorem dX7_fillBest_1 : decode cX7_fillBest 1 = .ok (.getfield 15, 3) := by decide +kernel
theorem dX7_fillBest_4 : decode cX7_fillBest 4 = .ok (.ldc2_w 67, 3) := by decide +kernel
theorem dX7_fillBest_7 : decode cX7_fillBest 7 = .ok (.invokestatic 84, 3) := by decide +kernel
theorem dX7_fillBest_10 : decode cX7_fillBest 10 = .ok (.aload_n 0, 1) := by decide +kernel
theorem dX7_fillBest_11 : decode cX7_fillBest 11 = .ok (.getfield 15, 3) := by decide +kernel
theorem dX7_fillBest_14 : decode cX7_fillBest 14 = .ok (.aload_n 1, 1) := by decide +kernel
theorem dX7_fillBest_15 : decode cX7_fillBest 15 = .ok (.getfield 34, 3) := by decide +kernel
theorem dX7_fillBest_18 : decode cX7_fillBest 18 = .ok (.lload_n 3, 1) := by decide +kernel
theorem dX7_fillBest_19 : decode cX7_fillBest 19 = .ok (.lastore, 1) := by decide +kernel
theorem dX7_fillBest_20 : decode cX7_fillBest 20 = .ok (.iconst 1, 1) := by decide +kernel
theorem dX7_fillBest_21 : decode cX7_fillBest 21 = .ok (.istore 5, 2) := by decide +kernel
theorem dX7_fillBest_23 : decode cX7_fillBest 23 = .ok (.iload 5, 2) := by decide +kernel
theorem dX7_fillBest_25 : decode cX7_fillBest 25 = .ok (.iload_n 2, 1) := by decide +kernel
theorem dX7_fillBest_26 : decode cX7_fillBest 26 = .ok (.if_icmp .gt 57, 3) := by decide +kernel
theorem dX7_fillBest_29 : decode cX7_fillBest 29 = .ok (.iconst 0, 1) := by decide +kernel
theorem dX7_fillBest_30 : decode cX7_fillBest 30 = .ok (.istore 6, 2) := by decide +kernel
theorem dX7_fillBest_32 : decode cX7_fillBest 32 = .ok (.iload 6, 2) := by decide +kernel
theorem dX7_fillBest_34 : decode cX7_fillBest 34 = .ok (.aload_n 1, 1) := by decide +kernel
theorem dX7_fillBest_35 : decode cX7_fillBest 35 = .ok (.getfield 31, 3) := by decide +kernel
theorem dX7_fillBest_38 : decode cX7_fillBest 38 = .ok (.if_icmp .ge 39, 3) := by decide +kernel
theorem dX7_fillBest_41 : decode cX7_fillBest 41 = .ok (.iload 6, 2) := by decide +kernel
theorem dX7_fillBest_43 : decode cX7_fillBest 43 = .ok (.aload_n 1, 1) := by decide +kernel
theorem dX7_fillBest_44 : decode cX7_fillBest 44 = .ok (.getfield 34, 3) := by decide +kernel
theorem dX7_fillBest_47 : decode cX7_fillBest 47 = .ok (.if_icmp .eq 24, 3) := by decide +kernel
theorem dX7_fillBest_50 : decode cX7_fillBest 50 = .ok (.aload_n 0, 1) := by decide +kernel
theorem dX7_fillBest_51 : decode cX7_fillBest 51 = .ok (.getfield 15, 3) := by decide +kernel
theorem dX7_fillBest_54 : decode cX7_fillBest 54 = .ok (.iload 5, 2) := by decide +kernel
theorem dX7_fillBest_56 : decode cX7_fillBest 56 = .ok (.iload 6, 2) := by decide +kernel
theorem dX7_fillBest_58 : decode cX7_fillBest 58 = .ok (.invokestatic 40, 3) := by decide +kernel
theorem dX7_fillBest_61 : decode cX7_fillBest 61 = .ok (.aload_n 0, 1) := by decide +kernel
theorem dX7_fillBest_62 : decode cX7_fillBest 62 = .ok (.aload_n 1, 1) := by decide +kernel
theorem dX7_fillBest_63 : decode cX7_fillBest 63 = .ok (.iload 5, 2) := by decide +kernel
theorem dX7_fillBest_65 : decode cX7_fillBest 65 = .ok (.iload 6, 2) := by decide +kernel
theorem dX7_fillBest_67 : decode cX7_fillBest 67 = .ok (.invokevirtual 90, 3) := by decide +kernel
theorem dX7_fillBest_70 : decode cX7_fillBest 70 = .ok (.lastore, 1) := by decide +kernel
theorem dX7_fillBest_71 : decode cX7_fillBest 71 = .ok (.iinc 6 1, 3) := by decide +kernel
theorem dX7_fillBest_74 : decode cX7_fillBest 74 = .ok (.goto (-42), 3) := by decide +kernel
theorem dX7_fillBest_77 : decode cX7_fillBest 77 = .ok (.iinc 5 1, 3) := by decide +kernel
theorem dX7_fillBest_80 : decode cX7_fillBest 80 = .ok (.goto (-57), 3) := by decide +kernel
theorem dX7_fillBest_83 : decode cX7_fillBest 83 = .ok (.return_, 1) := by decide +kernel
theorem dX7_leastOnward_0 : decode cX7_leastOnward 0 = .ok (.ldc2_w 67, 3) := by decide +kernel
theorem dX7_leastOnward_3 : decode cX7_leastOnward 3 = .ok (.lstore 4, 2) := by decide +kernel
theorem dX7_leastOnward_5 : decode cX7_leastOnward 5 = .ok (.iconst 0, 1) := by decide +kernel
theorem dX7_leastOnward_6 : decode cX7_leastOnward 6 = .ok (.istore 6, 2) := by decide +kernel
theorem dX7_leastOnward_8 : decode cX7_leastOnward 8 = .ok (.iload 6, 2) := by decide +kernel
theorem dX7_leastOnward_10 : decode cX7_leastOnward 10 = .ok (.aload_n 1, 1) := by decide +kernel
theorem dX7_leastOnward_11 : decode cX7_leastOnward 11 = .ok (.getfield 31, 3) := by decide +kernel
theorem dX7_leastOnward_14 : decode cX7_leastOnward 14 = .ok (.if_icmp .ge 24, 3) := by decide +kernel
theorem dX7_leastOnward_17 : decode cX7_leastOnward 17 = .ok (.lload 4, 2) := by decide +kernel
theorem dX7_leastOnward_19 : decode cX7_leastOnward 19 = .ok (.aload_n 0, 1) := by decide +kernel
theorem dX7_leastOnward_20 : decode cX7_leastOnward 20 = .ok (.iload_n 2, 1) := by decide +kernel
theorem dX7_leastOnward_21 : decode cX7_leastOnward 21 = .ok (.iload_n 3, 1) := by decide +kernel
theorem dX7_leastOnward_22 : decode cX7_leastOnward 22 = .ok (.iload 6, 2) := by decide +kernel
theorem dX7_leastOnward_24 : decode cX7_leastOnward 24 = .ok (.invokevirtual 94, 3) := by decide +kernel
theorem dX7_leastOnward_27 : decode cX7_leastOnward 27 = .ok (.invokestatic 98, 3) := by decide +kernel
theorem dX7_leastOnward_30 : decode cX7_leastOnward 30 = .ok (.lstore 4, 2) := by decide +kernel
theorem dX7_leastOnward_32 : decode cX7_leastOnward 32 = .ok (.iinc 6 1, 3) := by decide +kernel
theorem dX7_leastOnward_35 : decode cX7_leastOnward 35 = .ok (.goto (-27), 3) := by decide +kernel
theorem dX7_leastOnward_38 : decode cX7_leastOnward 38 = .ok (.lload 4, 2) := by decide +kernel
theorem dX7_leastOnward_40 : decode cX7_leastOnward 40 = .ok (.lreturn, 1) := by decide +kernel
theorem dX7_onward_0 : decode cX7_onward 0 = .ok (.aload_n 0, 1) := by decide +kernel
theorem dX7_onward_1 : decode cX7_onward 1 = .ok (.getfield 9, 3) := by decide +kernel
theorem dX7_onward_4 : decode cX7_onward 4 = .ok (.iload_n 2, 1) := by decide +kernel
theorem dX7_onward_5 : decode cX7_onward 5 = .ok (.iload_n 3, 1) := by decide +kernel
theorem dX7_onward_6 : decode cX7_onward 6 = .ok (.invokestatic 40, 3) := by decide +kernel
theorem dX7_onward_9 : decode cX7_onward 9 = .ok (.iaload, 1) := by decide +kernel
theorem dX7_onward_10 : decode cX7_onward 10 = .ok (.istore 4, 2) := by decide +kernel
theorem dX7_onward_12 : decode cX7_onward 12 = .ok (.aload_n 0, 1) := by decide +kernel
theorem dX7_onward_13 : decode cX7_onward 13 = .ok (.getfield 15, 3) := by decide +kernel
theorem dX7_onward_16 : decode cX7_onward 16 = .ok (.iload_n 1, 1) := by decide +kernel
theorem dX7_onward_17 : decode cX7_onward 17 = .ok (.iconst 1, 1) := by decide +kernel
theorem dX7_onward_18 : decode cX7_onward 18 = .ok (.isub, 1) := by decide +kernel
theorem dX7_onward_19 : decode cX7_onward 19 = .ok (.iload_n 3, 1) := by decide +kernel
theorem dX7_onward_20 : decode cX7_onward 20 = .ok (.invokestatic 40, 3) := by decide +kernel
theorem dX7_onward_23 : decode cX7_onward 23 = .ok (.laload, 1) := by decide +kernel
theorem dX7_onward_24 : decode cX7_onward 24 = .ok (.lstore 5, 2) := by decide +kernel
theorem dX7_onward_26 : decode cX7_onward 26 = .ok (.iload 4, 2) := by decide +kernel
theorem dX7_onward_28 : decode cX7_onward 28 = .ok (.iconst (-1), 1) := by decide +kernel
theorem dX7_onward_29 : decode cX7_onward 29 = .ok (.if_icmp .eq 12, 3) := by decide +kernel
theorem dX7_onward_32 : decode cX7_onward 32 = .ok (.lload 5, 2) := by decide +kernel
theorem dX7_onward_34 : decode cX7_onward 34 = .ok (.ldc2_w 67, 3) := by decide +kernel
theorem dX7_onward_37 : decode cX7_onward 37 = .ok (.lcmp, 1) := by decide +kernel
theorem dX7_onward_38 : decode cX7_onward 38 = .ok (.ifCond .ne 7, 3) := by decide +kernel
theorem dX7_onward_41 : decode cX7_onward 41 = .ok (.ldc2_w 67, 3) := by decide +kernel
theorem dX7_onward_44 : decode cX7_onward 44 = .ok (.lreturn, 1) := by decide +kernel
theorem dX7_onward_45 : decode cX7_onward 45 = .ok (.aload_n 0, 1) := by decide +kernel
theorem dX7_onward_46 : decode cX7_onward 46 = .ok (.getfield 57, 3) := by decide +kernel
theorem dX7_onward_49 : decode cX7_onward 49 = .ok (.ifCond .eq 16, 3) := by decide +kernel
theorem dX7_onward_52 : decode cX7_onward 52 = .ok (.lload 5, 2) := by decide +kernel
theorem dX7_onward_54 : decode cX7_onward 54 = .ok (.ldc2_w 104, 3) := by decide +kernel
theorem dX7_onward_57 : decode cX7_onward 57 = .ok (.ldiv, 1) := by decide +kernel
theorem dX7_onward_58 : decode cX7_onward 58 = .ok (.iload 4, 2) := by decide +kernel
theorem dX7_onward_60 : decode cX7_onward 60 = .ok (.i2l, 1) := by decide +kernel
theorem dX7_onward_61 : decode cX7_onward 61 = .ok (.lmul, 1) := by decide +kernel
theorem dX7_onward_62 : decode cX7_onward 62 = .ok (.goto 9, 3) := by decide +kernel
theorem dX7_onward_65 : decode cX7_onward 65 = .ok (.lload 5, 2) := by decide +kernel
theorem dX7_onward_67 : decode cX7_onward 67 = .ok (.iload 4, 2) := by decide +kernel
theorem dX7_onward_69 : decode cX7_onward 69 = .ok (.i2l, 1) := by decide +kernel
theorem dX7_onward_70 : decode cX7_onward 70 = .ok (.ladd, 1) := by decide +kernel
theorem dX7_onward_71 : decode cX7_onward 71 = .ok (.lreturn, 1) := by decide +kernel
theorem dX7_trace_0 : decode cX7_trace 0 = .ok (.aload_n 1, 1) := by decide +kernel
theorem dX7_trace_1 : decode cX7_trace 1 = .ok (.getfield 77, 3) := by decide +kernel
theorem dX7_trace_4 : decode cX7_trace 4 = .ok (.istore_n 3, 1) := by decide +kernel
theorem dX7_trace_5 : decode cX7_trace 5 = .ok (.aload_n 0, 1) := by decide +kernel
theorem dX7_trace_6 : decode cX7_trace 6 = .ok (.getfield 19, 3) := by decide +kernel
theorem dX7_trace_9 : decode cX7_trace 9 = .ok (.iconst 0, 1) := by decide +kernel
theorem dX7_trace_10 : decode cX7_trace 10 = .ok (.iload_n 3, 1) := by decide +kernel
theorem dX7_trace_11 : decode cX7_trace 11 = .ok (.iastore, 1) := by decide +kernel
theorem dX7_trace_12 : decode cX7_trace 12 = .ok (.aload_n 0, 1) := by decide +kernel
theorem dX7_trace_13 : decode cX7_trace 13 = .ok (.iconst 1, 1) := by decide +kernel
theorem dX7_trace_14 : decode cX7_trace 14 = .ok (.putfield 22, 3) := by decide +kernel
theorem dX7_trace_17 : decode cX7_trace 17 = .ok (.iload_n 2, 1) := by decide +kernel
theorem dX7_trace_18 : decode cX7_trace 18 = .ok (.istore 4, 2) := by decide +kernel
theorem dX7_trace_20 : decode cX7_trace 20 = .ok (.iload 4, 2) := by decide +kernel
theorem dX7_trace_22 : decode cX7_trace 22 = .ok (.ifCond .le 43, 3) := by decide +kernel
theorem dX7_trace_25 : decode cX7_trace 25 = .ok (.aload_n 0, 1) := by decide +kernel
theorem dX7_trace_26 : decode cX7_trace 26 = .ok (.aload_n 1, 1) := by decide +kernel
theorem dX7_trace_27 : decode cX7_trace 27 = .ok (.iload 4, 2) := by decide +kernel
theorem dX7_trace_29 : decode cX7_trace 29 = .ok (.iload_n 3, 1) := by decide +kernel
theorem dX7_trace_30 : decode cX7_trace 30 = .ok (.invokevirtual 106, 3) := by decide +kernel
theorem dX7_trace_33 : decode cX7_trace 33 = .ok (.istore 5, 2) := by decide +kernel
theorem dX7_trace_35 : decode cX7_trace 35 = .ok (.aload_n 0, 1) := by decide +kernel
theorem dX7_trace_36 : decode cX7_trace 36 = .ok (.getfield 19, 3) := by decide +kernel
theorem dX7_trace_39 : decode cX7_trace 39 = .ok (.aload_n 0, 1) := by decide +kernel
theorem dX7_trace_40 : decode cX7_trace 40 = .ok (.getfield 22, 3) := by decide +kernel
theorem dX7_trace_43 : decode cX7_trace 43 = .ok (.iload 5, 2) := by decide +kernel
theorem dX7_trace_45 : decode cX7_trace 45 = .ok (.iastore, 1) := by decide +kernel
theorem dX7_trace_46 : decode cX7_trace 46 = .ok (.aload_n 0, 1) := by decide +kernel
theorem dX7_trace_47 : decode cX7_trace 47 = .ok (.dup, 1) := by decide +kernel
theorem dX7_trace_48 : decode cX7_trace 48 = .ok (.getfield 22, 3) := by decide +kernel
theorem dX7_trace_51 : decode cX7_trace 51 = .ok (.iconst 1, 1) := by decide +kernel
theorem dX7_trace_52 : decode cX7_trace 52 = .ok (.iadd, 1) := by decide +kernel
theorem dX7_trace_53 : decode cX7_trace 53 = .ok (.putfield 22, 3) := by decide +kernel
theorem dX7_trace_56 : decode cX7_trace 56 = .ok (.iload 5, 2) := by decide +kernel
theorem dX7_trace_58 : decode cX7_trace 58 = .ok (.istore_n 3, 1) := by decide +kernel
theorem dX7_trace_59 : decode cX7_trace 59 = .ok (.iinc 4 (-1), 3) := by decide +kernel
theorem dX7_trace_62 : decode cX7_trace 62 = .ok (.goto (-42), 3) := by decide +kernel
theorem dX7_trace_65 : decode cX7_trace 65 = .ok (.return_, 1) := by decide +kernel
theorem dX7_firstBest_0 : decode cX7_firstBest 0 = .ok (.iconst 0, 1) := by decide +kernel
theorem dX7_firstBest_1 : decode cX7_firstBest 1 = .ok (.istore 4, 2) := by decide +kernel
theorem dX7_firstBest_3 : decode cX7_firstBest 3 = .ok (.iload 4, 2) := by decide +kernel
theorem dX7_firstBest_5 : decode cX7_firstBest 5 = .ok (.aload_n 1, 1) := by decide +kernel
theorem dX7_firstBest_6 : decode cX7_firstBest 6 = .ok (.getfield 31, 3) := by decide +kernel
theorem dX7_firstBest_9 : decode cX7_firstBest 9 = .ok (.if_icmp .ge 34, 3) := by decide +kernel
theorem dX7_firstBest_12 : decode cX7_firstBest 12 = .ok (.aload_n 0, 1) := by decide +kernel
theorem dX7_firstBest_13 : decode cX7_firstBest 13 = .ok (.iload_n 2, 1) := by decide +kernel
theorem dX7_firstBest_14 : decode cX7_firstBest 14 = .ok (.iload_n 3, 1) := by decide +kernel
theorem dX7_firstBest_15 : decode cX7_firstBest 15 = .ok (.iload 4, 2) := by decide +kernel
theorem dX7_firstBest_17 : decode cX7_firstBest 17 = .ok (.invokevirtual 94, 3) := by decide +kernel
theorem dX7_firstBest_20 : decode cX7_firstBest 20 = .ok (.aload_n 0, 1) := by decide +kernel
theorem dX7_firstBest_21 : decode cX7_firstBest 21 = .ok (.getfield 15, 3) := by decide +kernel
theorem dX7_firstBest_24 : decode cX7_firstBest 24 = .ok (.iload_n 2, 1) := by decide +kernel
theorem dX7_firstBest_25 : decode cX7_firstBest 25 = .ok (.iload_n 3, 1) := by decide +kernel
theorem dX7_firstBest_26 : decode cX7_firstBest 26 = .ok (.invokestatic 40, 3) := by decide +kernel
theorem dX7_firstBest_29 : decode cX7_firstBest 29 = .ok (.laload, 1) := by decide +kernel
theorem dX7_firstBest_30 : decode cX7_firstBest 30 = .ok (.lcmp, 1) := by decide +kernel
theorem dX7_firstBest_31 : decode cX7_firstBest 31 = .ok (.ifCond .ne 6, 3) := by decide +kernel
theorem dX7_firstBest_34 : decode cX7_firstBest 34 = .ok (.iload 4, 2) := by decide +kernel
theorem dX7_firstBest_36 : decode cX7_firstBest 36 = .ok (.ireturn, 1) := by decide +kernel
theorem dX7_firstBest_37 : decode cX7_firstBest 37 = .ok (.iinc 4 1, 3) := by decide +kernel
theorem dX7_firstBest_40 : decode cX7_firstBest 40 = .ok (.goto (-37), 3) := by decide +kernel
theorem dX7_firstBest_43 : decode cX7_firstBest 43 = .ok (.aload_n 1, 1) := by decide +kernel
theorem dX7_firstBest_44 : decode cX7_firstBest 44 = .ok (.getfield 34, 3) := by decide +kernel
theorem dX7_firstBest_47 : decode cX7_firstBest 47 = .ok (.ireturn, 1) := by decide +kernel
theorem dX8_init_0 : decode cX8_init 0 = .ok (.aload_n 0, 1) := by decide +kernel
theorem dX8_init_1 : decode cX8_init 1 = .ok (.invokespecial 3, 3) := by decide +kernel
theorem dX8_init_4 : decode cX8_init 4 = .ok (.aload_n 0, 1) := by decide +kernel
theorem dX8_init_5 : decode cX8_init 5 = .ok (.bipush 12, 2) := by decide +kernel
theorem dX8_init_7 : decode cX8_init 7 = .ok (.newarray .int, 2) := by decide +kernel
theorem dX8_init_9 : decode cX8_init 9 = .ok (.putfield 9, 3) := by decide +kernel
theorem dX8_init_12 : decode cX8_init 12 = .ok (.aload_n 0, 1) := by decide +kernel
theorem dX8_init_13 : decode cX8_init 13 = .ok (.bipush 12, 2) := by decide +kernel
theorem dX8_init_15 : decode cX8_init 15 = .ok (.newarray .int, 2) := by decide +kernel
theorem dX8_init_17 : decode cX8_init 17 = .ok (.putfield 15, 3) := by decide +kernel
theorem dX8_init_20 : decode cX8_init 20 = .ok (.aload_n 0, 1) := by decide +kernel
theorem dX8_init_21 : decode cX8_init 21 = .ok (.bipush 12, 2) := by decide +kernel
theorem dX8_init_23 : decode cX8_init 23 = .ok (.newarray .int, 2) := by decide +kernel
theorem dX8_init_25 : decode cX8_init 25 = .ok (.putfield 18, 3) := by decide +kernel
theorem dX8_init_28 : decode cX8_init 28 = .ok (.aload_n 0, 1) := by decide +kernel
theorem dX8_init_29 : decode cX8_init 29 = .ok (.bipush 12, 2) := by decide +kernel
theorem dX8_init_31 : decode cX8_init 31 = .ok (.newarray .int, 2) := by decide +kernel
theorem dX8_init_33 : decode cX8_init 33 = .ok (.putfield 21, 3) := by decide +kernel
theorem dX8_init_36 : decode cX8_init 36 = .ok (.aload_n 0, 1) := by decide +kernel
theorem dX8_init_37 : decode cX8_init 37 = .ok (.bipush 12, 2) := by decide +kernel
theorem dX8_init_39 : decode cX8_init 39 = .ok (.newarray .int, 2) := by decide +kernel
theorem dX8_init_41 : decode cX8_init 41 = .ok (.putfield 24, 3) := by decide +kernel
theorem dX8_init_44 : decode cX8_init 44 = .ok (.return_, 1) := by decide +kernel
theorem dX8_copy_0 : decode cX8_copy 0 = .ok (.aload_n 0, 1) := by decide +kernel
theorem dX8_copy_1 : decode cX8_copy 1 = .ok (.aload_n 1, 1) := by decide +kernel
theorem dX8_copy_2 : decode cX8_copy 2 = .ok (.getfield 27, 3) := by decide +kernel
theorem dX8_copy_5 : decode cX8_copy 5 = .ok (.putfield 27, 3) := by decide +kernel
theorem dX8_copy_8 : decode cX8_copy 8 = .ok (.aload_n 1, 1) := by decide +kernel
theorem dX8_copy_9 : decode cX8_copy 9 = .ok (.getfield 9, 3) := by decide +kernel
theorem dX8_copy_12 : decode cX8_copy 12 = .ok (.iconst 0, 1) := by decide +kernel
theorem dX8_copy_13 : decode cX8_copy 13 = .ok (.aload_n 0, 1) := by decide +kernel
theorem dX8_copy_14 : decode cX8_copy 14 = .ok (.getfield 9, 3) := by decide +kernel
theorem dX8_copy_17 : decode cX8_copy 17 = .ok (.iconst 0, 1) := by decide +kernel
theorem dX8_copy_18 : decode cX8_copy 18 = .ok (.bipush 12, 2) := by decide +kernel
theorem dX8_copy_20 : decode cX8_copy 20 = .ok (.invokestatic 31, 3) := by decide +kernel
theorem dX8_copy_23 : decode cX8_copy 23 = .ok (.aload_n 1, 1) := by decide +kernel
theorem dX8_copy_24 : decode cX8_copy 24 = .ok (.getfield 15, 3) := by decide +kernel
theorem dX8_copy_27 : decode cX8_copy 27 = .ok (.iconst 0, 1) := by decide +kernel
theorem dX8_copy_28 : decode cX8_copy 28 = .ok (.aload_n 0, 1) := by decide +kernel
theorem dX8_copy_29 : decode cX8_copy 29 = .ok (.getfield 15, 3) := by decide +kernel
theorem dX8_copy_32 : decode cX8_copy 32 = .ok (.iconst 0, 1) := by decide +kernel
theorem dX8_copy_33 : decode cX8_copy 33 = .ok (.bipush 12, 2) := by decide +kernel
theorem dX8_copy_35 : decode cX8_copy 35 = .ok (.invokestatic 31, 3) := by decide +kernel
theorem dX8_copy_38 : decode cX8_copy 38 = .ok (.aload_n 1, 1) := by decide +kernel
theorem dX8_copy_39 : decode cX8_copy 39 = .ok (.getfield 18, 3) := by decide +kernel
theorem dX8_copy_42 : decode cX8_copy 42 = .ok (.iconst 0, 1) := by decide +kernel
theorem dX8_copy_43 : decode cX8_copy 43 = .ok (.aload_n 0, 1) := by decide +kernel
theorem dX8_copy_44 : decode cX8_copy 44 = .ok (.getfield 18, 3) := by decide +kernel
theorem dX8_copy_47 : decode cX8_copy 47 = .ok (.iconst 0, 1) := by decide +kernel
theorem dX8_copy_48 : decode cX8_copy 48 = .ok (.bipush 12, 2) := by decide +kernel
theorem dX8_copy_50 : decode cX8_copy 50 = .ok (.invokestatic 31, 3) := by decide +kernel
theorem dX8_copy_53 : decode cX8_copy 53 = .ok (.aload_n 1, 1) := by decide +kernel
theorem dX8_copy_54 : decode cX8_copy 54 = .ok (.getfield 21, 3) := by decide +kernel
theorem dX8_copy_57 : decode cX8_copy 57 = .ok (.iconst 0, 1) := by decide +kernel
theorem dX8_copy_58 : decode cX8_copy 58 = .ok (.aload_n 0, 1) := by decide +kernel
theorem dX8_copy_59 : decode cX8_copy 59 = .ok (.getfield 21, 3) := by decide +kernel
theorem dX8_copy_62 : decode cX8_copy 62 = .ok (.iconst 0, 1) := by decide +kernel
theorem dX8_copy_63 : decode cX8_copy 63 = .ok (.bipush 12, 2) := by decide +kernel
theorem dX8_copy_65 : decode cX8_copy 65 = .ok (.invokestatic 31, 3) := by decide +kernel
theorem dX8_copy_68 : decode cX8_copy 68 = .ok (.aload_n 1, 1) := by decide +kernel
theorem dX8_copy_69 : decode cX8_copy 69 = .ok (.getfield 24, 3) := by decide +kernel
theorem dX8_copy_72 : decode cX8_copy 72 = .ok (.iconst 0, 1) := by decide +kernel
theorem dX8_copy_73 : decode cX8_copy 73 = .ok (.aload_n 0, 1) := by decide +kernel
theorem dX8_copy_74 : decode cX8_copy 74 = .ok (.getfield 24, 3) := by decide +kernel
theorem dX8_copy_77 : decode cX8_copy 77 = .ok (.iconst 0, 1) := by decide +kernel
theorem dX8_copy_78 : decode cX8_copy 78 = .ok (.bipush 12, 2) := by decide +kernel
theorem dX8_copy_80 : decode cX8_copy 80 = .ok (.invokestatic 31, 3) := by decide +kernel
theorem dX8_copy_83 : decode cX8_copy 83 = .ok (.return_, 1) := by decide +kernel
theorem dX8_add_0 : decode cX8_add 0 = .ok (.aload_n 0, 1) := by decide +kernel
theorem dX8_add_1 : decode cX8_add 1 = .ok (.getfield 27, 3) := by decide +kernel
theorem dX8_add_4 : decode cX8_add 4 = .ok (.istore_n 2, 1) := by decide +kernel
theorem dX8_add_5 : decode cX8_add 5 = .ok (.aload_n 0, 1) := by decide +kernel
theorem dX8_add_6 : decode cX8_add 6 = .ok (.dup, 1) := by decide +kernel
theorem dX8_add_7 : decode cX8_add 7 = .ok (.getfield 27, 3) := by decide +kernel
theorem dX8_add_10 : decode cX8_add 10 = .ok (.iconst 1, 1) := by decide +kernel
theorem dX8_add_11 : decode cX8_add 11 = .ok (.iadd, 1) := by decide +kernel
theorem dX8_add_12 : decode cX8_add 12 = .ok (.putfield 27, 3) := by decide +kernel
theorem dX8_add_15 : decode cX8_add 15 = .ok (.aload_n 0, 1) := by decide +kernel
theorem dX8_add_16 : decode cX8_add 16 = .ok (.getfield 15, 3) := by decide +kernel
theorem dX8_add_19 : decode cX8_add 19 = .ok (.iload_n 2, 1) := by decide +kernel
theorem dX8_add_20 : decode cX8_add 20 = .ok (.iload_n 1, 1) := by decide +kernel
theorem dX8_add_21 : decode cX8_add 21 = .ok (.iastore, 1) := by decide +kernel
theorem dX8_add_22 : decode cX8_add 22 = .ok (.aload_n 0, 1) := by decide +kernel
theorem dX8_add_23 : decode cX8_add 23 = .ok (.getfield 18, 3) := by decide +kernel
theorem dX8_add_26 : decode cX8_add 26 = .ok (.iload_n 2, 1) := by decide +kernel
theorem dX8_add_27 : decode cX8_add 27 = .ok (.iconst (-1), 1) := by decide +kernel
theorem dX8_add_28 : decode cX8_add 28 = .ok (.iastore, 1) := by decide +kernel
theorem dX8_add_29 : decode cX8_add 29 = .ok (.iload_n 2, 1) := by decide +kernel
theorem dX8_add_30 : decode cX8_add 30 = .ok (.ireturn, 1) := by decide +kernel
theorem dX8_isHeld_0 : decode cX8_isHeld 0 = .ok (.aload_n 0, 1) := by decide +kernel
theorem dX8_isHeld_1 : decode cX8_isHeld 1 = .ok (.getfield 9, 3) := by decide +kernel
theorem dX8_isHeld_4 : decode cX8_isHeld 4 = .ok (.iload_n 1, 1) := by decide +kernel
theorem dX8_isHeld_5 : decode cX8_isHeld 5 = .ok (.iaload, 1) := by decide +kernel
theorem dX8_isHeld_6 : decode cX8_isHeld 6 = .ok (.ifCond .lt 7, 3) := by decide +kernel
theorem dX8_isHeld_9 : decode cX8_isHeld 9 = .ok (.iconst 1, 1) := by decide +kernel
theorem dX8_isHeld_10 : decode cX8_isHeld 10 = .ok (.goto 4, 3) := by decide +kernel
theorem dX8_isHeld_13 : decode cX8_isHeld 13 = .ok (.iconst 0, 1) := by decide +kernel
theorem dX8_isHeld_14 : decode cX8_isHeld 14 = .ok (.ireturn, 1) := by decide +kernel
theorem dX8_giveTo_0 : decode cX8_giveTo 0 = .ok (.aload_n 0, 1) := by decide +kernel
theorem dX8_giveTo_1 : decode cX8_giveTo 1 = .ok (.getfield 9, 3) := by decide +kernel
theorem dX8_giveTo_4 : decode cX8_giveTo 4 = .ok (.iload_n 1, 1) := by decide +kernel
theorem dX8_giveTo_5 : decode cX8_giveTo 5 = .ok (.iload_n 2, 1) := by decide +kernel
theorem dX8_giveTo_6 : decode cX8_giveTo 6 = .ok (.iastore, 1) := by decide +kernel
theorem dX8_giveTo_7 : decode cX8_giveTo 7 = .ok (.aload_n 0, 1) := by decide +kernel
theorem dX8_giveTo_8 : decode cX8_giveTo 8 = .ok (.getfield 21, 3) := by decide +kernel
theorem dX8_giveTo_11 : decode cX8_giveTo 11 = .ok (.iload_n 1, 1) := by decide +kernel
theorem dX8_giveTo_12 : decode cX8_giveTo 12 = .ok (.iconst (-1), 1) := by decide +kernel
theorem dX8_giveTo_13 : decode cX8_giveTo 13 = .ok (.iastore, 1) := by decide +kernel
theorem dX8_giveTo_14 : decode cX8_giveTo 14 = .ok (.aload_n 0, 1) := by decide +kernel
theorem dX8_giveTo_15 : decode cX8_giveTo 15 = .ok (.getfield 24, 3) := by decide +kernel
theorem dX8_giveTo_18 : decode cX8_giveTo 18 = .ok (.iload_n 1, 1) := by decide +kernel
theorem dX8_giveTo_19 : decode cX8_giveTo 19 = .ok (.iconst (-1), 1) := by decide +kernel
theorem dX8_giveTo_20 : decode cX8_giveTo 20 = .ok (.iastore, 1) := by decide +kernel
theorem dX8_giveTo_21 : decode cX8_giveTo 21 = .ok (.iload_n 2, 1) := by decide +kernel
theorem dX8_giveTo_22 : decode cX8_giveTo 22 = .ok (.aload_n 3, 1) := by decide +kernel
theorem dX8_giveTo_23 : decode cX8_giveTo 23 = .ok (.getfield 37, 3) := by decide +kernel
theorem dX8_giveTo_26 : decode cX8_giveTo 26 = .ok (.if_icmp .ne 12, 3) := by decide +kernel
theorem dX8_giveTo_29 : decode cX8_giveTo 29 = .ok (.aload_n 0, 1) := by decide +kernel
theorem dX8_giveTo_30 : decode cX8_giveTo 30 = .ok (.iload_n 1, 1) := by decide +kernel
theorem dX8_giveTo_31 : decode cX8_giveTo 31 = .ok (.bipush (-3), 2) := by decide +kernel
theorem dX8_giveTo_33 : decode cX8_giveTo 33 = .ok (.iload 4, 2) := by decide +kernel
theorem dX8_giveTo_35 : decode cX8_giveTo 35 = .ok (.invokevirtual 42, 3) := by decide +kernel
theorem dX8_giveTo_38 : decode cX8_giveTo 38 = .ok (.return_, 1) := by decide +kernel
theorem dX8_finish_0 : decode cX8_finish 0 = .ok (.aload_n 0, 1) := by decide +kernel
theorem dX8_finish_1 : decode cX8_finish 1 = .ok (.getfield 9, 3) := by decide +kernel
theorem dX8_finish_4 : decode cX8_finish 4 = .ok (.iload_n 1, 1) := by decide +kernel
theorem dX8_finish_5 : decode cX8_finish 5 = .ok (.iload_n 2, 1) := by decide +kernel
theorem dX8_finish_6 : decode cX8_finish 6 = .ok (.iastore, 1) := by decide +kernel
theorem dX8_finish_7 : decode cX8_finish 7 = .ok (.aload_n 0, 1) := by decide +kernel
theorem dX8_finish_8 : decode cX8_finish 8 = .ok (.getfield 18, 3) := by decide +kernel
theorem dX8_finish_11 : decode cX8_finish 11 = .ok (.iload_n 1, 1) := by decide +kernel
theorem dX8_finish_12 : decode cX8_finish 12 = .ok (.iload_n 3, 1) := by decide +kernel
theorem dX8_finish_13 : decode cX8_finish 13 = .ok (.iastore, 1) := by decide +kernel
theorem dX8_finish_14 : decode cX8_finish 14 = .ok (.aload_n 0, 1) := by decide +kernel
theorem dX8_finish_15 : decode cX8_finish 15 = .ok (.getfield 21, 3) := by decide +kernel
theorem dX8_finish_18 : decode cX8_finish 18 = .ok (.iload_n 1, 1) := by decide +kernel
theorem dX8_finish_19 : decode cX8_finish 19 = .ok (.iconst (-1), 1) := by decide +kernel
theorem dX8_finish_20 : decode cX8_finish 20 = .ok (.iastore, 1) := by decide +kernel
theorem dX8_finish_21 : decode cX8_finish 21 = .ok (.aload_n 0, 1) := by decide +kernel
theorem dX8_finish_22 : decode cX8_finish 22 = .ok (.getfield 24, 3) := by decide +kernel
theorem dX8_finish_25 : decode cX8_finish 25 = .ok (.iload_n 1, 1) := by decide +kernel
theorem dX8_finish_26 : decode cX8_finish 26 = .ok (.iconst (-1), 1) := by decide +kernel
theorem dX8_finish_27 : decode cX8_finish 27 = .ok (.iastore, 1) := by decide +kernel
theorem dX8_finish_28 : decode cX8_finish 28 = .ok (.return_, 1) := by decide +kernel
theorem dX8_howMany_0 : decode cX8_howMany 0 = .ok (.iconst 0, 1) := by decide +kernel
theorem dX8_howMany_1 : decode cX8_howMany 1 = .ok (.istore_n 2, 1) := by decide +kernel
theorem dX8_howMany_2 : decode cX8_howMany 2 = .ok (.iconst 0, 1) := by decide +kernel
theorem dX8_howMany_3 : decode cX8_howMany 3 = .ok (.istore_n 3, 1) := by decide +kernel
theorem dX8_howMany_4 : decode cX8_howMany 4 = .ok (.iload_n 3, 1) := by decide +kernel
theorem dX8_howMany_5 : decode cX8_howMany 5 = .ok (.aload_n 0, 1) := by decide +kernel
theorem dX8_howMany_6 : decode cX8_howMany 6 = .ok (.getfield 27, 3) := by decide +kernel
theorem dX8_howMany_9 : decode cX8_howMany 9 = .ok (.if_icmp .ge 27, 3) := by decide +kernel
theorem dX8_howMany_12 : decode cX8_howMany 12 = .ok (.iload_n 2, 1) := by decide +kernel
theorem dX8_howMany_13 : decode cX8_howMany 13 = .ok (.aload_n 0, 1) := by decide +kernel
theorem dX8_howMany_14 : decode cX8_howMany 14 = .ok (.getfield 9, 3) := by decide +kernel
theorem dX8_howMany_17 : decode cX8_howMany 17 = .ok (.iload_n 3, 1) := by decide +kernel
theorem dX8_howMany_18 : decode cX8_howMany 18 = .ok (.iaload, 1) := by decide +kernel
theorem dX8_howMany_19 : decode cX8_howMany 19 = .ok (.iload_n 1, 1) := by decide +kernel
theorem dX8_howMany_20 : decode cX8_howMany 20 = .ok (.if_icmp .ne 7, 3) := by decide +kernel
theorem dX8_howMany_23 : decode cX8_howMany 23 = .ok (.iconst 1, 1) := by decide +kernel
theorem dX8_howMany_24 : decode cX8_howMany 24 = .ok (.goto 4, 3) := by decide +kernel
theorem dX8_howMany_27 : decode cX8_howMany 27 = .ok (.iconst 0, 1) := by decide +kernel
theorem dX8_howMany_28 : decode cX8_howMany 28 = .ok (.iadd, 1) := by decide +kernel
theorem dX8_howMany_29 : decode cX8_howMany 29 = .ok (.istore_n 2, 1) := by decide +kernel
theorem dX8_howMany_30 : decode cX8_howMany 30 = .ok (.iinc 3 1, 3) := by decide +kernel
theorem dX8_howMany_33 : decode cX8_howMany 33 = .ok (.goto (-29), 3) := by decide +kernel
theorem dX8_howMany_36 : decode cX8_howMany 36 = .ok (.iload_n 2, 1) := by decide +kernel
theorem dX8_howMany_37 : decode cX8_howMany 37 = .ok (.ireturn, 1) := by decide +kernel
theorem dX9_init_0 : decode cX9_init 0 = .ok (.aload_n 0, 1) := by decide +kernel
theorem dX9_init_1 : decode cX9_init 1 = .ok (.invokespecial 3, 3) := by decide +kernel
theorem dX9_init_4 : decode cX9_init 4 = .ok (.aload_n 0, 1) := by decide +kernel
theorem dX9_init_5 : decode cX9_init 5 = .ok (.sipush 1600, 3) := by decide +kernel
theorem dX9_init_8 : decode cX9_init 8 = .ok (.newarray .byte, 2) := by decide +kernel
theorem dX9_init_10 : decode cX9_init 10 = .ok (.putfield 9, 3) := by decide +kernel
theorem dX9_init_13 : decode cX9_init 13 = .ok (.aload_n 0, 1) := by decide +kernel
theorem dX9_init_14 : decode cX9_init 14 = .ok (.new 13, 3) := by decide +kernel
theorem dX9_init_17 : decode cX9_init 17 = .ok (.dup, 1) := by decide +kernel
theorem dX9_init_18 : decode cX9_init 18 = .ok (.invokespecial 15, 3) := by decide +kernel
theorem dX9_init_21 : decode cX9_init 21 = .ok (.putfield 16, 3) := by decide +kernel
theorem dX9_init_24 : decode cX9_init 24 = .ok (.aload_n 0, 1) := by decide +kernel
theorem dX9_init_25 : decode cX9_init 25 = .ok (.new 20, 3) := by decide +kernel
theorem dX9_init_28 : decode cX9_init 28 = .ok (.dup, 1) := by decide +kernel
theorem dX9_init_29 : decode cX9_init 29 = .ok (.invokespecial 22, 3) := by decide +kernel
theorem dX9_init_32 : decode cX9_init 32 = .ok (.putfield 23, 3) := by decide +kernel
theorem dX9_init_35 : decode cX9_init 35 = .ok (.aload_n 0, 1) := by decide +kernel
theorem dX9_init_36 : decode cX9_init 36 = .ok (.new 20, 3) := by decide +kernel
theorem dX9_init_39 : decode cX9_init 39 = .ok (.dup, 1) := by decide +kernel
theorem dX9_init_40 : decode cX9_init 40 = .ok (.invokespecial 22, 3) := by decide +kernel
theorem dX9_init_43 : decode cX9_init 43 = .ok (.putfield 27, 3) := by decide +kernel
theorem dX9_init_46 : decode cX9_init 46 = .ok (.aload_n 0, 1) := by decide +kernel
theorem dX9_init_47 : decode cX9_init 47 = .ok (.new 30, 3) := by decide +kernel
theorem dX9_init_50 : decode cX9_init 50 = .ok (.dup, 1) := by decide +kernel
theorem dX9_init_51 : decode cX9_init 51 = .ok (.invokespecial 32, 3) := by decide +kernel
theorem dX9_init_54 : decode cX9_init 54 = .ok (.putfield 33, 3) := by decide +kernel
theorem dX9_init_57 : decode cX9_init 57 = .ok (.aload_n 0, 1) := by decide +kernel
theorem dX9_init_58 : decode cX9_init 58 = .ok (.new 37, 3) := by decide +kernel
theorem dX9_init_61 : decode cX9_init 61 = .ok (.dup, 1) := by decide +kernel
theorem dX9_init_62 : decode cX9_init 62 = .ok (.invokespecial 39, 3) := by decide +kernel
theorem dX9_init_65 : decode cX9_init 65 = .ok (.putfield 40, 3) := by decide +kernel
theorem dX9_init_68 : decode cX9_init 68 = .ok (.aload_n 0, 1) := by decide +kernel
theorem dX9_init_69 : decode cX9_init 69 = .ok (.new 44, 3) := by decide +kernel
theorem dX9_init_72 : decode cX9_init 72 = .ok (.dup, 1) := by decide +kernel
theorem dX9_init_73 : decode cX9_init 73 = .ok (.invokespecial 46, 3) := by decide +kernel
theorem dX9_init_76 : decode cX9_init 76 = .ok (.putfield 47, 3) := by decide +kernel
theorem dX9_init_79 : decode cX9_init 79 = .ok (.aload_n 0, 1) := by decide +kernel
theorem dX9_init_80 : decode cX9_init 80 = .ok (.iconst 3, 1) := by decide +kernel
theorem dX9_init_81 : decode cX9_init 81 = .ok (.anewarray 44, 3) := by decide +kernel
theorem dX9_init_84 : decode cX9_init 84 = .ok (.putfield 51, 3) := by decide +kernel
theorem dX9_init_87 : decode cX9_init 87 = .ok (.iconst 0, 1) := by decide +kernel
theorem dX9_init_88 : decode cX9_init 88 = .ok (.istore_n 1, 1) := by decide +kernel
theorem dX9_init_89 : decode cX9_init 89 = .ok (.iload_n 1, 1) := by decide +kernel
theorem dX9_init_90 : decode cX9_init 90 = .ok (.iconst 3, 1) := by decide +kernel
theorem dX9_init_91 : decode cX9_init 91 = .ok (.if_icmp .ge 22, 3) := by decide +kernel
theorem dX9_init_94 : decode cX9_init 94 = .ok (.aload_n 0, 1) := by decide +kernel
theorem dX9_init_95 : decode cX9_init 95 = .ok (.getfield 51, 3) := by decide +kernel
theorem dX9_init_98 : decode cX9_init 98 = .ok (.iload_n 1, 1) := by decide +kernel
theorem dX9_init_99 : decode cX9_init 99 = .ok (.new 44, 3) := by decide +kernel
theorem dX9_init_102 : decode cX9_init 102 = .ok (.dup, 1) := by decide +kernel
theorem dX9_init_103 : decode cX9_init 103 = .ok (.invokespecial 46, 3) := by decide +kernel
theorem dX9_init_106 : decode cX9_init 106 = .ok (.aastore, 1) := by decide +kernel
theorem dX9_init_107 : decode cX9_init 107 = .ok (.iinc 1 1, 3) := by decide +kernel
theorem dX9_init_110 : decode cX9_init 110 = .ok (.goto (-21), 3) := by decide +kernel
theorem dX9_init_113 : decode cX9_init 113 = .ok (.aload_n 0, 1) := by decide +kernel
theorem dX9_init_114 : decode cX9_init 114 = .ok (.new 55, 3) := by decide +kernel
theorem dX9_init_117 : decode cX9_init 117 = .ok (.dup, 1) := by decide +kernel
theorem dX9_init_118 : decode cX9_init 118 = .ok (.invokespecial 57, 3) := by decide +kernel
theorem dX9_init_121 : decode cX9_init 121 = .ok (.putfield 58, 3) := by decide +kernel
theorem dX9_init_124 : decode cX9_init 124 = .ok (.return_, 1) := by decide +kernel
theorem dX9_feed_0 : decode cX9_feed 0 = .ok (.aload_n 0, 1) := by decide +kernel
theorem dX9_feed_1 : decode cX9_feed 1 = .ok (.getfield 62, 3) := by decide +kernel
theorem dX9_feed_4 : decode cX9_feed 4 = .ok (.bipush 20, 2) := by decide +kernel
theorem dX9_feed_6 : decode cX9_feed 6 = .ok (.iadd, 1) := by decide +kernel
theorem dX9_feed_7 : decode cX9_feed 7 = .ok (.sipush 1600, 3) := by decide +kernel
theorem dX9_feed_10 : decode cX9_feed 10 = .ok (.if_icmp .le 5, 3) := by decide +kernel
theorem dX9_feed_13 : decode cX9_feed 13 = .ok (.iconst (-1), 1) := by decide +kernel
theorem dX9_feed_14 : decode cX9_feed 14 = .ok (.ireturn, 1) := by decide +kernel
theorem dX9_feed_15 : decode cX9_feed 15 = .ok (.aload_n 0, 1) := by decide +kernel
theorem dX9_feed_16 : decode cX9_feed 16 = .ok (.iload_n 1, 1) := by decide +kernel
theorem dX9_feed_17 : decode cX9_feed 17 = .ok (.invokevirtual 66, 3) := by decide +kernel
theorem dX9_feed_20 : decode cX9_feed 20 = .ok (.aload_n 0, 1) := by decide +kernel
theorem dX9_feed_21 : decode cX9_feed 21 = .ok (.iload_n 2, 1) := by decide +kernel
theorem dX9_feed_22 : decode cX9_feed 22 = .ok (.invokevirtual 66, 3) := by decide +kernel
theorem dX9_feed_25 : decode cX9_feed 25 = .ok (.aload_n 0, 1) := by decide +kernel
theorem dX9_feed_26 : decode cX9_feed 26 = .ok (.iload_n 3, 1) := by decide +kernel
theorem dX9_feed_27 : decode cX9_feed 27 = .ok (.invokevirtual 66, 3) := by decide +kernel
theorem dX9_feed_30 : decode cX9_feed 30 = .ok (.aload_n 0, 1) := by decide +kernel
theorem dX9_feed_31 : decode cX9_feed 31 = .ok (.iload 4, 2) := by decide +kernel
theorem dX9_feed_33 : decode cX9_feed 33 = .ok (.invokevirtual 66, 3) := by decide +kernel
theorem dX9_feed_36 : decode cX9_feed 36 = .ok (.aload_n 0, 1) := by decide +kernel
theorem dX9_feed_37 : decode cX9_feed 37 = .ok (.iload 5, 2) := by decide +kernel
theorem dX9_feed_39 : decode cX9_feed 39 = .ok (.invokevirtual 66, 3) := by decide +kernel
theorem dX9_feed_42 : decode cX9_feed 42 = .ok (.aload_n 0, 1) := by decide +kernel
theorem dX9_feed_43 : decode cX9_feed 43 = .ok (.getfield 62, 3) := by decide +kernel
theorem dX9_feed_46 : decode cX9_feed 46 = .ok (.ireturn, 1) := by decide +kernel
theorem dX9_end_0 : decode cX9_end 0 = .ok (.iload_n 1, 1) := by decide +kernel
theorem dX9_end_1 : decode cX9_end 1 = .ok (.ifCond .lt 11, 3) := by decide +kernel
theorem dX9_end_4 : decode cX9_end 4 = .ok (.iload_n 1, 1) := by decide +kernel
theorem dX9_end_5 : decode cX9_end 5 = .ok (.aload_n 0, 1) := by decide +kernel
theorem dX9_end_6 : decode cX9_end 6 = .ok (.getfield 62, 3) := by decide +kernel
theorem dX9_end_9 : decode cX9_end 9 = .ok (.if_icmp .le 5, 3) := by decide +kernel
theorem dX9_end_12 : decode cX9_end 12 = .ok (.iconst (-1), 1) := by decide +kernel
theorem dX9_end_13 : decode cX9_end 13 = .ok (.ireturn, 1) := by decide +kernel
theorem dX9_end_14 : decode cX9_end 14 = .ok (.aload_n 0, 1) := by decide +kernel
theorem dX9_end_15 : decode cX9_end 15 = .ok (.iload_n 1, 1) := by decide +kernel
theorem dX9_end_16 : decode cX9_end 16 = .ok (.putfield 62, 3) := by decide +kernel
theorem dX9_end_19 : decode cX9_end 19 = .ok (.iload_n 1, 1) := by decide +kernel
theorem dX9_end_20 : decode cX9_end 20 = .ok (.ireturn, 1) := by decide +kernel
theorem dX9_city_0 : decode cX9_city 0 = .ok (.aload_n 0, 1) := by decide +kernel
theorem dX9_city_1 : decode cX9_city 1 = .ok (.getfield 16, 3) := by decide +kernel
theorem dX9_city_4 : decode cX9_city 4 = .ok (.aload_n 0, 1) := by decide +kernel
theorem dX9_city_5 : decode cX9_city 5 = .ok (.getfield 9, 3) := by decide +kernel
theorem dX9_city_8 : decode cX9_city 8 = .ok (.aload_n 0, 1) := by decide +kernel
theorem dX9_city_9 : decode cX9_city 9 = .ok (.getfield 62, 3) := by decide +kernel
theorem dX9_city_12 : decode cX9_city 12 = .ok (.aload_n 0, 1) := by decide +kernel
theorem dX9_city_13 : decode cX9_city 13 = .ok (.getfield 27, 3) := by decide +kernel
theorem dX9_city_16 : decode cX9_city 16 = .ok (.invokevirtual 70, 3) := by decide +kernel
theorem dX9_city_19 : decode cX9_city 19 = .ok (.istore_n 1, 1) := by decide +kernel
theorem dX9_city_20 : decode cX9_city 20 = .ok (.aload_n 0, 1) := by decide +kernel
theorem dX9_city_21 : decode cX9_city 21 = .ok (.iconst 0, 1) := by decide +kernel
theorem dX9_city_22 : decode cX9_city 22 = .ok (.putfield 62, 3) := by decide +kernel
theorem dX9_city_25 : decode cX9_city 25 = .ok (.iload_n 1, 1) := by decide +kernel
theorem dX9_city_26 : decode cX9_city 26 = .ok (.ifCond .ne 5, 3) := by decide +kernel
theorem dX9_city_29 : decode cX9_city 29 = .ok (.iconst (-1), 1) := by decide +kernel
theorem dX9_city_30 : decode cX9_city 30 = .ok (.ireturn, 1) := by decide +kernel
theorem dX9_city_31 : decode cX9_city 31 = .ok (.aload_n 0, 1) := by decide +kernel
theorem dX9_city_32 : decode cX9_city 32 = .ok (.getfield 23, 3) := by decide +kernel
theorem dX9_city_35 : decode cX9_city 35 = .ok (.astore_n 2, 1) := by decide +kernel
theorem dX9_city_36 : decode cX9_city 36 = .ok (.aload_n 0, 1) := by decide +kernel
theorem dX9_city_37 : decode cX9_city 37 = .ok (.aload_n 0, 1) := by decide +kernel
