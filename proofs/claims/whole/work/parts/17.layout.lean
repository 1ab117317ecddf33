/-! the layout of the cells once both objects are made; the forms of judgements used from here on -/
def g0_sh : List (Nat × Nat) := [(14, 0), (1, 1600), (11, 0), (10, 0), (5, 0), (3, 12), (0, 12), (0, 12), (0, 12), (0, 12), (0, 12), (0, 144), (0, 12), (0, 12), (5, 0), (3, 12), (0, 12), (0, 12), (0, 12), (0, 12), (0, 12), (0, 144), (0, 12), (0, 12), (8, 0), (0, 144), (0, 144), (0, 12), (9, 0), (0, 12), (12, 0), (0, 144), (3, 144), (0, 12), (6, 0), (9, 0), (0, 12), (13, 0), (0, 12), (0, 12), (0, 12), (0, 12), (0, 12), (0, 144), (0, 12), (0, 12), (4, 3), (6, 0), (9, 0), (0, 12), (13, 0), (0, 12), (0, 12), (0, 12), (0, 12), (0, 12), (0, 144), (0, 12), (0, 12), (6, 0), (9, 0), (0, 12), (13, 0), (0, 12), (0, 12), (0, 12), (0, 12), (0, 12), (0, 144), (0, 12), (0, 12), (6, 0), (9, 0), (0, 12), (13, 0), (0, 12), (0, 12), (0, 12), (0, 12), (0, 12), (0, 144), (0, 12), (0, 12), (7, 0), (0, 40), (0, 40), (0, 40), (0, 40), (0, 40), (15, 0), (0, 1600), (3, 12), (0, 12), (0, 12), (0, 12), (0, 12), (0, 12), (0, 144), (0, 12), (0, 12), (0, 12), (0, 12), (0, 12), (0, 144), (0, 12), (0, 12), (0, 12), (0, 12), (3, 120), (0, 576), (0, 24), (0, 24), (0, 12), (0, 12), (0, 12), (0, 12), (0, 12), (0, 12), (0, 144), (0, 12), (0, 12), (0, 12), (0, 12), (0, 12), (0, 12), (0, 40), (0, 40), (0, 40), (0, 40), (0, 40), (2, 3), (0, 6), (0, 108), (0, 432), (0, 180)]
def g0_f : List (List (Option Nat)) := [[some 1, none, some 2, none, none, some 24, some 30, some 34, some 46, none, some 83], [], [some 3], [], [none, none, none, none, none, some 5, some 6, some 7, some 8, some 9, some 10, some 11, some 12, some 13], [], [], [], [], [], [], [], [], [], [none, none, none, none, none, some 15, some 16, some 17, some 18, some 19, some 20, some 21, some 22, some 23], [], [], [], [], [], [], [], [], [], [some 25, some 26, some 27, some 28], [], [], [], [none, none, some 29], [], [some 31, some 32, none, some 33], [], [], [], [none, some 35, some 37, some 43, some 44, some 45], [none, none, some 36], [], [none, some 38, some 39, some 40, some 41, some 42], [], [], [], [], [], [], [], [], [], [none, some 48, some 50, some 56, some 57, some 58], [none, none, some 49], [], [none, some 51, some 52, some 53, some 54, some 55], [], [], [], [], [], [], [], [], [none, some 60, some 62, some 68, some 69, some 70], [none, none, some 61], [], [none, some 63, some 64, some 65, some 66, some 67], [], [], [], [], [], [], [], [], [none, some 72, some 74, some 80, some 81, some 82], [none, none, some 73], [], [none, some 75, some 76, some 77, some 78, some 79], [], [], [], [], [], [], [], [], [none, none, some 84, some 85, some 86, some 87, some 88], [], [], [], [], [], [some 90, none, none, none, none, none, none, none, none, none, some 91, some 92, some 93, some 94, some 95, some 96, some 97, some 98, some 99, some 100, some 101, some 102, some 103, some 104, none, none, none, none, none, none, none, none, none, none, some 105, some 106, some 107, none, some 108, some 109, some 110, some 111, some 112, some 113, some 114, some 115, some 116, some 117, some 118, some 119, some 120, some 121, some 122, some 123, none, none, some 124, some 125, some 126, some 127, some 128, some 129, none, none, some 130, some 131, some 132, some 133, some 134], [], [], [], [], [], [], [], [], [], [], [], [], [], [], [], [], [], [], [], [], [], [], [], [], [], [], [], [], [], [], [], [], [], [], [], [], [], [], [], [], [], [], [], [], []]
def g0 : zG := (135, fun k => g0_sh.getD k (0, 0), fun k j => (g0_f.getD k []).getD j none)
def isCity (k : Nat) : Prop := k = 4 ∨ k = 14
def isEarnest (k : Nat) : Prop := k = 34 ∨ k = 47 ∨ k = 59 ∨ k = 71
def isFate (k : Nat) : Prop := k = 28 ∨ k = 35 ∨ k = 48 ∨ k = 60 ∨ k = 72
def isThings (k : Nat) : Prop := k = 37 ∨ k = 50 ∨ k = 62 ∨ k = 74
theorem go_0 : zObj g0 0 9 := ⟨by decide, rfl, by decide⟩
theorem gf_0_0 : gF g0 0 0 = some 1 := rfl
theorem gf_0_2 : gF g0 0 2 = some 2 := rfl
theorem gf_0_5 : gF g0 0 5 = some 24 := rfl
theorem gf_0_6 : gF g0 0 6 = some 30 := rfl
theorem gf_0_7 : gF g0 0 7 = some 34 := rfl
theorem gf_0_8 : gF g0 0 8 = some 46 := rfl
theorem gf_0_10 : gF g0 0 10 = some 83 := rfl
theorem ga_1 : zArr g0 1 1 1600 := ⟨by decide, rfl, rfl⟩
theorem go_2 : zObj g0 2 6 := ⟨by decide, rfl, by decide⟩
theorem gf_2_0 : gF g0 2 0 = some 3 := rfl
theorem go_3 : zObj g0 3 5 := ⟨by decide, rfl, by decide⟩
theorem go_4 : zObj g0 4 0 := ⟨by decide, rfl, by decide⟩
theorem gf_4_5 : gF g0 4 5 = some 5 := rfl
theorem gf_4_6 : gF g0 4 6 = some 6 := rfl
theorem gf_4_7 : gF g0 4 7 = some 7 := rfl
theorem gf_4_8 : gF g0 4 8 = some 8 := rfl
theorem gf_4_9 : gF g0 4 9 = some 9 := rfl
theorem gf_4_10 : gF g0 4 10 = some 10 := rfl
theorem gf_4_11 : gF g0 4 11 = some 11 := rfl
theorem gf_4_12 : gF g0 4 12 = some 12 := rfl
theorem gf_4_13 : gF g0 4 13 = some 13 := rfl
theorem ga_5 : zArr g0 5 3 12 := ⟨by decide, rfl, rfl⟩
theorem ga_6 : zArr g0 6 0 12 := ⟨by decide, rfl, rfl⟩
theorem ga_7 : zArr g0 7 0 12 := ⟨by decide, rfl, rfl⟩
theorem ga_8 : zArr g0 8 0 12 := ⟨by decide, rfl, rfl⟩
theorem ga_9 : zArr g0 9 0 12 := ⟨by decide, rfl, rfl⟩
theorem ga_10 : zArr g0 10 0 12 := ⟨by decide, rfl, rfl⟩
theorem ga_11 : zArr g0 11 0 144 := ⟨by decide, rfl, rfl⟩
theorem ga_12 : zArr g0 12 0 12 := ⟨by decide, rfl, rfl⟩
theorem ga_13 : zArr g0 13 0 12 := ⟨by decide, rfl, rfl⟩
theorem go_14 : zObj g0 14 0 := ⟨by decide, rfl, by decide⟩
theorem gf_14_5 : gF g0 14 5 = some 15 := rfl
theorem gf_14_6 : gF g0 14 6 = some 16 := rfl
theorem gf_14_7 : gF g0 14 7 = some 17 := rfl
theorem gf_14_8 : gF g0 14 8 = some 18 := rfl
theorem gf_14_9 : gF g0 14 9 = some 19 := rfl
theorem gf_14_10 : gF g0 14 10 = some 20 := rfl
theorem gf_14_11 : gF g0 14 11 = some 21 := rfl
theorem gf_14_12 : gF g0 14 12 = some 22 := rfl
theorem gf_14_13 : gF g0 14 13 = some 23 := rfl
theorem ga_15 : zArr g0 15 3 12 := ⟨by decide, rfl, rfl⟩
theorem ga_16 : zArr g0 16 0 12 := ⟨by decide, rfl, rfl⟩
theorem ga_17 : zArr g0 17 0 12 := ⟨by decide, rfl, rfl⟩
theorem ga_18 : zArr g0 18 0 12 := ⟨by decide, rfl, rfl⟩
theorem ga_19 : zArr g0 19 0 12 := ⟨by decide, rfl, rfl⟩
theorem ga_20 : zArr g0 20 0 12 := ⟨by decide, rfl, rfl⟩
theorem ga_21 : zArr g0 21 0 144 := ⟨by decide, rfl, rfl⟩
theorem ga_22 : zArr g0 22 0 12 := ⟨by decide, rfl, rfl⟩
theorem ga_23 : zArr g0 23 0 12 := ⟨by decide, rfl, rfl⟩
theorem go_24 : zObj g0 24 3 := ⟨by decide, rfl, by decide⟩
theorem gf_24_0 : gF g0 24 0 = some 25 := rfl
theorem gf_24_1 : gF g0 24 1 = some 26 := rfl
theorem gf_24_2 : gF g0 24 2 = some 27 := rfl
theorem gf_24_3 : gF g0 24 3 = some 28 := rfl
theorem ga_25 : zArr g0 25 0 144 := ⟨by decide, rfl, rfl⟩
theorem ga_26 : zArr g0 26 0 144 := ⟨by decide, rfl, rfl⟩
theorem ga_27 : zArr g0 27 0 12 := ⟨by decide, rfl, rfl⟩
theorem go_28 : zObj g0 28 4 := ⟨by decide, rfl, by decide⟩
theorem gf_28_2 : gF g0 28 2 = some 29 := rfl
theorem ga_29 : zArr g0 29 0 12 := ⟨by decide, rfl, rfl⟩
theorem go_30 : zObj g0 30 7 := ⟨by decide, rfl, by decide⟩
theorem gf_30_0 : gF g0 30 0 = some 31 := rfl
theorem gf_30_1 : gF g0 30 1 = some 32 := rfl
theorem gf_30_3 : gF g0 30 3 = some 33 := rfl
theorem ga_31 : zArr g0 31 0 144 := ⟨by decide, rfl, rfl⟩
theorem ga_32 : zArr g0 32 3 144 := ⟨by decide, rfl, rfl⟩
theorem ga_33 : zArr g0 33 0 12 := ⟨by decide, rfl, rfl⟩
theorem go_34 : zObj g0 34 1 := ⟨by decide, rfl, by decide⟩
theorem gf_34_1 : gF g0 34 1 = some 35 := rfl
theorem gf_34_2 : gF g0 34 2 = some 37 := rfl
theorem gf_34_3 : gF g0 34 3 = some 43 := rfl
theorem gf_34_4 : gF g0 34 4 = some 44 := rfl
theorem gf_34_5 : gF g0 34 5 = some 45 := rfl
theorem go_35 : zObj g0 35 4 := ⟨by decide, rfl, by decide⟩
theorem gf_35_2 : gF g0 35 2 = some 36 := rfl
theorem ga_36 : zArr g0 36 0 12 := ⟨by decide, rfl, rfl⟩
theorem go_37 : zObj g0 37 8 := ⟨by decide, rfl, by decide⟩
theorem gf_37_1 : gF g0 37 1 = some 38 := rfl
theorem gf_37_2 : gF g0 37 2 = some 39 := rfl
theorem gf_37_3 : gF g0 37 3 = some 40 := rfl
theorem gf_37_4 : gF g0 37 4 = some 41 := rfl
theorem gf_37_5 : gF g0 37 5 = some 42 := rfl
theorem ga_38 : zArr g0 38 0 12 := ⟨by decide, rfl, rfl⟩
theorem ga_39 : zArr g0 39 0 12 := ⟨by decide, rfl, rfl⟩
theorem ga_40 : zArr g0 40 0 12 := ⟨by decide, rfl, rfl⟩
theorem ga_41 : zArr g0 41 0 12 := ⟨by decide, rfl, rfl⟩
theorem ga_42 : zArr g0 42 0 12 := ⟨by decide, rfl, rfl⟩
theorem ga_43 : zArr g0 43 0 144 := ⟨by decide, rfl, rfl⟩
theorem ga_44 : zArr g0 44 0 12 := ⟨by decide, rfl, rfl⟩
theorem ga_45 : zArr g0 45 0 12 := ⟨by decide, rfl, rfl⟩
theorem ga_46 : zArr g0 46 4 3 := ⟨by decide, rfl, rfl⟩
theorem go_47 : zObj g0 47 1 := ⟨by decide, rfl, by decide⟩
theorem gf_47_1 : gF g0 47 1 = some 48 := rfl
theorem gf_47_2 : gF g0 47 2 = some 50 := rfl
theorem gf_47_3 : gF g0 47 3 = some 56 := rfl
theorem gf_47_4 : gF g0 47 4 = some 57 := rfl
theorem gf_47_5 : gF g0 47 5 = some 58 := rfl
theorem go_48 : zObj g0 48 4 := ⟨by decide, rfl, by decide⟩
theorem gf_48_2 : gF g0 48 2 = some 49 := rfl
theorem ga_49 : zArr g0 49 0 12 := ⟨by decide, rfl, rfl⟩
theorem go_50 : zObj g0 50 8 := ⟨by decide, rfl, by decide⟩
theorem gf_50_1 : gF g0 50 1 = some 51 := rfl
theorem gf_50_2 : gF g0 50 2 = some 52 := rfl
theorem gf_50_3 : gF g0 50 3 = some 53 := rfl
theorem gf_50_4 : gF g0 50 4 = some 54 := rfl
theorem gf_50_5 : gF g0 50 5 = some 55 := rfl
theorem ga_51 : zArr g0 51 0 12 := ⟨by decide, rfl, rfl⟩
theorem ga_52 : zArr g0 52 0 12 := ⟨by decide, rfl, rfl⟩
theorem ga_53 : zArr g0 53 0 12 := ⟨by decide, rfl, rfl⟩
theorem ga_54 : zArr g0 54 0 12 := ⟨by decide, rfl, rfl⟩
theorem ga_55 : zArr g0 55 0 12 := ⟨by decide, rfl, rfl⟩
theorem ga_56 : zArr g0 56 0 144 := ⟨by decide, rfl, rfl⟩
theorem ga_57 : zArr g0 57 0 12 := ⟨by decide, rfl, rfl⟩
theorem ga_58 : zArr g0 58 0 12 := ⟨by decide, rfl, rfl⟩
theorem go_59 : zObj g0 59 1 := ⟨by decide, rfl, by decide⟩
theorem gf_59_1 : gF g0 59 1 = some 60 := rfl
theorem gf_59_2 : gF g0 59 2 = some 62 := rfl
theorem gf_59_3 : gF g0 59 3 = some 68 := rfl
theorem gf_59_4 : gF g0 59 4 = some 69 := rfl
theorem gf_59_5 : gF g0 59 5 = some 70 := rfl
theorem go_60 : zObj g0 60 4 := ⟨by decide, rfl, by decide⟩
theorem gf_60_2 : gF g0 60 2 = some 61 := rfl
theorem ga_61 : zArr g0 61 0 12 := ⟨by decide, rfl, rfl⟩
theorem go_62 : zObj g0 62 8 := ⟨by decide, rfl, by decide⟩
theorem gf_62_1 : gF g0 62 1 = some 63 := rfl
theorem gf_62_2 : gF g0 62 2 = some 64 := rfl
theorem gf_62_3 : gF g0 62 3 = some 65 := rfl
theorem gf_62_4 : gF g0 62 4 = some 66 := rfl
theorem gf_62_5 : gF g0 62 5 = some 67 := rfl
theorem ga_63 : zArr g0 63 0 12 := ⟨by decide, rfl, rfl⟩
theorem ga_64 : zArr g0 64 0 12 := ⟨by decide, rfl, rfl⟩
theorem ga_65 : zArr g0 65 0 12 := ⟨by decide, rfl, rfl⟩
theorem ga_66 : zArr g0 66 0 12 := ⟨by decide, rfl, rfl⟩
theorem ga_67 : zArr g0 67 0 12 := ⟨by decide, rfl, rfl⟩
theorem ga_68 : zArr g0 68 0 144 := ⟨by decide, rfl, rfl⟩
theorem ga_69 : zArr g0 69 0 12 := ⟨by decide, rfl, rfl⟩
theorem ga_70 : zArr g0 70 0 12 := ⟨by decide, rfl, rfl⟩
theorem go_71 : zObj g0 71 1 := ⟨by decide, rfl, by decide⟩
theorem gf_71_1 : gF g0 71 1 = some 72 := rfl
theorem gf_71_2 : gF g0 71 2 = some 74 := rfl
theorem gf_71_3 : gF g0 71 3 = some 80 := rfl
theorem gf_71_4 : gF g0 71 4 = some 81 := rfl
theorem gf_71_5 : gF g0 71 5 = some 82 := rfl
theorem go_72 : zObj g0 72 4 := ⟨by decide, rfl, by decide⟩
theorem gf_72_2 : gF g0 72 2 = some 73 := rfl
theorem ga_73 : zArr g0 73 0 12 := ⟨by decide, rfl, rfl⟩
theorem go_74 : zObj g0 74 8 := ⟨by decide, rfl, by decide⟩
theorem gf_74_1 : gF g0 74 1 = some 75 := rfl
theorem gf_74_2 : gF g0 74 2 = some 76 := rfl
theorem gf_74_3 : gF g0 74 3 = some 77 := rfl
theorem gf_74_4 : gF g0 74 4 = some 78 := rfl
theorem gf_74_5 : gF g0 74 5 = some 79 := rfl
theorem ga_75 : zArr g0 75 0 12 := ⟨by decide, rfl, rfl⟩
theorem ga_76 : zArr g0 76 0 12 := ⟨by decide, rfl, rfl⟩
theorem ga_77 : zArr g0 77 0 12 := ⟨by decide, rfl, rfl⟩
theorem ga_78 : zArr g0 78 0 12 := ⟨by decide, rfl, rfl⟩
theorem ga_79 : zArr g0 79 0 12 := ⟨by decide, rfl, rfl⟩
theorem ga_80 : zArr g0 80 0 144 := ⟨by decide, rfl, rfl⟩
theorem ga_81 : zArr g0 81 0 12 := ⟨by decide, rfl, rfl⟩
theorem ga_82 : zArr g0 82 0 12 := ⟨by decide, rfl, rfl⟩
theorem go_83 : zObj g0 83 2 := ⟨by decide, rfl, by decide⟩
theorem gf_83_2 : gF g0 83 2 = some 84 := rfl
theorem gf_83_3 : gF g0 83 3 = some 85 := rfl
theorem gf_83_4 : gF g0 83 4 = some 86 := rfl
theorem gf_83_5 : gF g0 83 5 = some 87 := rfl
theorem gf_83_6 : gF g0 83 6 = some 88 := rfl
theorem ga_84 : zArr g0 84 0 40 := ⟨by decide, rfl, rfl⟩
theorem ga_85 : zArr g0 85 0 40 := ⟨by decide, rfl, rfl⟩
theorem ga_86 : zArr g0 86 0 40 := ⟨by decide, rfl, rfl⟩
theorem ga_87 : zArr g0 87 0 40 := ⟨by decide, rfl, rfl⟩
theorem ga_88 : zArr g0 88 0 40 := ⟨by decide, rfl, rfl⟩
theorem go_89 : zObj g0 89 10 := ⟨by decide, rfl, by decide⟩
theorem gf_89_0 : gF g0 89 0 = some 90 := rfl
theorem gf_89_10 : gF g0 89 10 = some 91 := rfl
theorem gf_89_11 : gF g0 89 11 = some 92 := rfl
theorem gf_89_12 : gF g0 89 12 = some 93 := rfl
theorem gf_89_13 : gF g0 89 13 = some 94 := rfl
theorem gf_89_14 : gF g0 89 14 = some 95 := rfl
theorem gf_89_15 : gF g0 89 15 = some 96 := rfl
theorem gf_89_16 : gF g0 89 16 = some 97 := rfl
theorem gf_89_17 : gF g0 89 17 = some 98 := rfl
theorem gf_89_18 : gF g0 89 18 = some 99 := rfl
theorem gf_89_19 : gF g0 89 19 = some 100 := rfl
theorem gf_89_20 : gF g0 89 20 = some 101 := rfl
theorem gf_89_21 : gF g0 89 21 = some 102 := rfl
theorem gf_89_22 : gF g0 89 22 = some 103 := rfl
theorem gf_89_23 : gF g0 89 23 = some 104 := rfl
theorem gf_89_34 : gF g0 89 34 = some 105 := rfl
theorem gf_89_35 : gF g0 89 35 = some 106 := rfl
theorem gf_89_36 : gF g0 89 36 = some 107 := rfl
theorem gf_89_38 : gF g0 89 38 = some 108 := rfl
theorem gf_89_39 : gF g0 89 39 = some 109 := rfl
theorem gf_89_40 : gF g0 89 40 = some 110 := rfl
theorem gf_89_41 : gF g0 89 41 = some 111 := rfl
theorem gf_89_42 : gF g0 89 42 = some 112 := rfl
theorem gf_89_43 : gF g0 89 43 = some 113 := rfl
theorem gf_89_44 : gF g0 89 44 = some 114 := rfl
theorem gf_89_45 : gF g0 89 45 = some 115 := rfl
theorem gf_89_46 : gF g0 89 46 = some 116 := rfl
theorem gf_89_47 : gF g0 89 47 = some 117 := rfl
theorem gf_89_48 : gF g0 89 48 = some 118 := rfl
theorem gf_89_49 : gF g0 89 49 = some 119 := rfl
theorem gf_89_50 : gF g0 89 50 = some 120 := rfl
theorem gf_89_51 : gF g0 89 51 = some 121 := rfl
theorem gf_89_52 : gF g0 89 52 = some 122 := rfl
theorem gf_89_53 : gF g0 89 53 = some 123 := rfl
theorem gf_89_56 : gF g0 89 56 = some 124 := rfl
theorem gf_89_57 : gF g0 89 57 = some 125 := rfl
theorem gf_89_58 : gF g0 89 58 = some 126 := rfl
theorem gf_89_59 : gF g0 89 59 = some 127 := rfl
theorem gf_89_60 : gF g0 89 60 = some 128 := rfl
theorem gf_89_61 : gF g0 89 61 = some 129 := rfl
theorem gf_89_64 : gF g0 89 64 = some 130 := rfl
theorem gf_89_65 : gF g0 89 65 = some 131 := rfl
theorem gf_89_66 : gF g0 89 66 = some 132 := rfl
theorem gf_89_67 : gF g0 89 67 = some 133 := rfl
theorem gf_89_68 : gF g0 89 68 = some 134 := rfl
theorem ga_90 : zArr g0 90 0 1600 := ⟨by decide, rfl, rfl⟩
theorem ga_91 : zArr g0 91 3 12 := ⟨by decide, rfl, rfl⟩
theorem ga_92 : zArr g0 92 0 12 := ⟨by decide, rfl, rfl⟩
theorem ga_93 : zArr g0 93 0 12 := ⟨by decide, rfl, rfl⟩
theorem ga_94 : zArr g0 94 0 12 := ⟨by decide, rfl, rfl⟩
theorem ga_95 : zArr g0 95 0 12 := ⟨by decide, rfl, rfl⟩
theorem ga_96 : zArr g0 96 0 12 := ⟨by decide, rfl, rfl⟩
theorem ga_97 : zArr g0 97 0 144 := ⟨by decide, rfl, rfl⟩
theorem ga_98 : zArr g0 98 0 12 := ⟨by decide, rfl, rfl⟩
theorem ga_99 : zArr g0 99 0 12 := ⟨by decide, rfl, rfl⟩
theorem ga_100 : zArr g0 100 0 12 := ⟨by decide, rfl, rfl⟩
theorem ga_101 : zArr g0 101 0 12 := ⟨by decide, rfl, rfl⟩
theorem ga_102 : zArr g0 102 0 12 := ⟨by decide, rfl, rfl⟩
theorem ga_103 : zArr g0 103 0 144 := ⟨by decide, rfl, rfl⟩
theorem ga_104 : zArr g0 104 0 12 := ⟨by decide, rfl, rfl⟩
theorem ga_105 : zArr g0 105 0 12 := ⟨by decide, rfl, rfl⟩
theorem ga_106 : zArr g0 106 0 12 := ⟨by decide, rfl, rfl⟩
theorem ga_107 : zArr g0 107 0 12 := ⟨by decide, rfl, rfl⟩
theorem ga_108 : zArr g0 108 3 120 := ⟨by decide, rfl, rfl⟩
theorem ga_109 : zArr g0 109 0 576 := ⟨by decide, rfl, rfl⟩
theorem ga_110 : zArr g0 110 0 24 := ⟨by decide, rfl, rfl⟩
theorem ga_111 : zArr g0 111 0 24 := ⟨by decide, rfl, rfl⟩
theorem ga_112 : zArr g0 112 0 12 := ⟨by decide, rfl, rfl⟩
theorem ga_113 : zArr g0 113 0 12 := ⟨by decide, rfl, rfl⟩
theorem ga_114 : zArr g0 114 0 12 := ⟨by decide, rfl, rfl⟩
theorem ga_115 : zArr g0 115 0 12 := ⟨by decide, rfl, rfl⟩
theorem ga_116 : zArr g0 116 0 12 := ⟨by decide, rfl, rfl⟩
theorem ga_117 : zArr g0 117 0 12 := ⟨by decide, rfl, rfl⟩
theorem ga_118 : zArr g0 118 0 144 := ⟨by decide, rfl, rfl⟩
theorem ga_119 : zArr g0 119 0 12 := ⟨by decide, rfl, rfl⟩
theorem ga_120 : zArr g0 120 0 12 := ⟨by decide, rfl, rfl⟩
theorem ga_121 : zArr g0 121 0 12 := ⟨by decide, rfl, rfl⟩
theorem ga_122 : zArr g0 122 0 12 := ⟨by decide, rfl, rfl⟩
theorem ga_123 : zArr g0 123 0 12 := ⟨by decide, rfl, rfl⟩
theorem ga_124 : zArr g0 124 0 12 := ⟨by decide, rfl, rfl⟩
theorem ga_125 : zArr g0 125 0 40 := ⟨by decide, rfl, rfl⟩
theorem ga_126 : zArr g0 126 0 40 := ⟨by decide, rfl, rfl⟩
theorem ga_127 : zArr g0 127 0 40 := ⟨by decide, rfl, rfl⟩
theorem ga_128 : zArr g0 128 0 40 := ⟨by decide, rfl, rfl⟩
theorem ga_129 : zArr g0 129 0 40 := ⟨by decide, rfl, rfl⟩
theorem ga_130 : zArr g0 130 2 3 := ⟨by decide, rfl, rfl⟩
theorem ga_131 : zArr g0 131 0 6 := ⟨by decide, rfl, rfl⟩
theorem ga_132 : zArr g0 132 0 108 := ⟨by decide, rfl, rfl⟩
theorem ga_133 : zArr g0 133 0 432 := ⟨by decide, rfl, rfl⟩
theorem ga_134 : zArr g0 134 0 180 := ⟨by decide, rfl, rfl⟩
theorem goCity {k : Nat} (hk : isCity k) : zObj g0 k 0 := by
  rcases hk with rfl | rfl <;> exact ⟨by decide, rfl, by decide⟩
theorem gfCity_5 {k : Nat} (hk : isCity k) : gF g0 k 5 = some (k + 1) := by
  rcases hk with rfl | rfl <;> rfl
theorem gaCity_5 {k : Nat} (hk : isCity k) : zArr g0 (k + 1) 3 12 := by
  rcases hk with rfl | rfl <;> exact ⟨by decide, rfl, rfl⟩
theorem gfCity_6 {k : Nat} (hk : isCity k) : gF g0 k 6 = some (k + 2) := by
  rcases hk with rfl | rfl <;> rfl
theorem gaCity_6 {k : Nat} (hk : isCity k) : zArr g0 (k + 2) 0 12 := by
  rcases hk with rfl | rfl <;> exact ⟨by decide, rfl, rfl⟩
theorem gfCity_7 {k : Nat} (hk : isCity k) : gF g0 k 7 = some (k + 3) := by
  rcases hk with rfl | rfl <;> rfl
theorem gaCity_7 {k : Nat} (hk : isCity k) : zArr g0 (k + 3) 0 12 := by
  rcases hk with rfl | rfl <;> exact ⟨by decide, rfl, rfl⟩
theorem gfCity_8 {k : Nat} (hk : isCity k) : gF g0 k 8 = some (k + 4) := by
  rcases hk with rfl | rfl <;> rfl
theorem gaCity_8 {k : Nat} (hk : isCity k) : zArr g0 (k + 4) 0 12 := by
  rcases hk with rfl | rfl <;> exact ⟨by decide, rfl, rfl⟩
theorem gfCity_9 {k : Nat} (hk : isCity k) : gF g0 k 9 = some (k + 5) := by
  rcases hk with rfl | rfl <;> rfl
theorem gaCity_9 {k : Nat} (hk : isCity k) : zArr g0 (k + 5) 0 12 := by
  rcases hk with rfl | rfl <;> exact ⟨by decide, rfl, rfl⟩
theorem gfCity_10 {k : Nat} (hk : isCity k) : gF g0 k 10 = some (k + 6) := by
  rcases hk with rfl | rfl <;> rfl
theorem gaCity_10 {k : Nat} (hk : isCity k) : zArr g0 (k + 6) 0 12 := by
  rcases hk with rfl | rfl <;> exact ⟨by decide, rfl, rfl⟩
theorem gfCity_11 {k : Nat} (hk : isCity k) : gF g0 k 11 = some (k + 7) := by
  rcases hk with rfl | rfl <;> rfl
theorem gaCity_11 {k : Nat} (hk : isCity k) : zArr g0 (k + 7) 0 144 := by
  rcases hk with rfl | rfl <;> exact ⟨by decide, rfl, rfl⟩
theorem gfCity_12 {k : Nat} (hk : isCity k) : gF g0 k 12 = some (k + 8) := by
  rcases hk with rfl | rfl <;> rfl
theorem gaCity_12 {k : Nat} (hk : isCity k) : zArr g0 (k + 8) 0 12 := by
  rcases hk with rfl | rfl <;> exact ⟨by decide, rfl, rfl⟩
theorem gfCity_13 {k : Nat} (hk : isCity k) : gF g0 k 13 = some (k + 9) := by
  rcases hk with rfl | rfl <;> rfl
theorem gaCity_13 {k : Nat} (hk : isCity k) : zArr g0 (k + 9) 0 12 := by
  rcases hk with rfl | rfl <;> exact ⟨by decide, rfl, rfl⟩
theorem goEarnest {k : Nat} (hk : isEarnest k) : zObj g0 k 1 := by
  rcases hk with rfl | rfl | rfl | rfl <;> exact ⟨by decide, rfl, by decide⟩
theorem gfEarnest_1 {k : Nat} (hk : isEarnest k) : gF g0 k 1 = some (k + 1) := by
  rcases hk with rfl | rfl | rfl | rfl <;> rfl
theorem giEarnest_1 {k : Nat} (hk : isEarnest k) : isFate (k + 1) := by
  rcases hk with rfl | rfl | rfl | rfl <;> simp [isFate]
theorem gfEarnest_2 {k : Nat} (hk : isEarnest k) : gF g0 k 2 = some (k + 3) := by
  rcases hk with rfl | rfl | rfl | rfl <;> rfl
theorem giEarnest_2 {k : Nat} (hk : isEarnest k) : isThings (k + 3) := by
  rcases hk with rfl | rfl | rfl | rfl <;> simp [isThings]
theorem gfEarnest_3 {k : Nat} (hk : isEarnest k) : gF g0 k 3 = some (k + 9) := by
  rcases hk with rfl | rfl | rfl | rfl <;> rfl
theorem gaEarnest_3 {k : Nat} (hk : isEarnest k) : zArr g0 (k + 9) 0 144 := by
  rcases hk with rfl | rfl | rfl | rfl <;> exact ⟨by decide, rfl, rfl⟩
theorem gfEarnest_4 {k : Nat} (hk : isEarnest k) : gF g0 k 4 = some (k + 10) := by
  rcases hk with rfl | rfl | rfl | rfl <;> rfl
theorem gaEarnest_4 {k : Nat} (hk : isEarnest k) : zArr g0 (k + 10) 0 12 := by
  rcases hk with rfl | rfl | rfl | rfl <;> exact ⟨by decide, rfl, rfl⟩
theorem gfEarnest_5 {k : Nat} (hk : isEarnest k) : gF g0 k 5 = some (k + 11) := by
  rcases hk with rfl | rfl | rfl | rfl <;> rfl
theorem gaEarnest_5 {k : Nat} (hk : isEarnest k) : zArr g0 (k + 11) 0 12 := by
  rcases hk with rfl | rfl | rfl | rfl <;> exact ⟨by decide, rfl, rfl⟩
theorem goFate {k : Nat} (hk : isFate k) : zObj g0 k 4 := by
  rcases hk with rfl | rfl | rfl | rfl | rfl <;> exact ⟨by decide, rfl, by decide⟩
theorem gfFate_2 {k : Nat} (hk : isFate k) : gF g0 k 2 = some (k + 1) := by
  rcases hk with rfl | rfl | rfl | rfl | rfl <;> rfl
theorem gaFate_2 {k : Nat} (hk : isFate k) : zArr g0 (k + 1) 0 12 := by
  rcases hk with rfl | rfl | rfl | rfl | rfl <;> exact ⟨by decide, rfl, rfl⟩
theorem goThings {k : Nat} (hk : isThings k) : zObj g0 k 8 := by
  rcases hk with rfl | rfl | rfl | rfl <;> exact ⟨by decide, rfl, by decide⟩
theorem gfThings_1 {k : Nat} (hk : isThings k) : gF g0 k 1 = some (k + 1) := by
  rcases hk with rfl | rfl | rfl | rfl <;> rfl
theorem gaThings_1 {k : Nat} (hk : isThings k) : zArr g0 (k + 1) 0 12 := by
  rcases hk with rfl | rfl | rfl | rfl <;> exact ⟨by decide, rfl, rfl⟩
theorem gfThings_2 {k : Nat} (hk : isThings k) : gF g0 k 2 = some (k + 2) := by
  rcases hk with rfl | rfl | rfl | rfl <;> rfl
theorem gaThings_2 {k : Nat} (hk : isThings k) : zArr g0 (k + 2) 0 12 := by
  rcases hk with rfl | rfl | rfl | rfl <;> exact ⟨by decide, rfl, rfl⟩
theorem gfThings_3 {k : Nat} (hk : isThings k) : gF g0 k 3 = some (k + 3) := by
  rcases hk with rfl | rfl | rfl | rfl <;> rfl
theorem gaThings_3 {k : Nat} (hk : isThings k) : zArr g0 (k + 3) 0 12 := by
  rcases hk with rfl | rfl | rfl | rfl <;> exact ⟨by decide, rfl, rfl⟩
theorem gfThings_4 {k : Nat} (hk : isThings k) : gF g0 k 4 = some (k + 4) := by
  rcases hk with rfl | rfl | rfl | rfl <;> rfl
theorem gaThings_4 {k : Nat} (hk : isThings k) : zArr g0 (k + 4) 0 12 := by
  rcases hk with rfl | rfl | rfl | rfl <;> exact ⟨by decide, rfl, rfl⟩
theorem gfThings_5 {k : Nat} (hk : isThings k) : gF g0 k 5 = some (k + 5) := by
  rcases hk with rfl | rfl | rfl | rfl <;> rfl
theorem gaThings_5 {k : Nat} (hk : isThings k) : zArr g0 (k + 5) 0 12 := by
  rcases hk with rfl | rfl | rfl | rfl <;> exact ⟨by decide, rfl, rfl⟩
theorem isCity_4 : isCity 4 := by simp [isCity]
theorem isCity_14 : isCity 14 := by simp [isCity]
theorem isEarnest_34 : isEarnest 34 := by simp [isEarnest]
theorem isEarnest_47 : isEarnest 47 := by simp [isEarnest]
theorem isEarnest_59 : isEarnest 59 := by simp [isEarnest]
theorem isEarnest_71 : isEarnest 71 := by simp [isEarnest]
theorem isFate_28 : isFate 28 := by simp [isFate]
theorem isFate_35 : isFate 35 := by simp [isFate]
theorem isFate_48 : isFate 48 := by simp [isFate]
theorem isFate_60 : isFate 60 := by simp [isFate]
theorem isFate_72 : isFate 72 := by simp [isFate]
theorem isThings_37 : isThings 37 := by simp [isThings]
theorem isThings_50 : isThings 50 := by simp [isThings]
theorem isThings_62 : isThings 62 := by simp [isThings]
theorem isThings_74 : isThings 74 := by simp [isThings]
abbrev zPi (Q : Int → zS → Prop) : Option zV → zG → zS → Prop := fun r G h => ∃ x, r = some (vi x) ∧ G = g0 ∧ Q x h
abbrev zPl (Q : Int → zS → Prop) : Option zV → zG → zS → Prop := fun r G h => ∃ x, r = some (vl x) ∧ G = g0 ∧ Q x h
abbrev zPv (Q : zS → Prop) : Option zV → zG → zS → Prop := fun r G h => r = none ∧ G = g0 ∧ Q h
/-- at a place of a method that answers an int, a long, nothing -/
abbrev zWi (E : zE) (d : Nat) (M : zM) (pc : Nat) (ls : List zV) (h : zS) (Q : Int → zS → Prop) : Prop := zAt E d 0 0 M pc ls [] g0 h (zPi Q)
abbrev zWl (E : zE) (d : Nat) (M : zM) (pc : Nat) (ls : List zV) (h : zS) (Q : Int → zS → Prop) : Prop := zAt E d 0 0 M pc ls [] g0 h (zPl Q)
abbrev zWv (E : zE) (d : Nat) (M : zM) (pc : Nat) (ls : List zV) (h : zS) (Q : zS → Prop) : Prop := zAt E d 0 0 M pc ls [] g0 h (zPv Q)
/-- a call -/
abbrev zCi (E : zE) (d : Nat) (M : zM) (as : List zV) (h : zS) (Q : Int → zS → Prop) : Prop := zAt E d 0 0 M 0 (zls as M.2.2.2.1) [] g0 h (zPi Q)
abbrev zCl (E : zE) (d : Nat) (M : zM) (as : List zV) (h : zS) (Q : Int → zS → Prop) : Prop := zAt E d 0 0 M 0 (zls as M.2.2.2.1) [] g0 h (zPl Q)
abbrev zCv (E : zE) (d : Nat) (M : zM) (as : List zV) (h : zS) (Q : zS → Prop) : Prop := zAt E d 0 0 M 0 (zls as M.2.2.2.1) [] g0 h (zPv Q)
theorem a_getG {E : zE} {d kc ks : Nat} {M : zM} {pc : Nat} {ls st : List zV} {G : zG} {h : zS} {P : Option zV → zG → zS → Prop} {idx c j k q : Nat} (hd : decode M.2.2.1 pc = .ok (.getfield idx, 3)) (hl : zlk M.1 idx c j) (hz : zfk c j = 3) (hk : zObj G k c) (hq : gF G k j = some q) (w : zAt E d kc ks M (pc + 3) ls (vo q :: st) G h P) : zAt E d kc ks M pc ls (vo k :: st) G h P :=
  z_get w hd hk hl (by unfold zfld; rw [hz]; show va_rf _ = _; rw [hq]; rfl) (fun _ => trivial)
/-- two ways that leave one value -/
theorem z_mergeT {E : zE} {d kc ks : Nat} {M : zM} {pc : Nat} {ls st : List zV} {G : zG} {h : zS} {P : Option zV → zG → zS → Prop} {c : Prop} [Decidable c] {a b : Int} (hc : c) (w : zAt E d kc ks M pc ls (vi (if c then a else b) :: st) G h P) : zAt E d kc ks M pc ls (vi a :: st) G h P := by
  rw [if_pos hc] at w; exact w
theorem z_mergeF {E : zE} {d kc ks : Nat} {M : zM} {pc : Nat} {ls st : List zV} {G : zG} {h : zS} {P : Option zV → zG → zS → Prop} {c : Prop} [Decidable c] {a b : Int} (hc : ¬ c) (w : zAt E d kc ks M pc ls (vi (if c then a else b) :: st) G h P) : zAt E d kc ks M pc ls (vi b :: st) G h P := by
  rw [if_neg hc] at w; exact w
theorem z_mergeTL {E : zE} {d kc ks : Nat} {M : zM} {pc : Nat} {ls st : List zV} {G : zG} {h : zS} {P : Option zV → zG → zS → Prop} {c : Prop} [Decidable c] {a b : Int} (hc : c) (w : zAt E d kc ks M pc ls (vl (if c then a else b) :: st) G h P) : zAt E d kc ks M pc ls (vl a :: st) G h P := by
  rw [if_pos hc] at w; exact w
theorem z_mergeFL {E : zE} {d kc ks : Nat} {M : zM} {pc : Nat} {ls st : List zV} {G : zG} {h : zS} {P : Option zV → zG → zS → Prop} {c : Prop} [Decidable c] {a b : Int} (hc : ¬ c) (w : zAt E d kc ks M pc ls (vl (if c then a else b) :: st) G h P) : zAt E d kc ks M pc ls (vl b :: st) G h P := by
  rw [if_neg hc] at w; exact w
