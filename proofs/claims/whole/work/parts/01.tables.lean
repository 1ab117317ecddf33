-- ===== PART A: goes FIRST, ahead of the names: the tables' words, and 'selects' of the private methods out of them =====
/-- a private method of a class that the tables say can be made, by its rows of tables_1 -/
def lw_okq (q : MethodName × Nat) : Prop := (q.1.cls ≠ "java/lang/invoke/MethodHandle" ∧ q.1.cls ≠ "java/lang/invoke/VarHandle") ∧ Cond.instantiable q.1.cls q.2 ∈ tables_1 ∧ Cond.privateMethod q.1 ∈ tables_1 ∧ Cond.instanceMethod q.1 ∈ tables_1
theorem lw_p0 : lw_okq (⟨"ChalkChain", "put", "(I)V"⟩, 11) := ⟨⟨by decide +kernel, by decide +kernel⟩, List.mem_of_getElem? (i := 17) (by decide +kernel), List.mem_of_getElem? (i := 382) (by decide +kernel), List.mem_of_getElem? (i := 383) (by decide +kernel)⟩
theorem lw_p1 : lw_okq (⟨"ChalkChain$Lexer", "runOf", "(II)I"⟩, 7) := ⟨⟨by decide +kernel, by decide +kernel⟩, List.mem_of_getElem? (i := 31) (by decide +kernel), List.mem_of_getElem? (i := 416) (by decide +kernel), List.mem_of_getElem? (i := 417) (by decide +kernel)⟩
theorem lw_p2 : lw_okq (⟨"ChalkChain$Lexer", "packed", "(I)J"⟩, 7) := ⟨⟨by decide +kernel, by decide +kernel⟩, List.mem_of_getElem? (i := 31) (by decide +kernel), List.mem_of_getElem? (i := 420) (by decide +kernel), List.mem_of_getElem? (i := 421) (by decide +kernel)⟩
theorem lw_p3 : lw_okq (⟨"ChalkChain$Lexer", "valueOf", "(I)I"⟩, 7) := ⟨⟨by decide +kernel, by decide +kernel⟩, List.mem_of_getElem? (i := 31) (by decide +kernel), List.mem_of_getElem? (i := 429) (by decide +kernel), List.mem_of_getElem? (i := 430) (by decide +kernel)⟩
theorem lw_p4 : lw_okq (⟨"ChalkChain$Reader", "readLine", "()V"⟩, 5) := ⟨⟨by decide +kernel, by decide +kernel⟩, List.mem_of_getElem? (i := 25) (by decide +kernel), List.mem_of_getElem? (i := 433) (by decide +kernel), List.mem_of_getElem? (i := 434) (by decide +kernel)⟩
theorem lw_p5 : lw_okq (⟨"ChalkChain$Reader", "mayBegin", "(I)Z"⟩, 5) := ⟨⟨by decide +kernel, by decide +kernel⟩, List.mem_of_getElem? (i := 25) (by decide +kernel), List.mem_of_getElem? (i := 437) (by decide +kernel), List.mem_of_getElem? (i := 438) (by decide +kernel)⟩
theorem lw_p6 : lw_okq (⟨"ChalkChain$Reader", "refuse", "(I)V"⟩, 5) := ⟨⟨by decide +kernel, by decide +kernel⟩, List.mem_of_getElem? (i := 25) (by decide +kernel), List.mem_of_getElem? (i := 441) (by decide +kernel), List.mem_of_getElem? (i := 442) (by decide +kernel)⟩
theorem lw_p7 : lw_okq (⟨"ChalkChain$Reader", "readOne", "()V"⟩, 5) := ⟨⟨by decide +kernel, by decide +kernel⟩, List.mem_of_getElem? (i := 25) (by decide +kernel), List.mem_of_getElem? (i := 446) (by decide +kernel), List.mem_of_getElem? (i := 447) (by decide +kernel)⟩
theorem lw_p8 : lw_okq (⟨"ChalkChain$Reader", "pass", "(I)V"⟩, 5) := ⟨⟨by decide +kernel, by decide +kernel⟩, List.mem_of_getElem? (i := 25) (by decide +kernel), List.mem_of_getElem? (i := 454) (by decide +kernel), List.mem_of_getElem? (i := 455) (by decide +kernel)⟩
theorem lw_p9 : lw_okq (⟨"ChalkChain$Reader", "readNumber", "(II)I"⟩, 5) := ⟨⟨by decide +kernel, by decide +kernel⟩, List.mem_of_getElem? (i := 25) (by decide +kernel), List.mem_of_getElem? (i := 458) (by decide +kernel), List.mem_of_getElem? (i := 459) (by decide +kernel)⟩
theorem lw_p10 : lw_okq (⟨"ChalkChain$Reader", "readGives", "()V"⟩, 5) := ⟨⟨by decide +kernel, by decide +kernel⟩, List.mem_of_getElem? (i := 25) (by decide +kernel), List.mem_of_getElem? (i := 462) (by decide +kernel), List.mem_of_getElem? (i := 463) (by decide +kernel)⟩
theorem lw_p11 : lw_okq (⟨"ChalkChain$Reader", "readKnown", "()I"⟩, 5) := ⟨⟨by decide +kernel, by decide +kernel⟩, List.mem_of_getElem? (i := 25) (by decide +kernel), List.mem_of_getElem? (i := 466) (by decide +kernel), List.mem_of_getElem? (i := 467) (by decide +kernel)⟩
theorem lw_p12 : lw_okq (⟨"ChalkChain$City", "introduce", "(II)V"⟩, 17) := ⟨⟨by decide +kernel, by decide +kernel⟩, List.mem_of_getElem? (i := 82) (by decide +kernel), List.mem_of_getElem? (i := 483) (by decide +kernel), List.mem_of_getElem? (i := 484) (by decide +kernel)⟩
theorem lw_p13 : lw_okq (⟨"ChalkChain$Falls", "reckonOne", "(LChalkChain$City;I)V"⟩, 4) := ⟨⟨by decide +kernel, by decide +kernel⟩, List.mem_of_getElem? (i := 180) (by decide +kernel), List.mem_of_getElem? (i := 500) (by decide +kernel), List.mem_of_getElem? (i := 501) (by decide +kernel)⟩
theorem lw_p14 : lw_okq (⟨"ChalkChain$Fate", "remove", "(LChalkChain$City;II)V"⟩, 3) := ⟨⟨by decide +kernel, by decide +kernel⟩, List.mem_of_getElem? (i := 186) (by decide +kernel), List.mem_of_getElem? (i := 523) (by decide +kernel), List.mem_of_getElem? (i := 524) (by decide +kernel)⟩
theorem lw_p15 : lw_okq (⟨"ChalkChain$Fate", "sawBy", "(LChalkChain$City;II)Z"⟩, 3) := ⟨⟨by decide +kernel, by decide +kernel⟩, List.mem_of_getElem? (i := 186) (by decide +kernel), List.mem_of_getElem? (i := 540) (by decide +kernel), List.mem_of_getElem? (i := 541) (by decide +kernel)⟩
def lw_privs_1 : List (MethodName × Nat) := [(⟨"ChalkChain", "put", "(I)V"⟩, 11), (⟨"ChalkChain$Lexer", "runOf", "(II)I"⟩, 7), (⟨"ChalkChain$Lexer", "packed", "(I)J"⟩, 7), (⟨"ChalkChain$Lexer", "valueOf", "(I)I"⟩, 7), (⟨"ChalkChain$Reader", "readLine", "()V"⟩, 5), (⟨"ChalkChain$Reader", "mayBegin", "(I)Z"⟩, 5), (⟨"ChalkChain$Reader", "refuse", "(I)V"⟩, 5), (⟨"ChalkChain$Reader", "readOne", "()V"⟩, 5), (⟨"ChalkChain$Reader", "pass", "(I)V"⟩, 5), (⟨"ChalkChain$Reader", "readNumber", "(II)I"⟩, 5), (⟨"ChalkChain$Reader", "readGives", "()V"⟩, 5), (⟨"ChalkChain$Reader", "readKnown", "()I"⟩, 5), (⟨"ChalkChain$City", "introduce", "(II)V"⟩, 17), (⟨"ChalkChain$Falls", "reckonOne", "(LChalkChain$City;I)V"⟩, 4), (⟨"ChalkChain$Fate", "remove", "(LChalkChain$City;II)V"⟩, 3), (⟨"ChalkChain$Fate", "sawBy", "(LChalkChain$City;II)Z"⟩, 3)]
theorem lw_r1 : ∀ q ∈ lw_privs_1, lw_okq q := List.forall_mem_cons.mpr ⟨lw_p0, List.forall_mem_cons.mpr ⟨lw_p1, List.forall_mem_cons.mpr ⟨lw_p2, List.forall_mem_cons.mpr ⟨lw_p3, List.forall_mem_cons.mpr ⟨lw_p4, List.forall_mem_cons.mpr ⟨lw_p5, List.forall_mem_cons.mpr ⟨lw_p6, List.forall_mem_cons.mpr ⟨lw_p7, List.forall_mem_cons.mpr ⟨lw_p8, List.forall_mem_cons.mpr ⟨lw_p9, List.forall_mem_cons.mpr ⟨lw_p10, List.forall_mem_cons.mpr ⟨lw_p11, List.forall_mem_cons.mpr ⟨lw_p12, List.forall_mem_cons.mpr ⟨lw_p13, List.forall_mem_cons.mpr ⟨lw_p14, List.forall_mem_cons.mpr ⟨lw_p15, fun _ h => absurd h List.not_mem_nil⟩⟩⟩⟩⟩⟩⟩⟩⟩⟩⟩⟩⟩⟩⟩⟩
theorem lw_p16 : lw_okq (⟨"ChalkChain$Router", "lay", "(LChalkChain$City;IJ)J"⟩, 5) := ⟨⟨by decide +kernel, by decide +kernel⟩, List.mem_of_getElem? (i := 223) (by decide +kernel), List.mem_of_getElem? (i := 594) (by decide +kernel), List.mem_of_getElem? (i := 595) (by decide +kernel)⟩
theorem lw_p17 : lw_okq (⟨"ChalkChain$Router", "fillBest", "(LChalkChain$City;IJ)V"⟩, 5) := ⟨⟨by decide +kernel, by decide +kernel⟩, List.mem_of_getElem? (i := 223) (by decide +kernel), List.mem_of_getElem? (i := 604) (by decide +kernel), List.mem_of_getElem? (i := 605) (by decide +kernel)⟩
theorem lw_p18 : lw_okq (⟨"ChalkChain$Router", "leastOnward", "(LChalkChain$City;II)J"⟩, 5) := ⟨⟨by decide +kernel, by decide +kernel⟩, List.mem_of_getElem? (i := 223) (by decide +kernel), List.mem_of_getElem? (i := 612) (by decide +kernel), List.mem_of_getElem? (i := 613) (by decide +kernel)⟩
theorem lw_p19 : lw_okq (⟨"ChalkChain$Router", "onward", "(III)J"⟩, 5) := ⟨⟨by decide +kernel, by decide +kernel⟩, List.mem_of_getElem? (i := 223) (by decide +kernel), List.mem_of_getElem? (i := 616) (by decide +kernel), List.mem_of_getElem? (i := 617) (by decide +kernel)⟩
theorem lw_p20 : lw_okq (⟨"ChalkChain$Router", "trace", "(LChalkChain$City;I)V"⟩, 5) := ⟨⟨by decide +kernel, by decide +kernel⟩, List.mem_of_getElem? (i := 223) (by decide +kernel), List.mem_of_getElem? (i := 624) (by decide +kernel), List.mem_of_getElem? (i := 625) (by decide +kernel)⟩
theorem lw_p21 : lw_okq (⟨"ChalkChain$Router", "firstBest", "(LChalkChain$City;II)I"⟩, 5) := ⟨⟨by decide +kernel, by decide +kernel⟩, List.mem_of_getElem? (i := 223) (by decide +kernel), List.mem_of_getElem? (i := 628) (by decide +kernel), List.mem_of_getElem? (i := 629) (by decide +kernel)⟩
theorem lw_p22 : lw_okq (⟨"ChalkChain", "leastBar", "(IZ)I"⟩, 11) := ⟨⟨by decide +kernel, by decide +kernel⟩, List.mem_of_getElem? (i := 17) (by decide +kernel), List.mem_of_getElem? (i := 674) (by decide +kernel), List.mem_of_getElem? (i := 675) (by decide +kernel)⟩
theorem lw_p23 : lw_okq (⟨"ChalkChain$Earnest", "measure", "(LChalkChain$City;)V"⟩, 6) := ⟨⟨by decide +kernel, by decide +kernel⟩, List.mem_of_getElem? (i := 247) (by decide +kernel), List.mem_of_getElem? (i := 724) (by decide +kernel), List.mem_of_getElem? (i := 725) (by decide +kernel)⟩
theorem lw_p24 : lw_okq (⟨"ChalkChain$Earnest", "leastBy", "(LChalkChain$City;I)I"⟩, 6) := ⟨⟨by decide +kernel, by decide +kernel⟩, List.mem_of_getElem? (i := 247) (by decide +kernel), List.mem_of_getElem? (i := 730) (by decide +kernel), List.mem_of_getElem? (i := 731) (by decide +kernel)⟩
theorem lw_p25 : lw_okq (⟨"ChalkChain$Earnest", "by", "(II)I"⟩, 6) := ⟨⟨by decide +kernel, by decide +kernel⟩, List.mem_of_getElem? (i := 247) (by decide +kernel), List.mem_of_getElem? (i := 734) (by decide +kernel), List.mem_of_getElem? (i := 735) (by decide +kernel)⟩
theorem lw_p26 : lw_okq (⟨"ChalkChain$Earnest", "choose", "(LChalkChain$City;I)V"⟩, 6) := ⟨⟨by decide +kernel, by decide +kernel⟩, List.mem_of_getElem? (i := 247) (by decide +kernel), List.mem_of_getElem? (i := 741) (by decide +kernel), List.mem_of_getElem? (i := 742) (by decide +kernel)⟩
theorem lw_p27 : lw_okq (⟨"ChalkChain$Earnest", "handOn", "(LChalkChain$City;)V"⟩, 6) := ⟨⟨by decide +kernel, by decide +kernel⟩, List.mem_of_getElem? (i := 247) (by decide +kernel), List.mem_of_getElem? (i := 753) (by decide +kernel), List.mem_of_getElem? (i := 754) (by decide +kernel)⟩
theorem lw_p28 : lw_okq (⟨"ChalkChain$Earnest", "loseThings", "()V"⟩, 6) := ⟨⟨by decide +kernel, by decide +kernel⟩, List.mem_of_getElem? (i := 247) (by decide +kernel), List.mem_of_getElem? (i := 759) (by decide +kernel), List.mem_of_getElem? (i := 760) (by decide +kernel)⟩
theorem lw_p29 : lw_okq (⟨"ChalkChain$Earnest", "chooseAnew", "(LChalkChain$City;)V"⟩, 6) := ⟨⟨by decide +kernel, by decide +kernel⟩, List.mem_of_getElem? (i := 247) (by decide +kernel), List.mem_of_getElem? (i := 764) (by decide +kernel), List.mem_of_getElem? (i := 765) (by decide +kernel)⟩
theorem lw_p30 : lw_okq (⟨"ChalkChain$Entries", "counts", "(II)Z"⟩, 7) := ⟨⟨by decide +kernel, by decide +kernel⟩, List.mem_of_getElem? (i := 314) (by decide +kernel), List.mem_of_getElem? (i := 842) (by decide +kernel), List.mem_of_getElem? (i := 843) (by decide +kernel)⟩
theorem lw_p31 : lw_okq (⟨"ChalkChainModel", "four", "(I)V"⟩, 69) := ⟨⟨by decide +kernel, by decide +kernel⟩, List.mem_of_getElem? (i := 887) (by decide +kernel), List.mem_of_getElem? (i := 1106) (by decide +kernel), List.mem_of_getElem? (i := 1107) (by decide +kernel)⟩
def lw_privs_2 : List (MethodName × Nat) := [(⟨"ChalkChain$Router", "lay", "(LChalkChain$City;IJ)J"⟩, 5), (⟨"ChalkChain$Router", "fillBest", "(LChalkChain$City;IJ)V"⟩, 5), (⟨"ChalkChain$Router", "leastOnward", "(LChalkChain$City;II)J"⟩, 5), (⟨"ChalkChain$Router", "onward", "(III)J"⟩, 5), (⟨"ChalkChain$Router", "trace", "(LChalkChain$City;I)V"⟩, 5), (⟨"ChalkChain$Router", "firstBest", "(LChalkChain$City;II)I"⟩, 5), (⟨"ChalkChain", "leastBar", "(IZ)I"⟩, 11), (⟨"ChalkChain$Earnest", "measure", "(LChalkChain$City;)V"⟩, 6), (⟨"ChalkChain$Earnest", "leastBy", "(LChalkChain$City;I)I"⟩, 6), (⟨"ChalkChain$Earnest", "by", "(II)I"⟩, 6), (⟨"ChalkChain$Earnest", "choose", "(LChalkChain$City;I)V"⟩, 6), (⟨"ChalkChain$Earnest", "handOn", "(LChalkChain$City;)V"⟩, 6), (⟨"ChalkChain$Earnest", "loseThings", "()V"⟩, 6), (⟨"ChalkChain$Earnest", "chooseAnew", "(LChalkChain$City;)V"⟩, 6), (⟨"ChalkChain$Entries", "counts", "(II)Z"⟩, 7), (⟨"ChalkChainModel", "four", "(I)V"⟩, 69)]
theorem lw_r2 : ∀ q ∈ lw_privs_2, lw_okq q := List.forall_mem_cons.mpr ⟨lw_p16, List.forall_mem_cons.mpr ⟨lw_p17, List.forall_mem_cons.mpr ⟨lw_p18, List.forall_mem_cons.mpr ⟨lw_p19, List.forall_mem_cons.mpr ⟨lw_p20, List.forall_mem_cons.mpr ⟨lw_p21, List.forall_mem_cons.mpr ⟨lw_p22, List.forall_mem_cons.mpr ⟨lw_p23, List.forall_mem_cons.mpr ⟨lw_p24, List.forall_mem_cons.mpr ⟨lw_p25, List.forall_mem_cons.mpr ⟨lw_p26, List.forall_mem_cons.mpr ⟨lw_p27, List.forall_mem_cons.mpr ⟨lw_p28, List.forall_mem_cons.mpr ⟨lw_p29, List.forall_mem_cons.mpr ⟨lw_p30, List.forall_mem_cons.mpr ⟨lw_p31, fun _ h => absurd h List.not_mem_nil⟩⟩⟩⟩⟩⟩⟩⟩⟩⟩⟩⟩⟩⟩⟩⟩
theorem lw_p32 : lw_okq (⟨"ChalkChainModel", "readAll", "()V"⟩, 69) := ⟨⟨by decide +kernel, by decide +kernel⟩, List.mem_of_getElem? (i := 887) (by decide +kernel), List.mem_of_getElem? (i := 1118) (by decide +kernel), List.mem_of_getElem? (i := 1119) (by decide +kernel)⟩
theorem lw_p33 : lw_okq (⟨"ChalkChainModel", "token", "()V"⟩, 69) := ⟨⟨by decide +kernel, by decide +kernel⟩, List.mem_of_getElem? (i := 887) (by decide +kernel), List.mem_of_getElem? (i := 1122) (by decide +kernel), List.mem_of_getElem? (i := 1123) (by decide +kernel)⟩
theorem lw_p34 : lw_okq (⟨"ChalkChainModel", "here", "(I)I"⟩, 69) := ⟨⟨by decide +kernel, by decide +kernel⟩, List.mem_of_getElem? (i := 887) (by decide +kernel), List.mem_of_getElem? (i := 1126) (by decide +kernel), List.mem_of_getElem? (i := 1127) (by decide +kernel)⟩
theorem lw_p35 : lw_okq (⟨"ChalkChainModel", "readLine", "()V"⟩, 69) := ⟨⟨by decide +kernel, by decide +kernel⟩, List.mem_of_getElem? (i := 887) (by decide +kernel), List.mem_of_getElem? (i := 1136) (by decide +kernel), List.mem_of_getElem? (i := 1137) (by decide +kernel)⟩
theorem lw_p36 : lw_okq (⟨"ChalkChainModel", "isWord", "(J)Z"⟩, 69) := ⟨⟨by decide +kernel, by decide +kernel⟩, List.mem_of_getElem? (i := 887) (by decide +kernel), List.mem_of_getElem? (i := 1141) (by decide +kernel), List.mem_of_getElem? (i := 1142) (by decide +kernel)⟩
theorem lw_p37 : lw_okq (⟨"ChalkChainModel", "readOne", "()V"⟩, 69) := ⟨⟨by decide +kernel, by decide +kernel⟩, List.mem_of_getElem? (i := 887) (by decide +kernel), List.mem_of_getElem? (i := 1145) (by decide +kernel), List.mem_of_getElem? (i := 1146) (by decide +kernel)⟩
theorem lw_p38 : lw_okq (⟨"ChalkChainModel", "isName", "()Z"⟩, 69) := ⟨⟨by decide +kernel, by decide +kernel⟩, List.mem_of_getElem? (i := 887) (by decide +kernel), List.mem_of_getElem? (i := 1149) (by decide +kernel), List.mem_of_getElem? (i := 1150) (by decide +kernel)⟩
theorem lw_p39 : lw_okq (⟨"ChalkChainModel", "wrong", "(I)V"⟩, 69) := ⟨⟨by decide +kernel, by decide +kernel⟩, List.mem_of_getElem? (i := 887) (by decide +kernel), List.mem_of_getElem? (i := 1165) (by decide +kernel), List.mem_of_getElem? (i := 1166) (by decide +kernel)⟩
theorem lw_p40 : lw_okq (⟨"ChalkChainModel", "find", "()I"⟩, 69) := ⟨⟨by decide +kernel, by decide +kernel⟩, List.mem_of_getElem? (i := 887) (by decide +kernel), List.mem_of_getElem? (i := 1169) (by decide +kernel), List.mem_of_getElem? (i := 1170) (by decide +kernel)⟩
theorem lw_p41 : lw_okq (⟨"ChalkChainModel", "told", "(JII)I"⟩, 69) := ⟨⟨by decide +kernel, by decide +kernel⟩, List.mem_of_getElem? (i := 887) (by decide +kernel), List.mem_of_getElem? (i := 1173) (by decide +kernel), List.mem_of_getElem? (i := 1174) (by decide +kernel)⟩
theorem lw_p42 : lw_okq (⟨"ChalkChainModel", "want", "(J)V"⟩, 69) := ⟨⟨by decide +kernel, by decide +kernel⟩, List.mem_of_getElem? (i := 887) (by decide +kernel), List.mem_of_getElem? (i := 1177) (by decide +kernel), List.mem_of_getElem? (i := 1178) (by decide +kernel)⟩
theorem lw_p43 : lw_okq (⟨"ChalkChainModel", "toldNumber", "(II)I"⟩, 69) := ⟨⟨by decide +kernel, by decide +kernel⟩, List.mem_of_getElem? (i := 887) (by decide +kernel), List.mem_of_getElem? (i := 1181) (by decide +kernel), List.mem_of_getElem? (i := 1182) (by decide +kernel)⟩
theorem lw_p44 : lw_okq (⟨"ChalkChainModel", "readGives", "()V"⟩, 69) := ⟨⟨by decide +kernel, by decide +kernel⟩, List.mem_of_getElem? (i := 887) (by decide +kernel), List.mem_of_getElem? (i := 1185) (by decide +kernel), List.mem_of_getElem? (i := 1186) (by decide +kernel)⟩
theorem lw_p45 : lw_okq (⟨"ChalkChainModel", "old", "()I"⟩, 69) := ⟨⟨by decide +kernel, by decide +kernel⟩, List.mem_of_getElem? (i := 887) (by decide +kernel), List.mem_of_getElem? (i := 1189) (by decide +kernel), List.mem_of_getElem? (i := 1190) (by decide +kernel)⟩
theorem lw_p46 : lw_okq (⟨"ChalkChainModel", "readOld", "()I"⟩, 69) := ⟨⟨by decide +kernel, by decide +kernel⟩, List.mem_of_getElem? (i := 887) (by decide +kernel), List.mem_of_getElem? (i := 1193) (by decide +kernel), List.mem_of_getElem? (i := 1194) (by decide +kernel)⟩
theorem lw_p47 : lw_okq (⟨"ChalkChainModel", "readLuck", "()V"⟩, 69) := ⟨⟨by decide +kernel, by decide +kernel⟩, List.mem_of_getElem? (i := 887) (by decide +kernel), List.mem_of_getElem? (i := 1197) (by decide +kernel), List.mem_of_getElem? (i := 1198) (by decide +kernel)⟩
def lw_privs_3 : List (MethodName × Nat) := [(⟨"ChalkChainModel", "readAll", "()V"⟩, 69), (⟨"ChalkChainModel", "token", "()V"⟩, 69), (⟨"ChalkChainModel", "here", "(I)I"⟩, 69), (⟨"ChalkChainModel", "readLine", "()V"⟩, 69), (⟨"ChalkChainModel", "isWord", "(J)Z"⟩, 69), (⟨"ChalkChainModel", "readOne", "()V"⟩, 69), (⟨"ChalkChainModel", "isName", "()Z"⟩, 69), (⟨"ChalkChainModel", "wrong", "(I)V"⟩, 69), (⟨"ChalkChainModel", "find", "()I"⟩, 69), (⟨"ChalkChainModel", "told", "(JII)I"⟩, 69), (⟨"ChalkChainModel", "want", "(J)V"⟩, 69), (⟨"ChalkChainModel", "toldNumber", "(II)I"⟩, 69), (⟨"ChalkChainModel", "readGives", "()V"⟩, 69), (⟨"ChalkChainModel", "old", "()I"⟩, 69), (⟨"ChalkChainModel", "readOld", "()I"⟩, 69), (⟨"ChalkChainModel", "readLuck", "()V"⟩, 69)]
theorem lw_r3 : ∀ q ∈ lw_privs_3, lw_okq q := List.forall_mem_cons.mpr ⟨lw_p32, List.forall_mem_cons.mpr ⟨lw_p33, List.forall_mem_cons.mpr ⟨lw_p34, List.forall_mem_cons.mpr ⟨lw_p35, List.forall_mem_cons.mpr ⟨lw_p36, List.forall_mem_cons.mpr ⟨lw_p37, List.forall_mem_cons.mpr ⟨lw_p38, List.forall_mem_cons.mpr ⟨lw_p39, List.forall_mem_cons.mpr ⟨lw_p40, List.forall_mem_cons.mpr ⟨lw_p41, List.forall_mem_cons.mpr ⟨lw_p42, List.forall_mem_cons.mpr ⟨lw_p43, List.forall_mem_cons.mpr ⟨lw_p44, List.forall_mem_cons.mpr ⟨lw_p45, List.forall_mem_cons.mpr ⟨lw_p46, List.forall_mem_cons.mpr ⟨lw_p47, fun _ h => absurd h List.not_mem_nil⟩⟩⟩⟩⟩⟩⟩⟩⟩⟩⟩⟩⟩⟩⟩⟩
theorem lw_p48 : lw_okq (⟨"ChalkChainModel", "learn", "(II)V"⟩, 69) := ⟨⟨by decide +kernel, by decide +kernel⟩, List.mem_of_getElem? (i := 887) (by decide +kernel), List.mem_of_getElem? (i := 1201) (by decide +kernel), List.mem_of_getElem? (i := 1202) (by decide +kernel)⟩
theorem lw_p49 : lw_okq (⟨"ChalkChainModel", "fresh", "()V"⟩, 69) := ⟨⟨by decide +kernel, by decide +kernel⟩, List.mem_of_getElem? (i := 887) (by decide +kernel), List.mem_of_getElem? (i := 1205) (by decide +kernel), List.mem_of_getElem? (i := 1206) (by decide +kernel)⟩
theorem lw_p50 : lw_okq (⟨"ChalkChainModel", "isOne", "(I)Z"⟩, 69) := ⟨⟨by decide +kernel, by decide +kernel⟩, List.mem_of_getElem? (i := 887) (by decide +kernel), List.mem_of_getElem? (i := 1217) (by decide +kernel), List.mem_of_getElem? (i := 1218) (by decide +kernel)⟩
theorem lw_p51 : lw_okq (⟨"ChalkChainModel", "layWay", "(I)I"⟩, 69) := ⟨⟨by decide +kernel, by decide +kernel⟩, List.mem_of_getElem? (i := 887) (by decide +kernel), List.mem_of_getElem? (i := 1225) (by decide +kernel), List.mem_of_getElem? (i := 1226) (by decide +kernel)⟩
theorem lw_p52 : lw_okq (⟨"ChalkChainModel", "layWays", "(I)V"⟩, 69) := ⟨⟨by decide +kernel, by decide +kernel⟩, List.mem_of_getElem? (i := 887) (by decide +kernel), List.mem_of_getElem? (i := 1229) (by decide +kernel), List.mem_of_getElem? (i := 1230) (by decide +kernel)⟩
theorem lw_p53 : lw_okq (⟨"ChalkChainModel", "stepOf", "(III)I"⟩, 69) := ⟨⟨by decide +kernel, by decide +kernel⟩, List.mem_of_getElem? (i := 887) (by decide +kernel), List.mem_of_getElem? (i := 1234) (by decide +kernel), List.mem_of_getElem? (i := 1235) (by decide +kernel)⟩
theorem lw_p54 : lw_okq (⟨"ChalkChainModel", "isThere", "(I)Z"⟩, 69) := ⟨⟨by decide +kernel, by decide +kernel⟩, List.mem_of_getElem? (i := 887) (by decide +kernel), List.mem_of_getElem? (i := 1238) (by decide +kernel), List.mem_of_getElem? (i := 1239) (by decide +kernel)⟩
theorem lw_p55 : lw_okq (⟨"ChalkChainModel", "canMeet", "(II)Z"⟩, 69) := ⟨⟨by decide +kernel, by decide +kernel⟩, List.mem_of_getElem? (i := 887) (by decide +kernel), List.mem_of_getElem? (i := 1242) (by decide +kernel), List.mem_of_getElem? (i := 1243) (by decide +kernel)⟩
theorem lw_p56 : lw_okq (⟨"ChalkChainModel", "canMeetBy", "(III)Z"⟩, 69) := ⟨⟨by decide +kernel, by decide +kernel⟩, List.mem_of_getElem? (i := 887) (by decide +kernel), List.mem_of_getElem? (i := 1246) (by decide +kernel), List.mem_of_getElem? (i := 1247) (by decide +kernel)⟩
theorem lw_p57 : lw_okq (⟨"ChalkChainModel", "isPerson", "(I)Z"⟩, 69) := ⟨⟨by decide +kernel, by decide +kernel⟩, List.mem_of_getElem? (i := 887) (by decide +kernel), List.mem_of_getElem? (i := 1250) (by decide +kernel), List.mem_of_getElem? (i := 1251) (by decide +kernel)⟩
theorem lw_p58 : lw_okq (⟨"ChalkChainModel", "better", "(III)V"⟩, 69) := ⟨⟨by decide +kernel, by decide +kernel⟩, List.mem_of_getElem? (i := 887) (by decide +kernel), List.mem_of_getElem? (i := 1254) (by decide +kernel), List.mem_of_getElem? (i := 1255) (by decide +kernel)⟩
theorem lw_p59 : lw_okq (⟨"ChalkChainModel", "leads", "(III)Z"⟩, 69) := ⟨⟨by decide +kernel, by decide +kernel⟩, List.mem_of_getElem? (i := 887) (by decide +kernel), List.mem_of_getElem? (i := 1258) (by decide +kernel), List.mem_of_getElem? (i := 1259) (by decide +kernel)⟩
theorem lw_p60 : lw_okq (⟨"ChalkChainModel", "layProducts", "()V"⟩, 69) := ⟨⟨by decide +kernel, by decide +kernel⟩, List.mem_of_getElem? (i := 887) (by decide +kernel), List.mem_of_getElem? (i := 1275) (by decide +kernel), List.mem_of_getElem? (i := 1276) (by decide +kernel)⟩
theorem lw_p61 : lw_okq (⟨"ChalkChainModel", "laySafe", "(I)V"⟩, 69) := ⟨⟨by decide +kernel, by decide +kernel⟩, List.mem_of_getElem? (i := 887) (by decide +kernel), List.mem_of_getElem? (i := 1283) (by decide +kernel), List.mem_of_getElem? (i := 1284) (by decide +kernel)⟩
theorem lw_p62 : lw_okq (⟨"ChalkChainModel", "layFlow", "()V"⟩, 69) := ⟨⟨by decide +kernel, by decide +kernel⟩, List.mem_of_getElem? (i := 887) (by decide +kernel), List.mem_of_getElem? (i := 1294) (by decide +kernel), List.mem_of_getElem? (i := 1295) (by decide +kernel)⟩
theorem lw_p63 : lw_okq (⟨"ChalkChainModel", "oneMore", "()Z"⟩, 69) := ⟨⟨by decide +kernel, by decide +kernel⟩, List.mem_of_getElem? (i := 887) (by decide +kernel), List.mem_of_getElem? (i := 1298) (by decide +kernel), List.mem_of_getElem? (i := 1299) (by decide +kernel)⟩
def lw_privs_4 : List (MethodName × Nat) := [(⟨"ChalkChainModel", "learn", "(II)V"⟩, 69), (⟨"ChalkChainModel", "fresh", "()V"⟩, 69), (⟨"ChalkChainModel", "isOne", "(I)Z"⟩, 69), (⟨"ChalkChainModel", "layWay", "(I)I"⟩, 69), (⟨"ChalkChainModel", "layWays", "(I)V"⟩, 69), (⟨"ChalkChainModel", "stepOf", "(III)I"⟩, 69), (⟨"ChalkChainModel", "isThere", "(I)Z"⟩, 69), (⟨"ChalkChainModel", "canMeet", "(II)Z"⟩, 69), (⟨"ChalkChainModel", "canMeetBy", "(III)Z"⟩, 69), (⟨"ChalkChainModel", "isPerson", "(I)Z"⟩, 69), (⟨"ChalkChainModel", "better", "(III)V"⟩, 69), (⟨"ChalkChainModel", "leads", "(III)Z"⟩, 69), (⟨"ChalkChainModel", "layProducts", "()V"⟩, 69), (⟨"ChalkChainModel", "laySafe", "(I)V"⟩, 69), (⟨"ChalkChainModel", "layFlow", "()V"⟩, 69), (⟨"ChalkChainModel", "oneMore", "()Z"⟩, 69)]
theorem lw_r4 : ∀ q ∈ lw_privs_4, lw_okq q := List.forall_mem_cons.mpr ⟨lw_p48, List.forall_mem_cons.mpr ⟨lw_p49, List.forall_mem_cons.mpr ⟨lw_p50, List.forall_mem_cons.mpr ⟨lw_p51, List.forall_mem_cons.mpr ⟨lw_p52, List.forall_mem_cons.mpr ⟨lw_p53, List.forall_mem_cons.mpr ⟨lw_p54, List.forall_mem_cons.mpr ⟨lw_p55, List.forall_mem_cons.mpr ⟨lw_p56, List.forall_mem_cons.mpr ⟨lw_p57, List.forall_mem_cons.mpr ⟨lw_p58, List.forall_mem_cons.mpr ⟨lw_p59, List.forall_mem_cons.mpr ⟨lw_p60, List.forall_mem_cons.mpr ⟨lw_p61, List.forall_mem_cons.mpr ⟨lw_p62, List.forall_mem_cons.mpr ⟨lw_p63, fun _ h => absurd h List.not_mem_nil⟩⟩⟩⟩⟩⟩⟩⟩⟩⟩⟩⟩⟩⟩⟩⟩
theorem lw_p64 : lw_okq (⟨"ChalkChainModel", "hasWay", "(I)Z"⟩, 69) := ⟨⟨by decide +kernel, by decide +kernel⟩, List.mem_of_getElem? (i := 887) (by decide +kernel), List.mem_of_getElem? (i := 1306) (by decide +kernel), List.mem_of_getElem? (i := 1307) (by decide +kernel)⟩
theorem lw_p65 : lw_okq (⟨"ChalkChainModel", "canFall", "(I)Z"⟩, 69) := ⟨⟨by decide +kernel, by decide +kernel⟩, List.mem_of_getElem? (i := 887) (by decide +kernel), List.mem_of_getElem? (i := 1317) (by decide +kernel), List.mem_of_getElem? (i := 1318) (by decide +kernel)⟩
theorem lw_p66 : lw_okq (⟨"ChalkChainModel", "layFall", "(I)V"⟩, 69) := ⟨⟨by decide +kernel, by decide +kernel⟩, List.mem_of_getElem? (i := 887) (by decide +kernel), List.mem_of_getElem? (i := 1321) (by decide +kernel), List.mem_of_getElem? (i := 1322) (by decide +kernel)⟩
theorem lw_p67 : lw_okq (⟨"ChalkChainModel", "tellOn", "(I)I"⟩, 69) := ⟨⟨by decide +kernel, by decide +kernel⟩, List.mem_of_getElem? (i := 887) (by decide +kernel), List.mem_of_getElem? (i := 1325) (by decide +kernel), List.mem_of_getElem? (i := 1326) (by decide +kernel)⟩
theorem lw_p68 : lw_okq (⟨"ChalkChainModel", "holdOf", "(I)I"⟩, 69) := ⟨⟨by decide +kernel, by decide +kernel⟩, List.mem_of_getElem? (i := 887) (by decide +kernel), List.mem_of_getElem? (i := 1329) (by decide +kernel), List.mem_of_getElem? (i := 1330) (by decide +kernel)⟩
theorem lw_p69 : lw_okq (⟨"ChalkChainModel", "isFree", "(I)Z"⟩, 69) := ⟨⟨by decide +kernel, by decide +kernel⟩, List.mem_of_getElem? (i := 887) (by decide +kernel), List.mem_of_getElem? (i := 1333) (by decide +kernel), List.mem_of_getElem? (i := 1334) (by decide +kernel)⟩
theorem lw_p70 : lw_okq (⟨"ChalkChainModel", "goOn", "(I)V"⟩, 69) := ⟨⟨by decide +kernel, by decide +kernel⟩, List.mem_of_getElem? (i := 887) (by decide +kernel), List.mem_of_getElem? (i := 1337) (by decide +kernel), List.mem_of_getElem? (i := 1338) (by decide +kernel)⟩
theorem lw_p71 : lw_okq (⟨"ChalkChainModel", "comes", "(I)V"⟩, 69) := ⟨⟨by decide +kernel, by decide +kernel⟩, List.mem_of_getElem? (i := 887) (by decide +kernel), List.mem_of_getElem? (i := 1349) (by decide +kernel), List.mem_of_getElem? (i := 1350) (by decide +kernel)⟩
theorem lw_p72 : lw_okq (⟨"ChalkChainModel", "chooseFor", "(I)V"⟩, 69) := ⟨⟨by decide +kernel, by decide +kernel⟩, List.mem_of_getElem? (i := 887) (by decide +kernel), List.mem_of_getElem? (i := 1353) (by decide +kernel), List.mem_of_getElem? (i := 1354) (by decide +kernel)⟩
theorem lw_p73 : lw_okq (⟨"ChalkChainModel", "layDays", "()V"⟩, 69) := ⟨⟨by decide +kernel, by decide +kernel⟩, List.mem_of_getElem? (i := 887) (by decide +kernel), List.mem_of_getElem? (i := 1357) (by decide +kernel), List.mem_of_getElem? (i := 1358) (by decide +kernel)⟩
theorem lw_p74 : lw_okq (⟨"ChalkChainModel", "step", "()V"⟩, 69) := ⟨⟨by decide +kernel, by decide +kernel⟩, List.mem_of_getElem? (i := 887) (by decide +kernel), List.mem_of_getElem? (i := 1365) (by decide +kernel), List.mem_of_getElem? (i := 1366) (by decide +kernel)⟩
theorem lw_p75 : lw_okq (⟨"ChalkChainModel", "handOn", "(I)V"⟩, 69) := ⟨⟨by decide +kernel, by decide +kernel⟩, List.mem_of_getElem? (i := 887) (by decide +kernel), List.mem_of_getElem? (i := 1369) (by decide +kernel), List.mem_of_getElem? (i := 1370) (by decide +kernel)⟩
theorem lw_p76 : lw_okq (⟨"ChalkChainModel", "bring", "()V"⟩, 69) := ⟨⟨by decide +kernel, by decide +kernel⟩, List.mem_of_getElem? (i := 887) (by decide +kernel), List.mem_of_getElem? (i := 1373) (by decide +kernel), List.mem_of_getElem? (i := 1374) (by decide +kernel)⟩
theorem lw_p77 : lw_okq (⟨"ChalkChainModel", "takeBack", "()V"⟩, 69) := ⟨⟨by decide +kernel, by decide +kernel⟩, List.mem_of_getElem? (i := 887) (by decide +kernel), List.mem_of_getElem? (i := 1377) (by decide +kernel), List.mem_of_getElem? (i := 1378) (by decide +kernel)⟩
theorem lw_p78 : lw_okq (⟨"ChalkChainModel", "entry", "(III)I"⟩, 69) := ⟨⟨by decide +kernel, by decide +kernel⟩, List.mem_of_getElem? (i := 887) (by decide +kernel), List.mem_of_getElem? (i := 1405) (by decide +kernel), List.mem_of_getElem? (i := 1406) (by decide +kernel)⟩
theorem lw_p79 : lw_okq (⟨"ChalkChainModel", "canBeSpies", "(II)Z"⟩, 69) := ⟨⟨by decide +kernel, by decide +kernel⟩, List.mem_of_getElem? (i := 887) (by decide +kernel), List.mem_of_getElem? (i := 1426) (by decide +kernel), List.mem_of_getElem? (i := 1427) (by decide +kernel)⟩
def lw_privs_5 : List (MethodName × Nat) := [(⟨"ChalkChainModel", "hasWay", "(I)Z"⟩, 69), (⟨"ChalkChainModel", "canFall", "(I)Z"⟩, 69), (⟨"ChalkChainModel", "layFall", "(I)V"⟩, 69), (⟨"ChalkChainModel", "tellOn", "(I)I"⟩, 69), (⟨"ChalkChainModel", "holdOf", "(I)I"⟩, 69), (⟨"ChalkChainModel", "isFree", "(I)Z"⟩, 69), (⟨"ChalkChainModel", "goOn", "(I)V"⟩, 69), (⟨"ChalkChainModel", "comes", "(I)V"⟩, 69), (⟨"ChalkChainModel", "chooseFor", "(I)V"⟩, 69), (⟨"ChalkChainModel", "layDays", "()V"⟩, 69), (⟨"ChalkChainModel", "step", "()V"⟩, 69), (⟨"ChalkChainModel", "handOn", "(I)V"⟩, 69), (⟨"ChalkChainModel", "bring", "()V"⟩, 69), (⟨"ChalkChainModel", "takeBack", "()V"⟩, 69), (⟨"ChalkChainModel", "entry", "(III)I"⟩, 69), (⟨"ChalkChainModel", "canBeSpies", "(II)Z"⟩, 69)]
theorem lw_r5 : ∀ q ∈ lw_privs_5, lw_okq q := List.forall_mem_cons.mpr ⟨lw_p64, List.forall_mem_cons.mpr ⟨lw_p65, List.forall_mem_cons.mpr ⟨lw_p66, List.forall_mem_cons.mpr ⟨lw_p67, List.forall_mem_cons.mpr ⟨lw_p68, List.forall_mem_cons.mpr ⟨lw_p69, List.forall_mem_cons.mpr ⟨lw_p70, List.forall_mem_cons.mpr ⟨lw_p71, List.forall_mem_cons.mpr ⟨lw_p72, List.forall_mem_cons.mpr ⟨lw_p73, List.forall_mem_cons.mpr ⟨lw_p74, List.forall_mem_cons.mpr ⟨lw_p75, List.forall_mem_cons.mpr ⟨lw_p76, List.forall_mem_cons.mpr ⟨lw_p77, List.forall_mem_cons.mpr ⟨lw_p78, List.forall_mem_cons.mpr ⟨lw_p79, fun _ h => absurd h List.not_mem_nil⟩⟩⟩⟩⟩⟩⟩⟩⟩⟩⟩⟩⟩⟩⟩⟩
theorem lw_p80 : lw_okq (⟨"ChalkChainModel", "counts", "(III)Z"⟩, 69) := ⟨⟨by decide +kernel, by decide +kernel⟩, List.mem_of_getElem? (i := 887) (by decide +kernel), List.mem_of_getElem? (i := 1430) (by decide +kernel), List.mem_of_getElem? (i := 1431) (by decide +kernel)⟩
theorem lw_p81 : lw_okq (⟨"ChalkChainModel", "isOrigin", "(II)Z"⟩, 69) := ⟨⟨by decide +kernel, by decide +kernel⟩, List.mem_of_getElem? (i := 887) (by decide +kernel), List.mem_of_getElem? (i := 1438) (by decide +kernel), List.mem_of_getElem? (i := 1439) (by decide +kernel)⟩
theorem lw_p82 : lw_okq (⟨"ChalkChainModel", "thingsAt", "(I)I"⟩, 69) := ⟨⟨by decide +kernel, by decide +kernel⟩, List.mem_of_getElem? (i := 887) (by decide +kernel), List.mem_of_getElem? (i := 1457) (by decide +kernel), List.mem_of_getElem? (i := 1458) (by decide +kernel)⟩
def lw_privs_6 : List (MethodName × Nat) := [(⟨"ChalkChainModel", "counts", "(III)Z"⟩, 69), (⟨"ChalkChainModel", "isOrigin", "(II)Z"⟩, 69), (⟨"ChalkChainModel", "thingsAt", "(I)I"⟩, 69)]
theorem lw_r6 : ∀ q ∈ lw_privs_6, lw_okq q := List.forall_mem_cons.mpr ⟨lw_p80, List.forall_mem_cons.mpr ⟨lw_p81, List.forall_mem_cons.mpr ⟨lw_p82, fun _ h => absurd h List.not_mem_nil⟩⟩⟩
def lw_privs : List (MethodName × Nat) := lw_privs_1 ++ (lw_privs_2 ++ (lw_privs_3 ++ (lw_privs_4 ++ (lw_privs_5 ++ (lw_privs_6)))))
def lw_tbl : List Cond := k2_sels lw_privs ++ tables_1
theorem lw_privs_ok : ∀ q ∈ lw_privs, lw_okq q := by
  show ∀ q ∈ lw_privs_1 ++ (lw_privs_2 ++ (lw_privs_3 ++ (lw_privs_4 ++ (lw_privs_5 ++ (lw_privs_6))))), lw_okq q
  exact List.forall_mem_append.mpr ⟨lw_r1, List.forall_mem_append.mpr ⟨lw_r2, List.forall_mem_append.mpr ⟨lw_r3, List.forall_mem_append.mpr ⟨lw_r4, List.forall_mem_append.mpr ⟨lw_r5, lw_r6⟩⟩⟩⟩⟩
def RJ6 : String := "java/lang/Integer"
def RJ9 : String := "java/lang/Math"
def RJ10 : String := "java/lang/System"
def RJ7 : String := "java/util/Arrays"
def RX0 : String := "ChalkChain$City"
def TX0 : u_T := fun k => match k with
  | 0 => ("ChalkChain$City", "people", "I", false)
  | 1 => ("ChalkChain$City", "givesLines", "I", false)
  | 2 => ("ChalkChain$City", "gate", "I", false)
  | 3 => ("ChalkChain$City", "sea", "I", false)
  | 4 => ("ChalkChain$City", "luck", "I", false)
  | 5 => ("ChalkChain$City", "names", "[J", true)
  | 6 => ("ChalkChain$City", "kind", "[I", true)
  | 7 => ("ChalkChain$City", "slow", "[I", true)
  | 8 => ("ChalkChain$City", "holds", "[I", true)
  | 9 => ("ChalkChain$City", "risk", "[I", true)
  | 10 => ("ChalkChain$City", "keeps", "[I", true)
  | 11 => ("ChalkChain$City", "takes", "[I", true)
  | 12 => ("ChalkChain$City", "receivers", "[I", true)
  | 13 => ("ChalkChain$City", "known", "[I", true)
  | 14 => ("ChalkChain$City", "boxes", "I", false)
  | 15 => ("ChalkChain$City", "prompt", "I", false)
  | _ => ("ChalkChain$City", "steadfast", "I", false)
def tyX0 : Nat → FieldType := fun k => match k with
  | 0 => .int
  | 1 => .int
  | 2 => .int
  | 3 => .int
  | 4 => .int
  | 5 => .array .long
  | 6 => .array .int
  | 7 => .array .int
  | 8 => .array .int
  | 9 => .array .int
  | 10 => .array .int
  | 11 => .array .int
  | 12 => .array .int
  | 13 => .array .int
  | 14 => .int
  | 15 => .int
  | _ => .int
abbrev wsX00 : List Cond := u_ws RX0 TX0 17
theorem nmX0 : ∀ a, a < 17 → ∀ b, b < 17 → a ≠ b → (TX0 a).2.1 ≠ (TX0 b).2.1 := by decide +kernel
theorem tyX0_ok : ∀ k, k < 17 → parseFieldDescriptor (TX0 k).2.2.1 = some (tyX0 k) := by decide +kernel
abbrev cX0_init : ByteArray := prog_2_method_1_code
def yX0_init : MethodName := ⟨RX0, "<init>", "()V"⟩
abbrev cX0_clear : ByteArray := prog_2_method_2_code
def yX0_clear : MethodName := ⟨RX0, "clear", "()V"⟩
abbrev cX0_has : ByteArray := prog_2_method_3_code
def yX0_has : MethodName := ⟨RX0, "has", "(I)Z"⟩
abbrev cX0_hasEnds : ByteArray := prog_2_method_4_code
def yX0_hasEnds : MethodName := ⟨RX0, "hasEnds", "()Z"⟩
abbrev cX0_isBox : ByteArray := prog_2_method_5_code
def yX0_isBox : MethodName := ⟨RX0, "isBox", "(I)Z"⟩
abbrev cX0_gives : ByteArray := prog_2_method_6_code
def yX0_gives : MethodName := ⟨RX0, "gives", "(II)Z"⟩
abbrev cX0_everybody : ByteArray := prog_2_method_7_code
def yX0_everybody : MethodName := ⟨RX0, "everybody", "()I"⟩
abbrev cX0_between : ByteArray := prog_2_method_8_code
def yX0_between : MethodName := ⟨RX0, "between", "()I"⟩
abbrev cX0_called : ByteArray := prog_2_method_9_code
def yX0_called : MethodName := ⟨RX0, "called", "(J)I"⟩
abbrev cX0_settle : ByteArray := prog_2_method_10_code
def yX0_settle : MethodName := ⟨RX0, "settle", "()V"⟩
abbrev cX0_introduce : ByteArray := prog_2_method_11_code
def yX0_introduce : MethodName := ⟨RX0, "introduce", "(II)V"⟩
abbrev cX0_hasWay : ByteArray := prog_2_method_12_code
def yX0_hasWay : MethodName := ⟨RX0, "hasWay", "(IZ)Z"⟩
def RX1 : String := "ChalkChain$Earnest"
def TX1 : u_T := fun k => match k with
  | 0 => ("ChalkChain$Earnest", "today", "I", false)
  | 1 => ("ChalkChain$Earnest", "fate", "LChalkChain$Fate;", true)
  | 2 => ("ChalkChain$Earnest", "things", "LChalkChain$Things;", true)
  | 3 => ("ChalkChain$Earnest", "takes", "[I", true)
  | 4 => ("ChalkChain$Earnest", "known", "[I", true)
  | _ => ("ChalkChain$Earnest", "toSea", "[I", true)
def tyX1 : Nat → FieldType := fun k => match k with
  | 0 => .int
  | 1 => .object "ChalkChain$Fate"
  | 2 => .object "ChalkChain$Things"
  | 3 => .array .int
  | 4 => .array .int
  | _ => .array .int
abbrev wsX10 : List Cond := u_ws RX1 TX1 6
theorem nmX1 : ∀ a, a < 6 → ∀ b, b < 6 → a ≠ b → (TX1 a).2.1 ≠ (TX1 b).2.1 := by decide +kernel
theorem tyX1_ok : ∀ k, k < 6 → parseFieldDescriptor (TX1 k).2.2.1 = some (tyX1 k) := by decide +kernel
abbrev cX1_init : ByteArray := prog_3_method_1_code
def yX1_init : MethodName := ⟨RX1, "<init>", "()V"⟩
abbrev cX1_begin : ByteArray := prog_3_method_2_code
def yX1_begin : MethodName := ⟨RX1, "begin", "(LChalkChain$City;)V"⟩
abbrev cX1_copy : ByteArray := prog_3_method_3_code
def yX1_copy : MethodName := ⟨RX1, "copy", "(LChalkChain$Earnest;)V"⟩
abbrev cX1_dispatch : ByteArray := prog_3_method_4_code
def yX1_dispatch : MethodName := ⟨RX1, "dispatch", "(LChalkChain$City;)I"⟩
abbrev cX1_pass : ByteArray := prog_3_method_5_code
def yX1_pass : MethodName := ⟨RX1, "pass", "(LChalkChain$City;)V"⟩
abbrev cX1_handOn : ByteArray := prog_3_method_6_code
def yX1_handOn : MethodName := ⟨RX1, "handOn", "(LChalkChain$City;)V"⟩
abbrev cX1_loseThings : ByteArray := prog_3_method_7_code
def yX1_loseThings : MethodName := ⟨RX1, "loseThings", "()V"⟩
abbrev cX1_chooseAnew : ByteArray := prog_3_method_8_code
def yX1_chooseAnew : MethodName := ⟨RX1, "chooseAnew", "(LChalkChain$City;)V"⟩
abbrev cX1_measure : ByteArray := prog_3_method_9_code
def yX1_measure : MethodName := ⟨RX1, "measure", "(LChalkChain$City;)V"⟩
abbrev cX1_leastBy : ByteArray := prog_3_method_10_code
def yX1_leastBy : MethodName := ⟨RX1, "leastBy", "(LChalkChain$City;I)I"⟩
abbrev cX1_by : ByteArray := prog_3_method_11_code
def yX1_by : MethodName := ⟨RX1, "by", "(II)I"⟩
abbrev cX1_choose : ByteArray := prog_3_method_12_code
def yX1_choose : MethodName := ⟨RX1, "choose", "(LChalkChain$City;I)V"⟩
abbrev cX1_canMeet : ByteArray := prog_3_method_13_code
def yX1_canMeet : MethodName := ⟨RX1, "canMeet", "(III)Z"⟩
abbrev cX1_acquaint : ByteArray := prog_3_method_14_code
def yX1_acquaint : MethodName := ⟨RX1, "acquaint", "(II)V"⟩
abbrev cX1_acquaintancesFor : ByteArray := prog_3_method_15_code
def yX1_acquaintancesFor : MethodName := ⟨RX1, "acquaintancesFor", "(LChalkChain$City;II)I"⟩
def RX2 : String := "ChalkChain$Entries"
def TX2 : u_T := fun k => match k with
  | 0 => ("ChalkChain$Entries", "time", "I", false)
  | 1 => ("ChalkChain$Entries", "count", "I", false)
  | 2 => ("ChalkChain$Entries", "who", "[I", true)
  | 3 => ("ChalkChain$Entries", "over", "[I", true)
  | 4 => ("ChalkChain$Entries", "days", "[I", true)
  | 5 => ("ChalkChain$Entries", "toldAt", "[I", true)
  | _ => ("ChalkChain$Entries", "untoldAt", "[I", true)
def tyX2 : Nat → FieldType := fun k => match k with
  | 0 => .int
  | 1 => .int
  | 2 => .array .int
  | 3 => .array .int
  | 4 => .array .int
  | 5 => .array .int
  | _ => .array .int
abbrev wsX20 : List Cond := u_ws RX2 TX2 7
theorem nmX2 : ∀ a, a < 7 → ∀ b, b < 7 → a ≠ b → (TX2 a).2.1 ≠ (TX2 b).2.1 := by decide +kernel
theorem tyX2_ok : ∀ k, k < 7 → parseFieldDescriptor (TX2 k).2.2.1 = some (tyX2 k) := by decide +kernel
abbrev cX2_init : ByteArray := prog_4_method_1_code
def yX2_init : MethodName := ⟨RX2, "<init>", "()V"⟩
abbrev cX2_forget : ByteArray := prog_4_method_2_code
def yX2_forget : MethodName := ⟨RX2, "forget", "()V"⟩
abbrev cX2_tell : ByteArray := prog_4_method_3_code
def yX2_tell : MethodName := ⟨RX2, "tell", "(III)I"⟩
abbrev cX2_withdraw : ByteArray := prog_4_method_4_code
def yX2_withdraw : MethodName := ⟨RX2, "withdraw", "(I)Z"⟩
abbrev cX2_counts : ByteArray := prog_4_method_5_code
def yX2_counts : MethodName := ⟨RX2, "counts", "(II)Z"⟩
abbrev cX2_explainedBy : ByteArray := prog_4_method_6_code
def yX2_explainedBy : MethodName := ⟨RX2, "explainedBy", "(III)Z"⟩
abbrev cX2_startOf : ByteArray := prog_4_method_7_code
def yX2_startOf : MethodName := ⟨RX2, "startOf", "(LChalkChain$Falls;II)I"⟩
def RX3 : String := "ChalkChain$Falls"
def TX3 : u_T := fun k => match k with
  | 0 => ("ChalkChain$Falls", "takenOn", "[I", true)
  | 1 => ("ChalkChain$Falls", "goneOn", "[I", true)
  | 2 => ("ChalkChain$Falls", "howMany", "[I", true)
  | _ => ("ChalkChain$Falls", "fate", "LChalkChain$Fate;", true)
def tyX3 : Nat → FieldType := fun k => match k with
  | 0 => .array .int
  | 1 => .array .int
  | 2 => .array .int
  | _ => .object "ChalkChain$Fate"
abbrev wsX30 : List Cond := u_ws RX3 TX3 4
theorem nmX3 : ∀ a, a < 4 → ∀ b, b < 4 → a ≠ b → (TX3 a).2.1 ≠ (TX3 b).2.1 := by decide +kernel
theorem tyX3_ok : ∀ k, k < 4 → parseFieldDescriptor (TX3 k).2.2.1 = some (tyX3 k) := by decide +kernel
abbrev cX3_init : ByteArray := prog_5_method_1_code
def yX3_init : MethodName := ⟨RX3, "<init>", "()V"⟩
abbrev cX3_reckon : ByteArray := prog_5_method_2_code
def yX3_reckon : MethodName := ⟨RX3, "reckon", "(LChalkChain$City;)V"⟩
abbrev cX3_reckonOne : ByteArray := prog_5_method_3_code
def yX3_reckonOne : MethodName := ⟨RX3, "reckonOne", "(LChalkChain$City;I)V"⟩
def RX4 : String := "ChalkChain$Fate"
def TX4 : u_T := fun k => match k with
  | 0 => ("ChalkChain$Fate", "there", "I", false)
  | 1 => ("ChalkChain$Fate", "seized", "I", false)
  | _ => ("ChalkChain$Fate", "since", "[I", true)
def tyX4 : Nat → FieldType := fun k => match k with
  | 0 => .int
  | 1 => .int
  | _ => .array .int
abbrev wsX40 : List Cond := u_ws RX4 TX4 3
theorem nmX4 : ∀ a, a < 3 → ∀ b, b < 3 → a ≠ b → (TX4 a).2.1 ≠ (TX4 b).2.1 := by decide +kernel
theorem tyX4_ok : ∀ k, k < 3 → parseFieldDescriptor (TX4 k).2.2.1 = some (tyX4 k) := by decide +kernel
abbrev cX4_init : ByteArray := prog_6_method_1_code
def yX4_init : MethodName := ⟨RX4, "<init>", "()V"⟩
abbrev cX4_clear : ByteArray := prog_6_method_2_code
def yX4_clear : MethodName := ⟨RX4, "clear", "(LChalkChain$City;)V"⟩
abbrev cX4_copy : ByteArray := prog_6_method_3_code
def yX4_copy : MethodName := ⟨RX4, "copy", "(LChalkChain$Fate;)V"⟩
abbrev cX4_isThere : ByteArray := prog_6_method_4_code
def yX4_isThere : MethodName := ⟨RX4, "isThere", "(I)Z"⟩
abbrev cX4_stateOf : ByteArray := prog_6_method_5_code
def yX4_stateOf : MethodName := ⟨RX4, "stateOf", "(I)I"⟩
abbrev cX4_seize : ByteArray := prog_6_method_6_code
def yX4_seize : MethodName := ⟨RX4, "seize", "(LChalkChain$City;[III)I"⟩
abbrev cX4_tellOn : ByteArray := prog_6_method_7_code
def yX4_tellOn : MethodName := ⟨RX4, "tellOn", "(LChalkChain$City;[II)V"⟩
abbrev cX4_fleeOn : ByteArray := prog_6_method_8_code
def yX4_fleeOn : MethodName := ⟨RX4, "fleeOn", "(LChalkChain$City;[II)V"⟩
abbrev cX4_sawBy : ByteArray := prog_6_method_9_code
def yX4_sawBy : MethodName := ⟨RX4, "sawBy", "(LChalkChain$City;II)Z"⟩
abbrev cX4_remove : ByteArray := prog_6_method_10_code
def yX4_remove : MethodName := ⟨RX4, "remove", "(LChalkChain$City;II)V"⟩
abbrev cX4_knownToAny : ByteArray := prog_6_method_11_code
def yX4_knownToAny : MethodName := ⟨RX4, "knownToAny", "(LChalkChain$City;[II)I"⟩
def RX5 : String := "ChalkChain$Lexer"
def TX5 : u_T := fun k => match k with
  | 0 => ("ChalkChain$Lexer", "text", "[B", false)
  | 1 => ("ChalkChain$Lexer", "length", "I", false)
  | 2 => ("ChalkChain$Lexer", "at", "I", false)
  | 3 => ("ChalkChain$Lexer", "token", "I", false)
  | 4 => ("ChalkChain$Lexer", "place", "I", false)
  | 5 => ("ChalkChain$Lexer", "word", "J", false)
  | _ => ("ChalkChain$Lexer", "number", "I", false)
def tyX5 : Nat → FieldType := fun k => match k with
  | 0 => .array .byte
  | 1 => .int
  | 2 => .int
  | 3 => .int
  | 4 => .int
  | 5 => .long
  | _ => .int
abbrev wsX50 : List Cond := u_ws RX5 TX5 7
theorem nmX5 : ∀ a, a < 7 → ∀ b, b < 7 → a ≠ b → (TX5 a).2.1 ≠ (TX5 b).2.1 := by decide +kernel
theorem tyX5_ok : ∀ k, k < 7 → parseFieldDescriptor (TX5 k).2.2.1 = some (tyX5 k) := by decide +kernel
abbrev cX5_init : ByteArray := prog_7_method_1_code
def yX5_init : MethodName := ⟨RX5, "<init>", "()V"⟩
abbrev cX5_open : ByteArray := prog_7_method_2_code
def yX5_open : MethodName := ⟨RX5, "open", "([BI)V"⟩
abbrev cX5_advance : ByteArray := prog_7_method_3_code
def yX5_advance : MethodName := ⟨RX5, "advance", "()V"⟩
abbrev cX5_runOf : ByteArray := prog_7_method_4_code
def yX5_runOf : MethodName := ⟨RX5, "runOf", "(II)I"⟩
abbrev cX5_packed : ByteArray := prog_7_method_5_code
def yX5_packed : MethodName := ⟨RX5, "packed", "(I)J"⟩
abbrev cX5_valueOf : ByteArray := prog_7_method_6_code
def yX5_valueOf : MethodName := ⟨RX5, "valueOf", "(I)I"⟩
abbrev cX5_meaningOf : ByteArray := prog_7_method_7_code
def yX5_meaningOf : MethodName := ⟨RX5, "meaningOf", "(J)I"⟩
def RX6 : String := "ChalkChain$Reader"
def TX6 : u_T := fun k => match k with
  | 0 => ("ChalkChain$Reader", "lexer", "LChalkChain$Lexer;", true)
  | 1 => ("ChalkChain$Reader", "into", "LChalkChain$City;", false)
  | 2 => ("ChalkChain$Reader", "luckTold", "Z", false)
  | 3 => ("ChalkChain$Reader", "fault", "I", false)
  | _ => ("ChalkChain$Reader", "place", "I", false)
def tyX6 : Nat → FieldType := fun k => match k with
  | 0 => .object "ChalkChain$Lexer"
  | 1 => .object "ChalkChain$City"
  | 2 => .boolean
  | 3 => .int
  | _ => .int
abbrev wsX60 : List Cond := u_ws RX6 TX6 5
theorem nmX6 : ∀ a, a < 5 → ∀ b, b < 5 → a ≠ b → (TX6 a).2.1 ≠ (TX6 b).2.1 := by decide +kernel
theorem tyX6_ok : ∀ k, k < 5 → parseFieldDescriptor (TX6 k).2.2.1 = some (tyX6 k) := by decide +kernel
abbrev cX6_init : ByteArray := prog_8_method_1_code
def yX6_init : MethodName := ⟨RX6, "<init>", "()V"⟩
abbrev cX6_read : ByteArray := prog_8_method_2_code
def yX6_read : MethodName := ⟨RX6, "read", "([BILChalkChain$City;)Z"⟩
abbrev cX6_readLine : ByteArray := prog_8_method_3_code
def yX6_readLine : MethodName := ⟨RX6, "readLine", "()V"⟩
abbrev cX6_mayBegin : ByteArray := prog_8_method_4_code
def yX6_mayBegin : MethodName := ⟨RX6, "mayBegin", "(I)Z"⟩
abbrev cX6_readOne : ByteArray := prog_8_method_5_code
def yX6_readOne : MethodName := ⟨RX6, "readOne", "()V"⟩
abbrev cX6_readGives : ByteArray := prog_8_method_6_code
def yX6_readGives : MethodName := ⟨RX6, "readGives", "()V"⟩
abbrev cX6_readKnown : ByteArray := prog_8_method_7_code
def yX6_readKnown : MethodName := ⟨RX6, "readKnown", "()I"⟩
abbrev cX6_readNumber : ByteArray := prog_8_method_8_code
def yX6_readNumber : MethodName := ⟨RX6, "readNumber", "(II)I"⟩
abbrev cX6_pass : ByteArray := prog_8_method_9_code
def yX6_pass : MethodName := ⟨RX6, "pass", "(I)V"⟩
abbrev cX6_refuse : ByteArray := prog_8_method_10_code
def yX6_refuse : MethodName := ⟨RX6, "refuse", "(I)V"⟩
def RX7 : String := "ChalkChain$Router"
def TX7 : u_T := fun k => match k with
  | 0 => ("ChalkChain$Router", "step", "[I", true)
  | 1 => ("ChalkChain$Router", "best", "[J", true)
  | 2 => ("ChalkChain$Router", "byOdds", "Z", false)
  | 3 => ("ChalkChain$Router", "way", "[I", true)
  | _ => ("ChalkChain$Router", "length", "I", false)
def tyX7 : Nat → FieldType := fun k => match k with
  | 0 => .array .int
  | 1 => .array .long
  | 2 => .boolean
  | 3 => .array .int
  | _ => .int
abbrev wsX70 : List Cond := u_ws RX7 TX7 5
theorem nmX7 : ∀ a, a < 5 → ∀ b, b < 5 → a ≠ b → (TX7 a).2.1 ≠ (TX7 b).2.1 := by decide +kernel
theorem tyX7_ok : ∀ k, k < 5 → parseFieldDescriptor (TX7 k).2.2.1 = some (tyX7 k) := by decide +kernel
abbrev cX7_init : ByteArray := prog_9_method_1_code
def yX7_init : MethodName := ⟨RX7, "<init>", "()V"⟩
abbrev cX7_forget : ByteArray := prog_9_method_2_code
def yX7_forget : MethodName := ⟨RX7, "forget", "()V"⟩
abbrev cX7_stepByDays : ByteArray := prog_9_method_3_code
def yX7_stepByDays : MethodName := ⟨RX7, "stepByDays", "(LChalkChain$City;)V"⟩
abbrev cX7_stepByKeeps : ByteArray := prog_9_method_4_code
def yX7_stepByKeeps : MethodName := ⟨RX7, "stepByKeeps", "(LChalkChain$City;)V"⟩
abbrev cX7_stepByOdds : ByteArray := prog_9_method_5_code
def yX7_stepByOdds : MethodName := ⟨RX7, "stepByOdds", "(LChalkChain$City;)V"⟩
abbrev cX7_stepByAcquaintances : ByteArray := prog_9_method_6_code
def yX7_stepByAcquaintances : MethodName := ⟨RX7, "stepByAcquaintances", "(LChalkChain$City;LChalkChain$Earnest;)V"⟩
abbrev cX7_layLeast : ByteArray := prog_9_method_7_code
def yX7_layLeast : MethodName := ⟨RX7, "layLeast", "(LChalkChain$City;)J"⟩
abbrev cX7_layLikeliest : ByteArray := prog_9_method_8_code
def yX7_layLikeliest : MethodName := ⟨RX7, "layLikeliest", "(LChalkChain$City;)J"⟩
abbrev cX7_lay : ByteArray := prog_9_method_9_code
def yX7_lay : MethodName := ⟨RX7, "lay", "(LChalkChain$City;IJ)J"⟩
abbrev cX7_fillBest : ByteArray := prog_9_method_10_code
def yX7_fillBest : MethodName := ⟨RX7, "fillBest", "(LChalkChain$City;IJ)V"⟩
abbrev cX7_leastOnward : ByteArray := prog_9_method_11_code
def yX7_leastOnward : MethodName := ⟨RX7, "leastOnward", "(LChalkChain$City;II)J"⟩
abbrev cX7_onward : ByteArray := prog_9_method_12_code
def yX7_onward : MethodName := ⟨RX7, "onward", "(III)J"⟩
abbrev cX7_trace : ByteArray := prog_9_method_13_code
def yX7_trace : MethodName := ⟨RX7, "trace", "(LChalkChain$City;I)V"⟩
abbrev cX7_firstBest : ByteArray := prog_9_method_14_code
def yX7_firstBest : MethodName := ⟨RX7, "firstBest", "(LChalkChain$City;II)I"⟩
def RX8 : String := "ChalkChain$Things"
def TX8 : u_T := fun k => match k with
  | 0 => ("ChalkChain$Things", "count", "I", false)
  | 1 => ("ChalkChain$Things", "holder", "[I", true)
  | 2 => ("ChalkChain$Things", "sent", "[I", true)
  | 3 => ("ChalkChain$Things", "ended", "[I", true)
  | 4 => ("ChalkChain$Things", "next", "[I", true)
  | _ => ("ChalkChain$Things", "due", "[I", true)
def tyX8 : Nat → FieldType := fun k => match k with
  | 0 => .int
  | 1 => .array .int
  | 2 => .array .int
  | 3 => .array .int
  | 4 => .array .int
  | _ => .array .int
abbrev wsX80 : List Cond := u_ws RX8 TX8 6
theorem nmX8 : ∀ a, a < 6 → ∀ b, b < 6 → a ≠ b → (TX8 a).2.1 ≠ (TX8 b).2.1 := by decide +kernel
theorem tyX8_ok : ∀ k, k < 6 → parseFieldDescriptor (TX8 k).2.2.1 = some (tyX8 k) := by decide +kernel
abbrev cX8_init : ByteArray := prog_10_method_1_code
def yX8_init : MethodName := ⟨RX8, "<init>", "()V"⟩
abbrev cX8_copy : ByteArray := prog_10_method_2_code
def yX8_copy : MethodName := ⟨RX8, "copy", "(LChalkChain$Things;)V"⟩
abbrev cX8_add : ByteArray := prog_10_method_3_code
def yX8_add : MethodName := ⟨RX8, "add", "(I)I"⟩
abbrev cX8_isHeld : ByteArray := prog_10_method_4_code
def yX8_isHeld : MethodName := ⟨RX8, "isHeld", "(I)Z"⟩
abbrev cX8_giveTo : ByteArray := prog_10_method_5_code
def yX8_giveTo : MethodName := ⟨RX8, "giveTo", "(IILChalkChain$City;I)V"⟩
abbrev cX8_finish : ByteArray := prog_10_method_6_code
def yX8_finish : MethodName := ⟨RX8, "finish", "(III)V"⟩
abbrev cX8_howMany : ByteArray := prog_10_method_7_code
def yX8_howMany : MethodName := ⟨RX8, "howMany", "(I)I"⟩
def RX9 : String := "ChalkChain"
def TX9 : u_T := fun k => match k with
  | 0 => ("ChalkChain", "tape", "[B", true)
  | 1 => ("ChalkChain", "bytes", "I", false)
  | 2 => ("ChalkChain", "reader", "LChalkChain$Reader;", true)
  | 3 => ("ChalkChain", "told", "LChalkChain$City;", false)
  | 4 => ("ChalkChain", "draft", "LChalkChain$City;", false)
  | 5 => ("ChalkChain", "falls", "LChalkChain$Falls;", true)
  | 6 => ("ChalkChain", "router", "LChalkChain$Router;", true)
  | 7 => ("ChalkChain", "now", "LChalkChain$Earnest;", true)
  | 8 => ("ChalkChain", "images", "[LChalkChain$Earnest;", true)
  | 9 => ("ChalkChain", "imagesKept", "I", false)
  | _ => ("ChalkChain", "entries", "LChalkChain$Entries;", true)
def tyX9 : Nat → FieldType := fun k => match k with
  | 0 => .array .byte
  | 1 => .int
  | 2 => .object "ChalkChain$Reader"
  | 3 => .object "ChalkChain$City"
  | 4 => .object "ChalkChain$City"
  | 5 => .object "ChalkChain$Falls"
  | 6 => .object "ChalkChain$Router"
  | 7 => .object "ChalkChain$Earnest"
  | 8 => .array (.object "ChalkChain$Earnest")
  | 9 => .int
  | _ => .object "ChalkChain$Entries"
abbrev wsX90 : List Cond := u_ws RX9 TX9 11
theorem nmX9 : ∀ a, a < 11 → ∀ b, b < 11 → a ≠ b → (TX9 a).2.1 ≠ (TX9 b).2.1 := by decide +kernel
theorem tyX9_ok : ∀ k, k < 11 → parseFieldDescriptor (TX9 k).2.2.1 = some (tyX9 k) := by decide +kernel
abbrev cX9_init : ByteArray := prog_1_method_1_code
def yX9_init : MethodName := ⟨RX9, "<init>", "()V"⟩
abbrev cX9_feed : ByteArray := prog_1_method_2_code
def yX9_feed : MethodName := ⟨RX9, "feed", "(IIIII)I"⟩
abbrev cX9_end : ByteArray := prog_1_method_3_code
def yX9_end : MethodName := ⟨RX9, "end", "(I)I"⟩
abbrev cX9_city : ByteArray := prog_1_method_4_code
def yX9_city : MethodName := ⟨RX9, "city", "()I"⟩
abbrev cX9_fault : ByteArray := prog_1_method_5_code
def yX9_fault : MethodName := ⟨RX9, "fault", "(I)I"⟩
abbrev cX9_knows : ByteArray := prog_1_method_6_code
def yX9_knows : MethodName := ⟨RX9, "knows", "(I)I"⟩
abbrev cX9_quick : ByteArray := prog_1_method_7_code
def yX9_quick : MethodName := ⟨RX9, "quick", "()I"⟩
abbrev cX9_safe : ByteArray := prog_1_method_8_code
def yX9_safe : MethodName := ⟨RX9, "safe", "(I)J"⟩
abbrev cX9_cheap : ByteArray := prog_1_method_9_code
def yX9_cheap : MethodName := ⟨RX9, "cheap", "()I"⟩
abbrev cX9_lies : ByteArray := prog_1_method_10_code
def yX9_lies : MethodName := ⟨RX9, "lies", "(I)I"⟩
abbrev cX9_apart : ByteArray := prog_1_method_11_code
def yX9_apart : MethodName := ⟨RX9, "apart", "()I"⟩
abbrev cX9_cut : ByteArray := prog_1_method_12_code
def yX9_cut : MethodName := ⟨RX9, "cut", "()I"⟩
abbrev cX9_fall : ByteArray := prog_1_method_13_code
def yX9_fall : MethodName := ⟨RX9, "fall", "(III)I"⟩
abbrev cX9_worst : ByteArray := prog_1_method_14_code
def yX9_worst : MethodName := ⟨RX9, "worst", "(I)I"⟩
abbrev cX9_send : ByteArray := prog_1_method_15_code
def yX9_send : MethodName := ⟨RX9, "send", "()I"⟩
abbrev cX9_day : ByteArray := prog_1_method_16_code
def yX9_day : MethodName := ⟨RX9, "day", "(I)I"⟩
abbrev cX9_take : ByteArray := prog_1_method_17_code
def yX9_take : MethodName := ⟨RX9, "take", "(I)I"⟩
abbrev cX9_meet : ByteArray := prog_1_method_18_code
def yX9_meet : MethodName := ⟨RX9, "meet", "(III)Z"⟩
abbrev cX9_one : ByteArray := prog_1_method_19_code
def yX9_one : MethodName := ⟨RX9, "one", "(II)I"⟩
abbrev cX9_thing : ByteArray := prog_1_method_20_code
def yX9_thing : MethodName := ⟨RX9, "thing", "(II)I"⟩
abbrev cX9_gap : ByteArray := prog_1_method_21_code
def yX9_gap : MethodName := ⟨RX9, "gap", "()I"⟩
abbrev cX9_late : ByteArray := prog_1_method_22_code
def yX9_late : MethodName := ⟨RX9, "late", "(II)I"⟩
abbrev cX9_taken : ByteArray := prog_1_method_23_code
def yX9_taken : MethodName := ⟨RX9, "taken", "(II)I"⟩
abbrev cX9_untell : ByteArray := prog_1_method_24_code
def yX9_untell : MethodName := ⟨RX9, "untell", "(I)Z"⟩
abbrev cX9_later : ByteArray := prog_1_method_25_code
def yX9_later : MethodName := ⟨RX9, "later", "(I)I"⟩
abbrev cX9_spies : ByteArray := prog_1_method_26_code
def yX9_spies : MethodName := ⟨RX9, "spies", "(II)I"⟩
abbrev cX9_origins : ByteArray := prog_1_method_27_code
def yX9_origins : MethodName := ⟨RX9, "origins", "(II)I"⟩
abbrev cX9_image : ByteArray := prog_1_method_28_code
def yX9_image : MethodName := ⟨RX9, "image", "(I)I"⟩
abbrev cX9_back : ByteArray := prog_1_method_29_code
def yX9_back : MethodName := ⟨RX9, "back", "(I)I"⟩
abbrev cX9_about : ByteArray := prog_1_method_30_code
def yX9_about : MethodName := ⟨RX9, "about", "(I)I"⟩
abbrev cX9_put : ByteArray := prog_1_method_31_code
def yX9_put : MethodName := ⟨RX9, "put", "(I)V"⟩
abbrev cX9_leastBar : ByteArray := prog_1_method_32_code
def yX9_leastBar : MethodName := ⟨RX9, "leastBar", "(IZ)I"⟩
abbrev cX9_commonDivisor : ByteArray := prog_1_method_33_code
def yX9_commonDivisor : MethodName := ⟨RX9, "commonDivisor", "(JJ)J"⟩
abbrev cX9_pair : ByteArray := prog_1_method_34_code
def yX9_pair : MethodName := ⟨RX9, "pair", "(II)I"⟩
abbrev cX9_isIn : ByteArray := prog_1_method_35_code
def yX9_isIn : MethodName := ⟨RX9, "isIn", "(II)Z"⟩
def RX10 : String := "ChalkChainModel"
def TX10 : u_T := fun k => match k with
  | 0 => ("ChalkChainModel", "tape", "[I", true)
  | 1 => ("ChalkChainModel", "taped", "I", false)
  | 2 => ("ChalkChainModel", "fault", "I", false)
  | 3 => ("ChalkChainModel", "faultPlace", "I", false)
  | 4 => ("ChalkChainModel", "at", "I", false)
  | 5 => ("ChalkChainModel", "size", "I", false)
  | 6 => ("ChalkChainModel", "sort", "I", false)
  | 7 => ("ChalkChainModel", "place", "I", false)
  | 8 => ("ChalkChainModel", "number", "I", false)
  | 9 => ("ChalkChainModel", "word", "J", false)
  | 10 => ("ChalkChainModel", "nName", "[J", true)
  | 11 => ("ChalkChainModel", "nKind", "[I", true)
  | 12 => ("ChalkChainModel", "nSlow", "[I", true)
  | 13 => ("ChalkChainModel", "nHolds", "[I", true)
  | 14 => ("ChalkChainModel", "nRisk", "[I", true)
  | 15 => ("ChalkChainModel", "nKeeps", "[I", true)
  | 16 => ("ChalkChainModel", "nTakes", "[I", true)
  | 17 => ("ChalkChainModel", "kind", "[I", true)
  | 18 => ("ChalkChainModel", "slow", "[I", true)
  | 19 => ("ChalkChainModel", "holds", "[I", true)
  | 20 => ("ChalkChainModel", "risk", "[I", true)
  | 21 => ("ChalkChainModel", "keeps", "[I", true)
  | 22 => ("ChalkChainModel", "takes", "[I", true)
  | 23 => ("ChalkChainModel", "knows", "[I", true)
  | 24 => ("ChalkChainModel", "nPeople", "I", false)
  | 25 => ("ChalkChainModel", "nGives", "I", false)
  | 26 => ("ChalkChainModel", "nGate", "I", false)
  | 27 => ("ChalkChainModel", "nSea", "I", false)
  | 28 => ("ChalkChainModel", "nLuck", "I", false)
  | 29 => ("ChalkChainModel", "people", "I", false)
  | 30 => ("ChalkChainModel", "gives", "I", false)
  | 31 => ("ChalkChainModel", "gate", "I", false)
  | 32 => ("ChalkChainModel", "sea", "I", false)
  | 33 => ("ChalkChainModel", "luck", "I", false)
  | 34 => ("ChalkChainModel", "costTo", "[I", true)
  | 35 => ("ChalkChainModel", "manyTo", "[I", true)
  | 36 => ("ChalkChainModel", "lies", "[I", true)
  | 37 => ("ChalkChainModel", "lain", "I", false)
  | 38 => ("ChalkChainModel", "product", "[J", true)
  | 39 => ("ChalkChainModel", "flow", "[I", true)
  | 40 => ("ChalkChainModel", "cameFrom", "[I", true)
  | 41 => ("ChalkChainModel", "queue", "[I", true)
  | 42 => ("ChalkChainModel", "takenOn", "[I", true)
  | 43 => ("ChalkChainModel", "goneOn", "[I", true)
  | 44 => ("ChalkChainModel", "knowing", "[I", true)
  | 45 => ("ChalkChainModel", "nowTaken", "[I", true)
  | 46 => ("ChalkChainModel", "nowGone", "[I", true)
  | 47 => ("ChalkChainModel", "nowKnows", "[I", true)
  | 48 => ("ChalkChainModel", "nowTakes", "[I", true)
  | 49 => ("ChalkChainModel", "holder", "[I", true)
  | 50 => ("ChalkChainModel", "sent", "[I", true)
  | 51 => ("ChalkChainModel", "over", "[I", true)
  | 52 => ("ChalkChainModel", "next", "[I", true)
  | 53 => ("ChalkChainModel", "due", "[I", true)
  | 54 => ("ChalkChainModel", "day", "I", false)
  | 55 => ("ChalkChainModel", "things", "I", false)
  | 56 => ("ChalkChainModel", "daysTo", "[I", true)
  | 57 => ("ChalkChainModel", "entryKind", "[I", true)
  | 58 => ("ChalkChainModel", "entryWho", "[I", true)
  | 59 => ("ChalkChainModel", "entryDays", "[I", true)
  | 60 => ("ChalkChainModel", "entryTold", "[I", true)
  | 61 => ("ChalkChainModel", "entryUntold", "[I", true)
  | 62 => ("ChalkChainModel", "entries", "I", false)
  | 63 => ("ChalkChainModel", "time", "I", false)
  | 64 => ("ChalkChainModel", "hasBox", "[Z", true)
  | 65 => ("ChalkChainModel", "boxNumbers", "[I", true)
  | 66 => ("ChalkChainModel", "boxPeople", "[I", true)
  | 67 => ("ChalkChainModel", "boxTakes", "[I", true)
  | _ => ("ChalkChainModel", "boxThings", "[I", true)
def tyX10 : Nat → FieldType := fun k => match k with
  | 0 => .array .int
  | 1 => .int
  | 2 => .int
  | 3 => .int
  | 4 => .int
  | 5 => .int
  | 6 => .int
  | 7 => .int
  | 8 => .int
  | 9 => .long
  | 10 => .array .long
  | 11 => .array .int
  | 12 => .array .int
  | 13 => .array .int
  | 14 => .array .int
  | 15 => .array .int
  | 16 => .array .int
  | 17 => .array .int
  | 18 => .array .int
  | 19 => .array .int
  | 20 => .array .int
  | 21 => .array .int
  | 22 => .array .int
  | 23 => .array .int
  | 24 => .int
  | 25 => .int
  | 26 => .int
  | 27 => .int
  | 28 => .int
  | 29 => .int
  | 30 => .int
  | 31 => .int
  | 32 => .int
  | 33 => .int
  | 34 => .array .int
  | 35 => .array .int
  | 36 => .array .int
  | 37 => .int
  | 38 => .array .long
  | 39 => .array .int
  | 40 => .array .int
  | 41 => .array .int
  | 42 => .array .int
  | 43 => .array .int
  | 44 => .array .int
  | 45 => .array .int
  | 46 => .array .int
  | 47 => .array .int
  | 48 => .array .int
  | 49 => .array .int
  | 50 => .array .int
  | 51 => .array .int
  | 52 => .array .int
  | 53 => .array .int
  | 54 => .int
  | 55 => .int
  | 56 => .array .int
  | 57 => .array .int
  | 58 => .array .int
  | 59 => .array .int
  | 60 => .array .int
  | 61 => .array .int
  | 62 => .int
  | 63 => .int
  | 64 => .array .boolean
  | 65 => .array .int
  | 66 => .array .int
  | 67 => .array .int
  | _ => .array .int
abbrev wsX100 : List Cond := u_ws RX10 TX10 69
theorem nmX10 : ∀ a, a < 69 → ∀ b, b < 69 → a ≠ b → (TX10 a).2.1 ≠ (TX10 b).2.1 := by decide +kernel
theorem tyX10_ok : ∀ k, k < 69 → parseFieldDescriptor (TX10 k).2.2.1 = some (tyX10 k) := by decide +kernel
abbrev cX10_init : ByteArray := prog_12_method_1_code
def yX10_init : MethodName := ⟨RX10, "<init>", "()V"⟩
abbrev cX10_feed : ByteArray := prog_12_method_2_code
def yX10_feed : MethodName := ⟨RX10, "feed", "(IIIII)I"⟩
abbrev cX10_four : ByteArray := prog_12_method_3_code
def yX10_four : MethodName := ⟨RX10, "four", "(I)V"⟩
abbrev cX10_end : ByteArray := prog_12_method_4_code
def yX10_end : MethodName := ⟨RX10, "end", "(I)I"⟩
abbrev cX10_here : ByteArray := prog_12_method_5_code
def yX10_here : MethodName := ⟨RX10, "here", "(I)I"⟩
abbrev cX10_isLetter : ByteArray := prog_12_method_6_code
def yX10_isLetter : MethodName := ⟨RX10, "isLetter", "(I)Z"⟩
abbrev cX10_isDigit : ByteArray := prog_12_method_7_code
def yX10_isDigit : MethodName := ⟨RX10, "isDigit", "(I)Z"⟩
abbrev cX10_token : ByteArray := prog_12_method_8_code
def yX10_token : MethodName := ⟨RX10, "token", "()V"⟩
abbrev cX10_wrong : ByteArray := prog_12_method_9_code
def yX10_wrong : MethodName := ⟨RX10, "wrong", "(I)V"⟩
abbrev cX10_isWord : ByteArray := prog_12_method_10_code
def yX10_isWord : MethodName := ⟨RX10, "isWord", "(J)Z"⟩
abbrev cX10_isName : ByteArray := prog_12_method_11_code
def yX10_isName : MethodName := ⟨RX10, "isName", "()Z"⟩
abbrev cX10_want : ByteArray := prog_12_method_12_code
def yX10_want : MethodName := ⟨RX10, "want", "(J)V"⟩
abbrev cX10_toldNumber : ByteArray := prog_12_method_13_code
def yX10_toldNumber : MethodName := ⟨RX10, "toldNumber", "(II)I"⟩
abbrev cX10_told : ByteArray := prog_12_method_14_code
def yX10_told : MethodName := ⟨RX10, "told", "(JII)I"⟩
abbrev cX10_find : ByteArray := prog_12_method_15_code
def yX10_find : MethodName := ⟨RX10, "find", "()I"⟩
abbrev cX10_old : ByteArray := prog_12_method_16_code
def yX10_old : MethodName := ⟨RX10, "old", "()I"⟩
abbrev cX10_readOne : ByteArray := prog_12_method_17_code
def yX10_readOne : MethodName := ⟨RX10, "readOne", "()V"⟩
abbrev cX10_readGives : ByteArray := prog_12_method_18_code
def yX10_readGives : MethodName := ⟨RX10, "readGives", "()V"⟩
abbrev cX10_readOld : ByteArray := prog_12_method_19_code
def yX10_readOld : MethodName := ⟨RX10, "readOld", "()I"⟩
abbrev cX10_readLuck : ByteArray := prog_12_method_20_code
def yX10_readLuck : MethodName := ⟨RX10, "readLuck", "()V"⟩
abbrev cX10_readLine : ByteArray := prog_12_method_21_code
def yX10_readLine : MethodName := ⟨RX10, "readLine", "()V"⟩
abbrev cX10_readAll : ByteArray := prog_12_method_22_code
def yX10_readAll : MethodName := ⟨RX10, "readAll", "()V"⟩
abbrev cX10_city : ByteArray := prog_12_method_23_code
def yX10_city : MethodName := ⟨RX10, "city", "()I"⟩
abbrev cX10_learn : ByteArray := prog_12_method_24_code
def yX10_learn : MethodName := ⟨RX10, "learn", "(II)V"⟩
abbrev cX10_fault : ByteArray := prog_12_method_25_code
def yX10_fault : MethodName := ⟨RX10, "fault", "(I)I"⟩
abbrev cX10_isOne : ByteArray := prog_12_method_26_code
def yX10_isOne : MethodName := ⟨RX10, "isOne", "(I)Z"⟩
abbrev cX10_knows : ByteArray := prog_12_method_27_code
def yX10_knows : MethodName := ⟨RX10, "knows", "(I)I"⟩
abbrev cX10_ones : ByteArray := prog_12_method_28_code
def yX10_ones : MethodName := ⟨RX10, "ones", "(I)I"⟩
abbrev cX10_stepOf : ByteArray := prog_12_method_29_code
def yX10_stepOf : MethodName := ⟨RX10, "stepOf", "(III)I"⟩
abbrev cX10_layWays : ByteArray := prog_12_method_30_code
def yX10_layWays : MethodName := ⟨RX10, "layWays", "(I)V"⟩
abbrev cX10_better : ByteArray := prog_12_method_31_code
def yX10_better : MethodName := ⟨RX10, "better", "(III)V"⟩
abbrev cX10_layWay : ByteArray := prog_12_method_32_code
def yX10_layWay : MethodName := ⟨RX10, "layWay", "(I)I"⟩
abbrev cX10_leads : ByteArray := prog_12_method_33_code
def yX10_leads : MethodName := ⟨RX10, "leads", "(III)Z"⟩
abbrev cX10_quick : ByteArray := prog_12_method_34_code
def yX10_quick : MethodName := ⟨RX10, "quick", "()I"⟩
abbrev cX10_cheap : ByteArray := prog_12_method_35_code
def yX10_cheap : MethodName := ⟨RX10, "cheap", "()I"⟩
abbrev cX10_lies : ByteArray := prog_12_method_36_code
def yX10_lies : MethodName := ⟨RX10, "lies", "(I)I"⟩
abbrev cX10_layProducts : ByteArray := prog_12_method_37_code
def yX10_layProducts : MethodName := ⟨RX10, "layProducts", "()V"⟩
abbrev cX10_hundreds : ByteArray := prog_12_method_38_code
def yX10_hundreds : MethodName := ⟨RX10, "hundreds", "(I)J"⟩
abbrev cX10_common : ByteArray := prog_12_method_39_code
def yX10_common : MethodName := ⟨RX10, "common", "(JJ)J"⟩
abbrev cX10_laySafe : ByteArray := prog_12_method_40_code
def yX10_laySafe : MethodName := ⟨RX10, "laySafe", "(I)V"⟩
abbrev cX10_safe : ByteArray := prog_12_method_41_code
def yX10_safe : MethodName := ⟨RX10, "safe", "(I)J"⟩
abbrev cX10_layFlow : ByteArray := prog_12_method_42_code
def yX10_layFlow : MethodName := ⟨RX10, "layFlow", "()V"⟩
abbrev cX10_oneMore : ByteArray := prog_12_method_43_code
def yX10_oneMore : MethodName := ⟨RX10, "oneMore", "()Z"⟩
abbrev cX10_apart : ByteArray := prog_12_method_44_code
def yX10_apart : MethodName := ⟨RX10, "apart", "()I"⟩
abbrev cX10_hasWay : ByteArray := prog_12_method_45_code
def yX10_hasWay : MethodName := ⟨RX10, "hasWay", "(I)Z"⟩
abbrev cX10_cut : ByteArray := prog_12_method_46_code
def yX10_cut : MethodName := ⟨RX10, "cut", "()I"⟩
abbrev cX10_holdOf : ByteArray := prog_12_method_47_code
def yX10_holdOf : MethodName := ⟨RX10, "holdOf", "(I)I"⟩
abbrev cX10_isFree : ByteArray := prog_12_method_48_code
def yX10_isFree : MethodName := ⟨RX10, "isFree", "(I)Z"⟩
abbrev cX10_tellOn : ByteArray := prog_12_method_49_code
def yX10_tellOn : MethodName := ⟨RX10, "tellOn", "(I)I"⟩
abbrev cX10_goOn : ByteArray := prog_12_method_50_code
def yX10_goOn : MethodName := ⟨RX10, "goOn", "(I)V"⟩
abbrev cX10_layFall : ByteArray := prog_12_method_51_code
def yX10_layFall : MethodName := ⟨RX10, "layFall", "(I)V"⟩
abbrev cX10_canFall : ByteArray := prog_12_method_52_code
def yX10_canFall : MethodName := ⟨RX10, "canFall", "(I)Z"⟩
abbrev cX10_fall : ByteArray := prog_12_method_53_code
def yX10_fall : MethodName := ⟨RX10, "fall", "(III)I"⟩
abbrev cX10_worst : ByteArray := prog_12_method_54_code
def yX10_worst : MethodName := ⟨RX10, "worst", "(I)I"⟩
abbrev cX10_fresh : ByteArray := prog_12_method_55_code
def yX10_fresh : MethodName := ⟨RX10, "fresh", "()V"⟩
abbrev cX10_isThere : ByteArray := prog_12_method_56_code
def yX10_isThere : MethodName := ⟨RX10, "isThere", "(I)Z"⟩
abbrev cX10_layDays : ByteArray := prog_12_method_57_code
def yX10_layDays : MethodName := ⟨RX10, "layDays", "()V"⟩
abbrev cX10_chooseFor : ByteArray := prog_12_method_58_code
def yX10_chooseFor : MethodName := ⟨RX10, "chooseFor", "(I)V"⟩
abbrev cX10_comes : ByteArray := prog_12_method_59_code
def yX10_comes : MethodName := ⟨RX10, "comes", "(I)V"⟩
abbrev cX10_send : ByteArray := prog_12_method_60_code
def yX10_send : MethodName := ⟨RX10, "send", "()I"⟩
abbrev cX10_handOn : ByteArray := prog_12_method_61_code
def yX10_handOn : MethodName := ⟨RX10, "handOn", "(I)V"⟩
abbrev cX10_bring : ByteArray := prog_12_method_62_code
def yX10_bring : MethodName := ⟨RX10, "bring", "()V"⟩
abbrev cX10_takeBack : ByteArray := prog_12_method_63_code
def yX10_takeBack : MethodName := ⟨RX10, "takeBack", "()V"⟩
abbrev cX10_step : ByteArray := prog_12_method_64_code
def yX10_step : MethodName := ⟨RX10, "step", "()V"⟩
abbrev cX10_day : ByteArray := prog_12_method_65_code
def yX10_day : MethodName := ⟨RX10, "day", "(I)I"⟩
abbrev cX10_take : ByteArray := prog_12_method_66_code
def yX10_take : MethodName := ⟨RX10, "take", "(I)I"⟩
abbrev cX10_isPerson : ByteArray := prog_12_method_67_code
def yX10_isPerson : MethodName := ⟨RX10, "isPerson", "(I)Z"⟩
abbrev cX10_canMeetBy : ByteArray := prog_12_method_68_code
def yX10_canMeetBy : MethodName := ⟨RX10, "canMeetBy", "(III)Z"⟩
abbrev cX10_canMeet : ByteArray := prog_12_method_69_code
def yX10_canMeet : MethodName := ⟨RX10, "canMeet", "(II)Z"⟩
abbrev cX10_meet : ByteArray := prog_12_method_70_code
def yX10_meet : MethodName := ⟨RX10, "meet", "(III)Z"⟩
abbrev cX10_one : ByteArray := prog_12_method_71_code
def yX10_one : MethodName := ⟨RX10, "one", "(II)I"⟩
abbrev cX10_thing : ByteArray := prog_12_method_72_code
def yX10_thing : MethodName := ⟨RX10, "thing", "(II)I"⟩
abbrev cX10_gap : ByteArray := prog_12_method_73_code
def yX10_gap : MethodName := ⟨RX10, "gap", "()I"⟩
abbrev cX10_entry : ByteArray := prog_12_method_74_code
def yX10_entry : MethodName := ⟨RX10, "entry", "(III)I"⟩
abbrev cX10_late : ByteArray := prog_12_method_75_code
def yX10_late : MethodName := ⟨RX10, "late", "(II)I"⟩
abbrev cX10_taken : ByteArray := prog_12_method_76_code
def yX10_taken : MethodName := ⟨RX10, "taken", "(II)I"⟩
abbrev cX10_untell : ByteArray := prog_12_method_77_code
def yX10_untell : MethodName := ⟨RX10, "untell", "(I)Z"⟩
abbrev cX10_later : ByteArray := prog_12_method_78_code
def yX10_later : MethodName := ⟨RX10, "later", "(I)I"⟩
abbrev cX10_counts : ByteArray := prog_12_method_79_code
def yX10_counts : MethodName := ⟨RX10, "counts", "(III)Z"⟩
abbrev cX10_canBeSpies : ByteArray := prog_12_method_80_code
def yX10_canBeSpies : MethodName := ⟨RX10, "canBeSpies", "(II)Z"⟩
abbrev cX10_spies : ByteArray := prog_12_method_81_code
def yX10_spies : MethodName := ⟨RX10, "spies", "(II)I"⟩
abbrev cX10_isOrigin : ByteArray := prog_12_method_82_code
def yX10_isOrigin : MethodName := ⟨RX10, "isOrigin", "(II)Z"⟩
abbrev cX10_origins : ByteArray := prog_12_method_83_code
def yX10_origins : MethodName := ⟨RX10, "origins", "(II)I"⟩
abbrev cX10_isBox : ByteArray := prog_12_method_84_code
def yX10_isBox : MethodName := ⟨RX10, "isBox", "(I)Z"⟩
abbrev cX10_image : ByteArray := prog_12_method_85_code
def yX10_image : MethodName := ⟨RX10, "image", "(I)I"⟩
abbrev cX10_back : ByteArray := prog_12_method_86_code
def yX10_back : MethodName := ⟨RX10, "back", "(I)I"⟩
abbrev cX10_thingsAt : ByteArray := prog_12_method_87_code
def yX10_thingsAt : MethodName := ⟨RX10, "thingsAt", "(I)I"⟩
abbrev cX10_about : ByteArray := prog_12_method_88_code
def yX10_about : MethodName := ⟨RX10, "about", "(I)I"⟩
abbrev cJ6_bitCount_0f7a4 : ByteArray := prog_13_method_49_code
def yJ6_bitCount_0f7a4 : MethodName := ⟨RJ6, "bitCount", "(I)I"⟩
abbrev cJ9_min_7cf53 : ByteArray := prog_14_method_69_code
def yJ9_min_7cf53 : MethodName := ⟨RJ9, "min", "(II)I"⟩
abbrev cJ9_min_f86c9 : ByteArray := prog_14_method_70_code
def yJ9_min_f86c9 : MethodName := ⟨RJ9, "min", "(JJ)J"⟩
abbrev cJ7_fill_d0a16 : ByteArray := prog_16_method_101_code
def yJ7_fill_d0a16 : MethodName := ⟨RJ7, "fill", "([JJ)V"⟩
abbrev cJ7_fill_53178 : ByteArray := prog_16_method_103_code
def yJ7_fill_53178 : MethodName := ⟨RJ7, "fill", "([II)V"⟩
def RL : String := "ChalkChainLaw"
abbrev cL_law : ByteArray := code
def yL_law : MethodName := ⟨RL, "law", "([I)Z"⟩
abbrev vwCl : List vw_C := [(RX0, TX0, 17), (RX1, TX1, 6), (RX2, TX2, 7), (RX3, TX3, 4), (RX4, TX4, 3), (RX5, TX5, 7), (RX6, TX6, 5), (RX7, TX7, 5), (RX8, TX8, 6), (RX9, TX9, 11), (RX10, TX10, 69)]
