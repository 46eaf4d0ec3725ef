-- ===== PART A: goes FIRST, ahead of the names: the tables' words, and 'selects' of the private methods out of them =====
/-- a private method of a class that the tables say can be made, by its rows of tables_1 -/
def lw_okq (q : MethodName × Nat) : Prop := (q.1.cls ≠ "java/lang/invoke/MethodHandle" ∧ q.1.cls ≠ "java/lang/invoke/VarHandle") ∧ Cond.instantiable q.1.cls q.2 ∈ tables_1 ∧ Cond.privateMethod q.1 ∈ tables_1 ∧ Cond.instanceMethod q.1 ∈ tables_1
theorem lw_p0 : lw_okq (⟨"OunceLetters", "textOf", "(I)LOunceLetters$Text;"⟩, 12) := ⟨⟨by decide +kernel, by decide +kernel⟩, List.mem_of_getElem? (i := 16) (by decide +kernel), List.mem_of_getElem? (i := 356) (by decide +kernel), List.mem_of_getElem? (i := 357) (by decide +kernel)⟩
theorem lw_p1 : lw_okq (⟨"OunceLetters", "setLength", "(LOunceLetters$Text;I)V"⟩, 12) := ⟨⟨by decide +kernel, by decide +kernel⟩, List.mem_of_getElem? (i := 16) (by decide +kernel), List.mem_of_getElem? (i := 360) (by decide +kernel), List.mem_of_getElem? (i := 361) (by decide +kernel)⟩
theorem lw_p2 : lw_okq (⟨"OunceLetters$Terms", "begin", "()V"⟩, 11) := ⟨⟨by decide +kernel, by decide +kernel⟩, List.mem_of_getElem? (i := 84) (by decide +kernel), List.mem_of_getElem? (i := 386) (by decide +kernel), List.mem_of_getElem? (i := 387) (by decide +kernel)⟩
theorem lw_p3 : lw_okq (⟨"OunceLetters$Terms", "addLetter", "(I)V"⟩, 11) := ⟨⟨by decide +kernel, by decide +kernel⟩, List.mem_of_getElem? (i := 84) (by decide +kernel), List.mem_of_getElem? (i := 391) (by decide +kernel), List.mem_of_getElem? (i := 392) (by decide +kernel)⟩
theorem lw_p4 : lw_okq (⟨"OunceLetters", "worldChanged", "()V"⟩, 12) := ⟨⟨by decide +kernel, by decide +kernel⟩, List.mem_of_getElem? (i := 16) (by decide +kernel), List.mem_of_getElem? (i := 402) (by decide +kernel), List.mem_of_getElem? (i := 403) (by decide +kernel)⟩
theorem lw_p5 : lw_okq (⟨"OunceLetters", "found", "(I)I"⟩, 12) := ⟨⟨by decide +kernel, by decide +kernel⟩, List.mem_of_getElem? (i := 16) (by decide +kernel), List.mem_of_getElem? (i := 461) (by decide +kernel), List.mem_of_getElem? (i := 462) (by decide +kernel)⟩
theorem lw_p6 : lw_okq (⟨"OunceLetters", "refreshRun", "()V"⟩, 12) := ⟨⟨by decide +kernel, by decide +kernel⟩, List.mem_of_getElem? (i := 16) (by decide +kernel), List.mem_of_getElem? (i := 473) (by decide +kernel), List.mem_of_getElem? (i := 474) (by decide +kernel)⟩
theorem lw_p7 : lw_okq (⟨"OunceLetters$Run", "open", "(I)V"⟩, 8) := ⟨⟨by decide +kernel, by decide +kernel⟩, List.mem_of_getElem? (i := 223) (by decide +kernel), List.mem_of_getElem? (i := 489) (by decide +kernel), List.mem_of_getElem? (i := 490) (by decide +kernel)⟩
theorem lw_p8 : lw_okq (⟨"OunceLetters$Rules", "moveOne", "([IIII)V"⟩, 3) := ⟨⟨by decide +kernel, by decide +kernel⟩, List.mem_of_getElem? (i := 204) (by decide +kernel), List.mem_of_getElem? (i := 501) (by decide +kernel), List.mem_of_getElem? (i := 502) (by decide +kernel)⟩
theorem lw_p9 : lw_okq (⟨"OunceLetters$Run", "writeBefore", "(II)V"⟩, 8) := ⟨⟨by decide +kernel, by decide +kernel⟩, List.mem_of_getElem? (i := 223) (by decide +kernel), List.mem_of_getElem? (i := 505) (by decide +kernel), List.mem_of_getElem? (i := 506) (by decide +kernel)⟩
theorem lw_p10 : lw_okq (⟨"OunceLetters$Rules", "tookAll", "([II[I)Z"⟩, 3) := ⟨⟨by decide +kernel, by decide +kernel⟩, List.mem_of_getElem? (i := 204) (by decide +kernel), List.mem_of_getElem? (i := 513) (by decide +kernel), List.mem_of_getElem? (i := 514) (by decide +kernel)⟩
theorem lw_p11 : lw_okq (⟨"OunceLetters$Terms", "hardLetter", "(II)I"⟩, 11) := ⟨⟨by decide +kernel, by decide +kernel⟩, List.mem_of_getElem? (i := 84) (by decide +kernel), List.mem_of_getElem? (i := 596) (by decide +kernel), List.mem_of_getElem? (i := 597) (by decide +kernel)⟩
theorem lw_p12 : lw_okq (⟨"OunceLetters", "mostAlike", "(II)I"⟩, 12) := ⟨⟨by decide +kernel, by decide +kernel⟩, List.mem_of_getElem? (i := 16) (by decide +kernel), List.mem_of_getElem? (i := 635) (by decide +kernel), List.mem_of_getElem? (i := 636) (by decide +kernel)⟩
theorem lw_p13 : lw_okq (⟨"OunceLetters$Chance", "sortLive", "()V"⟩, 7) := ⟨⟨by decide +kernel, by decide +kernel⟩, List.mem_of_getElem? (i := 261) (by decide +kernel), List.mem_of_getElem? (i := 649) (by decide +kernel), List.mem_of_getElem? (i := 650) (by decide +kernel)⟩
theorem lw_p14 : lw_okq (⟨"OunceLetters$Chance", "branch", "(II)V"⟩, 7) := ⟨⟨by decide +kernel, by decide +kernel⟩, List.mem_of_getElem? (i := 261) (by decide +kernel), List.mem_of_getElem? (i := 654) (by decide +kernel), List.mem_of_getElem? (i := 655) (by decide +kernel)⟩
theorem lw_p15 : lw_okq (⟨"OunceLetters$Chance", "note", "(I)V"⟩, 7) := ⟨⟨by decide +kernel, by decide +kernel⟩, List.mem_of_getElem? (i := 261) (by decide +kernel), List.mem_of_getElem? (i := 658) (by decide +kernel), List.mem_of_getElem? (i := 659) (by decide +kernel)⟩
def lw_privs_1 : List (MethodName × Nat) := [(⟨"OunceLetters", "textOf", "(I)LOunceLetters$Text;"⟩, 12), (⟨"OunceLetters", "setLength", "(LOunceLetters$Text;I)V"⟩, 12), (⟨"OunceLetters$Terms", "begin", "()V"⟩, 11), (⟨"OunceLetters$Terms", "addLetter", "(I)V"⟩, 11), (⟨"OunceLetters", "worldChanged", "()V"⟩, 12), (⟨"OunceLetters", "found", "(I)I"⟩, 12), (⟨"OunceLetters", "refreshRun", "()V"⟩, 12), (⟨"OunceLetters$Run", "open", "(I)V"⟩, 8), (⟨"OunceLetters$Rules", "moveOne", "([IIII)V"⟩, 3), (⟨"OunceLetters$Run", "writeBefore", "(II)V"⟩, 8), (⟨"OunceLetters$Rules", "tookAll", "([II[I)Z"⟩, 3), (⟨"OunceLetters$Terms", "hardLetter", "(II)I"⟩, 11), (⟨"OunceLetters", "mostAlike", "(II)I"⟩, 12), (⟨"OunceLetters$Chance", "sortLive", "()V"⟩, 7), (⟨"OunceLetters$Chance", "branch", "(II)V"⟩, 7), (⟨"OunceLetters$Chance", "note", "(I)V"⟩, 7)]
theorem lw_r1 : ∀ q ∈ lw_privs_1, lw_okq q := List.forall_mem_cons.mpr ⟨lw_p0, List.forall_mem_cons.mpr ⟨lw_p1, List.forall_mem_cons.mpr ⟨lw_p2, List.forall_mem_cons.mpr ⟨lw_p3, List.forall_mem_cons.mpr ⟨lw_p4, List.forall_mem_cons.mpr ⟨lw_p5, List.forall_mem_cons.mpr ⟨lw_p6, List.forall_mem_cons.mpr ⟨lw_p7, List.forall_mem_cons.mpr ⟨lw_p8, List.forall_mem_cons.mpr ⟨lw_p9, List.forall_mem_cons.mpr ⟨lw_p10, List.forall_mem_cons.mpr ⟨lw_p11, List.forall_mem_cons.mpr ⟨lw_p12, List.forall_mem_cons.mpr ⟨lw_p13, List.forall_mem_cons.mpr ⟨lw_p14, List.forall_mem_cons.mpr ⟨lw_p15, fun _ h => absurd h List.not_mem_nil⟩⟩⟩⟩⟩⟩⟩⟩⟩⟩⟩⟩⟩⟩⟩⟩
theorem lw_p16 : lw_okq (⟨"OunceLetters$Chance", "advance", "(I)V"⟩, 7) := ⟨⟨by decide +kernel, by decide +kernel⟩, List.mem_of_getElem? (i := 261) (by decide +kernel), List.mem_of_getElem? (i := 662) (by decide +kernel), List.mem_of_getElem? (i := 663) (by decide +kernel)⟩
theorem lw_p17 : lw_okq (⟨"OunceLettersModel", "finds", "(I)I"⟩, 30) := ⟨⟨by decide +kernel, by decide +kernel⟩, List.mem_of_getElem? (i := 760) (by decide +kernel), List.mem_of_getElem? (i := 869) (by decide +kernel), List.mem_of_getElem? (i := 870) (by decide +kernel)⟩
theorem lw_p18 : lw_okq (⟨"OunceLettersModel", "lacks", "(III)I"⟩, 30) := ⟨⟨by decide +kernel, by decide +kernel⟩, List.mem_of_getElem? (i := 760) (by decide +kernel), List.mem_of_getElem? (i := 881) (by decide +kernel), List.mem_of_getElem? (i := 882) (by decide +kernel)⟩
theorem lw_p19 : lw_okq (⟨"OunceLettersModel", "readsHouses", "()I"⟩, 30) := ⟨⟨by decide +kernel, by decide +kernel⟩, List.mem_of_getElem? (i := 760) (by decide +kernel), List.mem_of_getElem? (i := 917) (by decide +kernel), List.mem_of_getElem? (i := 918) (by decide +kernel)⟩
theorem lw_p20 : lw_okq (⟨"OunceLettersModel", "readsTerms", "()I"⟩, 30) := ⟨⟨by decide +kernel, by decide +kernel⟩, List.mem_of_getElem? (i := 760) (by decide +kernel), List.mem_of_getElem? (i := 926) (by decide +kernel), List.mem_of_getElem? (i := 927) (by decide +kernel)⟩
theorem lw_p21 : lw_okq (⟨"OunceLettersModel", "counts", "(I)V"⟩, 30) := ⟨⟨by decide +kernel, by decide +kernel⟩, List.mem_of_getElem? (i := 760) (by decide +kernel), List.mem_of_getElem? (i := 933) (by decide +kernel), List.mem_of_getElem? (i := 934) (by decide +kernel)⟩
theorem lw_p22 : lw_okq (⟨"OunceLettersModel", "reads", "()V"⟩, 30) := ⟨⟨by decide +kernel, by decide +kernel⟩, List.mem_of_getElem? (i := 760) (by decide +kernel), List.mem_of_getElem? (i := 941) (by decide +kernel), List.mem_of_getElem? (i := 942) (by decide +kernel)⟩
theorem lw_p23 : lw_okq (⟨"OunceLettersModel", "isHouse", "(I)Z"⟩, 30) := ⟨⟨by decide +kernel, by decide +kernel⟩, List.mem_of_getElem? (i := 760) (by decide +kernel), List.mem_of_getElem? (i := 945) (by decide +kernel), List.mem_of_getElem? (i := 946) (by decide +kernel)⟩
theorem lw_p24 : lw_okq (⟨"OunceLettersModel", "isTerm", "(I)Z"⟩, 30) := ⟨⟨by decide +kernel, by decide +kernel⟩, List.mem_of_getElem? (i := 760) (by decide +kernel), List.mem_of_getElem? (i := 953) (by decide +kernel), List.mem_of_getElem? (i := 954) (by decide +kernel)⟩
theorem lw_p25 : lw_okq (⟨"OunceLettersModel", "wordOf", "(II)I"⟩, 30) := ⟨⟨by decide +kernel, by decide +kernel⟩, List.mem_of_getElem? (i := 760) (by decide +kernel), List.mem_of_getElem? (i := 958) (by decide +kernel), List.mem_of_getElem? (i := 959) (by decide +kernel)⟩
theorem lw_p26 : lw_okq (⟨"OunceLettersModel", "writes", "(III)V"⟩, 30) := ⟨⟨by decide +kernel, by decide +kernel⟩, List.mem_of_getElem? (i := 760) (by decide +kernel), List.mem_of_getElem? (i := 978) (by decide +kernel), List.mem_of_getElem? (i := 979) (by decide +kernel)⟩
theorem lw_p27 : lw_okq (⟨"OunceLettersModel", "find", "()V"⟩, 30) := ⟨⟨by decide +kernel, by decide +kernel⟩, List.mem_of_getElem? (i := 760) (by decide +kernel), List.mem_of_getElem? (i := 999) (by decide +kernel), List.mem_of_getElem? (i := 1000) (by decide +kernel)⟩
theorem lw_p28 : lw_okq (⟨"OunceLettersModel", "hasOf", "(III)I"⟩, 30) := ⟨⟨by decide +kernel, by decide +kernel⟩, List.mem_of_getElem? (i := 760) (by decide +kernel), List.mem_of_getElem? (i := 1004) (by decide +kernel), List.mem_of_getElem? (i := 1005) (by decide +kernel)⟩
theorem lw_p29 : lw_okq (⟨"OunceLettersModel", "lives", "(I)V"⟩, 30) := ⟨⟨by decide +kernel, by decide +kernel⟩, List.mem_of_getElem? (i := 760) (by decide +kernel), List.mem_of_getElem? (i := 1008) (by decide +kernel), List.mem_of_getElem? (i := 1009) (by decide +kernel)⟩
theorem lw_p30 : lw_okq (⟨"OunceLettersModel", "begins", "()V"⟩, 30) := ⟨⟨by decide +kernel, by decide +kernel⟩, List.mem_of_getElem? (i := 760) (by decide +kernel), List.mem_of_getElem? (i := 1012) (by decide +kernel), List.mem_of_getElem? (i := 1013) (by decide +kernel)⟩
theorem lw_p31 : lw_okq (⟨"OunceLettersModel", "rationsOut", "()V"⟩, 30) := ⟨⟨by decide +kernel, by decide +kernel⟩, List.mem_of_getElem? (i := 760) (by decide +kernel), List.mem_of_getElem? (i := 1016) (by decide +kernel), List.mem_of_getElem? (i := 1017) (by decide +kernel)⟩
def lw_privs_2 : List (MethodName × Nat) := [(⟨"OunceLetters$Chance", "advance", "(I)V"⟩, 7), (⟨"OunceLettersModel", "finds", "(I)I"⟩, 30), (⟨"OunceLettersModel", "lacks", "(III)I"⟩, 30), (⟨"OunceLettersModel", "readsHouses", "()I"⟩, 30), (⟨"OunceLettersModel", "readsTerms", "()I"⟩, 30), (⟨"OunceLettersModel", "counts", "(I)V"⟩, 30), (⟨"OunceLettersModel", "reads", "()V"⟩, 30), (⟨"OunceLettersModel", "isHouse", "(I)Z"⟩, 30), (⟨"OunceLettersModel", "isTerm", "(I)Z"⟩, 30), (⟨"OunceLettersModel", "wordOf", "(II)I"⟩, 30), (⟨"OunceLettersModel", "writes", "(III)V"⟩, 30), (⟨"OunceLettersModel", "find", "()V"⟩, 30), (⟨"OunceLettersModel", "hasOf", "(III)I"⟩, 30), (⟨"OunceLettersModel", "lives", "(I)V"⟩, 30), (⟨"OunceLettersModel", "begins", "()V"⟩, 30), (⟨"OunceLettersModel", "rationsOut", "()V"⟩, 30)]
theorem lw_r2 : ∀ q ∈ lw_privs_2, lw_okq q := List.forall_mem_cons.mpr ⟨lw_p16, List.forall_mem_cons.mpr ⟨lw_p17, List.forall_mem_cons.mpr ⟨lw_p18, List.forall_mem_cons.mpr ⟨lw_p19, List.forall_mem_cons.mpr ⟨lw_p20, List.forall_mem_cons.mpr ⟨lw_p21, List.forall_mem_cons.mpr ⟨lw_p22, List.forall_mem_cons.mpr ⟨lw_p23, List.forall_mem_cons.mpr ⟨lw_p24, List.forall_mem_cons.mpr ⟨lw_p25, List.forall_mem_cons.mpr ⟨lw_p26, List.forall_mem_cons.mpr ⟨lw_p27, List.forall_mem_cons.mpr ⟨lw_p28, List.forall_mem_cons.mpr ⟨lw_p29, List.forall_mem_cons.mpr ⟨lw_p30, List.forall_mem_cons.mpr ⟨lw_p31, fun _ h => absurd h List.not_mem_nil⟩⟩⟩⟩⟩⟩⟩⟩⟩⟩⟩⟩⟩⟩⟩⟩
theorem lw_p32 : lw_okq (⟨"OunceLettersModel", "lends", "(I)V"⟩, 30) := ⟨⟨by decide +kernel, by decide +kernel⟩, List.mem_of_getElem? (i := 760) (by decide +kernel), List.mem_of_getElem? (i := 1020) (by decide +kernel), List.mem_of_getElem? (i := 1021) (by decide +kernel)⟩
theorem lw_p33 : lw_okq (⟨"OunceLettersModel", "tries", "(I)V"⟩, 30) := ⟨⟨by decide +kernel, by decide +kernel⟩, List.mem_of_getElem? (i := 760) (by decide +kernel), List.mem_of_getElem? (i := 1027) (by decide +kernel), List.mem_of_getElem? (i := 1028) (by decide +kernel)⟩
theorem lw_p34 : lw_okq (⟨"OunceLettersModel", "lacksFor", "(IIZ)I"⟩, 30) := ⟨⟨by decide +kernel, by decide +kernel⟩, List.mem_of_getElem? (i := 760) (by decide +kernel), List.mem_of_getElem? (i := 1031) (by decide +kernel), List.mem_of_getElem? (i := 1032) (by decide +kernel)⟩
theorem lw_p35 : lw_okq (⟨"OunceLettersModel", "hasOthers", "(I)Z"⟩, 30) := ⟨⟨by decide +kernel, by decide +kernel⟩, List.mem_of_getElem? (i := 760) (by decide +kernel), List.mem_of_getElem? (i := 1038) (by decide +kernel), List.mem_of_getElem? (i := 1039) (by decide +kernel)⟩
theorem lw_p36 : lw_okq (⟨"OunceLettersModel", "spends", "(IIZ)V"⟩, 30) := ⟨⟨by decide +kernel, by decide +kernel⟩, List.mem_of_getElem? (i := 760) (by decide +kernel), List.mem_of_getElem? (i := 1042) (by decide +kernel), List.mem_of_getElem? (i := 1043) (by decide +kernel)⟩
theorem lw_p37 : lw_okq (⟨"OunceLettersModel", "allOf", "(I)I"⟩, 30) := ⟨⟨by decide +kernel, by decide +kernel⟩, List.mem_of_getElem? (i := 760) (by decide +kernel), List.mem_of_getElem? (i := 1046) (by decide +kernel), List.mem_of_getElem? (i := 1047) (by decide +kernel)⟩
theorem lw_p38 : lw_okq (⟨"OunceLettersModel", "becameOf", "(I)I"⟩, 30) := ⟨⟨by decide +kernel, by decide +kernel⟩, List.mem_of_getElem? (i := 760) (by decide +kernel), List.mem_of_getElem? (i := 1054) (by decide +kernel), List.mem_of_getElem? (i := 1055) (by decide +kernel)⟩
theorem lw_p39 : lw_okq (⟨"OunceLettersModel", "finesOf", "(I)I"⟩, 30) := ⟨⟨by decide +kernel, by decide +kernel⟩, List.mem_of_getElem? (i := 760) (by decide +kernel), List.mem_of_getElem? (i := 1062) (by decide +kernel), List.mem_of_getElem? (i := 1063) (by decide +kernel)⟩
theorem lw_p40 : lw_okq (⟨"OunceLettersModel", "spentOf", "(I)I"⟩, 30) := ⟨⟨by decide +kernel, by decide +kernel⟩, List.mem_of_getElem? (i := 760) (by decide +kernel), List.mem_of_getElem? (i := 1070) (by decide +kernel), List.mem_of_getElem? (i := 1071) (by decide +kernel)⟩
theorem lw_p41 : lw_okq (⟨"OunceLettersModel", "bareOf", "(I)I"⟩, 30) := ⟨⟨by decide +kernel, by decide +kernel⟩, List.mem_of_getElem? (i := 760) (by decide +kernel), List.mem_of_getElem? (i := 1078) (by decide +kernel), List.mem_of_getElem? (i := 1079) (by decide +kernel)⟩
theorem lw_p42 : lw_okq (⟨"OunceLettersModel", "sayOf", "(III)I"⟩, 30) := ⟨⟨by decide +kernel, by decide +kernel⟩, List.mem_of_getElem? (i := 760) (by decide +kernel), List.mem_of_getElem? (i := 1086) (by decide +kernel), List.mem_of_getElem? (i := 1087) (by decide +kernel)⟩
theorem lw_p43 : lw_okq (⟨"OunceLettersModel", "mostOf", "(III)I"⟩, 30) := ⟨⟨by decide +kernel, by decide +kernel⟩, List.mem_of_getElem? (i := 760) (by decide +kernel), List.mem_of_getElem? (i := 1094) (by decide +kernel), List.mem_of_getElem? (i := 1095) (by decide +kernel)⟩
theorem lw_p44 : lw_okq (⟨"OunceLettersModel", "all", "(II)I"⟩, 30) := ⟨⟨by decide +kernel, by decide +kernel⟩, List.mem_of_getElem? (i := 760) (by decide +kernel), List.mem_of_getElem? (i := 1101) (by decide +kernel), List.mem_of_getElem? (i := 1102) (by decide +kernel)⟩
theorem lw_p45 : lw_okq (⟨"OunceLettersModel", "papersOf", "(II)I"⟩, 30) := ⟨⟨by decide +kernel, by decide +kernel⟩, List.mem_of_getElem? (i := 760) (by decide +kernel), List.mem_of_getElem? (i := 1109) (by decide +kernel), List.mem_of_getElem? (i := 1110) (by decide +kernel)⟩
theorem lw_p46 : lw_okq (⟨"OunceLettersModel", "lendOf", "(I)I"⟩, 30) := ⟨⟨by decide +kernel, by decide +kernel⟩, List.mem_of_getElem? (i := 760) (by decide +kernel), List.mem_of_getElem? (i := 1117) (by decide +kernel), List.mem_of_getElem? (i := 1118) (by decide +kernel)⟩
theorem lw_p47 : lw_okq (⟨"OunceLettersModel", "meantOf", "(I)I"⟩, 30) := ⟨⟨by decide +kernel, by decide +kernel⟩, List.mem_of_getElem? (i := 760) (by decide +kernel), List.mem_of_getElem? (i := 1125) (by decide +kernel), List.mem_of_getElem? (i := 1126) (by decide +kernel)⟩
def lw_privs_3 : List (MethodName × Nat) := [(⟨"OunceLettersModel", "lends", "(I)V"⟩, 30), (⟨"OunceLettersModel", "tries", "(I)V"⟩, 30), (⟨"OunceLettersModel", "lacksFor", "(IIZ)I"⟩, 30), (⟨"OunceLettersModel", "hasOthers", "(I)Z"⟩, 30), (⟨"OunceLettersModel", "spends", "(IIZ)V"⟩, 30), (⟨"OunceLettersModel", "allOf", "(I)I"⟩, 30), (⟨"OunceLettersModel", "becameOf", "(I)I"⟩, 30), (⟨"OunceLettersModel", "finesOf", "(I)I"⟩, 30), (⟨"OunceLettersModel", "spentOf", "(I)I"⟩, 30), (⟨"OunceLettersModel", "bareOf", "(I)I"⟩, 30), (⟨"OunceLettersModel", "sayOf", "(III)I"⟩, 30), (⟨"OunceLettersModel", "mostOf", "(III)I"⟩, 30), (⟨"OunceLettersModel", "all", "(II)I"⟩, 30), (⟨"OunceLettersModel", "papersOf", "(II)I"⟩, 30), (⟨"OunceLettersModel", "lendOf", "(I)I"⟩, 30), (⟨"OunceLettersModel", "meantOf", "(I)I"⟩, 30)]
theorem lw_r3 : ∀ q ∈ lw_privs_3, lw_okq q := List.forall_mem_cons.mpr ⟨lw_p32, List.forall_mem_cons.mpr ⟨lw_p33, List.forall_mem_cons.mpr ⟨lw_p34, List.forall_mem_cons.mpr ⟨lw_p35, List.forall_mem_cons.mpr ⟨lw_p36, List.forall_mem_cons.mpr ⟨lw_p37, List.forall_mem_cons.mpr ⟨lw_p38, List.forall_mem_cons.mpr ⟨lw_p39, List.forall_mem_cons.mpr ⟨lw_p40, List.forall_mem_cons.mpr ⟨lw_p41, List.forall_mem_cons.mpr ⟨lw_p42, List.forall_mem_cons.mpr ⟨lw_p43, List.forall_mem_cons.mpr ⟨lw_p44, List.forall_mem_cons.mpr ⟨lw_p45, List.forall_mem_cons.mpr ⟨lw_p46, List.forall_mem_cons.mpr ⟨lw_p47, fun _ h => absurd h List.not_mem_nil⟩⟩⟩⟩⟩⟩⟩⟩⟩⟩⟩⟩⟩⟩⟩⟩
theorem lw_p48 : lw_okq (⟨"OunceLettersModel", "readsAlike", "(II)Z"⟩, 30) := ⟨⟨by decide +kernel, by decide +kernel⟩, List.mem_of_getElem? (i := 760) (by decide +kernel), List.mem_of_getElem? (i := 1129) (by decide +kernel), List.mem_of_getElem? (i := 1130) (by decide +kernel)⟩
theorem lw_p49 : lw_okq (⟨"OunceLettersModel", "other", "(II)I"⟩, 30) := ⟨⟨by decide +kernel, by decide +kernel⟩, List.mem_of_getElem? (i := 760) (by decide +kernel), List.mem_of_getElem? (i := 1133) (by decide +kernel), List.mem_of_getElem? (i := 1134) (by decide +kernel)⟩
theorem lw_p50 : lw_okq (⟨"OunceLettersModel", "neverNow", "()I"⟩, 30) := ⟨⟨by decide +kernel, by decide +kernel⟩, List.mem_of_getElem? (i := 760) (by decide +kernel), List.mem_of_getElem? (i := 1150) (by decide +kernel), List.mem_of_getElem? (i := 1151) (by decide +kernel)⟩
theorem lw_p51 : lw_okq (⟨"OunceLettersModel", "isSeen", "()Z"⟩, 30) := ⟨⟨by decide +kernel, by decide +kernel⟩, List.mem_of_getElem? (i := 760) (by decide +kernel), List.mem_of_getElem? (i := 1154) (by decide +kernel), List.mem_of_getElem? (i := 1155) (by decide +kernel)⟩
theorem lw_p52 : lw_okq (⟨"OunceLettersModel", "gotOf", "(I)I"⟩, 30) := ⟨⟨by decide +kernel, by decide +kernel⟩, List.mem_of_getElem? (i := 760) (by decide +kernel), List.mem_of_getElem? (i := 1162) (by decide +kernel), List.mem_of_getElem? (i := 1163) (by decide +kernel)⟩
theorem lw_p53 : lw_okq (⟨"OunceLettersModel", "askOf", "(II)I"⟩, 30) := ⟨⟨by decide +kernel, by decide +kernel⟩, List.mem_of_getElem? (i := 760) (by decide +kernel), List.mem_of_getElem? (i := 1170) (by decide +kernel), List.mem_of_getElem? (i := 1171) (by decide +kernel)⟩
theorem lw_p54 : lw_okq (⟨"OunceLettersModel", "mostAlike", "(II)I"⟩, 30) := ⟨⟨by decide +kernel, by decide +kernel⟩, List.mem_of_getElem? (i := 760) (by decide +kernel), List.mem_of_getElem? (i := 1174) (by decide +kernel), List.mem_of_getElem? (i := 1175) (by decide +kernel)⟩
theorem lw_p55 : lw_okq (⟨"OunceLettersModel", "censorOf", "(IIII)J"⟩, 30) := ⟨⟨by decide +kernel, by decide +kernel⟩, List.mem_of_getElem? (i := 760) (by decide +kernel), List.mem_of_getElem? (i := 1187) (by decide +kernel), List.mem_of_getElem? (i := 1188) (by decide +kernel)⟩
theorem lw_p56 : lw_okq (⟨"OunceLettersModel", "postOf", "(III)I"⟩, 30) := ⟨⟨by decide +kernel, by decide +kernel⟩, List.mem_of_getElem? (i := 760) (by decide +kernel), List.mem_of_getElem? (i := 1202) (by decide +kernel), List.mem_of_getElem? (i := 1203) (by decide +kernel)⟩
theorem lw_p57 : lw_okq (⟨"OunceLettersModel", "lot", "(I)I"⟩, 30) := ⟨⟨by decide +kernel, by decide +kernel⟩, List.mem_of_getElem? (i := 760) (by decide +kernel), List.mem_of_getElem? (i := 1206) (by decide +kernel), List.mem_of_getElem? (i := 1207) (by decide +kernel)⟩
theorem lw_p58 : lw_okq (⟨"OunceLettersModel", "allFined", "()I"⟩, 30) := ⟨⟨by decide +kernel, by decide +kernel⟩, List.mem_of_getElem? (i := 760) (by decide +kernel), List.mem_of_getElem? (i := 1219) (by decide +kernel), List.mem_of_getElem? (i := 1220) (by decide +kernel)⟩
theorem lw_p59 : lw_okq (⟨"OunceLettersModel", "tellsHouse", "(JI)J"⟩, 30) := ⟨⟨by decide +kernel, by decide +kernel⟩, List.mem_of_getElem? (i := 760) (by decide +kernel), List.mem_of_getElem? (i := 1230) (by decide +kernel), List.mem_of_getElem? (i := 1231) (by decide +kernel)⟩
theorem lw_p60 : lw_okq (⟨"OunceLettersModel", "tellsTerm", "(JI)J"⟩, 30) := ⟨⟨by decide +kernel, by decide +kernel⟩, List.mem_of_getElem? (i := 760) (by decide +kernel), List.mem_of_getElem? (i := 1234) (by decide +kernel), List.mem_of_getElem? (i := 1235) (by decide +kernel)⟩
def lw_privs_4 : List (MethodName × Nat) := [(⟨"OunceLettersModel", "readsAlike", "(II)Z"⟩, 30), (⟨"OunceLettersModel", "other", "(II)I"⟩, 30), (⟨"OunceLettersModel", "neverNow", "()I"⟩, 30), (⟨"OunceLettersModel", "isSeen", "()Z"⟩, 30), (⟨"OunceLettersModel", "gotOf", "(I)I"⟩, 30), (⟨"OunceLettersModel", "askOf", "(II)I"⟩, 30), (⟨"OunceLettersModel", "mostAlike", "(II)I"⟩, 30), (⟨"OunceLettersModel", "censorOf", "(IIII)J"⟩, 30), (⟨"OunceLettersModel", "postOf", "(III)I"⟩, 30), (⟨"OunceLettersModel", "lot", "(I)I"⟩, 30), (⟨"OunceLettersModel", "allFined", "()I"⟩, 30), (⟨"OunceLettersModel", "tellsHouse", "(JI)J"⟩, 30), (⟨"OunceLettersModel", "tellsTerm", "(JI)J"⟩, 30)]
theorem lw_r4 : ∀ q ∈ lw_privs_4, lw_okq q := List.forall_mem_cons.mpr ⟨lw_p48, List.forall_mem_cons.mpr ⟨lw_p49, List.forall_mem_cons.mpr ⟨lw_p50, List.forall_mem_cons.mpr ⟨lw_p51, List.forall_mem_cons.mpr ⟨lw_p52, List.forall_mem_cons.mpr ⟨lw_p53, List.forall_mem_cons.mpr ⟨lw_p54, List.forall_mem_cons.mpr ⟨lw_p55, List.forall_mem_cons.mpr ⟨lw_p56, List.forall_mem_cons.mpr ⟨lw_p57, List.forall_mem_cons.mpr ⟨lw_p58, List.forall_mem_cons.mpr ⟨lw_p59, List.forall_mem_cons.mpr ⟨lw_p60, fun _ h => absurd h List.not_mem_nil⟩⟩⟩⟩⟩⟩⟩⟩⟩⟩⟩⟩⟩
def lw_privs : List (MethodName × Nat) := lw_privs_1 ++ (lw_privs_2 ++ (lw_privs_3 ++ (lw_privs_4)))
def lw_tbl : List Cond := k2_sels lw_privs ++ tables_1
theorem lw_privs_ok : ∀ q ∈ lw_privs, lw_okq q := by
  show ∀ q ∈ lw_privs_1 ++ (lw_privs_2 ++ (lw_privs_3 ++ (lw_privs_4))), lw_okq q
  exact List.forall_mem_append.mpr ⟨lw_r1, List.forall_mem_append.mpr ⟨lw_r2, List.forall_mem_append.mpr ⟨lw_r3, lw_r4⟩⟩⟩

def ol_TX0 : u_T := fun k => match k with
  | 0 => ("OunceLetters$Chance", "rules", "LOunceLetters$Rules;", true)
  | 1 => ("OunceLetters$Chance", "told", "LOunceLetters$Told;", true)
  | 2 => ("OunceLetters$Chance", "order", "[I", true)
  | 3 => ("OunceLetters$Chance", "stock", "[[I", true)
  | 4 => ("OunceLetters$Chance", "fines", "[I", true)
  | 5 => ("OunceLetters$Chance", "ways", "[[I", true)
  | _ => ("OunceLetters$Chance", "live", "I", false)
def ol_tyX0 : Nat → FieldType := fun k => match k with
  | 0 => .object "OunceLetters$Rules"
  | 1 => .object "OunceLetters$Told"
  | 2 => .array .int
  | 3 => .array (.array .int)
  | 4 => .array .int
  | 5 => .array (.array .int)
  | _ => .int
def ol_TX1 : u_T := fun k => match k with
  | 0 => ("OunceLetters$Text", "bytes", "[I", true)
  | 1 => ("OunceLetters$Text", "limit", "I", true)
  | 2 => ("OunceLetters$Text", "length", "I", false)
  | 3 => ("OunceLetters$Text", "many", "I", false)
  | 4 => ("OunceLetters$Text", "fault", "I", false)
  | 5 => ("OunceLetters$Houses", "kind", "[I", true)
  | _ => ("OunceLetters$Houses", "heads", "[I", true)
def ol_tyX1 : Nat → FieldType := fun k => match k with
  | 0 => .array .int
  | 1 => .int
  | 2 => .int
  | 3 => .int
  | 4 => .int
  | 5 => .array .int
  | _ => .array .int
def ol_TX2 : u_T := fun k => match k with
  | 0 => ("OunceLetters$Rules", "houses", "LOunceLetters$Houses;", true)
  | 1 => ("OunceLetters$Rules", "terms", "LOunceLetters$Terms;", true)
  | _ => ("OunceLetters$Rules", "told", "LOunceLetters$Told;", true)
def ol_tyX2 : Nat → FieldType := fun k => match k with
  | 0 => .object "OunceLetters$Houses"
  | 1 => .object "OunceLetters$Terms"
  | _ => .object "OunceLetters$Told"
def ol_TX3 : u_T := fun k => match k with
  | 0 => ("OunceLetters$Run", "rules", "LOunceLetters$Rules;", true)
  | 1 => ("OunceLetters$Run", "told", "LOunceLetters$Told;", true)
  | 2 => ("OunceLetters$Run", "rations", "[I", true)
  | 3 => ("OunceLetters$Run", "stock", "[I", true)
  | 4 => ("OunceLetters$Run", "behind", "[[I", true)
  | 5 => ("OunceLetters$Run", "outcome", "[I", true)
  | 6 => ("OunceLetters$Run", "leftOut", "I", false)
  | _ => ("OunceLetters$Run", "lends", "Z", false)
def ol_tyX3 : Nat → FieldType := fun k => match k with
  | 0 => .object "OunceLetters$Rules"
  | 1 => .object "OunceLetters$Told"
  | 2 => .array .int
  | 3 => .array .int
  | 4 => .array (.array .int)
  | 5 => .array .int
  | 6 => .int
  | _ => .boolean
def ol_TX4 : u_T := fun k => match k with
  | 0 => ("OunceLetters$Sheets", "form", "[I", true)
  | 1 => ("OunceLetters$Sheets", "size", "[I", true)
  | _ => ("OunceLetters$Sheets", "items", "[[I", true)
def ol_tyX4 : Nat → FieldType := fun k => match k with
  | 0 => .array .int
  | 1 => .array .int
  | _ => .array (.array .int)
def ol_TX5 : u_T := fun k => match k with
  | 0 => ("OunceLetters$Text", "bytes", "[I", true)
  | 1 => ("OunceLetters$Text", "limit", "I", true)
  | 2 => ("OunceLetters$Text", "length", "I", false)
  | 3 => ("OunceLetters$Text", "many", "I", false)
  | 4 => ("OunceLetters$Text", "fault", "I", false)
  | 5 => ("OunceLetters$Terms", "spelling", "[[I", true)
  | 6 => ("OunceLetters$Terms", "need", "[[I", true)
  | 7 => ("OunceLetters$Terms", "hardNeed", "[[I", true)
  | 8 => ("OunceLetters$Terms", "size", "[I", true)
  | 9 => ("OunceLetters$Terms", "hard", "[I", true)
  | _ => ("OunceLetters$Terms", "meaning", "[I", true)
def ol_tyX5 : Nat → FieldType := fun k => match k with
  | 0 => .array .int
  | 1 => .int
  | 2 => .int
  | 3 => .int
  | 4 => .int
  | 5 => .array (.array .int)
  | 6 => .array (.array .int)
  | 7 => .array (.array .int)
  | 8 => .array .int
  | 9 => .array .int
  | _ => .array .int
def ol_TX7 : u_T := fun k => match k with
  | 0 => ("OunceLetters$Told", "rations", "[I", true)
  | 1 => ("OunceLetters$Told", "writingMonth", "[I", true)
  | 2 => ("OunceLetters$Told", "writingHouse", "[I", true)
  | 3 => ("OunceLetters$Told", "writingTerm", "[I", true)
  | 4 => ("OunceLetters$Told", "writings", "I", false)
  | 5 => ("OunceLetters$Told", "lendingMonth", "[I", true)
  | 6 => ("OunceLetters$Told", "lendingHouse", "[I", true)
  | 7 => ("OunceLetters$Told", "lendingTo", "[I", true)
  | 8 => ("OunceLetters$Told", "lendingLetter", "[I", true)
  | 9 => ("OunceLetters$Told", "lendings", "I", false)
  | 10 => ("OunceLetters$Told", "sightMonth", "[I", true)
  | 11 => ("OunceLetters$Told", "sightHouse", "[I", true)
  | 12 => ("OunceLetters$Told", "sightLetter", "[I", true)
  | 13 => ("OunceLetters$Told", "sightMany", "[I", true)
  | _ => ("OunceLetters$Told", "sights", "I", false)
def ol_tyX7 : Nat → FieldType := fun k => match k with
  | 0 => .array .int
  | 1 => .array .int
  | 2 => .array .int
  | 3 => .array .int
  | 4 => .int
  | 5 => .array .int
  | 6 => .array .int
  | 7 => .array .int
  | 8 => .array .int
  | 9 => .int
  | 10 => .array .int
  | 11 => .array .int
  | 12 => .array .int
  | 13 => .array .int
  | _ => .int
def ol_TX8 : u_T := fun k => match k with
  | 0 => ("OunceLetters", "houses", "LOunceLetters$Houses;", true)
  | 1 => ("OunceLetters", "terms", "LOunceLetters$Terms;", true)
  | 2 => ("OunceLetters", "told", "LOunceLetters$Told;", true)
  | 3 => ("OunceLetters", "rules", "LOunceLetters$Rules;", true)
  | 4 => ("OunceLetters", "asTold", "LOunceLetters$Run;", true)
  | 5 => ("OunceLetters", "other", "LOunceLetters$Run;", true)
  | 6 => ("OunceLetters", "chance", "LOunceLetters$Chance;", true)
  | 7 => ("OunceLetters", "sheets", "LOunceLetters$Sheets;", true)
  | 8 => ("OunceLetters", "without", "[[I", true)
  | 9 => ("OunceLetters", "latestFinding", "I", false)
  | 10 => ("OunceLetters", "runIsOld", "Z", false)
  | _ => ("OunceLetters", "chanceIsOld", "Z", false)
def ol_tyX8 : Nat → FieldType := fun k => match k with
  | 0 => .object "OunceLetters$Houses"
  | 1 => .object "OunceLetters$Terms"
  | 2 => .object "OunceLetters$Told"
  | 3 => .object "OunceLetters$Rules"
  | 4 => .object "OunceLetters$Run"
  | 5 => .object "OunceLetters$Run"
  | 6 => .object "OunceLetters$Chance"
  | 7 => .object "OunceLetters$Sheets"
  | 8 => .array (.array .int)
  | 9 => .int
  | 10 => .boolean
  | _ => .boolean
def ol_TX9 : u_T := fun k => match k with
  | 0 => ("OunceLettersModel", "forms", "[I", true)
  | 1 => ("OunceLettersModel", "sizes", "[I", true)
  | 2 => ("OunceLettersModel", "items", "[I", true)
  | 3 => ("OunceLettersModel", "moved", "[I", true)
  | 4 => ("OunceLettersModel", "latest", "I", false)
  | 5 => ("OunceLettersModel", "bytes", "[I", true)
  | 6 => ("OunceLettersModel", "typed", "[I", true)
  | 7 => ("OunceLettersModel", "houses", "I", false)
  | 8 => ("OunceLettersModel", "house", "[I", true)
  | 9 => ("OunceLettersModel", "terms", "I", false)
  | 10 => ("OunceLettersModel", "spelt", "[I", true)
  | 11 => ("OunceLettersModel", "longs", "[I", true)
  | 12 => ("OunceLettersModel", "meaning", "[I", true)
  | 13 => ("OunceLettersModel", "needs", "[I", true)
  | 14 => ("OunceLettersModel", "rations", "[I", true)
  | 15 => ("OunceLettersModel", "writings", "I", false)
  | 16 => ("OunceLettersModel", "writing", "[I", true)
  | 17 => ("OunceLettersModel", "lendings", "I", false)
  | 18 => ("OunceLettersModel", "lending", "[I", true)
  | 19 => ("OunceLettersModel", "stock", "[I", true)
  | 20 => ("OunceLettersModel", "became", "[I", true)
  | 21 => ("OunceLettersModel", "lacked", "[I", true)
  | 22 => ("OunceLettersModel", "fined", "[I", true)
  | 23 => ("OunceLettersModel", "spent", "[I", true)
  | 24 => ("OunceLettersModel", "gone", "I", false)
  | 25 => ("OunceLettersModel", "lent", "I", false)
  | 26 => ("OunceLettersModel", "sights", "I", false)
  | 27 => ("OunceLettersModel", "sight", "[I", true)
  | 28 => ("OunceLettersModel", "counted", "[I", true)
  | _ => ("OunceLettersModel", "drawn", "I", false)
def ol_tyX9 : Nat → FieldType := fun k => match k with
  | 0 => .array .int
  | 1 => .array .int
  | 2 => .array .int
  | 3 => .array .int
  | 4 => .int
  | 5 => .array .int
  | 6 => .array .int
  | 7 => .int
  | 8 => .array .int
  | 9 => .int
  | 10 => .array .int
  | 11 => .array .int
  | 12 => .array .int
  | 13 => .array .int
  | 14 => .array .int
  | 15 => .int
  | 16 => .array .int
  | 17 => .int
  | 18 => .array .int
  | 19 => .array .int
  | 20 => .array .int
  | 21 => .array .int
  | 22 => .array .int
  | 23 => .array .int
  | 24 => .int
  | 25 => .int
  | 26 => .int
  | 27 => .array .int
  | 28 => .array .int
  | _ => .int
/-- the classes of which objects are made, numbered -/
def ol_cls : List vw_C := [("OunceLetters$Chance", ol_TX0, 7), ("OunceLetters$Houses", ol_TX1, 7), ("OunceLetters$Rules", ol_TX2, 3), ("OunceLetters$Run", ol_TX3, 8), ("OunceLetters$Sheets", ol_TX4, 3), ("OunceLetters$Terms", ol_TX5, 11), ("OunceLetters$Told", ol_TX7, 15), ("OunceLetters", ol_TX8, 12), ("OunceLettersModel", ol_TX9, 30)]
def ol_ex : List Cond := [.selects "OunceLetters$Houses" ⟨"OunceLetters$Text", "next", "(II)I"⟩ ⟨"OunceLetters$Text", "next", "(II)I"⟩, .selects "OunceLetters$Terms" ⟨"OunceLetters$Text", "next", "(II)I"⟩ ⟨"OunceLetters$Text", "next", "(II)I"⟩, .selects "OunceLetters$Houses" ⟨"OunceLetters$Text", "refuse", "(I)V"⟩ ⟨"OunceLetters$Text", "refuse", "(I)V"⟩, .selects "OunceLetters$Terms" ⟨"OunceLetters$Text", "refuse", "(I)V"⟩ ⟨"OunceLetters$Text", "refuse", "(I)V"⟩]
def ol_tb : List Cond := ol_ex ++ lw_tbl
def ol_gt : List Cond := ol_tb.filter goodWord
theorem ol_gm {w : Cond} (h : w ∈ ol_tb) (g : goodWord w = true) : w ∈ ol_gt := List.mem_filter.mpr ⟨h, g⟩
theorem ol_gd (w : Cond) (h : (decide (w ∈ ol_tb) && goodWord w) = true) : w ∈ ol_gt := by
  simp only [Bool.and_eq_true, decide_eq_true_eq] at h
  exact ol_gm h.1 h.2
theorem ol_ga (ws : List Cond) (h : ws.all (fun w => decide (w ∈ ol_tb) && goodWord w) = true) : ∀ w ∈ ws, w ∈ ol_gt := fun w hw => ol_gd w (List.all_eq_true.mp h w hw)
theorem ol_inX0 : ∀ w ∈ u_ws "OunceLetters$Chance" ol_TX0 7, w ∈ ol_gt := ol_ga _ (by decide +kernel)
theorem ol_tkX0 : ∀ k, k < 7 → parseFieldDescriptor (ol_TX0 k).2.2.1 = some (ol_tyX0 k) := by decide +kernel
theorem ol_nmX0 : ∀ a, a < 7 → ∀ b, b < 7 → a ≠ b → (ol_TX0 a).2.1 ≠ (ol_TX0 b).2.1 := by decide +kernel
theorem ol_inX1 : ∀ w ∈ u_ws "OunceLetters$Houses" ol_TX1 7, w ∈ ol_gt := ol_ga _ (by decide +kernel)
theorem ol_tkX1 : ∀ k, k < 7 → parseFieldDescriptor (ol_TX1 k).2.2.1 = some (ol_tyX1 k) := by decide +kernel
theorem ol_nmX1 : ∀ a, a < 7 → ∀ b, b < 7 → a ≠ b → (ol_TX1 a).2.1 ≠ (ol_TX1 b).2.1 := by decide +kernel
theorem ol_inX2 : ∀ w ∈ u_ws "OunceLetters$Rules" ol_TX2 3, w ∈ ol_gt := ol_ga _ (by decide +kernel)
theorem ol_tkX2 : ∀ k, k < 3 → parseFieldDescriptor (ol_TX2 k).2.2.1 = some (ol_tyX2 k) := by decide +kernel
theorem ol_nmX2 : ∀ a, a < 3 → ∀ b, b < 3 → a ≠ b → (ol_TX2 a).2.1 ≠ (ol_TX2 b).2.1 := by decide +kernel
theorem ol_inX3 : ∀ w ∈ u_ws "OunceLetters$Run" ol_TX3 8, w ∈ ol_gt := ol_ga _ (by decide +kernel)
theorem ol_tkX3 : ∀ k, k < 8 → parseFieldDescriptor (ol_TX3 k).2.2.1 = some (ol_tyX3 k) := by decide +kernel
theorem ol_nmX3 : ∀ a, a < 8 → ∀ b, b < 8 → a ≠ b → (ol_TX3 a).2.1 ≠ (ol_TX3 b).2.1 := by decide +kernel
theorem ol_inX4 : ∀ w ∈ u_ws "OunceLetters$Sheets" ol_TX4 3, w ∈ ol_gt := ol_ga _ (by decide +kernel)
theorem ol_tkX4 : ∀ k, k < 3 → parseFieldDescriptor (ol_TX4 k).2.2.1 = some (ol_tyX4 k) := by decide +kernel
theorem ol_nmX4 : ∀ a, a < 3 → ∀ b, b < 3 → a ≠ b → (ol_TX4 a).2.1 ≠ (ol_TX4 b).2.1 := by decide +kernel
theorem ol_inX5 : ∀ w ∈ u_ws "OunceLetters$Terms" ol_TX5 11, w ∈ ol_gt := ol_ga _ (by decide +kernel)
theorem ol_tkX5 : ∀ k, k < 11 → parseFieldDescriptor (ol_TX5 k).2.2.1 = some (ol_tyX5 k) := by decide +kernel
theorem ol_nmX5 : ∀ a, a < 11 → ∀ b, b < 11 → a ≠ b → (ol_TX5 a).2.1 ≠ (ol_TX5 b).2.1 := by decide +kernel
theorem ol_inX7 : ∀ w ∈ u_ws "OunceLetters$Told" ol_TX7 15, w ∈ ol_gt := ol_ga _ (by decide +kernel)
theorem ol_tkX7 : ∀ k, k < 15 → parseFieldDescriptor (ol_TX7 k).2.2.1 = some (ol_tyX7 k) := by decide +kernel
theorem ol_nmX7 : ∀ a, a < 15 → ∀ b, b < 15 → a ≠ b → (ol_TX7 a).2.1 ≠ (ol_TX7 b).2.1 := by decide +kernel
theorem ol_inX8 : ∀ w ∈ u_ws "OunceLetters" ol_TX8 12, w ∈ ol_gt := ol_ga _ (by decide +kernel)
theorem ol_tkX8 : ∀ k, k < 12 → parseFieldDescriptor (ol_TX8 k).2.2.1 = some (ol_tyX8 k) := by decide +kernel
theorem ol_nmX8 : ∀ a, a < 12 → ∀ b, b < 12 → a ≠ b → (ol_TX8 a).2.1 ≠ (ol_TX8 b).2.1 := by decide +kernel
theorem ol_inX9 : ∀ w ∈ u_ws "OunceLettersModel" ol_TX9 30, w ∈ ol_gt := ol_ga _ (by decide +kernel)
theorem ol_tkX9 : ∀ k, k < 30 → parseFieldDescriptor (ol_TX9 k).2.2.1 = some (ol_tyX9 k) := by decide +kernel
theorem ol_nmX9 : ∀ a, a < 30 → ∀ b, b < 30 → a ≠ b → (ol_TX9 a).2.1 ≠ (ol_TX9 b).2.1 := by decide +kernel
/-- what is known of a class by its number -/
theorem ol_cok {ci : Nat} {q : vw_C} (h : ol_cls[ci]? = some q) : (∀ w ∈ u_ws q.1 q.2.1 q.2.2, w ∈ ol_gt) ∧ (∃ ty : Nat → FieldType, ∀ k, k < q.2.2 → parseFieldDescriptor (q.2.1 k).2.2.1 = some (ty k)) ∧ (∀ a, a < q.2.2 → ∀ b, b < q.2.2 → a ≠ b → (q.2.1 a).2.1 ≠ (q.2.1 b).2.1) := by
  match ci, h with
  | 0, h => cases h; exact ⟨ol_inX0, ⟨ol_tyX0, ol_tkX0⟩, ol_nmX0⟩
  | 1, h => cases h; exact ⟨ol_inX1, ⟨ol_tyX1, ol_tkX1⟩, ol_nmX1⟩
  | 2, h => cases h; exact ⟨ol_inX2, ⟨ol_tyX2, ol_tkX2⟩, ol_nmX2⟩
  | 3, h => cases h; exact ⟨ol_inX3, ⟨ol_tyX3, ol_tkX3⟩, ol_nmX3⟩
  | 4, h => cases h; exact ⟨ol_inX4, ⟨ol_tyX4, ol_tkX4⟩, ol_nmX4⟩
  | 5, h => cases h; exact ⟨ol_inX5, ⟨ol_tyX5, ol_tkX5⟩, ol_nmX5⟩
  | 6, h => cases h; exact ⟨ol_inX7, ⟨ol_tyX7, ol_tkX7⟩, ol_nmX7⟩
  | 7, h => cases h; exact ⟨ol_inX8, ⟨ol_tyX8, ol_tkX8⟩, ol_nmX8⟩
  | 8, h => cases h; exact ⟨ol_inX9, ⟨ol_tyX9, ol_tkX9⟩, ol_nmX9⟩
  | n + 9, h => simp [ol_cls] at h
/-- a method: its name, its bytes, its locals, what it returns -/
abbrev ol_MD : Type := MethodName × ByteArray × Nat × Option FieldType
def q_X0_init : ol_MD := (⟨"OunceLetters$Chance", "<init>", "(LOunceLetters$Rules;LOunceLetters$Told;)V"⟩, prog_2_method_1_code, 3, none)
def q_X0_countAll : ol_MD := (⟨"OunceLetters$Chance", "countAll", "()V"⟩, prog_2_method_2_code, 2, none)
def q_X0_sortLive : ol_MD := (⟨"OunceLetters$Chance", "sortLive", "()V"⟩, prog_2_method_3_code, 3, none)
def q_X0_branch : ol_MD := (⟨"OunceLetters$Chance", "branch", "(II)V"⟩, prog_2_method_4_code, 6, none)
def q_X0_advance : ol_MD := (⟨"OunceLetters$Chance", "advance", "(I)V"⟩, prog_2_method_5_code, 5, none)
def q_X0_note : ol_MD := (⟨"OunceLetters$Chance", "note", "(I)V"⟩, prog_2_method_6_code, 3, none)
def q_X0_above : ol_MD := (⟨"OunceLetters$Chance", "above", "(III)J"⟩, prog_2_method_7_code, 10, (some .long))
def q_X1_init : ol_MD := (⟨"OunceLetters$Houses", "<init>", "()V"⟩, prog_3_method_1_code, 1, none)
def q_X1_step : ol_MD := (⟨"OunceLetters$Houses", "step", "(II)I"⟩, prog_3_method_2_code, 3, (some .int))
def q_X1_kindOf : ol_MD := (⟨"OunceLetters$Houses", "kindOf", "(I)I"⟩, prog_3_method_3_code, 1, (some .int))
def q_X2_init : ol_MD := (⟨"OunceLetters$Rules", "<init>", "(LOunceLetters$Houses;LOunceLetters$Terms;LOunceLetters$Told;)V"⟩, prog_4_method_1_code, 4, none)
def q_X2_handOut : ol_MD := (⟨"OunceLetters$Rules", "handOut", "([I[I)V"⟩, prog_4_method_2_code, 8, none)
def q_X2_moveLent : ol_MD := (⟨"OunceLetters$Rules", "moveLent", "([II)V"⟩, prog_4_method_3_code, 6, none)
def q_X2_moveOne : ol_MD := (⟨"OunceLetters$Rules", "moveOne", "([IIII)V"⟩, prog_4_method_4_code, 5, none)
def q_X2_settle : ol_MD := (⟨"OunceLetters$Rules", "settle", "([III)I"⟩, prog_4_method_5_code, 4, (some .int))
def q_X2_tookAll : ol_MD := (⟨"OunceLetters$Rules", "tookAll", "([II[I)Z"⟩, prog_4_method_6_code, 5, (some .boolean))
def q_X2_lacking : ol_MD := (⟨"OunceLetters$Rules", "lacking", "([III)I"⟩, prog_4_method_7_code, 6, (some .int))
def q_X2_canWriteAll : ol_MD := (⟨"OunceLetters$Rules", "canWriteAll", "([III)Z"⟩, prog_4_method_8_code, 5, (some .boolean))
def q_X2_allOf : ol_MD := (⟨"OunceLetters$Rules", "allOf", "([II)I"⟩, prog_4_method_9_code, 5, (some .int))
def q_X3_init : ol_MD := (⟨"OunceLetters$Run", "<init>", "(LOunceLetters$Rules;LOunceLetters$Told;)V"⟩, prog_5_method_1_code, 3, none)
def q_X3_clear : ol_MD := (⟨"OunceLetters$Run", "clear", "()V"⟩, prog_5_method_2_code, 1, none)
def q_X3_goMonths : ol_MD := (⟨"OunceLetters$Run", "goMonths", "(II)V"⟩, prog_5_method_3_code, 4, none)
def q_X3_goUpTo : ol_MD := (⟨"OunceLetters$Run", "goUpTo", "(I)V"⟩, prog_5_method_4_code, 3, none)
def q_X3_open : ol_MD := (⟨"OunceLetters$Run", "open", "(I)V"⟩, prog_5_method_5_code, 2, none)
def q_X3_writeBefore : ol_MD := (⟨"OunceLetters$Run", "writeBefore", "(II)V"⟩, prog_5_method_6_code, 4, none)
def q_X3_finesOf : ol_MD := (⟨"OunceLetters$Run", "finesOf", "(I)I"⟩, prog_5_method_7_code, 4, (some .int))
def q_X3_isAsSeen : ol_MD := (⟨"OunceLetters$Run", "isAsSeen", "()Z"⟩, prog_5_method_8_code, 4, (some .boolean))
def q_X4_init : ol_MD := (⟨"OunceLetters$Sheets", "<init>", "()V"⟩, prog_6_method_1_code, 1, none)
def q_X4_isLost : ol_MD := (⟨"OunceLetters$Sheets", "isLost", "(I)Z"⟩, prog_6_method_2_code, 2, (some .boolean))
def q_X4_make : ol_MD := (⟨"OunceLetters$Sheets", "make", "(III)V"⟩, prog_6_method_3_code, 4, none)
def q_X4_findingAt : ol_MD := (⟨"OunceLetters$Sheets", "findingAt", "(III)I"⟩, prog_6_method_4_code, 4, (some .int))
def q_X4_holds : ol_MD := (⟨"OunceLetters$Sheets", "holds", "(III)Z"⟩, prog_6_method_5_code, 4, (some .boolean))
def q_X4_item : ol_MD := (⟨"OunceLetters$Sheets", "item", "(II)I"⟩, prog_6_method_6_code, 3, (some .int))
def q_X4_put : ol_MD := (⟨"OunceLetters$Sheets", "put", "(III)V"⟩, prog_6_method_7_code, 4, none)
def q_X5_init : ol_MD := (⟨"OunceLetters$Terms", "<init>", "()V"⟩, prog_7_method_1_code, 1, none)
def q_X5_step : ol_MD := (⟨"OunceLetters$Terms", "step", "(II)I"⟩, prog_7_method_2_code, 3, (some .int))
def q_X5_begin : ol_MD := (⟨"OunceLetters$Terms", "begin", "()V"⟩, prog_7_method_3_code, 1, none)
def q_X5_addLetter : ol_MD := (⟨"OunceLetters$Terms", "addLetter", "(I)V"⟩, prog_7_method_4_code, 2, none)
def q_X5_canBeCutFrom : ol_MD := (⟨"OunceLetters$Terms", "canBeCutFrom", "(II)Z"⟩, prog_7_method_5_code, 4, (some .boolean))
def q_X5_sumOf : ol_MD := (⟨"OunceLetters$Terms", "sumOf", "(II)I"⟩, prog_7_method_6_code, 5, (some .int))
def q_X5_readAlike : ol_MD := (⟨"OunceLetters$Terms", "readAlike", "(II)Z"⟩, prog_7_method_7_code, 4, (some .boolean))
def q_X5_hardLetter : ol_MD := (⟨"OunceLetters$Terms", "hardLetter", "(II)I"⟩, prog_7_method_8_code, 5, (some .int))
def q_X6_init : ol_MD := (⟨"OunceLetters$Text", "<init>", "(I)V"⟩, prog_8_method_1_code, 2, none)
def q_X6_readAgain : ol_MD := (⟨"OunceLetters$Text", "readAgain", "()V"⟩, prog_8_method_3_code, 3, none)
def q_X6_next : ol_MD := (⟨"OunceLetters$Text", "next", "(II)I"⟩, prog_8_method_4_code, 3, (some .int))
def q_X6_refuse : ol_MD := (⟨"OunceLetters$Text", "refuse", "(I)V"⟩, prog_8_method_5_code, 2, none)
def q_X7_init : ol_MD := (⟨"OunceLetters$Told", "<init>", "()V"⟩, prog_9_method_1_code, 1, none)
def q_X7_addWriting : ol_MD := (⟨"OunceLetters$Told", "addWriting", "(III)V"⟩, prog_9_method_2_code, 4, none)
def q_X7_addLending : ol_MD := (⟨"OunceLetters$Told", "addLending", "(IIII)V"⟩, prog_9_method_3_code, 5, none)
def q_X7_addSight : ol_MD := (⟨"OunceLetters$Told", "addSight", "(IIII)V"⟩, prog_9_method_4_code, 5, none)
def q_X7_lastSightMonth : ol_MD := (⟨"OunceLetters$Told", "lastSightMonth", "()I"⟩, prog_9_method_5_code, 3, (some .int))
def q_X8_init : ol_MD := (⟨"OunceLetters", "<init>", "()V"⟩, prog_1_method_1_code, 1, none)
def q_X8_type : ol_MD := (⟨"OunceLetters", "type", "(II)I"⟩, prog_1_method_2_code, 4, (some .int))
def q_X8_wipe : ol_MD := (⟨"OunceLetters", "wipe", "(I)I"⟩, prog_1_method_3_code, 4, (some .int))
def q_X8_undo : ol_MD := (⟨"OunceLetters", "undo", "(I)I"⟩, prog_1_method_4_code, 3, (some .int))
def q_X8_fault : ol_MD := (⟨"OunceLetters", "fault", "(I)I"⟩, prog_1_method_5_code, 2, (some .int))
def q_X8_house : ol_MD := (⟨"OunceLetters", "house", "(II)I"⟩, prog_1_method_6_code, 3, (some .int))
def q_X8_word : ol_MD := (⟨"OunceLetters", "word", "(II)I"⟩, prog_1_method_7_code, 3, (some .int))
def q_X8_ration : ol_MD := (⟨"OunceLetters", "ration", "(II)I"⟩, prog_1_method_8_code, 4, (some .int))
def q_X8_writing : ol_MD := (⟨"OunceLetters", "writing", "(III)I"⟩, prog_1_method_9_code, 4, (some .int))
def q_X8_lending : ol_MD := (⟨"OunceLetters", "lending", "(IIII)I"⟩, prog_1_method_10_code, 5, (some .int))
def q_X8_back : ol_MD := (⟨"OunceLetters", "back", "(I)I"⟩, prog_1_method_11_code, 3, (some .int))
def q_X8_read : ol_MD := (⟨"OunceLetters", "read", "(I)I"⟩, prog_1_method_12_code, 7, (some .int))
def q_X8_has : ol_MD := (⟨"OunceLetters", "has", "(III)I"⟩, prog_1_method_13_code, 5, (some .int))
def q_X8_became : ol_MD := (⟨"OunceLetters", "became", "(I)I"⟩, prog_1_method_14_code, 2, (some .int))
def q_X8_fines : ol_MD := (⟨"OunceLetters", "fines", "(I)I"⟩, prog_1_method_15_code, 2, (some .int))
def q_X8_spent : ol_MD := (⟨"OunceLetters", "spent", "(I)I"⟩, prog_1_method_16_code, 5, (some .int))
def q_X8_bare : ol_MD := (⟨"OunceLetters", "bare", "(I)I"⟩, prog_1_method_17_code, 4, (some .int))
def q_X8_say : ol_MD := (⟨"OunceLetters", "say", "(III)I"⟩, prog_1_method_18_code, 7, (some .int))
def q_X8_most : ol_MD := (⟨"OunceLetters", "most", "(III)I"⟩, prog_1_method_19_code, 6, (some .int))
def q_X8_papers : ol_MD := (⟨"OunceLetters", "papers", "(II)I"⟩, prog_1_method_20_code, 6, (some .int))
def q_X8_lend : ol_MD := (⟨"OunceLetters", "lend", "(I)I"⟩, prog_1_method_21_code, 4, (some .int))
def q_X8_meant : ol_MD := (⟨"OunceLetters", "meant", "(I)I"⟩, prog_1_method_22_code, 4, (some .int))
def q_X8_seen : ol_MD := (⟨"OunceLetters", "seen", "(IIII)I"⟩, prog_1_method_23_code, 5, (some .int))
def q_X8_forget : ol_MD := (⟨"OunceLetters", "forget", "()I"⟩, prog_1_method_24_code, 2, (some .int))
def q_X8_never : ol_MD := (⟨"OunceLetters", "never", "()I"⟩, prog_1_method_25_code, 4, (some .int))
def q_X8_got : ol_MD := (⟨"OunceLetters", "got", "(I)I"⟩, prog_1_method_26_code, 5, (some .int))
def q_X8_ask : ol_MD := (⟨"OunceLetters", "ask", "(II)I"⟩, prog_1_method_27_code, 8, (some .int))
def q_X8_censor : ol_MD := (⟨"OunceLetters", "censor", "(IIII)J"⟩, prog_1_method_28_code, 10, (some .long))
def q_X8_post : ol_MD := (⟨"OunceLetters", "post", "(III)I"⟩, prog_1_method_29_code, 10, (some .int))
def q_X8_sheet : ol_MD := (⟨"OunceLetters", "sheet", "(III)I"⟩, prog_1_method_30_code, 4, (some .int))
def q_X8_lose : ol_MD := (⟨"OunceLetters", "lose", "(I)I"⟩, prog_1_method_31_code, 3, (some .int))
def q_X8_lay : ol_MD := (⟨"OunceLetters", "lay", "(IIII)I"⟩, prog_1_method_32_code, 6, (some .int))
def q_X8_get : ol_MD := (⟨"OunceLetters", "get", "(III)I"⟩, prog_1_method_33_code, 5, (some .int))
def q_X8_copy : ol_MD := (⟨"OunceLetters", "copy", "(IIIII)I"⟩, prog_1_method_34_code, 6, (some .int))
def q_X8_write : ol_MD := (⟨"OunceLetters", "write", "(III)I"⟩, prog_1_method_35_code, 6, (some .int))
def q_X8_count : ol_MD := (⟨"OunceLetters", "count", "(I)I"⟩, prog_1_method_36_code, 2, (some .int))
def q_X8_digest : ol_MD := (⟨"OunceLetters", "digest", "()J"⟩, prog_1_method_37_code, 5, (some .long))
def q_X8_mostAlike : ol_MD := (⟨"OunceLetters", "mostAlike", "(II)I"⟩, prog_1_method_38_code, 7, (some .int))
def q_X8_found : ol_MD := (⟨"OunceLetters", "found", "(I)I"⟩, prog_1_method_39_code, 2, (some .int))
def q_X8_textOf : ol_MD := (⟨"OunceLetters", "textOf", "(I)LOunceLetters$Text;"⟩, prog_1_method_40_code, 2, (some (.object "OunceLetters$Text")))
def q_X8_setLength : ol_MD := (⟨"OunceLetters", "setLength", "(LOunceLetters$Text;I)V"⟩, prog_1_method_41_code, 3, none)
def q_X8_worldChanged : ol_MD := (⟨"OunceLetters", "worldChanged", "()V"⟩, prog_1_method_42_code, 1, none)
def q_X8_refreshRun : ol_MD := (⟨"OunceLetters", "refreshRun", "()V"⟩, prog_1_method_43_code, 1, none)
def q_X8_isBelow : ol_MD := (⟨"OunceLetters", "isBelow", "(II)Z"⟩, prog_1_method_44_code, 2, (some .boolean))
def q_X8_isVowel : ol_MD := (⟨"OunceLetters", "isVowel", "(I)Z"⟩, prog_1_method_45_code, 1, (some .boolean))
def q_X8_mayBeWriting : ol_MD := (⟨"OunceLetters", "mayBeWriting", "(III)Z"⟩, prog_1_method_46_code, 3, (some .boolean))
def q_X8_nextSeed : ol_MD := (⟨"OunceLetters", "nextSeed", "(I)I"⟩, prog_1_method_47_code, 1, (some .int))
def q_X8_power : ol_MD := (⟨"OunceLetters", "power", "(JI)J"⟩, prog_1_method_48_code, 6, (some .long))
def q_X9_init : ol_MD := (⟨"OunceLettersModel", "<init>", "()V"⟩, prog_11_method_1_code, 2, none)
def q_X9_in : ol_MD := (⟨"OunceLettersModel", "in", "(JJJ)Z"⟩, prog_11_method_3_code, 6, (some .boolean))
def q_X9_no : ol_MD := (⟨"OunceLettersModel", "no", "(I)J"⟩, prog_11_method_4_code, 1, (some .long))
def q_X9_isTwo : ol_MD := (⟨"OunceLettersModel", "isTwo", "(I)Z"⟩, prog_11_method_5_code, 1, (some .boolean))
def q_X9_isIn : ol_MD := (⟨"OunceLettersModel", "isIn", "(II)Z"⟩, prog_11_method_6_code, 2, (some .boolean))
def q_X9_ones : ol_MD := (⟨"OunceLettersModel", "ones", "(I)I"⟩, prog_11_method_7_code, 3, (some .int))
def q_X9_lesser : ol_MD := (⟨"OunceLettersModel", "lesser", "(II)I"⟩, prog_11_method_8_code, 2, (some .int))
def q_X9_isVowel : ol_MD := (⟨"OunceLettersModel", "isVowel", "(I)Z"⟩, prog_11_method_9_code, 1, (some .boolean))
def q_X9_part : ol_MD := (⟨"OunceLettersModel", "part", "(JJI)J"⟩, prog_11_method_10_code, 11, (some .long))
def q_X9_finds : ol_MD := (⟨"OunceLettersModel", "finds", "(I)I"⟩, prog_11_method_11_code, 2, (some .int))
def q_X9_isSheet : ol_MD := (⟨"OunceLettersModel", "isSheet", "(I)Z"⟩, prog_11_method_12_code, 1, (some .boolean))
def q_X9_sheet : ol_MD := (⟨"OunceLettersModel", "sheet", "(III)I"⟩, prog_11_method_13_code, 5, (some .int))
def q_X9_lose : ol_MD := (⟨"OunceLettersModel", "lose", "(I)I"⟩, prog_11_method_14_code, 2, (some .int))
def q_X9_lacks : ol_MD := (⟨"OunceLettersModel", "lacks", "(III)I"⟩, prog_11_method_15_code, 4, (some .int))
def q_X9_cut : ol_MD := (⟨"OunceLettersModel", "cut", "(II)I"⟩, prog_11_method_16_code, 2, (some .int))
def q_X9_lay : ol_MD := (⟨"OunceLettersModel", "lay", "(IIII)I"⟩, prog_11_method_17_code, 6, (some .int))
def q_X9_get : ol_MD := (⟨"OunceLettersModel", "get", "(III)I"⟩, prog_11_method_18_code, 4, (some .int))
def q_X9_copy : ol_MD := (⟨"OunceLettersModel", "copy", "(IIIII)I"⟩, prog_11_method_19_code, 7, (some .int))
def q_X9_type : ol_MD := (⟨"OunceLettersModel", "type", "(II)I"⟩, prog_11_method_20_code, 3, (some .int))
def q_X9_wipe : ol_MD := (⟨"OunceLettersModel", "wipe", "(I)I"⟩, prog_11_method_21_code, 3, (some .int))
def q_X9_undo : ol_MD := (⟨"OunceLettersModel", "undo", "(I)I"⟩, prog_11_method_22_code, 2, (some .int))
def q_X9_houseOf : ol_MD := (⟨"OunceLettersModel", "houseOf", "(II)I"⟩, prog_11_method_23_code, 2, (some .int))
def q_X9_readsHouses : ol_MD := (⟨"OunceLettersModel", "readsHouses", "()I"⟩, prog_11_method_24_code, 5, (some .int))
def q_X9_counts : ol_MD := (⟨"OunceLettersModel", "counts", "(I)V"⟩, prog_11_method_25_code, 3, none)
def q_X9_readsTerms : ol_MD := (⟨"OunceLettersModel", "readsTerms", "()I"⟩, prog_11_method_26_code, 9, (some .int))
def q_X9_fault : ol_MD := (⟨"OunceLettersModel", "fault", "(I)I"⟩, prog_11_method_27_code, 2, (some .int))
def q_X9_reads : ol_MD := (⟨"OunceLettersModel", "reads", "()V"⟩, prog_11_method_28_code, 1, none)
def q_X9_isHouse : ol_MD := (⟨"OunceLettersModel", "isHouse", "(I)Z"⟩, prog_11_method_29_code, 2, (some .boolean))
def q_X9_isTerm : ol_MD := (⟨"OunceLettersModel", "isTerm", "(I)Z"⟩, prog_11_method_30_code, 2, (some .boolean))
def q_X9_isMonth : ol_MD := (⟨"OunceLettersModel", "isMonth", "(I)Z"⟩, prog_11_method_31_code, 1, (some .boolean))
def q_X9_isEight : ol_MD := (⟨"OunceLettersModel", "isEight", "(I)Z"⟩, prog_11_method_32_code, 1, (some .boolean))
def q_X9_house : ol_MD := (⟨"OunceLettersModel", "house", "(II)I"⟩, prog_11_method_33_code, 3, (some .int))
def q_X9_wordOf : ol_MD := (⟨"OunceLettersModel", "wordOf", "(II)I"⟩, prog_11_method_34_code, 3, (some .int))
def q_X9_word : ol_MD := (⟨"OunceLettersModel", "word", "(II)I"⟩, prog_11_method_35_code, 3, (some .int))
def q_X9_ration : ol_MD := (⟨"OunceLettersModel", "ration", "(II)I"⟩, prog_11_method_36_code, 4, (some .int))
def q_X9_writes : ol_MD := (⟨"OunceLettersModel", "writes", "(III)V"⟩, prog_11_method_37_code, 4, none)
def q_X9_writing : ol_MD := (⟨"OunceLettersModel", "writing", "(III)I"⟩, prog_11_method_38_code, 4, (some .int))
def q_X9_lending : ol_MD := (⟨"OunceLettersModel", "lending", "(IIII)I"⟩, prog_11_method_39_code, 5, (some .int))
def q_X9_back : ol_MD := (⟨"OunceLettersModel", "back", "(I)I"⟩, prog_11_method_40_code, 3, (some .int))
def q_X9_read : ol_MD := (⟨"OunceLettersModel", "read", "(I)I"⟩, prog_11_method_41_code, 5, (some .int))
def q_X9_begins : ol_MD := (⟨"OunceLettersModel", "begins", "()V"⟩, prog_11_method_42_code, 2, none)
def q_X9_rationsOut : ol_MD := (⟨"OunceLettersModel", "rationsOut", "()V"⟩, prog_11_method_43_code, 4, none)
def q_X9_lends : ol_MD := (⟨"OunceLettersModel", "lends", "(I)V"⟩, prog_11_method_44_code, 4, none)
def q_X9_lacksFor : ol_MD := (⟨"OunceLettersModel", "lacksFor", "(IIZ)I"⟩, prog_11_method_45_code, 7, (some .int))
def q_X9_hasOthers : ol_MD := (⟨"OunceLettersModel", "hasOthers", "(I)Z"⟩, prog_11_method_46_code, 4, (some .boolean))
def q_X9_spends : ol_MD := (⟨"OunceLettersModel", "spends", "(IIZ)V"⟩, prog_11_method_47_code, 6, none)
def q_X9_tries : ol_MD := (⟨"OunceLettersModel", "tries", "(I)V"⟩, prog_11_method_48_code, 5, none)
def q_X9_lives : ol_MD := (⟨"OunceLettersModel", "lives", "(I)V"⟩, prog_11_method_49_code, 4, none)
def q_X9_find : ol_MD := (⟨"OunceLettersModel", "find", "()V"⟩, prog_11_method_50_code, 1, none)
def q_X9_allOf : ol_MD := (⟨"OunceLettersModel", "allOf", "(I)I"⟩, prog_11_method_51_code, 4, (some .int))
def q_X9_hasOf : ol_MD := (⟨"OunceLettersModel", "hasOf", "(III)I"⟩, prog_11_method_52_code, 4, (some .int))
def q_X9_has : ol_MD := (⟨"OunceLettersModel", "has", "(III)I"⟩, prog_11_method_53_code, 4, (some .int))
def q_X9_becameOf : ol_MD := (⟨"OunceLettersModel", "becameOf", "(I)I"⟩, prog_11_method_54_code, 2, (some .int))
def q_X9_became : ol_MD := (⟨"OunceLettersModel", "became", "(I)I"⟩, prog_11_method_55_code, 2, (some .int))
def q_X9_finesOf : ol_MD := (⟨"OunceLettersModel", "finesOf", "(I)I"⟩, prog_11_method_56_code, 2, (some .int))
def q_X9_fines : ol_MD := (⟨"OunceLettersModel", "fines", "(I)I"⟩, prog_11_method_57_code, 2, (some .int))
def q_X9_spentOf : ol_MD := (⟨"OunceLettersModel", "spentOf", "(I)I"⟩, prog_11_method_58_code, 2, (some .int))
def q_X9_spent : ol_MD := (⟨"OunceLettersModel", "spent", "(I)I"⟩, prog_11_method_59_code, 2, (some .int))
def q_X9_bareOf : ol_MD := (⟨"OunceLettersModel", "bareOf", "(I)I"⟩, prog_11_method_60_code, 4, (some .int))
def q_X9_bare : ol_MD := (⟨"OunceLettersModel", "bare", "(I)I"⟩, prog_11_method_61_code, 2, (some .int))
def q_X9_sayOf : ol_MD := (⟨"OunceLettersModel", "sayOf", "(III)I"⟩, prog_11_method_62_code, 7, (some .int))
def q_X9_say : ol_MD := (⟨"OunceLettersModel", "say", "(III)I"⟩, prog_11_method_63_code, 4, (some .int))
def q_X9_all : ol_MD := (⟨"OunceLettersModel", "all", "(II)I"⟩, prog_11_method_64_code, 5, (some .int))
def q_X9_mostOf : ol_MD := (⟨"OunceLettersModel", "mostOf", "(III)I"⟩, prog_11_method_65_code, 8, (some .int))
def q_X9_most : ol_MD := (⟨"OunceLettersModel", "most", "(III)I"⟩, prog_11_method_66_code, 4, (some .int))
def q_X9_papersOf : ol_MD := (⟨"OunceLettersModel", "papersOf", "(II)I"⟩, prog_11_method_67_code, 7, (some .int))
def q_X9_papers : ol_MD := (⟨"OunceLettersModel", "papers", "(II)I"⟩, prog_11_method_68_code, 3, (some .int))
def q_X9_lendOf : ol_MD := (⟨"OunceLettersModel", "lendOf", "(I)I"⟩, prog_11_method_69_code, 2, (some .int))
def q_X9_lend : ol_MD := (⟨"OunceLettersModel", "lend", "(I)I"⟩, prog_11_method_70_code, 2, (some .int))
def q_X9_other : ol_MD := (⟨"OunceLettersModel", "other", "(II)I"⟩, prog_11_method_71_code, 6, (some .int))
def q_X9_readsAlike : ol_MD := (⟨"OunceLettersModel", "readsAlike", "(II)Z"⟩, prog_11_method_72_code, 5, (some .boolean))
def q_X9_meantOf : ol_MD := (⟨"OunceLettersModel", "meantOf", "(I)I"⟩, prog_11_method_73_code, 4, (some .int))
def q_X9_meant : ol_MD := (⟨"OunceLettersModel", "meant", "(I)I"⟩, prog_11_method_74_code, 2, (some .int))
def q_X9_seen : ol_MD := (⟨"OunceLettersModel", "seen", "(IIII)I"⟩, prog_11_method_75_code, 5, (some .int))
def q_X9_forget : ol_MD := (⟨"OunceLettersModel", "forget", "()I"⟩, prog_11_method_76_code, 2, (some .int))
def q_X9_isSeen : ol_MD := (⟨"OunceLettersModel", "isSeen", "()Z"⟩, prog_11_method_77_code, 4, (some .boolean))
def q_X9_neverNow : ol_MD := (⟨"OunceLettersModel", "neverNow", "()I"⟩, prog_11_method_78_code, 3, (some .int))
def q_X9_never : ol_MD := (⟨"OunceLettersModel", "never", "()I"⟩, prog_11_method_79_code, 1, (some .int))
def q_X9_gotOf : ol_MD := (⟨"OunceLettersModel", "gotOf", "(I)I"⟩, prog_11_method_80_code, 5, (some .int))
def q_X9_got : ol_MD := (⟨"OunceLettersModel", "got", "(I)I"⟩, prog_11_method_81_code, 2, (some .int))
def q_X9_askOf : ol_MD := (⟨"OunceLettersModel", "askOf", "(II)I"⟩, prog_11_method_82_code, 8, (some .int))
def q_X9_mostAlike : ol_MD := (⟨"OunceLettersModel", "mostAlike", "(II)I"⟩, prog_11_method_83_code, 7, (some .int))
def q_X9_ask : ol_MD := (⟨"OunceLettersModel", "ask", "(II)I"⟩, prog_11_method_84_code, 3, (some .int))
def q_X9_censorOf : ol_MD := (⟨"OunceLettersModel", "censorOf", "(IIII)J"⟩, prog_11_method_85_code, 11, (some .long))
def q_X9_censor : ol_MD := (⟨"OunceLettersModel", "censor", "(IIII)J"⟩, prog_11_method_86_code, 5, (some .long))
def q_X9_lot : ol_MD := (⟨"OunceLettersModel", "lot", "(I)I"⟩, prog_11_method_87_code, 2, (some .int))
def q_X9_postOf : ol_MD := (⟨"OunceLettersModel", "postOf", "(III)I"⟩, prog_11_method_88_code, 7, (some .int))
def q_X9_post : ol_MD := (⟨"OunceLettersModel", "post", "(III)I"⟩, prog_11_method_89_code, 4, (some .int))
def q_X9_write : ol_MD := (⟨"OunceLettersModel", "write", "(III)I"⟩, prog_11_method_90_code, 6, (some .int))
def q_X9_allFined : ol_MD := (⟨"OunceLettersModel", "allFined", "()I"⟩, prog_11_method_91_code, 3, (some .int))
def q_X9_count : ol_MD := (⟨"OunceLettersModel", "count", "(I)I"⟩, prog_11_method_92_code, 2, (some .int))
def q_X9_tellsHouse : ol_MD := (⟨"OunceLettersModel", "tellsHouse", "(JI)J"⟩, prog_11_method_93_code, 7, (some .long))
def q_X9_tellsTerm : ol_MD := (⟨"OunceLettersModel", "tellsTerm", "(JI)J"⟩, prog_11_method_94_code, 7, (some .long))
def q_X9_digest : ol_MD := (⟨"OunceLettersModel", "digest", "()J"⟩, prog_11_method_95_code, 4, (some .long))
def q_J6_bitCount_0f7a4 : ol_MD := (⟨"java/lang/Integer", "bitCount", "(I)I"⟩, prog_12_method_49_code, 1, (some .int))
def q_J9_max_7cf53 : ol_MD := (⟨"java/lang/Math", "max", "(II)I"⟩, prog_13_method_65_code, 2, (some .int))
def q_J9_min_7cf53 : ol_MD := (⟨"java/lang/Math", "min", "(II)I"⟩, prog_13_method_69_code, 2, (some .int))
def q_J7_fill_53178 : ol_MD := (⟨"java/util/Arrays", "fill", "([II)V"⟩, prog_15_method_103_code, 4, none)
