def i_J6_bitCount_0f7a4_0 : List Instr := [.iload_n 0, .iload_n 0, .iconst 1, .iushr, .ldc_w 265, .iand, .isub, .istore_n 0, .iload_n 0, .ldc_w 266, .iand, .iload_n 0, .iconst 2, .iushr, .ldc_w 266, .iand, .iadd, .istore_n 0, .iload_n 0, .iload_n 0, .iconst 4, .iushr, .iadd, .ldc_w 267, .iand, .istore_n 0, .iload_n 0, .iload_n 0, .bipush 8, .iushr, .iadd, .istore_n 0, .iload_n 0, .iload_n 0, .bipush 16, .iushr, .iadd, .istore_n 0, .iload_n 0, .bipush 63, .iand, .ireturn]
set_option maxRecDepth 20000 in
theorem b_J6_bitCount_0f7a4_0 {lay : ol_L} {Rt : Option ol_V → ol_M → Prop} {A : Nat → ol_Ls → ol_St → ol_M → Prop} (hA : ol_C "java/lang/Integer" prog_12_method_49_code 0 lay Rt A) (v0 : Int) (M : ol_M)
    (h : Rt (some (.inl (ol_and (((ol_and (((ol_and (v0 - (ol_and ((v0 % 4294967296) / 2 ^ (Int.toNat 1)) 1431655765)) 858993459) + (ol_and (((v0 - (ol_and ((v0 % 4294967296) / 2 ^ (Int.toNat 1)) 1431655765)) % 4294967296) / 2 ^ (Int.toNat 2)) 858993459)) + ((((ol_and (v0 - (ol_and ((v0 % 4294967296) / 2 ^ (Int.toNat 1)) 1431655765)) 858993459) + (ol_and (((v0 - (ol_and ((v0 % 4294967296) / 2 ^ (Int.toNat 1)) 1431655765)) % 4294967296) / 2 ^ (Int.toNat 2)) 858993459)) % 4294967296) / 2 ^ (Int.toNat 4))) 252645135) + (((ol_and (((ol_and (v0 - (ol_and ((v0 % 4294967296) / 2 ^ (Int.toNat 1)) 1431655765)) 858993459) + (ol_and (((v0 - (ol_and ((v0 % 4294967296) / 2 ^ (Int.toNat 1)) 1431655765)) % 4294967296) / 2 ^ (Int.toNat 2)) 858993459)) + ((((ol_and (v0 - (ol_and ((v0 % 4294967296) / 2 ^ (Int.toNat 1)) 1431655765)) 858993459) + (ol_and (((v0 - (ol_and ((v0 % 4294967296) / 2 ^ (Int.toNat 1)) 1431655765)) % 4294967296) / 2 ^ (Int.toNat 2)) 858993459)) % 4294967296) / 2 ^ (Int.toNat 4))) 252645135) % 4294967296) / 2 ^ (Int.toNat 8))) + ((((ol_and (((ol_and (v0 - (ol_and ((v0 % 4294967296) / 2 ^ (Int.toNat 1)) 1431655765)) 858993459) + (ol_and (((v0 - (ol_and ((v0 % 4294967296) / 2 ^ (Int.toNat 1)) 1431655765)) % 4294967296) / 2 ^ (Int.toNat 2)) 858993459)) + ((((ol_and (v0 - (ol_and ((v0 % 4294967296) / 2 ^ (Int.toNat 1)) 1431655765)) 858993459) + (ol_and (((v0 - (ol_and ((v0 % 4294967296) / 2 ^ (Int.toNat 1)) 1431655765)) % 4294967296) / 2 ^ (Int.toNat 2)) 858993459)) % 4294967296) / 2 ^ (Int.toNat 4))) 252645135) + (((ol_and (((ol_and (v0 - (ol_and ((v0 % 4294967296) / 2 ^ (Int.toNat 1)) 1431655765)) 858993459) + (ol_and (((v0 - (ol_and ((v0 % 4294967296) / 2 ^ (Int.toNat 1)) 1431655765)) % 4294967296) / 2 ^ (Int.toNat 2)) 858993459)) + ((((ol_and (v0 - (ol_and ((v0 % 4294967296) / 2 ^ (Int.toNat 1)) 1431655765)) 858993459) + (ol_and (((v0 - (ol_and ((v0 % 4294967296) / 2 ^ (Int.toNat 1)) 1431655765)) % 4294967296) / 2 ^ (Int.toNat 2)) 858993459)) % 4294967296) / 2 ^ (Int.toNat 4))) 252645135) % 4294967296) / 2 ^ (Int.toNat 8))) % 4294967296) / 2 ^ (Int.toNat 16))) 63))) M) :
    A 0 [some (.inl v0)] [] M :=
  hA i_J6_bitCount_0f7a4_0 0 _ _ _ (by decide +kernel) (⟨_, rfl, ⟨_, rfl, ⟨(by decide), (by decide), ⟨1431655765, lc_J6_265, ⟨Nat.le_of_ble_eq_true rfl, ⟨_, rfl, ⟨858993459, lc_J6_266, ⟨_, rfl, ⟨(by decide), (by decide), ⟨858993459, lc_J6_266, ⟨Nat.le_of_ble_eq_true rfl, ⟨_, rfl, ⟨_, rfl, ⟨(by decide), (by decide), ⟨252645135, lc_J6_267, ⟨Nat.le_of_ble_eq_true rfl, ⟨_, rfl, ⟨_, rfl, ⟨⟨by decide, by decide⟩, ⟨(by decide), (by decide), ⟨Nat.le_of_ble_eq_true rfl, ⟨_, rfl, ⟨_, rfl, ⟨⟨by decide, by decide⟩, ⟨(by decide), (by decide), ⟨Nat.le_of_ble_eq_true rfl, ⟨_, rfl, ⟨⟨by decide, by decide⟩, h⟩⟩⟩⟩⟩⟩⟩⟩⟩⟩⟩⟩⟩⟩⟩⟩⟩⟩⟩⟩⟩⟩⟩⟩⟩⟩⟩⟩)
set_option maxRecDepth 20000 in
theorem b_X8_isBelow_14 {lay : ol_L} {Rt : Option ol_V → ol_M → Prop} {A : Nat → ol_Ls → ol_St → ol_M → Prop} (hA : ol_C "OunceLetters" prog_1_method_44_code 0 lay Rt A) (s0 : Int) (M : ol_M)
    (h : Rt (some (.inl s0)) M) :
    A 14 [none, none] [.inl s0] M :=
  hA [.ireturn] 14 _ _ _ (by decide +kernel) (h)
set_option maxRecDepth 20000 in
theorem b_X8_isBelow_13 {lay : ol_L} {Rt : Option ol_V → ol_M → Prop} {A : Nat → ol_Ls → ol_St → ol_M → Prop} (hA : ol_C "OunceLetters" prog_1_method_44_code 0 lay Rt A) (M : ol_M)
    (h : Rt (some (.inl (0 : Int))) M) :
    A 13 [none, none] [] M :=
  hA [.iconst 0] 13 _ _ _ (by decide +kernel) (⟨[none, none], trivial, b_X8_isBelow_14 hA 0 M  h⟩)
set_option maxRecDepth 20000 in
theorem b_X8_isBelow_0 {lay : ol_L} {Rt : Option ol_V → ol_M → Prop} {A : Nat → ol_Ls → ol_St → ol_M → Prop} (hA : ol_C "OunceLetters" prog_1_method_44_code 0 lay Rt A) (v0 v1 : Int) (M : ol_M)
    (h : ol_r v0 ∧ ol_if (v0 < 0) (Rt (some (.inl (0 : Int))) M) (ol_r v0 ∧ ol_r v1 ∧ ol_if (v1 ≤ v0) (Rt (some (.inl (0 : Int))) M) (Rt (some (.inl (1 : Int))) M))) :
    A 0 [some (.inl v0), some (.inl v1)] [] M :=
  hA [.iload_n 0, .ifCond .lt 12, .iload_n 0, .iload_n 1, .if_icmp .ge 7, .iconst 1, .goto 4] 0 _ _ _ (by decide +kernel) (⟨_, rfl, ⟨rfl, h.1, ⟨by decide, by decide⟩, ⟨fun c1 => ⟨[none, none], trivial, b_X8_isBelow_13 hA  M  (h.2.1 c1)⟩, fun c1 => ⟨_, rfl, ⟨_, rfl, ⟨rfl, (h.2.2 c1).1, (h.2.2 c1).2.1, ⟨fun c2 => ⟨[none, none], trivial, b_X8_isBelow_13 hA  M  ((h.2.2 c1).2.2.1 c2)⟩, fun c2 => ⟨rfl, ⟨[none, none], trivial, b_X8_isBelow_14 hA 1 M  ((h.2.2 c1).2.2.2 c2)⟩⟩⟩⟩⟩⟩⟩⟩⟩)
set_option maxRecDepth 20000 in
theorem b_X8_isVowel_14 {lay : ol_L} {Rt : Option ol_V → ol_M → Prop} {A : Nat → ol_Ls → ol_St → ol_M → Prop} (hA : ol_C "OunceLetters" prog_1_method_45_code 0 lay Rt A) (s0 : Int) (M : ol_M)
    (h : Rt (some (.inl s0)) M) :
    A 14 [none] [.inl s0] M :=
  hA [.ireturn] 14 _ _ _ (by decide +kernel) (h)
set_option maxRecDepth 20000 in
theorem b_X8_isVowel_13 {lay : ol_L} {Rt : Option ol_V → ol_M → Prop} {A : Nat → ol_Ls → ol_St → ol_M → Prop} (hA : ol_C "OunceLetters" prog_1_method_45_code 0 lay Rt A) (M : ol_M)
    (h : Rt (some (.inl (0 : Int))) M) :
    A 13 [none] [] M :=
  hA [.iconst 0] 13 _ _ _ (by decide +kernel) (⟨[none], trivial, b_X8_isVowel_14 hA 0 M  h⟩)
set_option maxRecDepth 20000 in
theorem b_X8_isVowel_9 {lay : ol_L} {Rt : Option ol_V → ol_M → Prop} {A : Nat → ol_Ls → ol_St → ol_M → Prop} (hA : ol_C "OunceLetters" prog_1_method_45_code 0 lay Rt A) (M : ol_M)
    (h : Rt (some (.inl (1 : Int))) M) :
    A 9 [none] [] M :=
  hA [.iconst 1, .goto 4] 9 _ _ _ (by decide +kernel) (⟨rfl, ⟨[none], trivial, b_X8_isVowel_14 hA 1 M  h⟩⟩)
set_option maxRecDepth 20000 in
theorem b_X8_isVowel_0 {lay : ol_L} {Rt : Option ol_V → ol_M → Prop} {A : Nat → ol_Ls → ol_St → ol_M → Prop} (hA : ol_C "OunceLetters" prog_1_method_45_code 0 lay Rt A) (v0 : Int) (M : ol_M)
    (h : ol_if (v0 = 0) (Rt (some (.inl (1 : Int))) M) (ol_r v0 ∧ ol_if (v0 = 4) (Rt (some (.inl (1 : Int))) M) (ol_r v0 ∧ Rt (some (.inl (0 : Int))) M))) :
    A 0 [some (.inl v0)] [] M :=
  hA [.iload_n 0, .ifCond .eq 8, .iload_n 0, .iconst 4, .if_icmp .ne 7] 0 _ _ _ (by decide +kernel) (⟨_, rfl, ⟨rfl, ⟨fun c1 => ⟨[none], trivial, b_X8_isVowel_9 hA  M  (h.1 c1)⟩, fun c1 => ⟨(h.2 c1).1, ⟨by decide, by decide⟩, ⟨_, rfl, ⟨rfl, ⟨fun c2 => ⟨[none], trivial, b_X8_isVowel_9 hA  M  ((h.2 c1).2.1 c2)⟩, fun c2 => ⟨((h.2 c1).2.2 c2).1, ⟨by decide, by decide⟩, ⟨[none], trivial, b_X8_isVowel_13 hA  M  ((h.2 c1).2.2 c2).2⟩⟩⟩⟩⟩⟩⟩⟩⟩)
set_option maxRecDepth 20000 in
theorem b_X8_nextSeed_0 {lay : ol_L} {Rt : Option ol_V → ol_M → Prop} {A : Nat → ol_Ls → ol_St → ol_M → Prop} (hA : ol_C "OunceLetters" prog_1_method_47_code 0 lay Rt A) (v0 : Int) (M : ol_M)
    (h : Rt (some (.inl ((1103515245 * v0) + 12345))) M) :
    A 0 [some (.inl v0)] [] M :=
  hA [.ldc_w 375, .iload_n 0, .imul, .sipush 12345, .iadd, .ireturn] 0 _ _ _ (by decide +kernel) (⟨1103515245, lc_X8_375, ⟨_, rfl, ⟨⟨by decide, by decide⟩, h⟩⟩⟩)
set_option maxRecDepth 20000 in
theorem b_X8_power_21 {lay : ol_L} {Rt : Option ol_V → ol_M → Prop} {A : Nat → ol_Ls → ol_St → ol_M → Prop} (hA : ol_C "OunceLetters" prog_1_method_48_code 0 lay Rt A) (v3 : Int) (M : ol_M)
    (h : Rt (some (.inr (.inl v3))) M) :
    A 21 [none, none, none, some (.inr (.inl v3)), none, none] [] M :=
  hA [.lload_n 3, .lreturn] 21 _ _ _ (by decide +kernel) (⟨_, rfl, h⟩)
set_option maxRecDepth 20000 in
theorem b_X8_power_5 {lay : ol_L} {Rt : Option ol_V → ol_M → Prop} {A : Nat → ol_Ls → ol_St → ol_M → Prop} (hA : ol_C "OunceLetters" prog_1_method_48_code 0 lay Rt A) (v0 v2 v3 v5 : Int) (M : ol_M)
    (h : ol_r v5 ∧ ol_r v2 ∧ ol_if (v2 ≤ v5) (Rt (some (.inr (.inl v3))) M) (A 5 [some (.inr (.inl v0)), none, some (.inl v2), some (.inr (.inl (v3 * v0))), none, some (.inl (v5 + 1))] [] M)) :
    A 5 [some (.inr (.inl v0)), none, some (.inl v2), some (.inr (.inl v3)), none, some (.inl v5)] [] M :=
  hA [.iload 5, .iload_n 2, .if_icmp .ge 13, .lload_n 3, .lload_n 0, .lmul, .lstore_n 3, .iinc 5 1, .goto (-13)] 5 _ _ _ (by decide +kernel) (⟨_, rfl, ⟨_, rfl, ⟨rfl, h.1, h.2.1, ⟨fun c1 => ⟨[none, none, none, some (.inr (.inl v3)), none, none], ⟨rfl, trivial⟩, b_X8_power_21 hA v3 M  (h.2.2.1 c1)⟩, fun c1 => ⟨_, rfl, ⟨_, rfl, ⟨Nat.le_of_ble_eq_true rfl, ⟨_, rfl, ⟨rfl, ⟨[some (.inr (.inl v0)), none, some (.inl v2), some (.inr (.inl (v3 * v0))), none, some (.inl (v5 + 1))], ⟨rfl, ⟨rfl, ⟨rfl, ⟨rfl, trivial⟩⟩⟩⟩, (h.2.2.2 c1)⟩⟩⟩⟩⟩⟩⟩⟩⟩⟩)
set_option maxRecDepth 20000 in
theorem b_X8_power_0 {lay : ol_L} {Rt : Option ol_V → ol_M → Prop} {A : Nat → ol_Ls → ol_St → ol_M → Prop} (hA : ol_C "OunceLetters" prog_1_method_48_code 0 lay Rt A) (v0 v2 : Int) (M : ol_M)
    (h : A 5 [some (.inr (.inl v0)), none, some (.inl v2), some (.inr (.inl 1)), none, some (.inl 0)] [] M) :
    A 0 [some (.inr (.inl v0)), none, some (.inl v2), none, none, none] [] M :=
  hA [.lconst 1, .lstore_n 3, .iconst 0, .istore 5] 0 _ _ _ (by decide +kernel) (⟨Nat.le_of_ble_eq_true rfl, ⟨Nat.le_of_ble_eq_true rfl, ⟨[some (.inr (.inl v0)), none, some (.inl v2), some (.inr (.inl 1)), none, some (.inl 0)], ⟨rfl, ⟨rfl, ⟨rfl, ⟨rfl, trivial⟩⟩⟩⟩, h⟩⟩⟩)
set_option maxRecDepth 20000 in
theorem b_X9_in_18 {lay : ol_L} {Rt : Option ol_V → ol_M → Prop} {A : Nat → ol_Ls → ol_St → ol_M → Prop} (hA : ol_C "OunceLettersModel" prog_11_method_3_code 0 lay Rt A) (s0 : Int) (M : ol_M)
    (h : Rt (some (.inl s0)) M) :
    A 18 [none, none, none, none, none, none] [.inl s0] M :=
  hA [.ireturn] 18 _ _ _ (by decide +kernel) (h)
set_option maxRecDepth 20000 in
theorem b_X9_in_17 {lay : ol_L} {Rt : Option ol_V → ol_M → Prop} {A : Nat → ol_Ls → ol_St → ol_M → Prop} (hA : ol_C "OunceLettersModel" prog_11_method_3_code 0 lay Rt A) (M : ol_M)
    (h : Rt (some (.inl (0 : Int))) M) :
    A 17 [none, none, none, none, none, none] [] M :=
  hA [.iconst 0] 17 _ _ _ (by decide +kernel) (⟨[none, none, none, none, none, none], trivial, b_X9_in_18 hA 0 M  h⟩)
set_option maxRecDepth 20000 in
theorem b_X9_in_0 {lay : ol_L} {Rt : Option ol_V → ol_M → Prop} {A : Nat → ol_Ls → ol_St → ol_M → Prop} (hA : ol_C "OunceLettersModel" prog_11_method_3_code 0 lay Rt A) (v0 v2 v4 : Int) (M : ol_M)
    (h : ol_rl v0 ∧ ol_rl v2 ∧ ol_if (v0 < v2) (Rt (some (.inl (0 : Int))) M) (ol_rl v0 ∧ ol_rl v4 ∧ ol_if (v4 < v0) (Rt (some (.inl (0 : Int))) M) (Rt (some (.inl (1 : Int))) M))) :
    A 0 [some (.inr (.inl v0)), none, some (.inr (.inl v2)), none, some (.inr (.inl v4)), none] [] M :=
  hA [.lload_n 0, .lload_n 2, .lcmp, .ifCond .lt 14, .lload_n 0, .lload 4, .lcmp, .ifCond .gt 7, .iconst 1, .goto 4] 0 _ _ _ (by decide +kernel) (⟨_, rfl, ⟨_, rfl, ol_llt h.1 h.2.1 ⟨fun c1 => ⟨[none, none, none, none, none, none], trivial, b_X9_in_17 hA  M  (h.2.2.1 c1)⟩, fun c1 => ⟨_, rfl, ⟨_, rfl, ol_lgt (h.2.2.2 c1).1 (h.2.2.2 c1).2.1 ⟨fun c2 => ⟨[none, none, none, none, none, none], trivial, b_X9_in_17 hA  M  ((h.2.2.2 c1).2.2.1 c2)⟩, fun c2 => ⟨rfl, ⟨[none, none, none, none, none, none], trivial, b_X9_in_18 hA 1 M  ((h.2.2.2 c1).2.2.2 c2)⟩⟩⟩⟩⟩⟩⟩⟩)
set_option maxRecDepth 20000 in
theorem b_X9_no_0 {lay : ol_L} {Rt : Option ol_V → ol_M → Prop} {A : Nat → ol_Ls → ol_St → ol_M → Prop} (hA : ol_C "OunceLettersModel" prog_11_method_4_code 0 lay Rt A) (v0 : Int) (M : ol_M)
    (h : ol_r v0 ∧ Rt (some (.inr (.inl ((-9223372036854775808) - v0)))) M) :
    A 0 [some (.inl v0)] [] M :=
  hA [.ldc2_w 73, .iload_n 0, .i2l, .lsub, .lreturn] 0 _ _ _ (by decide +kernel) (⟨(-9223372036854775808), lc_X9_73, ⟨_, rfl, ⟨h.1, h.2⟩⟩⟩)
set_option maxRecDepth 20000 in
theorem b_X9_isIn_14 {lay : ol_L} {Rt : Option ol_V → ol_M → Prop} {A : Nat → ol_Ls → ol_St → ol_M → Prop} (hA : ol_C "OunceLettersModel" prog_11_method_6_code 0 lay Rt A) (s0 : Int) (M : ol_M)
    (h : Rt (some (.inl s0)) M) :
    A 14 [none, none] [.inl s0] M :=
  hA [.ireturn] 14 _ _ _ (by decide +kernel) (h)
set_option maxRecDepth 20000 in
theorem b_X9_isIn_13 {lay : ol_L} {Rt : Option ol_V → ol_M → Prop} {A : Nat → ol_Ls → ol_St → ol_M → Prop} (hA : ol_C "OunceLettersModel" prog_11_method_6_code 0 lay Rt A) (M : ol_M)
    (h : Rt (some (.inl (0 : Int))) M) :
    A 13 [none, none] [] M :=
  hA [.iconst 0] 13 _ _ _ (by decide +kernel) (⟨[none, none], trivial, b_X9_isIn_14 hA 0 M  h⟩)
set_option maxRecDepth 20000 in
theorem b_X9_isIn_0 {lay : ol_L} {Rt : Option ol_V → ol_M → Prop} {A : Nat → ol_Ls → ol_St → ol_M → Prop} (hA : ol_C "OunceLettersModel" prog_11_method_6_code 0 lay Rt A) (v0 v1 : Int) (M : ol_M)
    (h : ol_r v0 ∧ 0 ≤ v1 ∧ v1 < 32 ∧ ol_if ((ol_and (v0 / 2 ^ (Int.toNat v1)) 1) = 1) (Rt (some (.inl (1 : Int))) M) (ol_r (ol_and (v0 / 2 ^ (Int.toNat v1)) 1) ∧ Rt (some (.inl (0 : Int))) M)) :
    A 0 [some (.inl v0), some (.inl v1)] [] M :=
  hA [.iload_n 0, .iload_n 1, .ishr, .iconst 1, .iand, .iconst 1, .if_icmp .ne 7, .iconst 1, .goto 4] 0 _ _ _ (by decide +kernel) (⟨_, rfl, ⟨_, rfl, ⟨h.1, h.2.1, h.2.2.1, ⟨rfl, ⟨fun c1 => ⟨rfl, ⟨[none, none], trivial, b_X9_isIn_14 hA 1 M  (h.2.2.2.1 c1)⟩⟩, fun c1 => ⟨(h.2.2.2.2 c1).1, ⟨by decide, by decide⟩, ⟨[none, none], trivial, b_X9_isIn_13 hA  M  (h.2.2.2.2 c1).2⟩⟩⟩⟩⟩⟩⟩)
set_option maxRecDepth 20000 in
theorem b_X9_ones_20 {lay : ol_L} {Rt : Option ol_V → ol_M → Prop} {A : Nat → ol_Ls → ol_St → ol_M → Prop} (hA : ol_C "OunceLettersModel" prog_11_method_7_code 0 lay Rt A) (v1 : Int) (M : ol_M)
    (h : Rt (some (.inl v1)) M) :
    A 20 [none, some (.inl v1), none] [] M :=
  hA [.iload_n 1, .ireturn] 20 _ _ _ (by decide +kernel) (⟨_, rfl, h⟩)
set_option maxRecDepth 20000 in
theorem b_X9_ones_4 {lay : ol_L} {Rt : Option ol_V → ol_M → Prop} {A : Nat → ol_Ls → ol_St → ol_M → Prop} (hA : ol_C "OunceLettersModel" prog_11_method_7_code 0 lay Rt A) (v1 v2 : Int) (M : ol_M)
    (h : ol_if (v2 = 0) (Rt (some (.inl v1)) M) (ol_r v2 ∧ A 4 [none, some (.inl (v1 + 1)), some (.inl (ol_and v2 (v2 - 1)))] [] M)) :
    A 4 [none, some (.inl v1), some (.inl v2)] [] M :=
  hA [.iload_n 2, .ifCond .eq 15, .iinc 1 1, .iload_n 2, .iload_n 2, .iconst 1, .isub, .iand, .istore_n 2, .goto (-13)] 4 _ _ _ (by decide +kernel) (⟨_, rfl, ⟨rfl, ⟨fun c1 => ⟨[none, some (.inl v1), none], ⟨rfl, trivial⟩, b_X9_ones_20 hA v1 M  (h.1 c1)⟩, fun c1 => ⟨(h.2 c1).1, ⟨by decide, by decide⟩, ⟨_, rfl, ⟨_, rfl, ⟨_, rfl, ⟨Nat.le_of_ble_eq_true rfl, ⟨rfl, ⟨[none, some (.inl (v1 + 1)), some (.inl (ol_and v2 (v2 - 1)))], ⟨rfl, ⟨rfl, trivial⟩⟩, (h.2 c1).2⟩⟩⟩⟩⟩⟩⟩⟩⟩⟩)
set_option maxRecDepth 20000 in
theorem b_X9_ones_0 {lay : ol_L} {Rt : Option ol_V → ol_M → Prop} {A : Nat → ol_Ls → ol_St → ol_M → Prop} (hA : ol_C "OunceLettersModel" prog_11_method_7_code 0 lay Rt A) (v0 : Int) (M : ol_M)
    (h : A 4 [none, some (.inl 0), some (.inl v0)] [] M) :
    A 0 [some (.inl v0), none, none] [] M :=
  hA [.iconst 0, .istore_n 1, .iload_n 0, .istore_n 2] 0 _ _ _ (by decide +kernel) (⟨Nat.le_of_ble_eq_true rfl, ⟨_, rfl, ⟨Nat.le_of_ble_eq_true rfl, ⟨[none, some (.inl 0), some (.inl v0)], ⟨rfl, ⟨rfl, trivial⟩⟩, h⟩⟩⟩⟩)
set_option maxRecDepth 20000 in
theorem b_X9_lesser_10 {lay : ol_L} {Rt : Option ol_V → ol_M → Prop} {A : Nat → ol_Ls → ol_St → ol_M → Prop} (hA : ol_C "OunceLettersModel" prog_11_method_8_code 0 lay Rt A) (s0 : Int) (M : ol_M)
    (h : Rt (some (.inl s0)) M) :
    A 10 [none, none] [.inl s0] M :=
  hA [.ireturn] 10 _ _ _ (by decide +kernel) (h)
set_option maxRecDepth 20000 in
theorem b_X9_lesser_9 {lay : ol_L} {Rt : Option ol_V → ol_M → Prop} {A : Nat → ol_Ls → ol_St → ol_M → Prop} (hA : ol_C "OunceLettersModel" prog_11_method_8_code 0 lay Rt A) (v1 : Int) (M : ol_M)
    (h : Rt (some (.inl v1)) M) :
    A 9 [none, some (.inl v1)] [] M :=
  hA [.iload_n 1] 9 _ _ _ (by decide +kernel) (⟨_, rfl, ⟨[none, none], trivial, b_X9_lesser_10 hA v1 M  h⟩⟩)
set_option maxRecDepth 20000 in
theorem b_X9_lesser_0 {lay : ol_L} {Rt : Option ol_V → ol_M → Prop} {A : Nat → ol_Ls → ol_St → ol_M → Prop} (hA : ol_C "OunceLettersModel" prog_11_method_8_code 0 lay Rt A) (v0 v1 : Int) (M : ol_M)
    (h : ol_r v0 ∧ ol_r v1 ∧ ol_if (v1 ≤ v0) (Rt (some (.inl v1)) M) (Rt (some (.inl v0)) M)) :
    A 0 [some (.inl v0), some (.inl v1)] [] M :=
  hA [.iload_n 0, .iload_n 1, .if_icmp .ge 7, .iload_n 0, .goto 4] 0 _ _ _ (by decide +kernel) (⟨_, rfl, ⟨_, rfl, ⟨rfl, h.1, h.2.1, ⟨fun c1 => ⟨[none, some (.inl v1)], ⟨rfl, trivial⟩, b_X9_lesser_9 hA v1 M  (h.2.2.1 c1)⟩, fun c1 => ⟨_, rfl, ⟨rfl, ⟨[none, none], trivial, b_X9_lesser_10 hA v0 M  (h.2.2.2 c1)⟩⟩⟩⟩⟩⟩⟩)
set_option maxRecDepth 20000 in
theorem b_X9_isVowel_14 {lay : ol_L} {Rt : Option ol_V → ol_M → Prop} {A : Nat → ol_Ls → ol_St → ol_M → Prop} (hA : ol_C "OunceLettersModel" prog_11_method_9_code 0 lay Rt A) (s0 : Int) (M : ol_M)
    (h : Rt (some (.inl s0)) M) :
    A 14 [none] [.inl s0] M :=
  hA [.ireturn] 14 _ _ _ (by decide +kernel) (h)
set_option maxRecDepth 20000 in
theorem b_X9_isVowel_13 {lay : ol_L} {Rt : Option ol_V → ol_M → Prop} {A : Nat → ol_Ls → ol_St → ol_M → Prop} (hA : ol_C "OunceLettersModel" prog_11_method_9_code 0 lay Rt A) (M : ol_M)
    (h : Rt (some (.inl (0 : Int))) M) :
    A 13 [none] [] M :=
  hA [.iconst 0] 13 _ _ _ (by decide +kernel) (⟨[none], trivial, b_X9_isVowel_14 hA 0 M  h⟩)
set_option maxRecDepth 20000 in
theorem b_X9_isVowel_9 {lay : ol_L} {Rt : Option ol_V → ol_M → Prop} {A : Nat → ol_Ls → ol_St → ol_M → Prop} (hA : ol_C "OunceLettersModel" prog_11_method_9_code 0 lay Rt A) (M : ol_M)
    (h : Rt (some (.inl (1 : Int))) M) :
    A 9 [none] [] M :=
  hA [.iconst 1, .goto 4] 9 _ _ _ (by decide +kernel) (⟨rfl, ⟨[none], trivial, b_X9_isVowel_14 hA 1 M  h⟩⟩)
set_option maxRecDepth 20000 in
theorem b_X9_isVowel_0 {lay : ol_L} {Rt : Option ol_V → ol_M → Prop} {A : Nat → ol_Ls → ol_St → ol_M → Prop} (hA : ol_C "OunceLettersModel" prog_11_method_9_code 0 lay Rt A) (v0 : Int) (M : ol_M)
    (h : ol_if (v0 = 0) (Rt (some (.inl (1 : Int))) M) (ol_r v0 ∧ ol_if (v0 = 4) (Rt (some (.inl (1 : Int))) M) (ol_r v0 ∧ Rt (some (.inl (0 : Int))) M))) :
    A 0 [some (.inl v0)] [] M :=
  hA [.iload_n 0, .ifCond .eq 8, .iload_n 0, .iconst 4, .if_icmp .ne 7] 0 _ _ _ (by decide +kernel) (⟨_, rfl, ⟨rfl, ⟨fun c1 => ⟨[none], trivial, b_X9_isVowel_9 hA  M  (h.1 c1)⟩, fun c1 => ⟨(h.2 c1).1, ⟨by decide, by decide⟩, ⟨_, rfl, ⟨rfl, ⟨fun c2 => ⟨[none], trivial, b_X9_isVowel_9 hA  M  ((h.2 c1).2.1 c2)⟩, fun c2 => ⟨((h.2 c1).2.2 c2).1, ⟨by decide, by decide⟩, ⟨[none], trivial, b_X9_isVowel_13 hA  M  ((h.2 c1).2.2 c2).2⟩⟩⟩⟩⟩⟩⟩⟩⟩)
set_option maxRecDepth 20000 in
theorem b_X9_cut_20 {lay : ol_L} {Rt : Option ol_V → ol_M → Prop} {A : Nat → ol_Ls → ol_St → ol_M → Prop} (hA : ol_C "OunceLettersModel" prog_11_method_16_code 0 lay Rt A) (s0 : Int) (M : ol_M)
    (h : Rt (some (.inl s0)) M) :
    A 20 [none, none] [.inl s0] M :=
  hA [.ireturn] 20 _ _ _ (by decide +kernel) (h)
set_option maxRecDepth 20000 in
theorem b_X9_cut_19 {lay : ol_L} {Rt : Option ol_V → ol_M → Prop} {A : Nat → ol_Ls → ol_St → ol_M → Prop} (hA : ol_C "OunceLettersModel" prog_11_method_16_code 0 lay Rt A) (v1 : Int) (M : ol_M)
    (h : Rt (some (.inl v1)) M) :
    A 19 [none, some (.inl v1)] [] M :=
  hA [.iload_n 1] 19 _ _ _ (by decide +kernel) (⟨_, rfl, ⟨[none, none], trivial, b_X9_cut_20 hA v1 M  h⟩⟩)
set_option maxRecDepth 20000 in
theorem b_X9_cut_9 {lay : ol_L} {Rt : Option ol_V → ol_M → Prop} {A : Nat → ol_Ls → ol_St → ol_M → Prop} (hA : ol_C "OunceLettersModel" prog_11_method_16_code 0 lay Rt A) (v0 v1 : Int) (M : ol_M)
    (h : ol_if (v0 = 1) (Rt (some (.inl (Int.bmod v1 65536))) M) (ol_r v0 ∧ Rt (some (.inl v1)) M)) :
    A 9 [some (.inl v0), some (.inl v1)] [] M :=
  hA [.iload_n 0, .iconst 1, .if_icmp .ne 8, .iload_n 1, .i2s, .goto 4] 9 _ _ _ (by decide +kernel) (⟨_, rfl, ⟨rfl, ⟨fun c2 => ⟨_, rfl, ⟨rfl, ⟨[none, none], trivial, b_X9_cut_20 hA (Int.bmod v1 65536) M  (h.1 c2)⟩⟩⟩, fun c2 => ⟨(h.2 c2).1, ⟨by decide, by decide⟩, ⟨[none, some (.inl v1)], ⟨rfl, trivial⟩, b_X9_cut_19 hA v1 M  (h.2 c2).2⟩⟩⟩⟩⟩)
set_option maxRecDepth 20000 in
theorem b_X9_cut_0 {lay : ol_L} {Rt : Option ol_V → ol_M → Prop} {A : Nat → ol_Ls → ol_St → ol_M → Prop} (hA : ol_C "OunceLettersModel" prog_11_method_16_code 0 lay Rt A) (v0 v1 : Int) (M : ol_M)
    (h : ol_if (v0 = 0) (Rt (some (.inl (Int.bmod v1 256))) M) (ol_r v0 ∧ ol_if (v0 = 1) (Rt (some (.inl (Int.bmod v1 65536))) M) (ol_r v0 ∧ Rt (some (.inl v1)) M))) :
    A 0 [some (.inl v0), some (.inl v1)] [] M :=
  hA [.iload_n 0, .ifCond .ne 8, .iload_n 1, .i2b, .goto 14] 0 _ _ _ (by decide +kernel) (⟨_, rfl, ⟨rfl, ⟨fun c3 => ⟨_, rfl, ⟨rfl, ⟨[none, none], trivial, b_X9_cut_20 hA (Int.bmod v1 256) M  (h.1 c3)⟩⟩⟩, fun c3 => ⟨(h.2 c3).1, ⟨by decide, by decide⟩, ⟨[some (.inl v0), some (.inl v1)], ⟨rfl, ⟨rfl, trivial⟩⟩, b_X9_cut_9 hA v0 v1 M  (h.2 c3).2⟩⟩⟩⟩⟩)
set_option maxRecDepth 20000 in
theorem b_X4_isLost_15 {n : Nat} {Rt : Option ol_V → ol_M → Prop} {A : Nat → ol_Ls → ol_St → ol_M → Prop} (hA : ol_C "OunceLetters$Sheets" prog_6_method_2_code 0 (ol_lay n) Rt A) (s0 : Int) (M : ol_M)
    (h : Rt (some (.inl s0)) M) :
    A 15 [none, none] [.inl s0] M :=
  hA [.ireturn] 15 _ _ _ (by decide +kernel) (h)
set_option maxRecDepth 20000 in
theorem b_X4_isLost_14 {n : Nat} {Rt : Option ol_V → ol_M → Prop} {A : Nat → ol_Ls → ol_St → ol_M → Prop} (hA : ol_C "OunceLetters$Sheets" prog_6_method_2_code 0 (ol_lay n) Rt A) (M : ol_M)
    (h : Rt (some (.inl (0 : Int))) M) :
    A 14 [none, none] [] M :=
  hA [.iconst 0] 14 _ _ _ (by decide +kernel) (⟨[none, none], trivial, b_X4_isLost_15 hA 0 M  h⟩)
set_option maxRecDepth 20000 in
theorem b_X4_isLost_0 {n : Nat} {Rt : Option ol_V → ol_M → Prop} {A : Nat → ol_Ls → ol_St → ol_M → Prop} (hA : ol_C "OunceLetters$Sheets" prog_6_method_2_code 0 (ol_lay n) Rt A) (v1 : Int) (M : ol_M)
    (h : 0 ≤ v1 ∧ v1 < 4 ∧ ol_if ((M 113 v1) = (-1)) (Rt (some (.inl (1 : Int))) M) (ol_r (M 113 v1) ∧ Rt (some (.inl (0 : Int))) M)) :
    A 0 [some (.inr (.inr 111)), some (.inl v1)] [] M :=
  hA [.aload_n 0, .getfield 15, .iload_n 1, .iaload, .iconst (-1), .if_icmp .ne 7, .iconst 1, .goto 4] 0 _ _ _ (by decide +kernel) (⟨_, rfl, ⟨_, _, 1, _, ly_111, lf_X4_15_X4, rfl, ⟨_, rfl, ⟨_, ly_113, h.1, h.2.1, by decide, ⟨rfl, ⟨fun c1 => ⟨rfl, ⟨[none, none], trivial, b_X4_isLost_15 hA 1 M  (h.2.2.1 c1)⟩⟩, fun c1 => ⟨(h.2.2.2 c1).1, ⟨by decide, by decide⟩, ⟨[none, none], trivial, b_X4_isLost_14 hA  M  (h.2.2.2 c1).2⟩⟩⟩⟩⟩⟩⟩⟩)
set_option maxRecDepth 20000 in
theorem b_X4_item_0 {n : Nat} {Rt : Option ol_V → ol_M → Prop} {A : Nat → ol_Ls → ol_St → ol_M → Prop} (hA : ol_C "OunceLetters$Sheets" prog_6_method_6_code 0 (ol_lay n) Rt A) (v1 v2 : Int) (M : ol_M)
    (h : 0 ≤ v1 ∧ v1 < 4 ∧ 0 ≤ v2 ∧ v2 < 60 ∧ Rt (some (.inl (M (115 + v1) v2))) M) :
    A 0 [some (.inr (.inr 111)), some (.inl v1), some (.inl v2)] [] M :=
  hA [.aload_n 0, .getfield 20, .iload_n 1, .aaload, .iload_n 2, .iaload, .ireturn] 0 _ _ _ (by decide +kernel) (⟨_, rfl, ⟨_, _, 2, _, ly_111, lf_X4_20_X4, rfl, ⟨_, rfl, ⟨_, _, ly_114, h.1, h.2.1, by decide, ⟨_, rfl, ⟨_, (lr_114 _ h.1 h.2.1), h.2.2.1, h.2.2.2.1, by decide, h.2.2.2.2⟩⟩⟩⟩⟩⟩)
set_option maxRecDepth 20000 in
theorem b_J7_fill_53178_20 {lay : ol_L} {N : Nat} (hN : N < 1000000) {Rt : Option ol_V → ol_M → Prop} {A : Nat → ol_Ls → ol_St → ol_M → Prop} (hA : ol_C "java/util/Arrays" prog_15_method_103_code 0 lay Rt A) (M : ol_M)
    (h : Rt none M) :
    A 20 [none, none, none, none] [] M :=
  hA [.return_] 20 _ _ _ (by decide +kernel) (⟨rfl, h⟩)
set_option maxRecDepth 20000 in
theorem b_J7_fill_53178_5 {lay : ol_L} {N : Nat} (hN : N < 1000000) {Rt : Option ol_V → ol_M → Prop} {A : Nat → ol_Ls → ol_St → ol_M → Prop} (hA : ol_C "java/util/Arrays" prog_15_method_103_code 0 lay Rt A) (k0 v1 v2 v3 : Int) (M : ol_M) (h_k0 : lay k0 = some (.inl N)) (p_k0 : 0 ≤ k0)
    (h : ol_r v2 ∧ ol_r v3 ∧ ol_if (v3 ≤ v2) (Rt none M) (0 ≤ v2 ∧ v2 < N ∧ A 5 [some (.inr (.inr k0)), some (.inl v1), some (.inl (v2 + 1)), some (.inl v3)] [] (ol_ms M k0 v2 v1))) :
    A 5 [some (.inr (.inr k0)), some (.inl v1), some (.inl v2), some (.inl v3)] [] M :=
  hA [.iload_n 2, .iload_n 3, .if_icmp .ge 13, .aload_n 0, .iload_n 2, .iload_n 1, .iastore, .iinc 2 1, .goto (-12)] 5 _ _ _ (by decide +kernel) (⟨_, rfl, ⟨_, rfl, ⟨rfl, h.1, h.2.1, ⟨fun c1 => ⟨[none, none, none, none], trivial, b_J7_fill_53178_20 hN hA  M  (h.2.2.1 c1)⟩, fun c1 => ⟨_, rfl, ⟨_, rfl, ⟨_, rfl, ⟨_, h_k0, p_k0, (h.2.2.2 c1).1, (h.2.2.2 c1).2.1, hN, ⟨_, rfl, ⟨rfl, ⟨[some (.inr (.inr k0)), some (.inl v1), some (.inl (v2 + 1)), some (.inl v3)], ⟨rfl, ⟨rfl, ⟨rfl, ⟨rfl, trivial⟩⟩⟩⟩, (h.2.2.2 c1).2.2⟩⟩⟩⟩⟩⟩⟩⟩⟩⟩⟩)
set_option maxRecDepth 20000 in
theorem b_J7_fill_53178_0 {lay : ol_L} {N : Nat} (hN : N < 1000000) {Rt : Option ol_V → ol_M → Prop} {A : Nat → ol_Ls → ol_St → ol_M → Prop} (hA : ol_C "java/util/Arrays" prog_15_method_103_code 0 lay Rt A) (k0 v1 : Int) (M : ol_M) (h_k0 : lay k0 = some (.inl N)) (p_k0 : 0 ≤ k0)
    (h : A 5 [some (.inr (.inr k0)), some (.inl v1), some (.inl 0), some (.inl N)] [] M) :
    A 0 [some (.inr (.inr k0)), some (.inl v1), none, none] [] M :=
  hA [.iconst 0, .istore_n 2, .aload_n 0, .arraylength, .istore_n 3] 0 _ _ _ (by decide +kernel) (⟨Nat.le_of_ble_eq_true rfl, ⟨_, rfl, ⟨_, h_k0, ⟨Nat.le_of_ble_eq_true rfl, ⟨[some (.inr (.inr k0)), some (.inl v1), some (.inl 0), some (.inl N)], ⟨rfl, ⟨rfl, ⟨rfl, ⟨rfl, trivial⟩⟩⟩⟩, h⟩⟩⟩⟩⟩)
