set_option maxRecDepth 20000 in
theorem b_X8_found_0 {n : Nat} {Rt : Option ol_V → ol_M → Prop} {A : Nat → ol_Ls → ol_St → ol_M → Prop} (hA : ol_C "OunceLetters" prog_1_method_39_code 0 (ol_lay n) Rt A) (v1 : Int) (M : ol_M)
    (h : Rt (some (.inl ((-10) - v1))) (ol_ms M 0 9 v1)) :
    A 0 [some (.inr (.inr 0)), some (.inl v1)] [] M :=
  hA [.aload_n 0, .iload_n 1, .putfield 70, .bipush (-10), .iload_n 1, .isub, .ireturn] 0 _ _ _ (by decide +kernel) (⟨_, rfl, ⟨_, rfl, ⟨_, _, 9, ly_0, lf_X8_70_X8, rfl, by decide, ⟨_, rfl, rfl, Or.inl rfl⟩, ⟨⟨by decide, by decide⟩, ⟨_, rfl, h⟩⟩⟩⟩⟩)
set_option maxRecDepth 20000 in
theorem b_X9_finds_0 {n : Nat} {Rt : Option ol_V → ol_M → Prop} {A : Nat → ol_Ls → ol_St → ol_M → Prop} (hA : ol_C "OunceLettersModel" prog_11_method_11_code 0 (ol_lay n) Rt A) (v1 : Int) (M : ol_M)
    (h : Rt (some (.inl ((-10) - v1))) (ol_ms M 132 4 v1)) :
    A 0 [some (.inr (.inr 132)), some (.inl v1)] [] M :=
  hA [.aload_n 0, .iload_n 1, .putfield 79, .bipush (-10), .iload_n 1, .isub, .ireturn] 0 _ _ _ (by decide +kernel) (⟨_, rfl, ⟨_, rfl, ⟨_, _, 4, ly_132, lf_X9_79_X9, rfl, by decide, ⟨_, rfl, rfl, Or.inl rfl⟩, ⟨⟨by decide, by decide⟩, ⟨_, rfl, h⟩⟩⟩⟩⟩)
set_option maxRecDepth 20000 in
theorem b_X8_worldChanged_0 {n : Nat} {Rt : Option ol_V → ol_M → Prop} {A : Nat → ol_Ls → ol_St → ol_M → Prop} (hA : ol_C "OunceLetters" prog_1_method_42_code 0 (ol_lay n) Rt A) (M : ol_M)
    (h : Rt none (ol_ms (ol_ms M 0 10 1) 0 11 1)) :
    A 0 [some (.inr (.inr 0))] [] M :=
  hA [.aload_n 0, .iconst 1, .putfield 74, .aload_n 0, .iconst 1, .putfield 78, .return_] 0 _ _ _ (by decide +kernel) (⟨_, rfl, ⟨_, _, 10, ly_0, lf_X8_74_X8, rfl, by decide, ⟨_, rfl, rfl, Or.inr ⟨rfl, Or.inr rfl⟩⟩, ⟨_, rfl, ⟨_, _, 11, ly_0, lf_X8_78_X8, rfl, by decide, ⟨_, rfl, rfl, Or.inr ⟨rfl, Or.inr rfl⟩⟩, ⟨rfl, h⟩⟩⟩⟩⟩)
set_option maxRecDepth 20000 in
theorem b_X8_mayBeWriting_32 {lay : ol_L} {Rt : Option ol_V → ol_M → Prop} {A : Nat → ol_Ls → ol_St → ol_M → Prop} (hA : ol_C "OunceLetters" prog_1_method_46_code 1 lay Rt A) (s0 : Int) (M : ol_M)
    (h : Rt (some (.inl s0)) M) :
    A 32 [none, none, none] [.inl s0] M :=
  hA [.ireturn] 32 _ _ _ (by decide +kernel) (h)
set_option maxRecDepth 20000 in
theorem b_X8_mayBeWriting_31 {lay : ol_L} {Rt : Option ol_V → ol_M → Prop} {A : Nat → ol_Ls → ol_St → ol_M → Prop} (hA : ol_C "OunceLetters" prog_1_method_46_code 1 lay Rt A) (M : ol_M)
    (h : Rt (some (.inl (0 : Int))) M) :
    A 31 [none, none, none] [] M :=
  hA [.iconst 0] 31 _ _ _ (by decide +kernel) (⟨[none, none, none], trivial, b_X8_mayBeWriting_32 hA 0 M  h⟩)
set_option maxRecDepth 20000 in
theorem b_X8_mayBeWriting_0 {lay : ol_L} {Rt : Option ol_V → ol_M → Prop} {A : Nat → ol_Ls → ol_St → ol_M → Prop} (hA : ol_C "OunceLetters" prog_1_method_46_code 1 lay Rt A) (v0 v1 v2 : Int) (M : ol_M)
    (h : ol_r v0 ∧ ol_if (0 ≤ v0 ∧ v0 < 12) (ol_r v1 ∧ ol_if (0 ≤ v1 ∧ v1 < 8) (ol_r v2 ∧ ol_if (0 ≤ v2 ∧ v2 < 8) (Rt (some (.inl (1 : Int))) M) (Rt (some (.inl (0 : Int))) M)) (Rt (some (.inl (0 : Int))) M)) (Rt (some (.inl (0 : Int))) M)) :
    A 0 [some (.inl v0), some (.inl v1), some (.inl v2)] [] M :=
  hA [.iload_n 0, .bipush 12, .invokestatic 81, .ifCond .eq 25, .iload_n 1, .bipush 8, .invokestatic 81, .ifCond .eq 16, .iload_n 2, .bipush 8, .invokestatic 81, .ifCond .eq 7, .iconst 1, .goto 4] 0 _ _ _ (by decide +kernel) (⟨_, rfl, ⟨⟨by decide, by decide⟩, Or.inl ⟨q_X8_isBelow, 2, 1, some (.inl (ol_b (0 ≤ v0 ∧ v0 < 12))), M, ls_X8_81, rfl, Nat.le_of_ble_eq_true rfl, Nat.le_of_ble_eq_true rfl, (p_isBelow h.1 ⟨by decide, by decide⟩), ⟨rfl, ol_beq ⟨fun c1 => ⟨_, rfl, ⟨⟨by decide, by decide⟩, Or.inl ⟨q_X8_isBelow, 2, 1, some (.inl (ol_b (0 ≤ v1 ∧ v1 < 8))), M, ls_X8_81, rfl, Nat.le_of_ble_eq_true rfl, Nat.le_of_ble_eq_true rfl, (p_isBelow (h.2.1 c1).1 ⟨by decide, by decide⟩), ⟨rfl, ol_beq ⟨fun c2 => ⟨_, rfl, ⟨⟨by decide, by decide⟩, Or.inl ⟨q_X8_isBelow, 2, 1, some (.inl (ol_b (0 ≤ v2 ∧ v2 < 8))), M, ls_X8_81, rfl, Nat.le_of_ble_eq_true rfl, Nat.le_of_ble_eq_true rfl, (p_isBelow ((h.2.1 c1).2.1 c2).1 ⟨by decide, by decide⟩), ⟨rfl, ol_beq ⟨fun c3 => ⟨rfl, ⟨[none, none, none], trivial, b_X8_mayBeWriting_32 hA 1 M  (((h.2.1 c1).2.1 c2).2.1 c3)⟩⟩, fun c3 => ⟨[none, none, none], trivial, b_X8_mayBeWriting_31 hA  M  (((h.2.1 c1).2.1 c2).2.2 c3)⟩⟩⟩⟩⟩⟩, fun c2 => ⟨[none, none, none], trivial, b_X8_mayBeWriting_31 hA  M  ((h.2.1 c1).2.2 c2)⟩⟩⟩⟩⟩⟩, fun c1 => ⟨[none, none, none], trivial, b_X8_mayBeWriting_31 hA  M  (h.2.2 c1)⟩⟩⟩⟩⟩⟩)
set_option maxRecDepth 20000 in
theorem b_X9_isTwo_0 {lay : ol_L} {Rt : Option ol_V → ol_M → Prop} {A : Nat → ol_Ls → ol_St → ol_M → Prop} (hA : ol_C "OunceLettersModel" prog_11_method_5_code 1 lay Rt A) (v0 : Int) (M : ol_M)
    (h : ol_r v0 ∧ ol_rl v0 ∧ Rt (some (.inl (ol_b (0 ≤ v0 ∧ v0 ≤ 1)))) M) :
    A 0 [some (.inl v0)] [] M :=
  hA [.iload_n 0, .i2l, .lconst 0, .lconst 1, .invokestatic 75, .ireturn] 0 _ _ _ (by decide +kernel) (⟨_, rfl, ⟨h.1, Or.inl ⟨q_X9_in, 3, 1, some (.inl (ol_b (0 ≤ v0 ∧ v0 ≤ 1))), M, ls_X9_75, rfl, Nat.le_of_ble_eq_true rfl, Nat.le_of_ble_eq_true rfl, (p_in h.2.1 ⟨by decide, by decide⟩ ⟨by decide, by decide⟩), h.2.2⟩⟩⟩)
set_option maxRecDepth 20000 in
theorem b_X9_isSheet_0 {lay : ol_L} {Rt : Option ol_V → ol_M → Prop} {A : Nat → ol_Ls → ol_St → ol_M → Prop} (hA : ol_C "OunceLettersModel" prog_11_method_12_code 1 lay Rt A) (v0 : Int) (M : ol_M)
    (h : ol_r v0 ∧ ol_rl v0 ∧ Rt (some (.inl (ol_b (0 ≤ v0 ∧ v0 ≤ 3)))) M) :
    A 0 [some (.inl v0)] [] M :=
  hA [.iload_n 0, .i2l, .lconst 0, .ldc2_w 83, .invokestatic 75, .ireturn] 0 _ _ _ (by decide +kernel) (⟨_, rfl, ⟨h.1, ⟨3, lc_X9_83, Or.inl ⟨q_X9_in, 3, 1, some (.inl (ol_b (0 ≤ v0 ∧ v0 ≤ 3))), M, ls_X9_75, rfl, Nat.le_of_ble_eq_true rfl, Nat.le_of_ble_eq_true rfl, (p_in h.2.1 ⟨by decide, by decide⟩ ⟨by decide, by decide⟩), h.2.2⟩⟩⟩⟩)
set_option maxRecDepth 20000 in
theorem b_X9_isMonth_0 {lay : ol_L} {Rt : Option ol_V → ol_M → Prop} {A : Nat → ol_Ls → ol_St → ol_M → Prop} (hA : ol_C "OunceLettersModel" prog_11_method_31_code 1 lay Rt A) (v0 : Int) (M : ol_M)
    (h : ol_r v0 ∧ ol_rl v0 ∧ Rt (some (.inl (ol_b (0 ≤ v0 ∧ v0 ≤ 11)))) M) :
    A 0 [some (.inl v0)] [] M :=
  hA [.iload_n 0, .i2l, .lconst 0, .ldc2_w 139, .invokestatic 75, .ireturn] 0 _ _ _ (by decide +kernel) (⟨_, rfl, ⟨h.1, ⟨11, lc_X9_139, Or.inl ⟨q_X9_in, 3, 1, some (.inl (ol_b (0 ≤ v0 ∧ v0 ≤ 11))), M, ls_X9_75, rfl, Nat.le_of_ble_eq_true rfl, Nat.le_of_ble_eq_true rfl, (p_in h.2.1 ⟨by decide, by decide⟩ ⟨by decide, by decide⟩), h.2.2⟩⟩⟩⟩)
set_option maxRecDepth 20000 in
theorem b_X9_isEight_0 {lay : ol_L} {Rt : Option ol_V → ol_M → Prop} {A : Nat → ol_Ls → ol_St → ol_M → Prop} (hA : ol_C "OunceLettersModel" prog_11_method_32_code 1 lay Rt A) (v0 : Int) (M : ol_M)
    (h : ol_r v0 ∧ ol_rl v0 ∧ Rt (some (.inl (ol_b (0 ≤ v0 ∧ v0 ≤ 7)))) M) :
    A 0 [some (.inl v0)] [] M :=
  hA [.iload_n 0, .i2l, .lconst 0, .ldc2_w 141, .invokestatic 75, .ireturn] 0 _ _ _ (by decide +kernel) (⟨_, rfl, ⟨h.1, ⟨7, lc_X9_141, Or.inl ⟨q_X9_in, 3, 1, some (.inl (ol_b (0 ≤ v0 ∧ v0 ≤ 7))), M, ls_X9_75, rfl, Nat.le_of_ble_eq_true rfl, Nat.le_of_ble_eq_true rfl, (p_in h.2.1 ⟨by decide, by decide⟩ ⟨by decide, by decide⟩), h.2.2⟩⟩⟩⟩)
set_option maxRecDepth 20000 in
theorem b_X9_isHouse_0 {n : Nat} {Rt : Option ol_V → ol_M → Prop} {A : Nat → ol_Ls → ol_St → ol_M → Prop} (hA : ol_C "OunceLettersModel" prog_11_method_29_code 1 (ol_lay n) Rt A) (v1 : Int) (M : ol_M)
    (h : ol_r v1 ∧ ol_r ((M 132 7) - 1) ∧ ol_rl v1 ∧ ol_rl ((M 132 7) - 1) ∧ Rt (some (.inl (ol_b (0 ≤ v1 ∧ v1 ≤ (M 132 7) - 1)))) M) :
    A 0 [some (.inr (.inr 132)), some (.inl v1)] [] M :=
  hA [.iload_n 1, .i2l, .lconst 0, .aload_n 0, .getfield 113, .iconst 1, .isub, .i2l, .invokestatic 75, .ireturn] 0 _ _ _ (by decide +kernel) (⟨_, rfl, ⟨h.1, ⟨_, rfl, ⟨_, _, 7, _, ly_132, lf_X9_113_X9, rfl, ⟨h.2.1, Or.inl ⟨q_X9_in, 3, 1, some (.inl (ol_b (0 ≤ v1 ∧ v1 ≤ (M 132 7) - 1))), M, ls_X9_75, rfl, Nat.le_of_ble_eq_true rfl, Nat.le_of_ble_eq_true rfl, (p_in h.2.2.1 ⟨by decide, by decide⟩ h.2.2.2.1), h.2.2.2.2⟩⟩⟩⟩⟩⟩)
set_option maxRecDepth 20000 in
theorem b_X9_isTerm_0 {n : Nat} {Rt : Option ol_V → ol_M → Prop} {A : Nat → ol_Ls → ol_St → ol_M → Prop} (hA : ol_C "OunceLettersModel" prog_11_method_30_code 1 (ol_lay n) Rt A) (v1 : Int) (M : ol_M)
    (h : ol_r v1 ∧ ol_r ((M 132 9) - 1) ∧ ol_rl v1 ∧ ol_rl ((M 132 9) - 1) ∧ Rt (some (.inl (ol_b (0 ≤ v1 ∧ v1 ≤ (M 132 9) - 1)))) M) :
    A 0 [some (.inr (.inr 132)), some (.inl v1)] [] M :=
  hA [.iload_n 1, .i2l, .lconst 0, .aload_n 0, .getfield 119, .iconst 1, .isub, .i2l, .invokestatic 75, .ireturn] 0 _ _ _ (by decide +kernel) (⟨_, rfl, ⟨h.1, ⟨_, rfl, ⟨_, _, 9, _, ly_132, lf_X9_119_X9, rfl, ⟨h.2.1, Or.inl ⟨q_X9_in, 3, 1, some (.inl (ol_b (0 ≤ v1 ∧ v1 ≤ (M 132 9) - 1))), M, ls_X9_75, rfl, Nat.le_of_ble_eq_true rfl, Nat.le_of_ble_eq_true rfl, (p_in h.2.2.1 ⟨by decide, by decide⟩ h.2.2.2.1), h.2.2.2.2⟩⟩⟩⟩⟩⟩)
set_option maxRecDepth 20000 in
theorem b_X4_findingAt_40 {n : Nat} {Rt : Option ol_V → ol_M → Prop} {A : Nat → ol_Ls → ol_St → ol_M → Prop} (hA : ol_C "OunceLetters$Sheets" prog_6_method_4_code 1 (ol_lay n) Rt A) (s0 : Int) (M : ol_M)
    (h : Rt (some (.inl s0)) M) :
    A 40 [none, none, none, none] [.inl s0] M :=
  hA [.ireturn] 40 _ _ _ (by decide +kernel) (h)
set_option maxRecDepth 20000 in
theorem b_X4_findingAt_39 {n : Nat} {Rt : Option ol_V → ol_M → Prop} {A : Nat → ol_Ls → ol_St → ol_M → Prop} (hA : ol_C "OunceLetters$Sheets" prog_6_method_4_code 1 (ol_lay n) Rt A) (M : ol_M)
    (h : Rt (some (.inl (2 : Int))) M) :
    A 39 [none, none, none, none] [] M :=
  hA [.iconst 2] 39 _ _ _ (by decide +kernel) (⟨[none, none, none, none], trivial, b_X4_findingAt_40 hA 2 M  h⟩)
set_option maxRecDepth 20000 in
theorem b_X4_findingAt_22 {n : Nat} {Rt : Option ol_V → ol_M → Prop} {A : Nat → ol_Ls → ol_St → ol_M → Prop} (hA : ol_C "OunceLetters$Sheets" prog_6_method_4_code 1 (ol_lay n) Rt A) (v1 v3 : Int) (M : ol_M)
    (h : 0 ≤ v1 ∧ v1 < 4 ∧ ol_r v3 ∧ ol_r (M 113 v1) ∧ ol_if (0 ≤ v3 ∧ v3 < M 113 v1) (Rt (some (.inl (0 : Int))) M) (Rt (some (.inl (2 : Int))) M)) :
    A 22 [some (.inr (.inr 111)), some (.inl v1), none, some (.inl v3)] [] M :=
  hA [.iload_n 3, .aload_n 0, .getfield 15, .iload_n 1, .iaload, .invokestatic 33, .ifCond .eq 7, .iconst 0, .goto 4] 22 _ _ _ (by decide +kernel) (⟨_, rfl, ⟨_, rfl, ⟨_, _, 1, _, ly_111, lf_X4_15_X4, rfl, ⟨_, rfl, ⟨_, ly_113, h.1, h.2.1, by decide, Or.inl ⟨q_X8_isBelow, 2, 1, some (.inl (ol_b (0 ≤ v3 ∧ v3 < M 113 v1))), M, ls_X4_33, rfl, Nat.le_of_ble_eq_true rfl, Nat.le_of_ble_eq_true rfl, (p_isBelow h.2.2.1 h.2.2.2.1), ⟨rfl, ol_beq ⟨fun c3 => ⟨rfl, ⟨[none, none, none, none], trivial, b_X4_findingAt_40 hA 0 M  (h.2.2.2.2.1 c3)⟩⟩, fun c3 => ⟨[none, none, none, none], trivial, b_X4_findingAt_39 hA  M  (h.2.2.2.2.2 c3)⟩⟩⟩⟩⟩⟩⟩⟩⟩)
set_option maxRecDepth 20000 in
theorem b_X4_findingAt_10 {n : Nat} {Rt : Option ol_V → ol_M → Prop} {A : Nat → ol_Ls → ol_St → ol_M → Prop} (hA : ol_C "OunceLetters$Sheets" prog_6_method_4_code 1 (ol_lay n) Rt A) (v1 v2 v3 : Int) (M : ol_M)
    (h : 0 ≤ v1 ∧ v1 < 4 ∧ ol_if ((M 112 v1) = v2) (0 ≤ v1 ∧ v1 < 4 ∧ ol_r v3 ∧ ol_r (M 113 v1) ∧ ol_if (0 ≤ v3 ∧ v3 < M 113 v1) (Rt (some (.inl (0 : Int))) M) (Rt (some (.inl (2 : Int))) M)) (ol_r (M 112 v1) ∧ ol_r v2 ∧ Rt (some (.inl 3)) M)) :
    A 10 [some (.inr (.inr 111)), some (.inl v1), some (.inl v2), some (.inl v3)] [] M :=
  hA [.aload_n 0, .getfield 9, .iload_n 1, .iaload, .iload_n 2, .if_icmp .eq 5, .iconst 3, .ireturn] 10 _ _ _ (by decide +kernel) (⟨_, rfl, ⟨_, _, 0, _, ly_111, lf_X4_9_X4, rfl, ⟨_, rfl, ⟨_, ly_112, h.1, h.2.1, by decide, ⟨_, rfl, ⟨rfl, ⟨fun c4 => ⟨[some (.inr (.inr 111)), some (.inl v1), none, some (.inl v3)], ⟨rfl, ⟨rfl, ⟨rfl, trivial⟩⟩⟩, b_X4_findingAt_22 hA v1 v3 M  (h.2.2.1 c4)⟩, fun c4 => ⟨(h.2.2.2 c4).1, (h.2.2.2 c4).2.1, (h.2.2.2 c4).2.2⟩⟩⟩⟩⟩⟩⟩⟩)
set_option maxRecDepth 20000 in
theorem b_X4_findingAt_0 {n : Nat} {Rt : Option ol_V → ol_M → Prop} {A : Nat → ol_Ls → ol_St → ol_M → Prop} (hA : ol_C "OunceLetters$Sheets" prog_6_method_4_code 1 (ol_lay n) Rt A) (v1 v2 v3 : Int) (M : ol_M)
    (h : 0 ≤ v1 ∧ v1 < 4 ∧ ol_r (M 113 v1) ∧ ol_if (M 113 v1 = -1) (Rt (some (.inl 1)) M) (0 ≤ v1 ∧ v1 < 4 ∧ ol_if ((M 112 v1) = v2) (0 ≤ v1 ∧ v1 < 4 ∧ ol_r v3 ∧ ol_r (M 113 v1) ∧ ol_if (0 ≤ v3 ∧ v3 < M 113 v1) (Rt (some (.inl (0 : Int))) M) (Rt (some (.inl (2 : Int))) M)) (ol_r (M 112 v1) ∧ ol_r v2 ∧ Rt (some (.inl 3)) M))) :
    A 0 [some (.inr (.inr 111)), some (.inl v1), some (.inl v2), some (.inl v3)] [] M :=
  hA [.aload_n 0, .iload_n 1, .invokevirtual 29, .ifCond .eq 5, .iconst 1, .ireturn] 0 _ _ _ (by decide +kernel) (⟨_, rfl, ⟨_, rfl, ⟨q_X4_isLost, 1, 1, some (.inl (ol_b (M 113 v1 = -1))), M, 111, _, _, _, rfl, rfl, ly_111, lv_X4_29_X4, Nat.le_of_ble_eq_true rfl, Nat.le_of_ble_eq_true rfl, (p_isLost h.1 h.2.1 h.2.2.1), ⟨rfl, ol_beq ⟨fun c5 => (h.2.2.2.1 c5), fun c5 => ⟨[some (.inr (.inr 111)), some (.inl v1), some (.inl v2), some (.inl v3)], ⟨rfl, ⟨rfl, ⟨rfl, ⟨rfl, trivial⟩⟩⟩⟩, b_X4_findingAt_10 hA v1 v2 v3 M  (h.2.2.2.2 c5)⟩⟩⟩⟩⟩⟩)
set_option maxRecDepth 20000 in
theorem b_X4_holds_35 {n : Nat} {Rt : Option ol_V → ol_M → Prop} {A : Nat → ol_Ls → ol_St → ol_M → Prop} (hA : ol_C "OunceLetters$Sheets" prog_6_method_5_code 0 (ol_lay n) Rt A) (s0 : Int) (M : ol_M)
    (h : Rt (some (.inl s0)) M) :
    A 35 [none, none, none, none] [.inl s0] M :=
  hA [.ireturn] 35 _ _ _ (by decide +kernel) (h)
set_option maxRecDepth 20000 in
theorem b_X4_holds_34 {n : Nat} {Rt : Option ol_V → ol_M → Prop} {A : Nat → ol_Ls → ol_St → ol_M → Prop} (hA : ol_C "OunceLetters$Sheets" prog_6_method_5_code 0 (ol_lay n) Rt A) (M : ol_M)
    (h : Rt (some (.inl (0 : Int))) M) :
    A 34 [none, none, none, none] [] M :=
  hA [.iconst 0] 34 _ _ _ (by decide +kernel) (⟨[none, none, none, none], trivial, b_X4_holds_35 hA 0 M  h⟩)
set_option maxRecDepth 20000 in
theorem b_X4_holds_0 {n : Nat} {Rt : Option ol_V → ol_M → Prop} {A : Nat → ol_Ls → ol_St → ol_M → Prop} (hA : ol_C "OunceLetters$Sheets" prog_6_method_5_code 0 (ol_lay n) Rt A) (v1 v2 v3 : Int) (M : ol_M)
    (h : ol_r v2 ∧ ol_if (v2 < 0) (Rt (some (.inl (0 : Int))) M) (ol_r v3 ∧ ol_if (v3 < 0) (Rt (some (.inl (0 : Int))) M) (0 ≤ v1 ∧ v1 < 4 ∧ ol_r v2 ∧ ol_r (M 113 v1) ∧ ol_if ((M 113 v1) < v2) (Rt (some (.inl (0 : Int))) M) (0 ≤ v1 ∧ v1 < 4 ∧ ol_r v3 ∧ ol_r ((M 113 v1) - v2) ∧ ol_if (((M 113 v1) - v2) < v3) (Rt (some (.inl (0 : Int))) M) (Rt (some (.inl (1 : Int))) M))))) :
    A 0 [some (.inr (.inr 111)), some (.inl v1), some (.inl v2), some (.inl v3)] [] M :=
  hA [.iload_n 2, .ifCond .lt 33, .iload_n 3, .ifCond .lt 29, .iload_n 2, .aload_n 0, .getfield 15, .iload_n 1, .iaload, .if_icmp .gt 19, .iload_n 3, .aload_n 0, .getfield 15, .iload_n 1, .iaload, .iload_n 2, .isub, .if_icmp .gt 7, .iconst 1, .goto 4] 0 _ _ _ (by decide +kernel) (⟨_, rfl, ⟨rfl, h.1, ⟨by decide, by decide⟩, ⟨fun c1 => ⟨[none, none, none, none], trivial, b_X4_holds_34 hA  M  (h.2.1 c1)⟩, fun c1 => ⟨_, rfl, ⟨rfl, (h.2.2 c1).1, ⟨by decide, by decide⟩, ⟨fun c2 => ⟨[none, none, none, none], trivial, b_X4_holds_34 hA  M  ((h.2.2 c1).2.1 c2)⟩, fun c2 => ⟨_, rfl, ⟨_, rfl, ⟨_, _, 1, _, ly_111, lf_X4_15_X4, rfl, ⟨_, rfl, ⟨_, ly_113, ((h.2.2 c1).2.2 c2).1, ((h.2.2 c1).2.2 c2).2.1, by decide, ⟨rfl, ((h.2.2 c1).2.2 c2).2.2.1, ((h.2.2 c1).2.2 c2).2.2.2.1, ⟨fun c3 => ⟨[none, none, none, none], trivial, b_X4_holds_34 hA  M  (((h.2.2 c1).2.2 c2).2.2.2.2.1 c3)⟩, fun c3 => ⟨_, rfl, ⟨_, rfl, ⟨_, _, 1, _, ly_111, lf_X4_15_X4, rfl, ⟨_, rfl, ⟨_, ly_113, (((h.2.2 c1).2.2 c2).2.2.2.2.2 c3).1, (((h.2.2 c1).2.2 c2).2.2.2.2.2 c3).2.1, by decide, ⟨_, rfl, ⟨rfl, (((h.2.2 c1).2.2 c2).2.2.2.2.2 c3).2.2.1, (((h.2.2 c1).2.2 c2).2.2.2.2.2 c3).2.2.2.1, ⟨fun c4 => ⟨[none, none, none, none], trivial, b_X4_holds_34 hA  M  ((((h.2.2 c1).2.2 c2).2.2.2.2.2 c3).2.2.2.2.1 c4)⟩, fun c4 => ⟨rfl, ⟨[none, none, none, none], trivial, b_X4_holds_35 hA 1 M  ((((h.2.2 c1).2.2 c2).2.2.2.2.2 c3).2.2.2.2.2 c4)⟩⟩⟩⟩⟩⟩⟩⟩⟩⟩⟩⟩⟩⟩⟩⟩⟩⟩⟩⟩⟩⟩⟩)
