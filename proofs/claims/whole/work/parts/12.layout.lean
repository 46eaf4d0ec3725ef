/-! THE CELLS: 0 the object x, 132 the reference, -1 the script (of n ints) -/
def ol_tab : List ol_Y := [.inr (.inr (7, [some 1, some 5, some 37, some 50, some 51, some 68, some 85, some 111, some 119, none, none, none])), .inr (.inr (1, [some 2, none, none, none, none, some 3, some 4])), .inl 55, .inl 8, .inl 8, .inr (.inr (5, [some 6, none, none, none, none, some 7, some 16, some 25, some 34, some 35, some 36])), .inl 55, .inr (.inl (8, 8)), .inl 6, .inl 6, .inl 6, .inl 6, .inl 6, .inl 6, .inl 6, .inl 6, .inr (.inl (8, 17)), .inl 8, .inl 8, .inl 8, .inl 8, .inl 8, .inl 8, .inl 8, .inl 8, .inr (.inl (8, 26)), .inl 8, .inl 8, .inl 8, .inl 8, .inl 8, .inl 8, .inl 8, .inl 8, .inl 8, .inl 8, .inl 8, .inr (.inr (6, [some 38, some 39, some 40, some 41, none, some 42, some 43, some 44, some 45, none, some 46, some 47, some 48, some 49, none])), .inl 8, .inl 12, .inl 12, .inl 12, .inl 8, .inl 8, .inl 8, .inl 8, .inl 8, .inl 8, .inl 8, .inl 8, .inr (.inr (2, [some 1, some 5, some 37])), .inr (.inr (3, [some 50, some 37, some 52, some 53, some 54, some 67, none, none])), .inl 8, .inl 64, .inr (.inl (12, 55)), .inl 64, .inl 64, .inl 64, .inl 64, .inl 64, .inl 64, .inl 64, .inl 64, .inl 64, .inl 64, .inl 64, .inl 64, .inl 12, .inr (.inr (3, [some 50, some 37, some 69, some 70, some 71, some 84, none, none])), .inl 8, .inl 64, .inr (.inl (12, 72)), .inl 64, .inl 64, .inl 64, .inl 64, .inl 64, .inl 64, .inl 64, .inl 64, .inl 64, .inl 64, .inl 64, .inl 64, .inl 12, .inr (.inr (0, [some 50, some 37, some 86, some 87, some 101, some 102, none])), .inl 12, .inr (.inl (13, 88)), .inl 64, .inl 64, .inl 64, .inl 64, .inl 64, .inl 64, .inl 64, .inl 64, .inl 64, .inl 64, .inl 64, .inl 64, .inl 64, .inl 8, .inr (.inl (8, 103)), .inl 169, .inl 169, .inl 169, .inl 169, .inl 169, .inl 169, .inl 169, .inl 169, .inr (.inr (4, [some 112, some 113, some 114])), .inl 4, .inl 4, .inr (.inl (4, 115)), .inl 60, .inl 60, .inl 60, .inl 60, .inr (.inl (12, 120)), .inl 8, .inl 8, .inl 8, .inl 8, .inl 8, .inl 8, .inl 8, .inl 8, .inl 8, .inl 8, .inl 8, .inl 8, .inr (.inr (8, [some 133, some 134, some 135, some 136, none, some 137, some 138, none, some 139, none, some 140, some 141, some 142, some 143, some 144, none, some 145, none, some 146, some 147, some 148, some 149, some 150, some 151, none, none, none, some 152, some 153, none])), .inl 4, .inl 4, .inl 240, .inl 60, .inl 112, .inl 2, .inl 16, .inl 48, .inl 8, .inl 8, .inl 64, .inl 8, .inl 72, .inl 32, .inl 64, .inl 24, .inl 24, .inl 8, .inl 8, .inl 32, .inl 96]
def ol_lay (n : Nat) : ol_L := fun k => match k with
  | .ofNat j => ol_tab[j]?
  | .negSucc _ => none
theorem ly_0 {n : Nat} : ol_lay n 0 = some (.inr (.inr (7, [some 1, some 5, some 37, some 50, some 51, some 68, some 85, some 111, some 119, none, none, none]))) := rfl
theorem ly_1 {n : Nat} : ol_lay n 1 = some (.inr (.inr (1, [some 2, none, none, none, none, some 3, some 4]))) := rfl
theorem ly_2 {n : Nat} : ol_lay n 2 = some (.inl 55) := rfl
theorem ly_3 {n : Nat} : ol_lay n 3 = some (.inl 8) := rfl
theorem ly_4 {n : Nat} : ol_lay n 4 = some (.inl 8) := rfl
theorem ly_5 {n : Nat} : ol_lay n 5 = some (.inr (.inr (5, [some 6, none, none, none, none, some 7, some 16, some 25, some 34, some 35, some 36]))) := rfl
theorem ly_6 {n : Nat} : ol_lay n 6 = some (.inl 55) := rfl
theorem ly_7 {n : Nat} : ol_lay n 7 = some (.inr (.inl (8, 8))) := rfl
theorem ly_8 {n : Nat} : ol_lay n 8 = some (.inl 6) := rfl
theorem ly_9 {n : Nat} : ol_lay n 9 = some (.inl 6) := rfl
theorem ly_10 {n : Nat} : ol_lay n 10 = some (.inl 6) := rfl
theorem ly_11 {n : Nat} : ol_lay n 11 = some (.inl 6) := rfl
theorem ly_12 {n : Nat} : ol_lay n 12 = some (.inl 6) := rfl
theorem ly_13 {n : Nat} : ol_lay n 13 = some (.inl 6) := rfl
theorem ly_14 {n : Nat} : ol_lay n 14 = some (.inl 6) := rfl
theorem ly_15 {n : Nat} : ol_lay n 15 = some (.inl 6) := rfl
theorem ly_16 {n : Nat} : ol_lay n 16 = some (.inr (.inl (8, 17))) := rfl
theorem ly_17 {n : Nat} : ol_lay n 17 = some (.inl 8) := rfl
theorem ly_18 {n : Nat} : ol_lay n 18 = some (.inl 8) := rfl
theorem ly_19 {n : Nat} : ol_lay n 19 = some (.inl 8) := rfl
theorem ly_20 {n : Nat} : ol_lay n 20 = some (.inl 8) := rfl
theorem ly_21 {n : Nat} : ol_lay n 21 = some (.inl 8) := rfl
theorem ly_22 {n : Nat} : ol_lay n 22 = some (.inl 8) := rfl
theorem ly_23 {n : Nat} : ol_lay n 23 = some (.inl 8) := rfl
theorem ly_24 {n : Nat} : ol_lay n 24 = some (.inl 8) := rfl
theorem ly_25 {n : Nat} : ol_lay n 25 = some (.inr (.inl (8, 26))) := rfl
theorem ly_26 {n : Nat} : ol_lay n 26 = some (.inl 8) := rfl
theorem ly_27 {n : Nat} : ol_lay n 27 = some (.inl 8) := rfl
theorem ly_28 {n : Nat} : ol_lay n 28 = some (.inl 8) := rfl
theorem ly_29 {n : Nat} : ol_lay n 29 = some (.inl 8) := rfl
theorem ly_30 {n : Nat} : ol_lay n 30 = some (.inl 8) := rfl
theorem ly_31 {n : Nat} : ol_lay n 31 = some (.inl 8) := rfl
theorem ly_32 {n : Nat} : ol_lay n 32 = some (.inl 8) := rfl
theorem ly_33 {n : Nat} : ol_lay n 33 = some (.inl 8) := rfl
theorem ly_34 {n : Nat} : ol_lay n 34 = some (.inl 8) := rfl
theorem ly_35 {n : Nat} : ol_lay n 35 = some (.inl 8) := rfl
theorem ly_36 {n : Nat} : ol_lay n 36 = some (.inl 8) := rfl
theorem ly_37 {n : Nat} : ol_lay n 37 = some (.inr (.inr (6, [some 38, some 39, some 40, some 41, none, some 42, some 43, some 44, some 45, none, some 46, some 47, some 48, some 49, none]))) := rfl
theorem ly_38 {n : Nat} : ol_lay n 38 = some (.inl 8) := rfl
theorem ly_39 {n : Nat} : ol_lay n 39 = some (.inl 12) := rfl
theorem ly_40 {n : Nat} : ol_lay n 40 = some (.inl 12) := rfl
theorem ly_41 {n : Nat} : ol_lay n 41 = some (.inl 12) := rfl
theorem ly_42 {n : Nat} : ol_lay n 42 = some (.inl 8) := rfl
theorem ly_43 {n : Nat} : ol_lay n 43 = some (.inl 8) := rfl
theorem ly_44 {n : Nat} : ol_lay n 44 = some (.inl 8) := rfl
theorem ly_45 {n : Nat} : ol_lay n 45 = some (.inl 8) := rfl
theorem ly_46 {n : Nat} : ol_lay n 46 = some (.inl 8) := rfl
theorem ly_47 {n : Nat} : ol_lay n 47 = some (.inl 8) := rfl
theorem ly_48 {n : Nat} : ol_lay n 48 = some (.inl 8) := rfl
theorem ly_49 {n : Nat} : ol_lay n 49 = some (.inl 8) := rfl
theorem ly_50 {n : Nat} : ol_lay n 50 = some (.inr (.inr (2, [some 1, some 5, some 37]))) := rfl
theorem ly_51 {n : Nat} : ol_lay n 51 = some (.inr (.inr (3, [some 50, some 37, some 52, some 53, some 54, some 67, none, none]))) := rfl
theorem ly_52 {n : Nat} : ol_lay n 52 = some (.inl 8) := rfl
theorem ly_53 {n : Nat} : ol_lay n 53 = some (.inl 64) := rfl
theorem ly_54 {n : Nat} : ol_lay n 54 = some (.inr (.inl (12, 55))) := rfl
theorem ly_55 {n : Nat} : ol_lay n 55 = some (.inl 64) := rfl
theorem ly_56 {n : Nat} : ol_lay n 56 = some (.inl 64) := rfl
theorem ly_57 {n : Nat} : ol_lay n 57 = some (.inl 64) := rfl
theorem ly_58 {n : Nat} : ol_lay n 58 = some (.inl 64) := rfl
theorem ly_59 {n : Nat} : ol_lay n 59 = some (.inl 64) := rfl
theorem ly_60 {n : Nat} : ol_lay n 60 = some (.inl 64) := rfl
theorem ly_61 {n : Nat} : ol_lay n 61 = some (.inl 64) := rfl
theorem ly_62 {n : Nat} : ol_lay n 62 = some (.inl 64) := rfl
theorem ly_63 {n : Nat} : ol_lay n 63 = some (.inl 64) := rfl
theorem ly_64 {n : Nat} : ol_lay n 64 = some (.inl 64) := rfl
theorem ly_65 {n : Nat} : ol_lay n 65 = some (.inl 64) := rfl
theorem ly_66 {n : Nat} : ol_lay n 66 = some (.inl 64) := rfl
theorem ly_67 {n : Nat} : ol_lay n 67 = some (.inl 12) := rfl
theorem ly_68 {n : Nat} : ol_lay n 68 = some (.inr (.inr (3, [some 50, some 37, some 69, some 70, some 71, some 84, none, none]))) := rfl
theorem ly_69 {n : Nat} : ol_lay n 69 = some (.inl 8) := rfl
theorem ly_70 {n : Nat} : ol_lay n 70 = some (.inl 64) := rfl
theorem ly_71 {n : Nat} : ol_lay n 71 = some (.inr (.inl (12, 72))) := rfl
theorem ly_72 {n : Nat} : ol_lay n 72 = some (.inl 64) := rfl
theorem ly_73 {n : Nat} : ol_lay n 73 = some (.inl 64) := rfl
theorem ly_74 {n : Nat} : ol_lay n 74 = some (.inl 64) := rfl
theorem ly_75 {n : Nat} : ol_lay n 75 = some (.inl 64) := rfl
theorem ly_76 {n : Nat} : ol_lay n 76 = some (.inl 64) := rfl
theorem ly_77 {n : Nat} : ol_lay n 77 = some (.inl 64) := rfl
theorem ly_78 {n : Nat} : ol_lay n 78 = some (.inl 64) := rfl
theorem ly_79 {n : Nat} : ol_lay n 79 = some (.inl 64) := rfl
theorem ly_80 {n : Nat} : ol_lay n 80 = some (.inl 64) := rfl
theorem ly_81 {n : Nat} : ol_lay n 81 = some (.inl 64) := rfl
theorem ly_82 {n : Nat} : ol_lay n 82 = some (.inl 64) := rfl
theorem ly_83 {n : Nat} : ol_lay n 83 = some (.inl 64) := rfl
theorem ly_84 {n : Nat} : ol_lay n 84 = some (.inl 12) := rfl
theorem ly_85 {n : Nat} : ol_lay n 85 = some (.inr (.inr (0, [some 50, some 37, some 86, some 87, some 101, some 102, none]))) := rfl
theorem ly_86 {n : Nat} : ol_lay n 86 = some (.inl 12) := rfl
theorem ly_87 {n : Nat} : ol_lay n 87 = some (.inr (.inl (13, 88))) := rfl
theorem ly_88 {n : Nat} : ol_lay n 88 = some (.inl 64) := rfl
theorem ly_89 {n : Nat} : ol_lay n 89 = some (.inl 64) := rfl
theorem ly_90 {n : Nat} : ol_lay n 90 = some (.inl 64) := rfl
theorem ly_91 {n : Nat} : ol_lay n 91 = some (.inl 64) := rfl
theorem ly_92 {n : Nat} : ol_lay n 92 = some (.inl 64) := rfl
theorem ly_93 {n : Nat} : ol_lay n 93 = some (.inl 64) := rfl
theorem ly_94 {n : Nat} : ol_lay n 94 = some (.inl 64) := rfl
theorem ly_95 {n : Nat} : ol_lay n 95 = some (.inl 64) := rfl
theorem ly_96 {n : Nat} : ol_lay n 96 = some (.inl 64) := rfl
theorem ly_97 {n : Nat} : ol_lay n 97 = some (.inl 64) := rfl
theorem ly_98 {n : Nat} : ol_lay n 98 = some (.inl 64) := rfl
theorem ly_99 {n : Nat} : ol_lay n 99 = some (.inl 64) := rfl
theorem ly_100 {n : Nat} : ol_lay n 100 = some (.inl 64) := rfl
theorem ly_101 {n : Nat} : ol_lay n 101 = some (.inl 8) := rfl
theorem ly_102 {n : Nat} : ol_lay n 102 = some (.inr (.inl (8, 103))) := rfl
theorem ly_103 {n : Nat} : ol_lay n 103 = some (.inl 169) := rfl
theorem ly_104 {n : Nat} : ol_lay n 104 = some (.inl 169) := rfl
theorem ly_105 {n : Nat} : ol_lay n 105 = some (.inl 169) := rfl
theorem ly_106 {n : Nat} : ol_lay n 106 = some (.inl 169) := rfl
theorem ly_107 {n : Nat} : ol_lay n 107 = some (.inl 169) := rfl
theorem ly_108 {n : Nat} : ol_lay n 108 = some (.inl 169) := rfl
theorem ly_109 {n : Nat} : ol_lay n 109 = some (.inl 169) := rfl
theorem ly_110 {n : Nat} : ol_lay n 110 = some (.inl 169) := rfl
theorem ly_111 {n : Nat} : ol_lay n 111 = some (.inr (.inr (4, [some 112, some 113, some 114]))) := rfl
theorem ly_112 {n : Nat} : ol_lay n 112 = some (.inl 4) := rfl
theorem ly_113 {n : Nat} : ol_lay n 113 = some (.inl 4) := rfl
theorem ly_114 {n : Nat} : ol_lay n 114 = some (.inr (.inl (4, 115))) := rfl
theorem ly_115 {n : Nat} : ol_lay n 115 = some (.inl 60) := rfl
theorem ly_116 {n : Nat} : ol_lay n 116 = some (.inl 60) := rfl
theorem ly_117 {n : Nat} : ol_lay n 117 = some (.inl 60) := rfl
theorem ly_118 {n : Nat} : ol_lay n 118 = some (.inl 60) := rfl
theorem ly_119 {n : Nat} : ol_lay n 119 = some (.inr (.inl (12, 120))) := rfl
theorem ly_120 {n : Nat} : ol_lay n 120 = some (.inl 8) := rfl
theorem ly_121 {n : Nat} : ol_lay n 121 = some (.inl 8) := rfl
theorem ly_122 {n : Nat} : ol_lay n 122 = some (.inl 8) := rfl
theorem ly_123 {n : Nat} : ol_lay n 123 = some (.inl 8) := rfl
theorem ly_124 {n : Nat} : ol_lay n 124 = some (.inl 8) := rfl
theorem ly_125 {n : Nat} : ol_lay n 125 = some (.inl 8) := rfl
theorem ly_126 {n : Nat} : ol_lay n 126 = some (.inl 8) := rfl
theorem ly_127 {n : Nat} : ol_lay n 127 = some (.inl 8) := rfl
theorem ly_128 {n : Nat} : ol_lay n 128 = some (.inl 8) := rfl
theorem ly_129 {n : Nat} : ol_lay n 129 = some (.inl 8) := rfl
theorem ly_130 {n : Nat} : ol_lay n 130 = some (.inl 8) := rfl
theorem ly_131 {n : Nat} : ol_lay n 131 = some (.inl 8) := rfl
theorem ly_132 {n : Nat} : ol_lay n 132 = some (.inr (.inr (8, [some 133, some 134, some 135, some 136, none, some 137, some 138, none, some 139, none, some 140, some 141, some 142, some 143, some 144, none, some 145, none, some 146, some 147, some 148, some 149, some 150, some 151, none, none, none, some 152, some 153, none]))) := rfl
theorem ly_133 {n : Nat} : ol_lay n 133 = some (.inl 4) := rfl
theorem ly_134 {n : Nat} : ol_lay n 134 = some (.inl 4) := rfl
theorem ly_135 {n : Nat} : ol_lay n 135 = some (.inl 240) := rfl
theorem ly_136 {n : Nat} : ol_lay n 136 = some (.inl 60) := rfl
theorem ly_137 {n : Nat} : ol_lay n 137 = some (.inl 112) := rfl
theorem ly_138 {n : Nat} : ol_lay n 138 = some (.inl 2) := rfl
theorem ly_139 {n : Nat} : ol_lay n 139 = some (.inl 16) := rfl
theorem ly_140 {n : Nat} : ol_lay n 140 = some (.inl 48) := rfl
theorem ly_141 {n : Nat} : ol_lay n 141 = some (.inl 8) := rfl
theorem ly_142 {n : Nat} : ol_lay n 142 = some (.inl 8) := rfl
theorem ly_143 {n : Nat} : ol_lay n 143 = some (.inl 64) := rfl
theorem ly_144 {n : Nat} : ol_lay n 144 = some (.inl 8) := rfl
theorem ly_145 {n : Nat} : ol_lay n 145 = some (.inl 72) := rfl
theorem ly_146 {n : Nat} : ol_lay n 146 = some (.inl 32) := rfl
theorem ly_147 {n : Nat} : ol_lay n 147 = some (.inl 64) := rfl
theorem ly_148 {n : Nat} : ol_lay n 148 = some (.inl 24) := rfl
theorem ly_149 {n : Nat} : ol_lay n 149 = some (.inl 24) := rfl
theorem ly_150 {n : Nat} : ol_lay n 150 = some (.inl 8) := rfl
theorem ly_151 {n : Nat} : ol_lay n 151 = some (.inl 8) := rfl
theorem ly_152 {n : Nat} : ol_lay n 152 = some (.inl 32) := rfl
theorem ly_153 {n : Nat} : ol_lay n 153 = some (.inl 96) := rfl
theorem lr_7 {n : Nat} (i : Int) (h0 : 0 ≤ i) (h1 : i < 8) : ol_lay n (8 + i) = some (.inl 6) := by
  rcases (show i = 0 ∨ i = 1 ∨ i = 2 ∨ i = 3 ∨ i = 4 ∨ i = 5 ∨ i = 6 ∨ i = 7 by omega) with rfl | rfl | rfl | rfl | rfl | rfl | rfl | rfl <;> rfl
theorem lr_16 {n : Nat} (i : Int) (h0 : 0 ≤ i) (h1 : i < 8) : ol_lay n (17 + i) = some (.inl 8) := by
  rcases (show i = 0 ∨ i = 1 ∨ i = 2 ∨ i = 3 ∨ i = 4 ∨ i = 5 ∨ i = 6 ∨ i = 7 by omega) with rfl | rfl | rfl | rfl | rfl | rfl | rfl | rfl <;> rfl
theorem lr_25 {n : Nat} (i : Int) (h0 : 0 ≤ i) (h1 : i < 8) : ol_lay n (26 + i) = some (.inl 8) := by
  rcases (show i = 0 ∨ i = 1 ∨ i = 2 ∨ i = 3 ∨ i = 4 ∨ i = 5 ∨ i = 6 ∨ i = 7 by omega) with rfl | rfl | rfl | rfl | rfl | rfl | rfl | rfl <;> rfl
theorem lr_54 {n : Nat} (i : Int) (h0 : 0 ≤ i) (h1 : i < 12) : ol_lay n (55 + i) = some (.inl 64) := by
  rcases (show i = 0 ∨ i = 1 ∨ i = 2 ∨ i = 3 ∨ i = 4 ∨ i = 5 ∨ i = 6 ∨ i = 7 ∨ i = 8 ∨ i = 9 ∨ i = 10 ∨ i = 11 by omega) with rfl | rfl | rfl | rfl | rfl | rfl | rfl | rfl | rfl | rfl | rfl | rfl <;> rfl
theorem lr_71 {n : Nat} (i : Int) (h0 : 0 ≤ i) (h1 : i < 12) : ol_lay n (72 + i) = some (.inl 64) := by
  rcases (show i = 0 ∨ i = 1 ∨ i = 2 ∨ i = 3 ∨ i = 4 ∨ i = 5 ∨ i = 6 ∨ i = 7 ∨ i = 8 ∨ i = 9 ∨ i = 10 ∨ i = 11 by omega) with rfl | rfl | rfl | rfl | rfl | rfl | rfl | rfl | rfl | rfl | rfl | rfl <;> rfl
theorem lr_87 {n : Nat} (i : Int) (h0 : 0 ≤ i) (h1 : i < 13) : ol_lay n (88 + i) = some (.inl 64) := by
  rcases (show i = 0 ∨ i = 1 ∨ i = 2 ∨ i = 3 ∨ i = 4 ∨ i = 5 ∨ i = 6 ∨ i = 7 ∨ i = 8 ∨ i = 9 ∨ i = 10 ∨ i = 11 ∨ i = 12 by omega) with rfl | rfl | rfl | rfl | rfl | rfl | rfl | rfl | rfl | rfl | rfl | rfl | rfl <;> rfl
theorem lr_102 {n : Nat} (i : Int) (h0 : 0 ≤ i) (h1 : i < 8) : ol_lay n (103 + i) = some (.inl 169) := by
  rcases (show i = 0 ∨ i = 1 ∨ i = 2 ∨ i = 3 ∨ i = 4 ∨ i = 5 ∨ i = 6 ∨ i = 7 by omega) with rfl | rfl | rfl | rfl | rfl | rfl | rfl | rfl <;> rfl
theorem lr_114 {n : Nat} (i : Int) (h0 : 0 ≤ i) (h1 : i < 4) : ol_lay n (115 + i) = some (.inl 60) := by
  rcases (show i = 0 ∨ i = 1 ∨ i = 2 ∨ i = 3 by omega) with rfl | rfl | rfl | rfl <;> rfl
theorem lr_119 {n : Nat} (i : Int) (h0 : 0 ≤ i) (h1 : i < 12) : ol_lay n (120 + i) = some (.inl 8) := by
  rcases (show i = 0 ∨ i = 1 ∨ i = 2 ∨ i = 3 ∨ i = 4 ∨ i = 5 ∨ i = 6 ∨ i = 7 ∨ i = 8 ∨ i = 9 ∨ i = 10 ∨ i = 11 by omega) with rfl | rfl | rfl | rfl | rfl | rfl | rfl | rfl | rfl | rfl | rfl | rfl <;> rfl
theorem ol_gi {w : Cond} (i : Nat) (h : ol_tb[i]? = some w) (g : goodWord w = true) : w ∈ ol_gt := ol_gm (List.mem_of_getElem? h) g
/-- a truth value as an int -/
def ol_b (P : Prop) [Decidable P] : Int := if P then 1 else 0
theorem ol_b1 {P : Prop} [Decidable P] (h : P) : ol_b P = 1 := if_pos h
theorem ol_b0 {P : Prop} [Decidable P] (h : ¬ P) : ol_b P = 0 := if_neg h
theorem ol_br1 {P : Prop} [Decidable P] : ol_r (ol_b P) := by
  unfold ol_b
  split <;> exact ⟨by decide, by decide⟩
theorem ol_b01 {P : Prop} [Decidable P] : ol_b P = 0 ∨ ol_b P = 1 := by
  unfold ol_b
  split
  · exact Or.inr rfl
  · exact Or.inl rfl
theorem ol_beq {P : Prop} [Decidable P] {r : ol_St} {T F : ol_St → Prop} (h : ol_if P (F r) (T r)) : ol_p1 (.inl (ol_b P) :: r) (fun a r => ol_br .eq a 0 (T r) (F r)) := by
  by_cases p : P
  · exact ol_if.neg (by rw [ol_b1 p]; decide) ⟨ol_br1, ⟨by decide, by decide⟩, h.1 p⟩
  · exact ol_if.pos (ol_b0 p) (h.2 p)
theorem ol_bne {P : Prop} [Decidable P] {r : ol_St} {T F : ol_St → Prop} (h : ol_if P (T r) (F r)) : ol_p1 (.inl (ol_b P) :: r) (fun a r => ol_br .ne a 0 (T r) (F r)) := by
  by_cases p : P
  · exact ol_if.neg (by rw [ol_b1 p]; decide) ⟨ol_br1, ⟨by decide, by decide⟩, h.1 p⟩
  · exact ol_if.pos (ol_b0 p) (h.2 p)
/-- a row whose first n items are v -/
def ol_fl (f : Int → Int) (v : Int) (n : Nat) : Int → Int := fun j => if 0 ≤ j ∧ j < n then v else f j
def ol_cut (f v : Int) : Int := if f = 0 then v.bmod 256 else if f = 1 then v.bmod 65536 else v
/-- what a look at an item finds: 0 nothing, 1 a lost sheet, 3 another form, 2 no such item -/
def ol_fnd (M : ol_M) (s f i : Int) : Int := if M 113 s = -1 then 1 else if M 112 s ≠ f then 3 else if 0 ≤ i ∧ i < M 113 s then 0 else 2
/-- how many bits are set, of twelve -/
def ol_pop (x : Int) : Int := x % 2 + x / 2 % 2 + x / 4 % 2 + x / 8 % 2 + x / 16 % 2 + x / 32 % 2 + x / 64 % 2 + x / 128 % 2 + x / 256 % 2 + x / 512 % 2 + x / 1024 % 2 + x / 2048 % 2
theorem ol_lge {a b : Int} {X : Prop} {r : ol_St} {T F : ol_St → Prop} (ha : ol_rl a) (hb : ol_rl b) (h : ol_if (b ≤ a) (T r) (F r)) (x : X := by rfl) : ol_if (a = b) (X ∧ ol_p1 (.inl 0 :: r) (fun a r => ol_br .ge a 0 (T r) (F r))) (ol_rl a ∧ ol_rl b ∧ (X ∧ ol_p1 (.inl (if a < b then -1 else 1) :: r) (fun a r => ol_br .ge a 0 (T r) (F r)))) := by
  refine ⟨fun e => ⟨x, ⟨by decide, by decide⟩, ⟨by decide, by decide⟩, ?_⟩, fun e => ⟨ha, hb, x, ?_, ⟨by decide, by decide⟩, ?_⟩⟩
  · subst e
    exact ⟨fun q => h.1 (by omega), fun q => h.2 (by omega)⟩
  · split <;> exact ⟨by decide, by decide⟩
  · by_cases q : a < b
    · rw [if_pos q]
      exact ⟨fun z => h.1 (by omega), fun z => h.2 (by omega)⟩
    · rw [if_neg q]
      exact ⟨fun z => h.1 (by omega), fun z => h.2 (by omega)⟩
theorem ol_llt {a b : Int} {X : Prop} {r : ol_St} {T F : ol_St → Prop} (ha : ol_rl a) (hb : ol_rl b) (h : ol_if (a < b) (T r) (F r)) (x : X := by rfl) : ol_if (a = b) (X ∧ ol_p1 (.inl 0 :: r) (fun a r => ol_br .lt a 0 (T r) (F r))) (ol_rl a ∧ ol_rl b ∧ (X ∧ ol_p1 (.inl (if a < b then -1 else 1) :: r) (fun a r => ol_br .lt a 0 (T r) (F r)))) := by
  refine ⟨fun e => ⟨x, ⟨by decide, by decide⟩, ⟨by decide, by decide⟩, ?_⟩, fun e => ⟨ha, hb, x, ?_, ⟨by decide, by decide⟩, ?_⟩⟩
  · subst e
    exact ⟨fun q => h.1 (by omega), fun q => h.2 (by omega)⟩
  · split <;> exact ⟨by decide, by decide⟩
  · by_cases q : a < b
    · rw [if_pos q]
      exact ⟨fun z => h.1 (by omega), fun z => h.2 (by omega)⟩
    · rw [if_neg q]
      exact ⟨fun z => h.1 (by omega), fun z => h.2 (by omega)⟩
theorem ol_lgt {a b : Int} {X : Prop} {r : ol_St} {T F : ol_St → Prop} (ha : ol_rl a) (hb : ol_rl b) (h : ol_if (b < a) (T r) (F r)) (x : X := by rfl) : ol_if (a = b) (X ∧ ol_p1 (.inl 0 :: r) (fun a r => ol_br .gt a 0 (T r) (F r))) (ol_rl a ∧ ol_rl b ∧ (X ∧ ol_p1 (.inl (if a < b then -1 else 1) :: r) (fun a r => ol_br .gt a 0 (T r) (F r)))) := by
  refine ⟨fun e => ⟨x, ⟨by decide, by decide⟩, ⟨by decide, by decide⟩, ?_⟩, fun e => ⟨ha, hb, x, ?_, ⟨by decide, by decide⟩, ?_⟩⟩
  · subst e
    exact ⟨fun q => h.1 (by omega), fun q => h.2 (by omega)⟩
  · split <;> exact ⟨by decide, by decide⟩
  · by_cases q : a < b
    · rw [if_pos q]
      exact ⟨fun z => h.1 (by omega), fun z => h.2 (by omega)⟩
    · rw [if_neg q]
      exact ⟨fun z => h.1 (by omega), fun z => h.2 (by omega)⟩
theorem ol_lle {a b : Int} {X : Prop} {r : ol_St} {T F : ol_St → Prop} (ha : ol_rl a) (hb : ol_rl b) (h : ol_if (a ≤ b) (T r) (F r)) (x : X := by rfl) : ol_if (a = b) (X ∧ ol_p1 (.inl 0 :: r) (fun a r => ol_br .le a 0 (T r) (F r))) (ol_rl a ∧ ol_rl b ∧ (X ∧ ol_p1 (.inl (if a < b then -1 else 1) :: r) (fun a r => ol_br .le a 0 (T r) (F r)))) := by
  refine ⟨fun e => ⟨x, ⟨by decide, by decide⟩, ⟨by decide, by decide⟩, ?_⟩, fun e => ⟨ha, hb, x, ?_, ⟨by decide, by decide⟩, ?_⟩⟩
  · subst e
    exact ⟨fun q => h.1 (by omega), fun q => h.2 (by omega)⟩
  · split <;> exact ⟨by decide, by decide⟩
  · by_cases q : a < b
    · rw [if_pos q]
      exact ⟨fun z => h.1 (by omega), fun z => h.2 (by omega)⟩
    · rw [if_neg q]
      exact ⟨fun z => h.1 (by omega), fun z => h.2 (by omega)⟩
theorem ol_sgn {a b : Int} : (if a < b then (-1 : Int) else 1) ≠ 0 := by split <;> decide
theorem ol_sgr {a b : Int} : ol_r (if a < b then (-1 : Int) else 1) := by split <;> exact ⟨by decide, by decide⟩
