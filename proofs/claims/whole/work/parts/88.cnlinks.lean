/-! links of the constructors -/
theorem lm_X6_25 : Cond.methodLink "OunceLetters$Text" 25 Lib.Math.min.name ∈ ol_gt := ol_gi 99 (by decide +kernel) rfl
theorem lf_X6_31_X1 : ol_LF "OunceLetters$Text" 31 1 1 := ⟨_, "OunceLetters$Text", rfl, by decide, ol_gi 110 (by decide +kernel) rfl, Or.inl rfl⟩
theorem mk_X6_init : ol_MK q_X6_init 1 := ⟨ol_gi 97 (by decide +kernel) rfl, ol_gi 67 (by decide +kernel) rfl, ⟨by decide, by decide⟩, by decide +kernel, by decide⟩
theorem mk_X1_init : ol_MK q_X1_init 0 := ⟨ol_gi 94 (by decide +kernel) rfl, ol_gi 68 (by decide +kernel) rfl, ⟨by decide, by decide⟩, by decide +kernel, by decide⟩
theorem lf_X6_31_X5 : ol_LF "OunceLetters$Text" 31 5 1 := ⟨_, "OunceLetters$Text", rfl, by decide, ol_gi 110 (by decide +kernel) rfl, Or.inl rfl⟩
theorem mk_X5_init : ol_MK q_X5_init 0 := ⟨ol_gi 152 (by decide +kernel) rfl, ol_gi 70 (by decide +kernel) rfl, ⟨by decide, by decide⟩, by decide +kernel, by decide⟩
theorem lf_X7_9_X7 : ol_LF "OunceLetters$Told" 9 6 0 := ⟨_, "OunceLetters$Told", rfl, by decide, ol_gi 196 (by decide +kernel) rfl, Or.inl rfl⟩
theorem ls_X7_58 : ol_LS "OunceLetters$Told" 58 q_J7_fill_53178 2 := ⟨mk_J7_fill_53178, ol_gi 194 (by decide +kernel) rfl, Or.inl (ol_gi 193 (by decide +kernel) rfl)⟩
theorem mk_X7_init : ol_MK q_X7_init 0 := ⟨ol_gi 191 (by decide +kernel) rfl, ol_gi 71 (by decide +kernel) rfl, ⟨by decide, by decide⟩, by decide +kernel, by decide⟩
theorem mk_X2_init : ol_MK q_X2_init 3 := ⟨ol_gi 272 (by decide +kernel) rfl, ol_gi 73 (by decide +kernel) rfl, ⟨by decide, by decide⟩, by decide +kernel, by decide⟩
theorem mk_X3_init : ol_MK q_X3_init 2 := ⟨ol_gi 291 (by decide +kernel) rfl, ol_gi 74 (by decide +kernel) rfl, ⟨by decide, by decide⟩, by decide +kernel, by decide⟩
theorem mk_X0_init : ol_MK q_X0_init 2 := ⟨ol_gi 329 (by decide +kernel) rfl, ol_gi 75 (by decide +kernel) rfl, ⟨by decide, by decide⟩, by decide +kernel, by decide⟩
theorem mk_X4_init : ol_MK q_X4_init 0 := ⟨ol_gi 359 (by decide +kernel) rfl, ol_gi 76 (by decide +kernel) rfl, ⟨by decide, by decide⟩, by decide +kernel, by decide⟩
theorem wo_X8 : Cond.methodLink "OunceLetters" 3 Lib.objectInit ∈ ol_gt := ol_gi 85 (by decide +kernel) rfl
theorem wc_X8_9 : Cond.classLink "OunceLetters" 9 "[[I" ∈ ol_gt := ol_gi 88 (by decide +kernel) rfl
theorem wc_X8_14 : Cond.classLink "OunceLetters" 14 "OunceLetters$Houses" ∈ ol_gt := ol_gi 90 (by decide +kernel) rfl
theorem wi_X1 : Cond.instantiable "OunceLetters$Houses" 7 ∈ ol_gt := ol_gi 91 (by decide +kernel) rfl
theorem wn_X1 : Cond.initialized "OunceLetters$Houses" ∈ ol_gt := ol_gi 68 (by decide +kernel) rfl
theorem zk_X1 : cn_zok ("OunceLetters$Houses", ol_TX1, 7) [false, true, true, true, true, false, false] = true := by decide +kernel
theorem wo_X6 : Cond.methodLink "OunceLetters$Text" 3 Lib.objectInit ∈ ol_gt := ol_gi 98 (by decide +kernel) rfl
theorem wm_X1_3 : Cond.methodLink "OunceLetters$Houses" 3 ⟨"OunceLetters$Text", "<init>", "(I)V"⟩ ∈ ol_gt := ol_gi 95 (by decide +kernel) rfl
theorem wt_X6_init : Cond.instanceMethod ⟨"OunceLetters$Text", "<init>", "(I)V"⟩ ∈ ol_gt := ol_gi 96 (by decide +kernel) rfl
theorem wm_X8_16 : Cond.methodLink "OunceLetters" 16 ⟨"OunceLetters$Houses", "<init>", "()V"⟩ ∈ ol_gt := ol_gi 92 (by decide +kernel) rfl
theorem wt_X1_init : Cond.instanceMethod ⟨"OunceLetters$Houses", "<init>", "()V"⟩ ∈ ol_gt := ol_gi 93 (by decide +kernel) rfl
theorem wc_X8_21 : Cond.classLink "OunceLetters" 21 "OunceLetters$Terms" ∈ ol_gt := ol_gi 148 (by decide +kernel) rfl
theorem wi_X5 : Cond.instantiable "OunceLetters$Terms" 11 ∈ ol_gt := ol_gi 149 (by decide +kernel) rfl
theorem wn_X5 : Cond.initialized "OunceLetters$Terms" ∈ ol_gt := ol_gi 70 (by decide +kernel) rfl
theorem zk_X5 : cn_zok ("OunceLetters$Terms", ol_TX5, 11) [false, true, true, true, true, false, false, false, false, false, false] = true := by decide +kernel
theorem wm_X5_3 : Cond.methodLink "OunceLetters$Terms" 3 ⟨"OunceLetters$Text", "<init>", "(I)V"⟩ ∈ ol_gt := ol_gi 153 (by decide +kernel) rfl
theorem wc_X5_9 : Cond.classLink "OunceLetters$Terms" 9 "[[I" ∈ ol_gt := ol_gi 154 (by decide +kernel) rfl
theorem wm_X8_23 : Cond.methodLink "OunceLetters" 23 ⟨"OunceLetters$Terms", "<init>", "()V"⟩ ∈ ol_gt := ol_gi 150 (by decide +kernel) rfl
theorem wt_X5_init : Cond.instanceMethod ⟨"OunceLetters$Terms", "<init>", "()V"⟩ ∈ ol_gt := ol_gi 151 (by decide +kernel) rfl
theorem wc_X8_28 : Cond.classLink "OunceLetters" 28 "OunceLetters$Told" ∈ ol_gt := ol_gi 187 (by decide +kernel) rfl
theorem wi_X7 : Cond.instantiable "OunceLetters$Told" 15 ∈ ol_gt := ol_gi 188 (by decide +kernel) rfl
theorem wn_X7 : Cond.initialized "OunceLetters$Told" ∈ ol_gt := ol_gi 71 (by decide +kernel) rfl
theorem zk_X7 : cn_zok ("OunceLetters$Told", ol_TX7, 15) [false, false, false, false, true, false, false, false, false, true, false, false, false, false, true] = true := by decide +kernel
theorem wo_X7 : Cond.methodLink "OunceLetters$Told" 3 Lib.objectInit ∈ ol_gt := ol_gi 192 (by decide +kernel) rfl
theorem wm_X8_30 : Cond.methodLink "OunceLetters" 30 ⟨"OunceLetters$Told", "<init>", "()V"⟩ ∈ ol_gt := ol_gi 189 (by decide +kernel) rfl
theorem wt_X7_init : Cond.instanceMethod ⟨"OunceLetters$Told", "<init>", "()V"⟩ ∈ ol_gt := ol_gi 190 (by decide +kernel) rfl
theorem wc_X8_35 : Cond.classLink "OunceLetters" 35 "OunceLetters$Rules" ∈ ol_gt := ol_gi 268 (by decide +kernel) rfl
theorem wi_X2 : Cond.instantiable "OunceLetters$Rules" 3 ∈ ol_gt := ol_gi 269 (by decide +kernel) rfl
theorem wn_X2 : Cond.initialized "OunceLetters$Rules" ∈ ol_gt := ol_gi 73 (by decide +kernel) rfl
theorem zk_X2 : cn_zok ("OunceLetters$Rules", ol_TX2, 3) [false, false, false] = true := by decide +kernel
theorem wo_X2 : Cond.methodLink "OunceLetters$Rules" 3 Lib.objectInit ∈ ol_gt := ol_gi 273 (by decide +kernel) rfl
theorem wm_X8_37 : Cond.methodLink "OunceLetters" 37 ⟨"OunceLetters$Rules", "<init>", "(LOunceLetters$Houses;LOunceLetters$Terms;LOunceLetters$Told;)V"⟩ ∈ ol_gt := ol_gi 270 (by decide +kernel) rfl
theorem wt_X2_init : Cond.instanceMethod ⟨"OunceLetters$Rules", "<init>", "(LOunceLetters$Houses;LOunceLetters$Terms;LOunceLetters$Told;)V"⟩ ∈ ol_gt := ol_gi 271 (by decide +kernel) rfl
theorem wc_X8_44 : Cond.classLink "OunceLetters" 44 "OunceLetters$Run" ∈ ol_gt := ol_gi 287 (by decide +kernel) rfl
theorem wi_X3 : Cond.instantiable "OunceLetters$Run" 8 ∈ ol_gt := ol_gi 288 (by decide +kernel) rfl
theorem wn_X3 : Cond.initialized "OunceLetters$Run" ∈ ol_gt := ol_gi 74 (by decide +kernel) rfl
theorem zk_X3 : cn_zok ("OunceLetters$Run", ol_TX3, 8) [false, false, false, false, false, false, true, true] = true := by decide +kernel
theorem wo_X3 : Cond.methodLink "OunceLetters$Run" 3 Lib.objectInit ∈ ol_gt := ol_gi 292 (by decide +kernel) rfl
theorem wc_X3_18 : Cond.classLink "OunceLetters$Run" 18 "[[I" ∈ ol_gt := ol_gi 293 (by decide +kernel) rfl
theorem wm_X8_46 : Cond.methodLink "OunceLetters" 46 ⟨"OunceLetters$Run", "<init>", "(LOunceLetters$Rules;LOunceLetters$Told;)V"⟩ ∈ ol_gt := ol_gi 289 (by decide +kernel) rfl
theorem wt_X3_init : Cond.instanceMethod ⟨"OunceLetters$Run", "<init>", "(LOunceLetters$Rules;LOunceLetters$Told;)V"⟩ ∈ ol_gt := ol_gi 290 (by decide +kernel) rfl
theorem wc_X8_56 : Cond.classLink "OunceLetters" 56 "OunceLetters$Chance" ∈ ol_gt := ol_gi 325 (by decide +kernel) rfl
theorem wi_X0 : Cond.instantiable "OunceLetters$Chance" 7 ∈ ol_gt := ol_gi 326 (by decide +kernel) rfl
theorem wn_X0 : Cond.initialized "OunceLetters$Chance" ∈ ol_gt := ol_gi 75 (by decide +kernel) rfl
theorem zk_X0 : cn_zok ("OunceLetters$Chance", ol_TX0, 7) [false, false, false, false, false, false, true] = true := by decide +kernel
theorem wo_X0 : Cond.methodLink "OunceLetters$Chance" 3 Lib.objectInit ∈ ol_gt := ol_gi 330 (by decide +kernel) rfl
theorem wc_X0_15 : Cond.classLink "OunceLetters$Chance" 15 "[[I" ∈ ol_gt := ol_gi 331 (by decide +kernel) rfl
theorem wm_X8_58 : Cond.methodLink "OunceLetters" 58 ⟨"OunceLetters$Chance", "<init>", "(LOunceLetters$Rules;LOunceLetters$Told;)V"⟩ ∈ ol_gt := ol_gi 327 (by decide +kernel) rfl
theorem wt_X0_init : Cond.instanceMethod ⟨"OunceLetters$Chance", "<init>", "(LOunceLetters$Rules;LOunceLetters$Told;)V"⟩ ∈ ol_gt := ol_gi 328 (by decide +kernel) rfl
theorem wc_X8_63 : Cond.classLink "OunceLetters" 63 "OunceLetters$Sheets" ∈ ol_gt := ol_gi 355 (by decide +kernel) rfl
theorem wi_X4 : Cond.instantiable "OunceLetters$Sheets" 3 ∈ ol_gt := ol_gi 356 (by decide +kernel) rfl
theorem wn_X4 : Cond.initialized "OunceLetters$Sheets" ∈ ol_gt := ol_gi 76 (by decide +kernel) rfl
theorem zk_X4 : cn_zok ("OunceLetters$Sheets", ol_TX4, 3) [false, false, false] = true := by decide +kernel
theorem wo_X4 : Cond.methodLink "OunceLetters$Sheets" 3 Lib.objectInit ∈ ol_gt := ol_gi 360 (by decide +kernel) rfl
theorem wc_X4_18 : Cond.classLink "OunceLetters$Sheets" 18 "[[I" ∈ ol_gt := ol_gi 361 (by decide +kernel) rfl
theorem wm_X8_65 : Cond.methodLink "OunceLetters" 65 ⟨"OunceLetters$Sheets", "<init>", "()V"⟩ ∈ ol_gt := ol_gi 357 (by decide +kernel) rfl
theorem wt_X4_init : Cond.instanceMethod ⟨"OunceLetters$Sheets", "<init>", "()V"⟩ ∈ ol_gt := ol_gi 358 (by decide +kernel) rfl
theorem wo_X9 : Cond.methodLink "OunceLettersModel" 1 Lib.objectInit ∈ ol_gt := ol_gi 829 (by decide +kernel) rfl
theorem wc_L_7 : Cond.classLink "OunceLettersLaw" 7 "OunceLetters" ∈ ol_gt := ol_gi 80 (by decide +kernel) rfl
theorem wc_L_10 : Cond.classLink "OunceLettersLaw" 10 "OunceLettersModel" ∈ ol_gt := ol_gi 824 (by decide +kernel) rfl
