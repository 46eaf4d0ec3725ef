set_option maxRecDepth 100000 in
theorem c_X4_init {P : List cn_E} (hP : P.length = 124) : cn_R 2 7 252 q_X4_init [.inr (.inr 124)] (P ++ [.inr (.inr (4, [none, none, none]))]) (P ++ [.inr (.inr (4, [some (.inr (.inr 125)), some (.inr (.inr 126)), some (.inr (.inr 127))])), .inl (4, fun _ => 0), .inl (4, ol_fl (fun _ => 0) (-1) 4), .inr (.inl (4, 128)), .inl (60, fun _ => 0), .inl (60, fun _ => 0), .inl (60, fun _ => 0), .inl (60, fun _ => 0)]) := by
  refine cq_Ri hP (by decide +kernel) (by decide +kernel) rfl rfl (fun A h ret => ?_)
  refine cn_aload h (k := 0) (v := 124) rfl (by decide +kernel) ?_
  refine cn_obj h wo_X4 (by decide +kernel) (by decide +kernel) ?_
  refine cn_aload h (k := 0) (v := 124) rfl (by decide +kernel) ?_
  refine cn_iconst h (v := 4) (by decide +kernel) ?_
  refine cq_newa h hP (v := 4) (k := 125) (N := 4) (by decide +kernel) (by decide +kernel) (by decide) (by decide) (by decide +kernel) (by decide +kernel) (t2 := [.inr (.inr (4, [none, none, none])), .inl (4, fun _ => 0)]) (by decide +kernel) rfl ?_
  refine cq_putf h hP (ci := 4) (j := 0) (i := 0) (k := 124) (v := .inr (.inr 125)) (fs := [none, none, none]) (q := ("OunceLetters$Sheets", ol_TX4, 3)) (by decide +kernel) rfl rfl lf_X4_9_X4 (by decide) (ol_tkX4 0 (by decide)) (fun B => ⟨rfl, rfl⟩) (Or.inr ⟨rfl, rfl, rfl⟩) (t2 := [.inr (.inr (4, [some (.inr (.inr 125)), none, none])), .inl (4, fun _ => 0)]) (by decide +kernel) rfl ?_
  refine cn_aload h (k := 0) (v := 124) rfl (by decide +kernel) ?_
  refine cn_iconst h (v := 4) (by decide +kernel) ?_
  refine cq_newa h hP (v := 4) (k := 126) (N := 4) (by decide +kernel) (by decide +kernel) (by decide) (by decide) (by decide +kernel) (by decide +kernel) (t2 := [.inr (.inr (4, [some (.inr (.inr 125)), none, none])), .inl (4, fun _ => 0), .inl (4, fun _ => 0)]) (by decide +kernel) rfl ?_
  refine cq_putf h hP (ci := 4) (j := 1) (i := 0) (k := 124) (v := .inr (.inr 126)) (fs := [some (.inr (.inr 125)), none, none]) (q := ("OunceLetters$Sheets", ol_TX4, 3)) (by decide +kernel) rfl rfl lf_X4_15_X4 (by decide) (ol_tkX4 1 (by decide)) (fun B => ⟨rfl, rfl⟩) (Or.inr ⟨rfl, rfl, rfl⟩) (t2 := [.inr (.inr (4, [some (.inr (.inr 125)), some (.inr (.inr 126)), none])), .inl (4, fun _ => 0), .inl (4, fun _ => 0)]) (by decide +kernel) rfl ?_
  refine cn_aload h (k := 0) (v := 124) rfl (by decide +kernel) ?_
  refine cn_iconst h (v := 4) (by decide +kernel) ?_
  refine cn_bipush h (v := 60) ⟨by decide, by decide⟩ (by decide +kernel) ?_
  refine cq_mna h hP (v := 4) (k := 60) (o := 127) (o1 := 128) (N := 4) (K := 60) (by decide +kernel) (by decide +kernel) (by decide +kernel) (by decide +kernel) (by decide) (by decide) (by decide) (by decide) wc_X4_18 (by decide +kernel) (by decide +kernel) (t2 := [.inr (.inr (4, [some (.inr (.inr 125)), some (.inr (.inr 126)), none])), .inl (4, fun _ => 0), .inl (4, fun _ => 0), .inr (.inl (4, 128)), .inl (60, fun _ => 0), .inl (60, fun _ => 0), .inl (60, fun _ => 0), .inl (60, fun _ => 0)]) (by decide +kernel) rfl ?_
  refine cq_putf h hP (ci := 4) (j := 2) (i := 0) (k := 124) (v := .inr (.inr 127)) (fs := [some (.inr (.inr 125)), some (.inr (.inr 126)), none]) (q := ("OunceLetters$Sheets", ol_TX4, 3)) (by decide +kernel) rfl rfl lf_X4_20_X4 (by decide) (ol_tkX4 2 (by decide)) (fun B => ⟨rfl, rfl⟩) (Or.inr ⟨rfl, rfl, rfl⟩) (t2 := [.inr (.inr (4, [some (.inr (.inr 125)), some (.inr (.inr 126)), some (.inr (.inr 127))])), .inl (4, fun _ => 0), .inl (4, fun _ => 0), .inr (.inl (4, 128)), .inl (60, fun _ => 0), .inl (60, fun _ => 0), .inl (60, fun _ => 0), .inl (60, fun _ => 0)]) (by decide +kernel) rfl ?_
  refine cn_aload h (k := 0) (v := 124) rfl (by decide +kernel) ?_
  refine cq_getf h hP (ci := 4) (j := 1) (i := 0) (k := 124) (fs := [some (.inr (.inr 125)), some (.inr (.inr 126)), some (.inr (.inr 127))]) (v := .inr (.inr 126)) (by decide +kernel) rfl lf_X4_15_X4 rfl (by decide +kernel) ?_
  refine cn_iconst h (v := (-1)) (by decide +kernel) ?_
  refine cq_fill h hP (j := 2) (k := 126) (v := (-1)) (by decide +kernel) rfl (by decide) ls_X4_23 (by decide) ⟨by decide +kernel, by decide +kernel⟩ (by decide +kernel) (by decide +kernel) (t2 := [.inr (.inr (4, [some (.inr (.inr 125)), some (.inr (.inr 126)), some (.inr (.inr 127))])), .inl (4, fun _ => 0), .inl (4, ol_fl (fun _ => 0) (-1) 4), .inr (.inl (4, 128)), .inl (60, fun _ => 0), .inl (60, fun _ => 0), .inl (60, fun _ => 0), .inl (60, fun _ => 0)]) (by decide +kernel) rfl ?_
  exact ret 37 _ _ _ (by decide +kernel) (by decide +kernel) (by decide +kernel)
