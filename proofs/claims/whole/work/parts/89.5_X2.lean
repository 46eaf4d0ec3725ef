set_option maxRecDepth 100000 in
theorem c_X2_init {P : List cn_E} (hP : P.length = 63) : cn_R 1 0 0 q_X2_init [.inr (.inr 63), .inr (.inr 14), .inr (.inr 18), .inr (.inr 50)] (P ++ [.inr (.inr (2, [none, none, none]))]) (P ++ [.inr (.inr (2, [some (.inr (.inr 14)), some (.inr (.inr 18)), some (.inr (.inr 50))]))]) := by
  refine cq_Ri hP (by decide +kernel) (by decide +kernel) rfl rfl (fun A h ret => ?_)
  refine cn_aload h (k := 0) (v := 63) rfl (by decide +kernel) ?_
  refine cn_obj h wo_X2 (by decide +kernel) (by decide +kernel) ?_
  refine cn_aload h (k := 0) (v := 63) rfl (by decide +kernel) ?_
  refine cn_aload h (k := 1) (v := 14) rfl (by decide +kernel) ?_
  refine cq_putf h hP (ci := 2) (j := 0) (i := 0) (k := 63) (v := .inr (.inr 14)) (fs := [none, none, none]) (q := ("OunceLetters$Rules", ol_TX2, 3)) (by decide +kernel) rfl rfl lf_X2_9_X2 (by decide) (ol_tkX2 0 (by decide)) (fun B => ⟨rfl, rfl⟩) (Or.inr ⟨rfl, rfl, rfl⟩) (t2 := [.inr (.inr (2, [some (.inr (.inr 14)), none, none]))]) (by decide +kernel) rfl ?_
  refine cn_aload h (k := 0) (v := 63) rfl (by decide +kernel) ?_
  refine cn_aload h (k := 2) (v := 18) rfl (by decide +kernel) ?_
  refine cq_putf h hP (ci := 2) (j := 1) (i := 0) (k := 63) (v := .inr (.inr 18)) (fs := [some (.inr (.inr 14)), none, none]) (q := ("OunceLetters$Rules", ol_TX2, 3)) (by decide +kernel) rfl rfl lf_X2_15_X2 (by decide) (ol_tkX2 1 (by decide)) (fun B => ⟨rfl, rfl⟩) (Or.inr ⟨rfl, rfl, rfl⟩) (t2 := [.inr (.inr (2, [some (.inr (.inr 14)), some (.inr (.inr 18)), none]))]) (by decide +kernel) rfl ?_
  refine cn_aload h (k := 0) (v := 63) rfl (by decide +kernel) ?_
  refine cn_aload h (k := 3) (v := 50) rfl (by decide +kernel) ?_
  refine cq_putf h hP (ci := 2) (j := 2) (i := 0) (k := 63) (v := .inr (.inr 50)) (fs := [some (.inr (.inr 14)), some (.inr (.inr 18)), none]) (q := ("OunceLetters$Rules", ol_TX2, 3)) (by decide +kernel) rfl rfl lf_X2_19_X2 (by decide) (ol_tkX2 2 (by decide)) (fun B => ⟨rfl, rfl⟩) (Or.inr ⟨rfl, rfl, rfl⟩) (t2 := [.inr (.inr (2, [some (.inr (.inr 14)), some (.inr (.inr 18)), some (.inr (.inr 50))]))]) (by decide +kernel) rfl ?_
  exact ret 19 _ _ _ (by decide +kernel) (by decide +kernel) (by decide +kernel)
