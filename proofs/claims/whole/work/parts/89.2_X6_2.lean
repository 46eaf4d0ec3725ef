set_option maxRecDepth 100000 in
theorem c_X6_init_2 {P : List cn_E} (hP : P.length = 18) : cn_R 1 1 55 q_X6_init [.inr (.inr 18), .inl 55] (P ++ [.inr (.inr (5, [none, some (.inl 0), some (.inl 0), some (.inl 0), some (.inl 0), none, none, none, none, none, none]))]) (P ++ [.inr (.inr (5, [some (.inr (.inr 19)), some (.inl 55), some (.inl 0), some (.inl 0), some (.inl (-1)), none, none, none, none, none, none])), .inl (55, fun _ => 0)]) := by
  refine cq_Ri hP (by decide +kernel) (by decide +kernel) rfl rfl (fun A h ret => ?_)
  refine cn_aload h (k := 0) (v := 18) rfl (by decide +kernel) ?_
  refine cn_obj h wo_X6 (by decide +kernel) (by decide +kernel) ?_
  refine cn_aload h (k := 0) (v := 18) rfl (by decide +kernel) ?_
  refine cn_bipush h (v := 55) ⟨by decide, by decide⟩ (by decide +kernel) ?_
  refine cq_newa h hP (v := 55) (k := 19) (N := 55) (by decide +kernel) (by decide +kernel) (by decide) (by decide) (by decide +kernel) (by decide +kernel) (t2 := [.inr (.inr (5, [none, some (.inl 0), some (.inl 0), some (.inl 0), some (.inl 0), none, none, none, none, none, none])), .inl (55, fun _ => 0)]) (by decide +kernel) rfl ?_
  refine cq_putf h hP (ci := 5) (j := 0) (i := 0) (k := 18) (v := .inr (.inr 19)) (fs := [none, some (.inl 0), some (.inl 0), some (.inl 0), some (.inl 0), none, none, none, none, none, none]) (q := ("OunceLetters$Terms", ol_TX5, 11)) (by decide +kernel) rfl rfl lf_X6_9_X5 (by decide) (ol_tkX5 0 (by decide)) (fun B => ⟨rfl, rfl⟩) (Or.inr ⟨rfl, rfl, rfl⟩) (t2 := [.inr (.inr (5, [some (.inr (.inr 19)), some (.inl 0), some (.inl 0), some (.inl 0), some (.inl 0), none, none, none, none, none, none])), .inl (55, fun _ => 0)]) (by decide +kernel) rfl ?_
  refine cn_aload h (k := 0) (v := 18) rfl (by decide +kernel) ?_
  refine cn_iconst h (v := 0) (by decide +kernel) ?_
  refine cq_putf h hP (ci := 5) (j := 2) (i := 0) (k := 18) (v := .inl 0) (fs := [some (.inr (.inr 19)), some (.inl 0), some (.inl 0), some (.inl 0), some (.inl 0), none, none, none, none, none, none]) (q := ("OunceLetters$Terms", ol_TX5, 11)) (by decide +kernel) rfl rfl lf_X6_15_X5 (by decide) (ol_tkX5 2 (by decide)) (fun B => ⟨rfl, rfl⟩) (Or.inl rfl) (t2 := [.inr (.inr (5, [some (.inr (.inr 19)), some (.inl 0), some (.inl 0), some (.inl 0), some (.inl 0), none, none, none, none, none, none])), .inl (55, fun _ => 0)]) (by decide +kernel) rfl ?_
  refine cn_aload h (k := 0) (v := 18) rfl (by decide +kernel) ?_
  refine cn_iconst h (v := 0) (by decide +kernel) ?_
  refine cq_putf h hP (ci := 5) (j := 3) (i := 0) (k := 18) (v := .inl 0) (fs := [some (.inr (.inr 19)), some (.inl 0), some (.inl 0), some (.inl 0), some (.inl 0), none, none, none, none, none, none]) (q := ("OunceLetters$Terms", ol_TX5, 11)) (by decide +kernel) rfl rfl lf_X6_19_X5 (by decide) (ol_tkX5 3 (by decide)) (fun B => ⟨rfl, rfl⟩) (Or.inl rfl) (t2 := [.inr (.inr (5, [some (.inr (.inr 19)), some (.inl 0), some (.inl 0), some (.inl 0), some (.inl 0), none, none, none, none, none, none])), .inl (55, fun _ => 0)]) (by decide +kernel) rfl ?_
  refine cn_aload h (k := 0) (v := 18) rfl (by decide +kernel) ?_
  refine cn_iconst h (v := (-1)) (by decide +kernel) ?_
  refine cq_putf h hP (ci := 5) (j := 4) (i := 0) (k := 18) (v := .inl (-1)) (fs := [some (.inr (.inr 19)), some (.inl 0), some (.inl 0), some (.inl 0), some (.inl 0), none, none, none, none, none, none]) (q := ("OunceLetters$Terms", ol_TX5, 11)) (by decide +kernel) rfl rfl lf_X6_22_X5 (by decide) (ol_tkX5 4 (by decide)) (fun B => ⟨rfl, rfl⟩) (Or.inl rfl) (t2 := [.inr (.inr (5, [some (.inr (.inr 19)), some (.inl 0), some (.inl 0), some (.inl 0), some (.inl (-1)), none, none, none, none, none, none])), .inl (55, fun _ => 0)]) (by decide +kernel) rfl ?_
  refine cn_aload h (k := 0) (v := 18) rfl (by decide +kernel) ?_
  refine cn_iload h (k := 1) (v := 55) rfl (by decide +kernel) ?_
  refine cn_bipush h (v := 55) ⟨by decide, by decide⟩ (by decide +kernel) ?_
  refine cn_min h (a := 55) (b := 55) (v := 55) (by decide) lm_X6_25 ⟨by decide, by decide⟩ ⟨by decide, by decide⟩ (by decide +kernel) ⟨by decide +kernel, by decide +kernel⟩ (by decide +kernel) ?_
  refine cq_putf h hP (ci := 5) (j := 1) (i := 0) (k := 18) (v := .inl 55) (fs := [some (.inr (.inr 19)), some (.inl 0), some (.inl 0), some (.inl 0), some (.inl (-1)), none, none, none, none, none, none]) (q := ("OunceLetters$Terms", ol_TX5, 11)) (by decide +kernel) rfl rfl lf_X6_31_X5 (by decide) (ol_tkX5 1 (by decide)) (fun B => ⟨rfl, rfl⟩) (Or.inr ⟨rfl, rfl, rfl⟩) (t2 := [.inr (.inr (5, [some (.inr (.inr 19)), some (.inl 55), some (.inl 0), some (.inl 0), some (.inl (-1)), none, none, none, none, none, none])), .inl (55, fun _ => 0)]) (by decide +kernel) rfl ?_
  exact ret 37 _ _ _ (by decide +kernel) (by decide +kernel) (by decide +kernel)
