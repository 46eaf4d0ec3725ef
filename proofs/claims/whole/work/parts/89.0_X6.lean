/-! the lesser of two -/
theorem cn_min {cc : ByteArray} {nL : Nat} {own : String} {ini : Bool} {d C Z L0 : Nat} {A : Nat → ol_Ls → ol_St → List cn_E → Nat → Nat → Prop} {pc : Nat} {ls : ol_Ls} {st : ol_St} {L : List cn_E} {x y : Nat} (h : cn_T cc nL own ini d C Z L0 A) {a b v : Int} {w : Nat} (hv : v = ol_min a b) (h1 : Cond.methodLink own w Lib.Math.min.name ∈ ol_gt) (h3 : ol_r a) (h4 : ol_r b) (hsm : ol_sm st ≤ 8) (hxy : x ≤ C ∧ y ≤ Z) (hd : decode cc pc = .ok (.invokestatic w, 3)) (kk : A (pc + 3) ls (.inl v :: st) L x y) : A pc ls (.inl b :: .inl a :: st) L x y := by
  subst hv
  obtain ⟨p, l, e, R, s, m, args, below, meth, c, Q, D, B, cI, cJ, rfl, hx, hb, hml, hown, hts, hK, hfr, hlo, hce, hsl, -, hB⟩ := h
  intro ar H locs hl hH hS
  have hw := ol_mathw
  refine va_mmin hx hb (hml.trans hl.1.symm) hown (hts _ h1) (hts _ hw.2.1) (hts _ hw.2.2.1) (hts _ hw.2.2.2.2) (by omega) (by rw [ol_smc]; omega) (by omega) (by omega) hd ?_
  have e : (if Int32.ofInt b < Int32.ofInt a then Int32.ofInt b else Int32.ofInt a) = Int32.ofInt (ol_min a b) := by
    unfold ol_min
    by_cases q : a ≤ b
    · rw [if_pos q, if_neg (fun z => by have := (ol_ltI h4 h3).mp z; omega)]
    · rw [if_neg q, if_pos ((ol_ltI h4 h3).mpr (by omega))]
  rw [e]
  exact kk ar H locs hl hH hS
/-! the constructors -/
set_option maxRecDepth 100000 in
theorem c_X6_init {P : List cn_E} (hP : P.length = 14) : cn_R 1 1 55 q_X6_init [.inr (.inr 14), .inl 23] (P ++ [.inr (.inr (1, [none, some (.inl 0), some (.inl 0), some (.inl 0), some (.inl 0), none, none]))]) (P ++ [.inr (.inr (1, [some (.inr (.inr 15)), some (.inl 23), some (.inl 0), some (.inl 0), some (.inl (-1)), none, none])), .inl (55, fun _ => 0)]) := by
  refine cq_Ri hP (by decide +kernel) (by decide +kernel) rfl rfl (fun A h ret => ?_)
  refine cn_aload h (k := 0) (v := 14) rfl (by decide +kernel) ?_
  refine cn_obj h wo_X6 (by decide +kernel) (by decide +kernel) ?_
  refine cn_aload h (k := 0) (v := 14) rfl (by decide +kernel) ?_
  refine cn_bipush h (v := 55) ⟨by decide, by decide⟩ (by decide +kernel) ?_
  refine cq_newa h hP (v := 55) (k := 15) (N := 55) (by decide +kernel) (by decide +kernel) (by decide) (by decide) (by decide +kernel) (by decide +kernel) (t2 := [.inr (.inr (1, [none, some (.inl 0), some (.inl 0), some (.inl 0), some (.inl 0), none, none])), .inl (55, fun _ => 0)]) (by decide +kernel) rfl ?_
  refine cq_putf h hP (ci := 1) (j := 0) (i := 0) (k := 14) (v := .inr (.inr 15)) (fs := [none, some (.inl 0), some (.inl 0), some (.inl 0), some (.inl 0), none, none]) (q := ("OunceLetters$Houses", ol_TX1, 7)) (by decide +kernel) rfl rfl lf_X6_9_X1 (by decide) (ol_tkX1 0 (by decide)) (fun B => ⟨rfl, rfl⟩) (Or.inr ⟨rfl, rfl, rfl⟩) (t2 := [.inr (.inr (1, [some (.inr (.inr 15)), some (.inl 0), some (.inl 0), some (.inl 0), some (.inl 0), none, none])), .inl (55, fun _ => 0)]) (by decide +kernel) rfl ?_
  refine cn_aload h (k := 0) (v := 14) rfl (by decide +kernel) ?_
  refine cn_iconst h (v := 0) (by decide +kernel) ?_
  refine cq_putf h hP (ci := 1) (j := 2) (i := 0) (k := 14) (v := .inl 0) (fs := [some (.inr (.inr 15)), some (.inl 0), some (.inl 0), some (.inl 0), some (.inl 0), none, none]) (q := ("OunceLetters$Houses", ol_TX1, 7)) (by decide +kernel) rfl rfl lf_X6_15_X1 (by decide) (ol_tkX1 2 (by decide)) (fun B => ⟨rfl, rfl⟩) (Or.inl rfl) (t2 := [.inr (.inr (1, [some (.inr (.inr 15)), some (.inl 0), some (.inl 0), some (.inl 0), some (.inl 0), none, none])), .inl (55, fun _ => 0)]) (by decide +kernel) rfl ?_
  refine cn_aload h (k := 0) (v := 14) rfl (by decide +kernel) ?_
  refine cn_iconst h (v := 0) (by decide +kernel) ?_
  refine cq_putf h hP (ci := 1) (j := 3) (i := 0) (k := 14) (v := .inl 0) (fs := [some (.inr (.inr 15)), some (.inl 0), some (.inl 0), some (.inl 0), some (.inl 0), none, none]) (q := ("OunceLetters$Houses", ol_TX1, 7)) (by decide +kernel) rfl rfl lf_X6_19_X1 (by decide) (ol_tkX1 3 (by decide)) (fun B => ⟨rfl, rfl⟩) (Or.inl rfl) (t2 := [.inr (.inr (1, [some (.inr (.inr 15)), some (.inl 0), some (.inl 0), some (.inl 0), some (.inl 0), none, none])), .inl (55, fun _ => 0)]) (by decide +kernel) rfl ?_
  refine cn_aload h (k := 0) (v := 14) rfl (by decide +kernel) ?_
  refine cn_iconst h (v := (-1)) (by decide +kernel) ?_
  refine cq_putf h hP (ci := 1) (j := 4) (i := 0) (k := 14) (v := .inl (-1)) (fs := [some (.inr (.inr 15)), some (.inl 0), some (.inl 0), some (.inl 0), some (.inl 0), none, none]) (q := ("OunceLetters$Houses", ol_TX1, 7)) (by decide +kernel) rfl rfl lf_X6_22_X1 (by decide) (ol_tkX1 4 (by decide)) (fun B => ⟨rfl, rfl⟩) (Or.inl rfl) (t2 := [.inr (.inr (1, [some (.inr (.inr 15)), some (.inl 0), some (.inl 0), some (.inl 0), some (.inl (-1)), none, none])), .inl (55, fun _ => 0)]) (by decide +kernel) rfl ?_
  refine cn_aload h (k := 0) (v := 14) rfl (by decide +kernel) ?_
  refine cn_iload h (k := 1) (v := 23) rfl (by decide +kernel) ?_
  refine cn_bipush h (v := 55) ⟨by decide, by decide⟩ (by decide +kernel) ?_
  refine cn_min h (a := 23) (b := 55) (v := 23) (by decide) lm_X6_25 ⟨by decide, by decide⟩ ⟨by decide, by decide⟩ (by decide +kernel) ⟨by decide +kernel, by decide +kernel⟩ (by decide +kernel) ?_
  refine cq_putf h hP (ci := 1) (j := 1) (i := 0) (k := 14) (v := .inl 23) (fs := [some (.inr (.inr 15)), some (.inl 0), some (.inl 0), some (.inl 0), some (.inl (-1)), none, none]) (q := ("OunceLetters$Houses", ol_TX1, 7)) (by decide +kernel) rfl rfl lf_X6_31_X1 (by decide) (ol_tkX1 1 (by decide)) (fun B => ⟨rfl, rfl⟩) (Or.inr ⟨rfl, rfl, rfl⟩) (t2 := [.inr (.inr (1, [some (.inr (.inr 15)), some (.inl 23), some (.inl 0), some (.inl 0), some (.inl (-1)), none, none])), .inl (55, fun _ => 0)]) (by decide +kernel) rfl ?_
  exact ret 37 _ _ _ (by decide +kernel) (by decide +kernel) (by decide +kernel)
