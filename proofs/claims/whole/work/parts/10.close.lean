theorem ol_mathw : Cond.static Lib.Math.max.name ∈ ol_gt ∧ Cond.static Lib.Math.min.name ∈ ol_gt ∧ Cond.initialized "java/lang/Math" ∈ ol_gt ∧ Cond.code Lib.Math.max.name Lib.Math.max.code 2 (some .int) ∈ ol_gt ∧ Cond.code Lib.Math.min.name Lib.Math.min.code 2 (some .int) ∈ ol_gt := ⟨ol_gd _ (by decide +kernel), ol_gd _ (by decide +kernel), ol_gd _ (by decide +kernel), ol_gd _ (by decide +kernel), ol_gd _ (by decide +kernel)⟩
section OLS
variable {p : Program} {l : Launch} {e : Env} {R : Room} {s : State} {m : MethodId} {args : Array Value} {below : List Frame} {meth : Method} {c : Code} {cells slots : Nat} {Q : State → Prop}
variable {cc : ByteArray} {nL : Nat} {own : String} {d : Nat} {D : va_G} {ad : Int → Nat} {cI cJ : ClassId} {lay : ol_L}
set_option maxHeartbeats 4000000 in
theorem ol_one (F : ol_Fr p R s m args c cells slots cc nL own d D ad cI cJ lay) {Rt : Option ol_V → ol_M → Prop} {Wk : Nat → ol_Ls → ol_St → ol_M → Prop} {i : Instr} {pc : Nat} {ls : ol_Ls} {st : ol_St} {M : ol_M} {K : ol_Ls → ol_St → ol_M → Prop} (hd0 : ∃ n, decode cc pc = .ok (i, n) ∧ (ol_isT i = true ∨ n = ol_len i)) (h : ol_in own d lay Rt Wk i pc ls st M K)
    (hK : ∀ ls st M, K ls st M → ol_AW p l e R s m args below meth c cells slots Q nL D ad cI cJ lay (pc + ol_len i) ls st M) (hQ : ∀ pc ls st M, Wk pc ls st M → ol_AW p l e R s m args below meth c cells slots Q nL D ad cI cJ lay pc ls st M) (hR : ∀ v M, Rt v M → ol_RW p l e R s m args below meth c cells slots Q cc D ad cI cJ lay v M) : ol_AW p l e R s m args below meth c cells slots Q nL D ad cI cJ lay pc ls st M := by
  obtain ⟨hx, hb, hml, hown, hts, hk, hfr, hlo, hce, hsl⟩ := id F
  intro a H locs hl hH hS
  have hd : ol_isT i = false → decode cc pc = .ok (i, ol_len i) := fun q => by
    obtain ⟨n, e1, e2⟩ := hd0
    rcases e2 with e2 | e2
    · rw [q] at e2; cases e2
    · rw [← e2]; exact e1
  cases i
  case iconst c => exact lv_iconst hx hb (hd rfl) rfl (hK _ _ _ h a H locs hl hH hS)
  case bipush c => exact lv_bipush hx hb (hd rfl) (ol_bip h.1) (hK _ _ _ h.2 a H locs hl hH hS)
  case sipush c => exact lv_sipush hx hb (hd rfl) (ol_sip h.1) (hK _ _ _ h.2 a H locs hl hH hS)
  case lconst c =>
    have e1 : ∀ c : Fin 2, Int64.ofNat (c : Nat) = Int64.ofInt ((c : Nat) : Int) := by decide
    exact lv_lconst hx hb (hd rfl) (e1 c) (hK _ _ _ h a H locs hl hH hS)
  case ldc x =>
    obtain ⟨v, h1, h2⟩ := h
    exact lv_ldc hx hb hown (hts _ h1) (hd rfl) (hK _ _ _ h2 a H locs hl hH hS)
  case ldc_w x =>
    obtain ⟨v, h1, h2⟩ := h
    exact lv_ldcw hx hb hown (hts _ h1) (hd rfl) (hK _ _ _ h2 a H locs hl hH hS)
  case ldc2_w x =>
    obtain ⟨v, h1, h2⟩ := h
    exact lv_ldc2 hx hb hown (hts _ h1) (hd rfl) (hK _ _ _ h2 a H locs hl hH hS)
  case iload_n k =>
    obtain ⟨v, h1, h2⟩ := h
    exact lv_iload_n hx hb (hd rfl) rfl (hl.2.2.2 _ _ h1) (hK _ _ _ h2 a H locs hl hH hS)
  case iload k =>
    obtain ⟨v, h1, h2⟩ := h
    exact lv_iload hx hb (hd rfl) (hl.2.2.2 _ _ h1) (hK _ _ _ h2 a H locs hl hH hS)
  case lload_n k =>
    obtain ⟨v, h1, h2⟩ := h
    exact lv_lload_n hx hb (hd rfl) rfl (hl.2.2.2 _ _ h1) (hK _ _ _ h2 a H locs hl hH hS)
  case lload k =>
    obtain ⟨v, h1, h2⟩ := h
    exact lv_lload hx hb (hd rfl) (hl.2.2.2 _ _ h1) (hK _ _ _ h2 a H locs hl hH hS)
  case aload_n k =>
    obtain ⟨v, h1, h2⟩ := h
    exact lv_aload_n hx hb (hd rfl) rfl (hl.2.2.2 _ _ h1) (hK _ _ _ h2 a H locs hl hH hS)
  case aload k =>
    obtain ⟨v, h1, h2⟩ := h
    exact lv_aload hx hb (hd rfl) (hl.2.2.2 _ _ h1) (hK _ _ _ h2 a H locs hl hH hS)
  case istore_n k =>
    obtain ⟨v, r, rfl, h1, h2⟩ := ol_p1.e h
    exact lv_istore_n hx hb (hd rfl) rfl hl.has (by rw [← hl.2.2.1]; exact h1) rfl (fun a' ha' => hK _ _ _ h2 a' H locs (hl.st1 ha') hH hS)
  case istore k =>
    obtain ⟨v, r, rfl, h1, h2⟩ := ol_p1.e h
    exact lv_istore hx hb (hd rfl) hl.has (by rw [← hl.2.2.1]; exact h1) rfl (fun a' ha' => hK _ _ _ h2 a' H locs (hl.st1 ha') hH hS)
  case lstore_n k =>
    obtain ⟨v, r, rfl, h1, h2⟩ := ol_q1.e h
    exact lv_lstore_n hx hb (hd rfl) rfl hl.has (by rw [← hl.2.2.1]; exact h1) rfl (fun a' ha' => hK _ _ _ h2 a' H locs (hl.st2 ha') hH hS)
  case lstore k =>
    obtain ⟨v, r, rfl, h1, h2⟩ := ol_q1.e h
    exact lv_lstore hx hb (hd rfl) hl.has (by rw [← hl.2.2.1]; exact h1) rfl (fun a' ha' => hK _ _ _ h2 a' H locs (hl.st2 ha') hH hS)
  case astore_n k =>
    obtain ⟨v, r, rfl, h1, h2⟩ := ol_a1.e h
    exact lv_astore_n hx hb (hd rfl) rfl hl.has (by rw [← hl.2.2.1]; exact h1) rfl (fun a' ha' => hK _ _ _ h2 a' H locs (hl.st1 ha') hH hS)
  case astore k =>
    obtain ⟨v, r, rfl, h1, h2⟩ := ol_a1.e h
    exact lv_astore hx hb (hd rfl) hl.has (by rw [← hl.2.2.1]; exact h1) rfl (fun a' ha' => hK _ _ _ h2 a' H locs (hl.st1 ha') hH hS)
  case iinc k n =>
    obtain ⟨v, h1, h2⟩ := h
    obtain ⟨z, hz⟩ := List.getElem?_of_mem (ol_prs_mem.mpr ⟨k, .inl v, h1, rfl⟩ : (0 + k, ol_cv ad (.inl v)) ∈ ol_prs ad 0 ls)
    rw [Nat.zero_add] at hz
    exact lv_iinc (v := Int32.ofInt (v + n)) hx hb (hd rfl) hl.has hz (by rw [Int32.ofInt_add]) (by rw [← hl.2.2.1]; exact (List.getElem?_eq_some_iff.mp h1).1) rfl (fun a' ha' => hK _ _ _ h2 a' H locs (hl.st1 (v := .inl (v + n)) ha') hH hS)
  case iadd =>
    obtain ⟨u, v, r, rfl, h⟩ := ol_p2.e h
    refine lv_iadd hx hb (hd rfl) ?_
    rw [← Int32.ofInt_add]
    exact hK _ _ _ h a H locs hl hH hS
  case isub =>
    obtain ⟨u, v, r, rfl, h⟩ := ol_p2.e h
    refine lv_isub hx hb (hd rfl) ?_
    rw [← Int32.ofInt_sub]
    exact hK _ _ _ h a H locs hl hH hS
  case imul =>
    obtain ⟨u, v, r, rfl, h⟩ := ol_p2.e h
    refine lv_imul hx hb (hd rfl) ?_
    rw [← Int32.ofInt_mul]
    exact hK _ _ _ h a H locs hl hH hS
  case idiv =>
    obtain ⟨u, v, r, rfl, h1, h2, h3, h⟩ := ol_p2.e h
    refine lv_idiv hx hb (hd rfl) (ol_ne0 h2 h3) ?_
    rw [ol_divI h1 h2]
    exact hK _ _ _ h a H locs hl hH hS
  case irem =>
    obtain ⟨u, v, r, rfl, h1, h2, h3, h⟩ := ol_p2.e h
    refine lv_irem hx hb (hd rfl) (ol_ne0 h2 h3) ?_
    rw [ol_remI h1 h2]
    exact hK _ _ _ h a H locs hl hH hS
  case iand =>
    obtain ⟨u, v, r, rfl, h⟩ := ol_p2.e h
    refine lv_iand hx hb (hd rfl) ?_
    rw [← ol_andI]
    exact hK _ _ _ h a H locs hl hH hS
  case ior =>
    obtain ⟨u, v, r, rfl, h⟩ := ol_p2.e h
    refine lv_ior hx hb (hd rfl) ?_
    rw [← ol_orI]
    exact hK _ _ _ h a H locs hl hH hS
  case ishl =>
    obtain ⟨u, v, r, rfl, h1, h2, h⟩ := ol_p2.e h
    refine lv_ishl hx hb (hd rfl) ?_
    rw [ol_shlI h1 h2]
    exact hK _ _ _ h a H locs hl hH hS
  case ishr =>
    obtain ⟨u, v, r, rfl, h0, h1, h2, h⟩ := ol_p2.e h
    refine lv_ishr hx hb (hd rfl) ?_
    rw [ol_shrI h0 h1 h2]
    exact hK _ _ _ h a H locs hl hH hS
  case iushr =>
    obtain ⟨u, v, r, rfl, h1, h2, h⟩ := ol_p2.e h
    exact lv_iushr hx hb (hd rfl) (ol_ushrI h1 h2) (hK _ _ _ h a H locs hl hH hS)
  case i2l =>
    obtain ⟨u, r, rfl, h1, h⟩ := ol_p1.e h
    exact lv_i2l hx hb (hd rfl) (ol_i2l h1) (hK _ _ _ h a H locs hl hH hS)
  case i2b =>
    obtain ⟨u, r, rfl, h⟩ := ol_p1.e h
    exact lv_i2b hx hb (hd rfl) (ol_i2b u) (hK _ _ _ h a H locs hl hH hS)
  case i2s =>
    obtain ⟨u, r, rfl, h⟩ := ol_p1.e h
    exact lv_i2s hx hb (hd rfl) (ol_i2s u) (hK _ _ _ h a H locs hl hH hS)
  case ladd =>
    obtain ⟨u, v, r, rfl, h⟩ := ol_q2.e h
    refine lv_ladd hx hb (hd rfl) ?_
    rw [← Int64.ofInt_add]
    exact hK _ _ _ h a H locs hl hH hS
  case lsub =>
    obtain ⟨u, v, r, rfl, h⟩ := ol_q2.e h
    refine lv_lsub hx hb (hd rfl) ?_
    rw [← Int64.ofInt_sub]
    exact hK _ _ _ h a H locs hl hH hS
  case lmul =>
    obtain ⟨u, v, r, rfl, h⟩ := ol_q2.e h
    refine lv_lmul hx hb (hd rfl) ?_
    rw [← Int64.ofInt_mul]
    exact hK _ _ _ h a H locs hl hH hS
  case ldiv =>
    obtain ⟨u, v, r, rfl, h1, h2, h3, h⟩ := ol_q2.e h
    refine lv_ldiv hx hb (hd rfl) (ol_ne0L h2 h3) ?_
    rw [ol_divL h1 h2]
    exact hK _ _ _ h a H locs hl hH hS
  case lrem =>
    obtain ⟨u, v, r, rfl, h1, h2, h3, h⟩ := ol_q2.e h
    refine lv_lrem hx hb (hd rfl) (ol_ne0L h2 h3) ?_
    rw [ol_remL h1 h2]
    exact hK _ _ _ h a H locs hl hH hS
  case land =>
    obtain ⟨u, v, r, rfl, h⟩ := ol_q2.e h
    refine lv_land hx hb (hd rfl) ?_
    rw [← ol_andL]
    exact hK _ _ _ h a H locs hl hH hS
  case lshl =>
    obtain ⟨u, v, r, rfl, h1, h2, h⟩ := ol_li.e h
    exact lv_lshl hx hb (hd rfl) (ol_shlL h1 h2) (hK _ _ _ h a H locs hl hH hS)
  case lshr =>
    obtain ⟨u, v, r, rfl, h0, h1, h2, h⟩ := ol_li.e h
    exact lv_lshr hx hb (hd rfl) (ol_shrL h0 h1 h2) (hK _ _ _ h a H locs hl hH hS)
  case lcmp =>
    obtain ⟨u, v, r, rfl, h⟩ := ol_q2.e h
    refine W.lcmp hx hb (hd rfl) ?_
    by_cases uv : u = v
    · subst uv
      rw [ol_lcm0]
      exact hK _ _ _ (h.1 rfl) a H locs hl hH hS
    · obtain ⟨h1, h2, h3⟩ := h.2 uv
      rw [ol_lcm u v h1 h2 uv]
      exact hK _ _ _ h3 a H locs hl hH hS
  case dup =>
    cases st with
    | nil => exact h.elim
    | cons v r => exact lv_dup hx hb (hd rfl) (by rw [ol_ctc]; exact h.1) (hK _ _ _ h.2 a H locs hl hH hS)
  case dup2 =>
    match st, h with
    | v :: w :: r, h => exact lv_dup2_11 hx hb (hd rfl) (by rw [ol_ctc]; exact h.1) (by rw [ol_ctc]; exact h.2.1) (hK _ _ _ h.2.2 a H locs hl hH hS)
    | [], h => exact h.elim
    | [_], h => exact h.elim
  case pop =>
    cases st with
    | nil => exact h.elim
    | cons v r => exact lv_pop hx hb (hd rfl) (by rw [ol_ctc]; exact h.1) (hK _ _ _ h.2 a H locs hl hH hS)
  case goto off => exact lv_goto hx hb (hd rfl) h.1.symm (hQ _ _ _ _ h.2 a H locs hl hH hS)
  case ifCond k off =>
    obtain ⟨h0, h⟩ := h
    obtain ⟨u, r, rfl, h⟩ := ol_p1.e h
    exact ol_br0 hx hb (hd rfl) h0 h (fun q => hQ _ _ _ _ q a H locs hl hH hS) (fun q => hK _ _ _ q a H locs hl hH hS)
  case if_icmp k off =>
    obtain ⟨h0, h⟩ := h
    obtain ⟨u, v, r, rfl, h⟩ := ol_p2.e h
    exact ol_brI hx hb (hd rfl) h0 h (fun q => hQ _ _ _ _ q a H locs hl hH hS) (fun q => hK _ _ _ q a H locs hl hH hS)
  case tableswitch df lo hi offs =>
    obtain ⟨nt, hdt, -⟩ := hd0
    obtain ⟨h0, h⟩ := h
    obtain ⟨u, r, rfl, h1, h⟩ := ol_p1.e h
    by_cases q : u < lo ∨ hi < u
    · exact lv_tableOut hx hb hdt (by rw [ol_toI h1]; exact q) h0.symm (hQ _ _ _ _ (h.1 q) a H locs hl hH hS)
    · obtain ⟨off, h2, h3, h4⟩ := h.2 q
      exact lv_tableIn hx hb hdt (by rw [ol_toI h1]; exact fun z => q (Or.inl z)) (by rw [ol_toI h1]; exact fun z => q (Or.inr z)) (by rw [ol_toI h1]; exact h2) h3.symm (hQ _ _ _ _ h4 a H locs hl hH hS)
  case getfield x =>
    obtain ⟨k, r, rfl, ci, fs, j, o, h1, h2, h3, h4⟩ := ol_a1.e h
    exact ol_get F h1 h2 h3 hH (hd rfl) (hK _ _ _ h4 a H locs hl hH hS)
  case putfield x =>
    match st, h with
    | .inl v :: .inr (.inr k) :: r, h =>
      obtain ⟨ci, fs, j, h1, h2, h3, h4, h5, h6⟩ := h
      exact ol_put F h1 h2 h3 h4 h5 hH hS (hd rfl) (fun H1 locs1 hH1 hS1 => hK _ _ _ h6 a H1 locs1 hl hH1 hS1)
    | [], h => exact h.elim
    | [.inl _], h => exact h.elim
    | [.inr _], h => exact h.elim
    | .inl _ :: .inl _ :: _, h => exact h.elim
    | .inl _ :: .inr (.inl _) :: _, h => exact h.elim
    | .inr _ :: _ :: _, h => exact h.elim
  case iaload =>
    obtain ⟨k, i, r, rfl, n, h1, h2, h3, h4, h5⟩ := ol_ai.e h
    exact ol_ald F h1 h2 h3 h4 hH (hd rfl) (hK _ _ _ h5 a H locs hl hH hS)
  case aaload =>
    obtain ⟨k, i, r, rfl, n, b, h1, h2, h3, h4, h5⟩ := ol_ai.e h
    exact ol_aaq F h1 h2 h3 h4 hH (hd rfl) (hK _ _ _ h5 a H locs hl hH hS)
  case iastore =>
    obtain ⟨k, i, v, r, rfl, n, h1, h2, h3, h4, h5, h6⟩ := ol_aii.e h
    exact ol_ast F h1 h2 h3 h4 h5 hH hS (hd rfl) (fun H1 locs1 hH1 hS1 => hK _ _ _ h6 a H1 locs1 hl hH1 hS1)
  case arraylength =>
    obtain ⟨k, r, rfl, n, h1, h2⟩ := ol_a1.e h
    exact ol_aln F h1 hH (hd rfl) (hK _ _ _ h2 a H locs hl hH hS)
  case ireturn =>
    match st, h with
    | [.inl v], h => exact hR _ _ h pc a H locs hH hS (hd rfl)
    | [], h => exact h.elim
    | [.inr _], h => exact h.elim
    | .inl _ :: _ :: _, h => exact h.elim
    | .inr _ :: _ :: _, h => exact h.elim
  case lreturn =>
    match st, h with
    | [.inr (.inl v)], h => exact hR _ _ h pc a H locs hH hS (hd rfl)
    | [], h => exact h.elim
    | [.inl _], h => exact h.elim
    | [.inr (.inr _)], h => exact h.elim
    | .inl _ :: _ :: _, h => exact h.elim
    | .inr (.inl _) :: _ :: _, h => exact h.elim
    | .inr (.inr _) :: _ :: _, h => exact h.elim
  case areturn =>
    match st, h with
    | [.inr (.inr v)], h => exact hR _ _ h pc a H locs hH hS (hd rfl)
    | [], h => exact h.elim
    | [.inl _], h => exact h.elim
    | [.inr (.inl _)], h => exact h.elim
    | .inl _ :: _ :: _, h => exact h.elim
    | .inr (.inl _) :: _ :: _, h => exact h.elim
    | .inr (.inr _) :: _ :: _, h => exact h.elim
  case return_ =>
    obtain ⟨rfl, h⟩ := h
    exact hR _ _ h pc a H locs hH hS (hd rfl)
  case invokestatic x =>
    rcases h with ⟨q, n, d', v, M', h1, h2, h3, h4, h5, h6⟩ | h | h | h
    · exact ol_cS F h1 h4 h2 h3 h5 hl hH hS (hd rfl) (hK _ _ _ h6)
    · obtain ⟨ka, sp, kb, dp, n, r, rfl, h1, h2, na, nb, g1, g2, g3, g4, g5, g6, g7, g8, g9, g10, h3⟩ := ol_cpy.e h
      exact ol_acp F h1 hl.1 (by rw [ol_smc]; exact h2) g1 g2 g3 g4 g5 g6 g7 g8 g9 g10 hH hS (hd rfl) (fun H1 locs1 hH1 hS1 => hK _ _ _ h3 a H1 locs1 hl hH1 hS1)
    · obtain ⟨u, v, r, rfl, h1, h2, h3, h4, h5⟩ := ol_p2.e h
      have hw := ol_mathw
      refine va_mmax hx hb (hml.trans hl.1.symm) hown (hts _ h1) (hts _ hw.1) (hts _ hw.2.2.1) (hts _ hw.2.2.2.1) (by omega) (by rw [ol_smc]; omega) hce hsl (hd rfl) ?_
      have e : (if Int32.ofInt u < Int32.ofInt v then Int32.ofInt v else Int32.ofInt u) = Int32.ofInt (ol_max u v) := by
        unfold ol_max
        by_cases q : u < v
        · rw [if_pos q, if_pos ((ol_ltI h3 h4).mpr q)]
        · rw [if_neg q, if_neg (fun z => q ((ol_ltI h3 h4).mp z))]
      rw [e]
      exact hK _ _ _ h5 a H locs hl hH hS
    · obtain ⟨u, v, r, rfl, h1, h2, h3, h4, h5⟩ := ol_p2.e h
      have hw := ol_mathw
      refine va_mmin hx hb (hml.trans hl.1.symm) hown (hts _ h1) (hts _ hw.2.1) (hts _ hw.2.2.1) (hts _ hw.2.2.2.2) (by omega) (by rw [ol_smc]; omega) hce hsl (hd rfl) ?_
      have e : (if Int32.ofInt v < Int32.ofInt u then Int32.ofInt v else Int32.ofInt u) = Int32.ofInt (ol_min u v) := by
        unfold ol_min
        by_cases q : u ≤ v
        · rw [if_pos q, if_neg (fun z => by have := (ol_ltI h4 h3).mp z; omega)]
        · rw [if_neg q, if_pos ((ol_ltI h4 h3).mpr (by omega))]
      rw [e]
      exact hK _ _ _ h5 a H locs hl hH hS
  case invokevirtual x =>
    obtain ⟨q, n, d', v, M', k, r, ci, fs, h1, h2, h3, h4, h5, h6, h7, h8⟩ := h
    exact ol_cV F h4 h6 h1 h3 h2 h5 h7 hl hH hS (hd rfl) (hK _ _ _ h8)
  all_goals exact h.elim
theorem ol_dec {cc : ByteArray} {pc : Nat} {i : Instr} {r : List Instr} (h : ol_cd cc pc (i :: r) = true) : (∃ n, decode cc pc = .ok (i, n) ∧ (ol_isT i = true ∨ n = ol_len i)) ∧ ol_cd cc (pc + ol_len i) r = true := by
  simp only [ol_cd, Bool.and_eq_true] at h
  refine ⟨?_, h.2⟩
  have h1 := h.1
  split at h1
  · rename_i j n e
    simp only [Bool.and_eq_true, decide_eq_true_eq, Bool.or_eq_true] at h1
    refine ⟨n, by rw [e, h1.1], ?_⟩
    rcases h1.2 with q | q
    · exact Or.inl q
    · exact Or.inr (Nat.eq_of_beq_eq_true q)
  · cases h1
/-- a frame of the machine is closed -/
theorem ol_closed (F : ol_Fr p R s m args c cells slots cc nL own d D ad cI cJ lay) : ol_C own cc d lay (ol_RW p l e R s m args below meth c cells slots Q cc D ad cI cJ lay) (ol_AW p l e R s m args below meth c cells slots Q nL D ad cI cJ lay) := by
  have wk : ∀ pc ls st M, ol_wk (ol_AW p l e R s m args below meth c cells slots Q nL D ad cI cJ lay) pc ls st M → ol_AW p l e R s m args below meth c cells slots Q nL D ad cI cJ lay pc ls st M := by
    rintro pc ls st M ⟨ls0, h1, h2⟩ a H locs hl hH hS
    exact h2 a H locs (hl.le h1) hH hS
  intro is
  induction is with
  | nil => exact fun pc ls st M _ h => wk _ _ _ _ h
  | cons i r ih =>
    intro pc ls st M hc h
    obtain ⟨h1, h2⟩ := ol_dec hc
    exact ol_one F h1 h (fun ls st M hk => ih _ _ _ _ h2 hk) wk (fun _ _ h => h)
end OLS
