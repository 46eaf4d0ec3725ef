theorem x_digest {n : Nat} {S M : ol_M} (i : ix S M) (hs : sp_ok S) : x_okl n 19 q_X8_digest [] S M (sp_digest S) := by
  have w := sp_W_k hs
  have nh := sp_nH_r hs.1
  have nt := sp_nT_r S
  have nw := hs.w.1
  have r0 : ol_r 0 := ⟨by decide, by decide⟩
  have r1 : ol_r 1 := ⟨by decide, by decide⟩
  have r3 : ol_r 3 := ⟨by decide, by decide⟩
  have r5 : ol_r 5 := ⟨by decide, by decide⟩
  have r7 : ol_r 7 := ⟨by decide, by decide⟩
  have r9 : ol_r 9 := ⟨by decide, by decide⟩
  have r11 : ol_r 11 := ⟨by decide, by decide⟩
  have rm : ol_r (-1) := ⟨by decide, by decide⟩
  have d5 : ∀ M1, ix S M1 → fx M M1 → ∃ M', ol_T n q_X8_digest 18 445 [some (.inr (.inr 0)), some (.inr (.inl (sp_d5 S))), none, none, none] [] M1 (some (.inr (.inl (sp_dig S)))) M' ∧ ix S M' ∧ fx M M' := by
    intro M1 z f
    obtain ⟨M2, q2, z2, g2⟩ := @x_bare n S M1 z hs 0 r0
    obtain ⟨M3, q3, z3, g3⟩ := @x_bare n S M2 z2 hs 1 r1
    obtain ⟨M4, q4, z4, g4⟩ := @x_never n S M3 z3 hs
    obtain ⟨M5, q5, z5, g5⟩ := @x_post n S M4 z4 hs 7 9 (-1) r9 rm
    rw [show (sp_bare S 0).1 = br_m (sp_W S) 0 12 0 by unfold sp_bare; dsimp only; rw [if_pos (show (0:Int) ≤ 0 ∧ (0:Int) ≤ 1 by decide)]] at q2
    rw [show (sp_bare S 1).1 = br_m (sp_W S) 1 12 0 by unfold sp_bare; dsimp only; rw [if_pos (show (0:Int) ≤ 1 ∧ (1:Int) ≤ 1 by decide)]] at q3
    rw [show (sp_post S 7 9 (-1)).1 = sp_pst S 7 9 (-1) by unfold sp_post; dsimp only; rw [if_pos]; exact ⟨by decide, Or.inl rfl⟩] at q5
    exact ⟨M5, fun Rt Aq hA hr => b_X8_digest_445 hA _ M1 ⟨_, M2, q2, br_m_rr, _, M3, q3, br_m_rr, _, M4, q4, bs_r12 (by omega), _, M5, q5, sp_pst_r hs (by decide) (by decide) (Or.inl rfl), hr⟩, z5, (((f.tr g2).tr g3).tr g4).tr g5⟩
  have d4 : ∀ M1, ix S M1 → fx M M1 → ∃ M', ol_T n q_X8_digest 18 407 [some (.inr (.inr 0)), some (.inr (.inl (hh (sp_tL S) (sp_d4 S) (Int.toNat 0)))), none, some (.inl 0), none] [] M1 (some (.inr (.inl (sp_dig S)))) M' ∧ ix S M' ∧ fx M M' := by
    refine ol_loop (P := fun l => ∀ M1, ix S M1 → fx M M1 → ∃ M', ol_T n q_X8_digest 18 407 [some (.inr (.inr 0)), some (.inr (.inl (hh (sp_tL S) (sp_d4 S) l.toNat))), none, some (.inl l), none] [] M1 (some (.inr (.inl (sp_dig S)))) M' ∧ ix S M' ∧ fx M M') (a := 0) (b := 8) (by decide) (fun l l0 l1 hk M1 z f => ?_) (fun M1 z f => ?_)
    · rw [show (l + 1).toNat = l.toNat + 1 by omega] at hk
      simp only [hh] at hk
      rw [Int.toNat_of_nonneg l0] at hk
      obtain ⟨M2, q2, z2, g2⟩ := @x_spent n S M1 z hs l ⟨by omega, by omega⟩
      obtain ⟨M3, q3, z3, g3⟩ := @x_got n S M2 z2 hs l ⟨by omega, by omega⟩
      rw [show (sp_spent S l).1 = rn_lv (sp_W S) 12 4 l from if_pos ⟨l0, by omega⟩] at q2
      rw [show (sp_got S l).1 = bs (sp_rs S l) 10 from if_pos ⟨l0, by omega⟩] at q3
      obtain ⟨M', t, e⟩ := hk M3 z3 ((f.tr g2).tr g3)
      exact ⟨M', fun Rt Aq hA hr => b_X8_digest_407 hA _ l M1 ⟨⟨by omega, by omega⟩, ol_if.neg (by omega) ⟨_, M2, q2, rn_lv_4r w l0 l1, _, M3, q3, bs_r12 (by decide), t Rt Aq hA hr⟩⟩, e⟩
    · obtain ⟨M', t, e⟩ := d5 M1 z f
      exact ⟨M', fun Rt Aq hA hr => b_X8_digest_407 hA _ 8 M1 ⟨⟨by decide, by decide⟩, ol_if.pos (by decide) (t Rt Aq hA hr)⟩, e⟩
  have d3 : ∀ M1, ix S M1 → fx M M1 → ∃ M', ol_T n q_X8_digest 18 362 [some (.inr (.inr 0)), some (.inr (.inl (hh (sp_tW S) (sp_d3 S) (Int.toNat 0)))), none, some (.inl 0), none] [] M1 (some (.inr (.inl (sp_dig S)))) M' ∧ ix S M' ∧ fx M M' := by
    refine ol_loop (P := fun l => ∀ M1, ix S M1 → fx M M1 → ∃ M', ol_T n q_X8_digest 18 362 [some (.inr (.inr 0)), some (.inr (.inl (hh (sp_tW S) (sp_d3 S) l.toNat))), none, some (.inl l), none] [] M1 (some (.inr (.inl (sp_dig S)))) M' ∧ ix S M' ∧ fx M M') (a := 0) (b := S 0 2) nw.1 (fun l l0 l1 hk M1 z f => ?_) (fun M1 z f => ?_)
    · rw [show (l + 1).toNat = l.toNat + 1 by omega] at hk
      simp only [hh] at hk
      rw [Int.toNat_of_nonneg l0] at hk
      obtain ⟨M2, q2, z2, g2⟩ := @x_became n S M1 z hs l ⟨by omega, by omega⟩
      obtain ⟨M3, q3, z3, g3⟩ := @x_lend n S M2 z2 hs l ⟨by omega, by omega⟩
      rw [show (sp_became S l).1 = rn_lv (sp_W S) 12 1 l from if_pos ⟨l0, l1⟩] at q2
      rw [show (sp_lend S l).1 = rn_lv (ol_mp (sp_W S) 5 (fun _ => 0)) 12 2 l from if_pos ⟨l0, l1⟩] at q3
      obtain ⟨M', t, e⟩ := hk M3 z3 ((f.tr g2).tr g3)
      refine ⟨M', fun Rt Aq hA hr => b_X8_digest_362 hA _ l M1 ?_, e⟩
      rw [z.nW]
      exact ⟨⟨by omega, by omega⟩, ⟨by omega, by omega⟩, ol_if.neg (by omega) ⟨_, M2, q2, rn_lv_1r, _, M3, q3, rn_lv_2r w.nol, t Rt Aq hA hr⟩⟩
    · obtain ⟨M', t, e⟩ := d4 M1 z f
      refine ⟨M', fun Rt Aq hA hr => b_X8_digest_362 hA _ _ M1 ?_, e⟩
      rw [z.nW]
      exact ⟨⟨by omega, by omega⟩, ⟨by omega, by omega⟩, ol_if.pos (by omega) (t Rt Aq hA hr)⟩
  have d2 : ∀ M1, ix S M1 → fx M M1 → ∃ M', ol_T n q_X8_digest 18 271 [some (.inr (.inr 0)), some (.inr (.inl (hh (sp_tT S) (sp_d2 S) (Int.toNat 0)))), none, some (.inl 0), none] [] M1 (some (.inr (.inl (sp_dig S)))) M' ∧ ix S M' ∧ fx M M' := by
    refine ol_loop (P := fun l => ∀ M1, ix S M1 → fx M M1 → ∃ M', ol_T n q_X8_digest 18 271 [some (.inr (.inr 0)), some (.inr (.inl (hh (sp_tT S) (sp_d2 S) l.toNat))), none, some (.inl l), none] [] M1 (some (.inr (.inl (sp_dig S)))) M' ∧ ix S M' ∧ fx M M') (a := 0) (b := sp_nT S) nt.1 (fun l l0 l1 hk M1 z f => ?_) (fun M1 z f => ?_)
    · rw [show (l + 1).toNat = l.toNat + 1 by omega] at hk
      simp only [hh] at hk
      rw [Int.toNat_of_nonneg l0] at hk
      have rl : ol_r l := ⟨by omega, by omega⟩
      obtain ⟨M2, q2, z2, g2⟩ := @x_papers n S M1 z hs l 0 rl r0
      obtain ⟨M3, q3, z3, g3⟩ := @x_papers n S M2 z2 hs l 1 rl r1
      obtain ⟨M4, q4, z4, g4⟩ := @x_meant n S M3 z3 hs l rl
      rw [show (sp_papers S l 0).1 = sp_pap S l 0 from if_pos ⟨⟨l0, l1⟩, by decide⟩] at q2
      rw [show (sp_papers S l 1).1 = sp_pap S l 1 from if_pos ⟨⟨l0, l1⟩, by decide⟩] at q3
      rw [show (sp_meant S l).1 = bs (sp_mb S l) (sp_nT S).toNat from if_pos ⟨l0, l1⟩] at q4
      obtain ⟨M', t, e⟩ := hk M4 z4 (((f.tr g2).tr g3).tr g4)
      refine ⟨M', fun Rt Aq hA hr => b_X8_digest_271 hA _ l M1 ?_, e⟩
      rw [z.nT]
      refine ⟨⟨by omega, by omega⟩, ⟨by omega, by omega⟩, ol_if.neg (by omega) ?_⟩
      show Aq 285 [some (.inr (.inr 0)), some (.inr (.inl (hl (sp_wd S l) (hh (sp_tT S) (sp_d2 S) l.toNat) (Int.toNat 0)))), none, some (.inl l), some (.inl 0)] [] M1
      refine ol_loop (P := fun k => Aq 285 [some (.inr (.inr 0)), some (.inr (.inl (hl (sp_wd S l) (hh (sp_tT S) (sp_d2 S) l.toNat) k.toNat))), none, some (.inl l), some (.inl k)] [] M1) (a := 0) (b := 10) (by decide) (fun k k0 k1 hk' => ?_) ?_
      · rw [show (k + 1).toNat = k.toNat + 1 by omega] at hk'
        simp only [hl] at hk'
        rw [Int.toNat_of_nonneg k0] at hk'
        have wd : ol_R (ol_lay n) 2 q_X8_word [.inr (.inr 0), .inl l, .inl k] M1 (some (.inl (sp_wd S l k))) M1 := by
          obtain ⟨a1, a2, a3, a4, -⟩ := z.1.2.2.1.2.2 l l0 l1
          have rk : ol_r k := ⟨by omega, by omega⟩
          refine ol_Ri (q := q_X8_word) (by decide +kernel) (Nat.le_of_ble_eq_true rfl) (Or.inl rfl) (fun Rt Aq hA hr => b_X8_word_0 hA l k M1 ?_)
          rw [z.nT]
          unfold sp_wd at hr
          refine ⟨rl, ⟨by omega, by omega⟩, ol_if.pos ⟨l0, l1⟩ ⟨rk, ol_if.pos (by omega) ⟨rk, ol_if.mk (fun d => ol_if.mk (fun g => ⟨by omega, by omega, ?_⟩) (fun g => ⟨rk, by omega, by omega, ?_⟩)) (fun d => ⟨by omega, by omega, by omega, by omega, ?_⟩)⟩⟩⟩
          · rw [if_neg (by omega), if_pos g] at hr
            rw [a2]; exact hr
          · rw [if_neg (by omega), if_neg g] at hr
            rw [a1]; exact hr
          · rw [if_pos (by omega)] at hr
            rw [a4 k k0 (by omega)]; exact hr
        exact b_X8_digest_285 hA _ l k M1 ⟨⟨by omega, by omega⟩, ol_if.neg (by omega) ⟨_, M1, wd, sp_wd_r l0 l1, hk'⟩⟩
      · exact b_X8_digest_285 hA _ l 10 M1 ⟨⟨by decide, by decide⟩, ol_if.pos (by decide) (b_X8_digest_313 hA _ l M1 ⟨_, M2, q2, sp_pap_r hs, _, M3, q3, sp_pap_r hs, _, M4, q4, bs_r12 (by omega), t Rt Aq hA hr⟩)⟩
    · obtain ⟨M', t, e⟩ := d3 M1 z f
      refine ⟨M', fun Rt Aq hA hr => b_X8_digest_271 hA _ _ M1 ?_, e⟩
      rw [z.nT]
      exact ⟨⟨by omega, by omega⟩, ⟨by omega, by omega⟩, ol_if.pos (by omega) (t Rt Aq hA hr)⟩
  have d1 : ∀ M1, ix S M1 → fx M M1 → ∃ M', ol_T n q_X8_digest 18 59 [some (.inr (.inr 0)), some (.inr (.inl (hh (sp_tH S) (sp_d1 S) (Int.toNat 0)))), none, some (.inl 0), none] [] M1 (some (.inr (.inl (sp_dig S)))) M' ∧ ix S M' ∧ fx M M' := by
    refine ol_loop (P := fun l => ∀ M1, ix S M1 → fx M M1 → ∃ M', ol_T n q_X8_digest 18 59 [some (.inr (.inr 0)), some (.inr (.inl (hh (sp_tH S) (sp_d1 S) l.toNat))), none, some (.inl l), none] [] M1 (some (.inr (.inl (sp_dig S)))) M' ∧ ix S M' ∧ fx M M') (a := 0) (b := sp_nH S) nh.1 (fun l l0 l1 hk M1 z f => ?_) (fun M1 z f => ?_)
    · rw [show (l + 1).toNat = l.toNat + 1 by omega] at hk
      simp only [hh] at hk
      rw [Int.toNat_of_nonneg l0] at hk
      have rl : ol_r l := ⟨by omega, by omega⟩
      have l8 : l < 8 := by omega
      have hv : 0 ≤ l ∧ l < sp_nH S := ⟨l0, l1⟩
      obtain ⟨M2, q2, z2, g2⟩ := @x_house n S M1 z hs l 0 rl r0
      obtain ⟨M3, q3, z3, g3⟩ := @x_house n S M2 z2 hs l 1 rl r1
      obtain ⟨M4, q4, z4, g4⟩ := @x_has n S M3 z3 hs 0 l (-1) r0 rl rm
      obtain ⟨M5, q5, z5, g5⟩ := @x_has n S M4 z4 hs 11 l (-1) r11 rl rm
      obtain ⟨M6, q6, z6, g6⟩ := @x_has n S M5 z5 hs 5 l 0 r5 rl r0
      obtain ⟨M7, q7, z7, g7⟩ := @x_fines n S M6 z6 hs l rl
      obtain ⟨M8, q8, z8, g8⟩ := @x_most n S M7 z7 hs 3 l 0 r3 rl r0
      obtain ⟨M9, q9, z9, g9⟩ := @x_most n S M8 z8 hs 3 l 1 r3 rl r1
      obtain ⟨MA, qA, zA, gA⟩ := @x_say n S M9 z9 hs 3 l 1 r3 rl r1
      obtain ⟨MB, qB, zB, gB⟩ := @x_ask n S MA zA hs 3 l r3 rl
      obtain ⟨MC, qC, zC, gC⟩ := @x_censor n S MB zB hs 5 l 1 0 r5 rl r1 r0
      obtain ⟨MD, qD, zD, gD⟩ := @x_censor n S MC zC hs 5 l 1 1 r5 rl r1 r1
      obtain ⟨ME, qE, zE, gE⟩ := @x_post n S MD zD hs 7 9 l r9 rl
      rw [show (sp_hous S l 0).1 = sp_kd S l from (if_pos ⟨hv, by decide⟩).trans (if_pos rfl)] at q2
      rw [show (sp_hous S l 1).1 = sp_hd S l from (if_pos ⟨hv, by decide⟩).trans (if_neg (by decide))] at q3
      rw [show (sp_has S 0 l (-1)).1 = rn_has (sp_W S) 0 l (-1) from if_pos ⟨by decide, hv, by decide⟩] at q4
      rw [show (sp_has S 11 l (-1)).1 = rn_has (sp_W S) 11 l (-1) from if_pos ⟨by decide, hv, by decide⟩] at q5
      rw [show (sp_has S 5 l 0).1 = rn_has (sp_W S) 5 l 0 from if_pos ⟨by decide, hv, by decide⟩] at q6
      rw [show (sp_fines S l).1 = rn_lv (sp_W S) 12 3 l from if_pos hv] at q7
      rw [show (sp_most S 3 l 0).1 = sp_mst S l 0 from if_pos ⟨by decide, hv, by decide⟩] at q8
      rw [show (sp_most S 3 l 1).1 = sp_mst S l 1 from if_pos ⟨by decide, hv, by decide⟩] at q9
      rw [show (sp_say S 3 l 1).1 = sy S (rn_lv (sp_W S) 4 0) l 1 (sp_nT S).toNat from if_pos ⟨by decide, hv, by decide⟩] at qA
      rw [show (sp_ask S 3 l).1 = am (sp_al S 3 l) 7 from if_pos ⟨by decide, hv⟩] at qB
      rw [show (sp_censor S 5 l 1 0).1 = sp_cen S 5 l 1 0 from if_pos ⟨by decide, hv, by decide, by decide⟩] at qC
      rw [show (sp_censor S 5 l 1 1).1 = sp_cen S 5 l 1 1 from if_pos ⟨by decide, hv, by decide, by decide⟩] at qD
      rw [show (sp_post S 7 9 l).1 = sp_pst S 7 9 l from if_pos ⟨by decide, Or.inr hv⟩] at qE
      have hr := sp_house hs.1 l0 l1
      obtain ⟨M', t, e⟩ := hk ME zE (((((((((((((f.tr g2).tr g3).tr g4).tr g5).tr g6).tr g7).tr g8).tr g9).tr gA).tr gB).tr gC).tr gD).tr gE)
      refine ⟨M', fun Rt Aq hA hr' => b_X8_digest_59 hA _ l M1 ?_, e⟩
      rw [z.nH]
      exact ⟨⟨by omega, by omega⟩, ⟨by omega, by omega⟩, ol_if.neg (by omega) ⟨_, M2, q2, ⟨by omega, by omega⟩, _, M3, q3, ⟨by omega, by omega⟩, _, M4, q4, rn_has_rr w l0 l8 (by decide) (by decide), _, M5, q5, rn_has_rr w l0 l8 (by decide) (by decide), _, M6, q6, rn_has_rr w l0 l8 (by decide) (by decide), _, M7, q7, rn_lv_3r w, _, M8, q8, sp_mst_r hs, _, M9, q9, sp_mst_r hs, _, MA, qA, sp_sy_r, _, MB, qB, am_r7, _, MC, qC, _, MD, qD, _, ME, qE, sp_pst_r hs (by decide) (by decide) (Or.inr ⟨l0, l8⟩), t Rt Aq hA hr'⟩⟩
    · obtain ⟨M', t, e⟩ := d2 M1 z f
      refine ⟨M', fun Rt Aq hA hr => b_X8_digest_59 hA _ _ M1 ?_, e⟩
      rw [z.nH]
      exact ⟨⟨by omega, by omega⟩, ⟨by omega, by omega⟩, ol_if.pos (by omega) (t Rt Aq hA hr)⟩
  have d0 : ∀ M1, ix S M1 → fx M M1 → ∃ M', ol_T n q_X8_digest 18 6 [some (.inr (.inr 0)), some (.inr (.inl (hl (sp_cnt S) 17 (Int.toNat 0)))), none, some (.inl 0), none] [] M1 (some (.inr (.inl (sp_dig S)))) M' ∧ ix S M' ∧ fx M M' := by
    refine ol_loop (P := fun l => ∀ M1, ix S M1 → fx M M1 → ∃ M', ol_T n q_X8_digest 18 6 [some (.inr (.inr 0)), some (.inr (.inl (hl (sp_cnt S) 17 l.toNat))), none, some (.inl l), none] [] M1 (some (.inr (.inl (sp_dig S)))) M' ∧ ix S M' ∧ fx M M') (a := 0) (b := 8) (by decide) (fun l l0 l1 hk M1 z f => ?_) (fun M1 z f => ?_)
    · rw [show (l + 1).toNat = l.toNat + 1 by omega] at hk
      simp only [hl] at hk
      rw [Int.toNat_of_nonneg l0] at hk
      obtain ⟨M2, q2, z2, g2⟩ := @x_count n S M1 z hs l ⟨by omega, by omega⟩
      obtain ⟨M', t, e⟩ := hk M2 z2 (f.tr g2)
      exact ⟨M', fun Rt Aq hA hr => b_X8_digest_6 hA _ l M1 ⟨⟨by omega, by omega⟩, ol_if.neg (by omega) ⟨_, M2, q2, sp_cnt_r hs, t Rt Aq hA hr⟩⟩, e⟩
    · obtain ⟨M2, q2, z2, g2⟩ := @x_fault n S M1 z 0 r0
      obtain ⟨M3, q3, z3, g3⟩ := @x_fault n S M2 z2 (0 + 1) (show ol_r (0 + 1) from ⟨by decide, by decide⟩)
      rw [show (sp_fault S 0).1 = sp_hf S by unfold sp_fault; dsimp only; rw [if_pos (rfl : (0:Int) = 0)]] at q2
      rw [show (sp_fault S (0 + 1)).1 = sp_tf S by unfold sp_fault; dsimp only; rw [if_neg (show ¬ ((0:Int) + 1 = 0) by decide), if_pos (show (0:Int) + 1 = 1 by decide)]] at q3
      have ra := sp_hf_r hs.1
      have rb := sp_tf_r hs.1
      obtain ⟨M', t, e⟩ := d1 M3 z3 ((f.tr g2).tr g3)
      exact ⟨M', fun Rt Aq hA hr => b_X8_digest_6 hA _ 8 M1 ⟨⟨by decide, by decide⟩, ol_if.pos (by decide) (b_X8_digest_33 hA _ 0 M1 ⟨r0, ol_if.neg (by decide) ⟨_, M2, q2, ⟨by omega, by omega⟩, b_X8_digest_33 hA _ (0 + 1) M2 ⟨r1, ol_if.neg (by decide) ⟨_, M3, q3, ⟨by omega, by omega⟩, b_X8_digest_33 hA _ (0 + 1 + 1) M3 ⟨⟨by decide, by decide⟩, ol_if.pos (by decide) (t Rt Aq hA hr)⟩⟩⟩⟩⟩)⟩, e⟩
  obtain ⟨M', t, e⟩ := d0 M i fx.rf
  exact ⟨M', ol_Ri (q := q_X8_digest) (by decide +kernel) (Nat.le_of_ble_eq_true rfl) rfl (fun Rt Aq hA hr => b_X8_digest_0 hA M (t Rt Aq hA hr)), e⟩
