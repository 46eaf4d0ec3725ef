theorem rn_lack_r {W : ol_M} (w : wk W) {h t b : Int} {st : Int → Int} (hb : xb 1000 st) (h0 : 0 ≤ h) (h1 : h < 8) (t0 : 0 ≤ t) (t1 : t < W 3 0) : 0 ≤ rn_lack W h t b st ∧ rn_lack W h t b st ≤ 48 := by
  refine ⟨lk_nn 8, ?_⟩
  have := @lk_b (W (30 + t)) (fun l => st (8 * h + l)) b 6 (by decide) 8 (fun l l0 l1 => by
    have a := w.2.2.2.1 t t0 t1 l l0 l1
    have b := hb (8 * h + l) (by omega) (by omega)
    show W (30 + t) l - st (8 * h + l) ≤ 6
    omega)
  unfold rn_lack
  omega
theorem m_tries {n : Nat} {W X M : ol_M} (w : wk W) (v : mv W M) (x : mx W X M) (hb : xb 1000 (X 0)) {k : Int} (k0 : 0 ≤ k) (k1 : k < W 10 0) : ∃ M', ol_R (ol_lay n) 3 q_X9_tries [.inr (.inr 132), .inl k] M none M' ∧ mx W (rn_try W k X) M' ∧ fr_s M M' := by
  obtain ⟨v1, v2, v3, v4, v5, v6, v7, v8, v9, -⟩ := id v
  obtain ⟨w0, w1, w2, w3, w4, w5, w6, w8, w9⟩ := id w
  obtain ⟨x1, x2, x3⟩ := id x
  obtain ⟨q1, q2, q3⟩ := w9 k k0 k1
  obtain ⟨e1, e2, e3⟩ := v9 k k0 k1
  have rh : ol_r (W 0 0 - 1) := ⟨by omega, by omega⟩
  have rt : ol_r (W 3 0 - 1) := ⟨by omega, by omega⟩
  unfold rn_try
  by_cases c : W 12 k < W 0 0 ∧ W 13 k < W 3 0
  · rw [if_pos c]
    obtain ⟨h, hh⟩ : ∃ z, z = W 12 k := ⟨_, rfl⟩
    obtain ⟨t, ht⟩ : ∃ z, z = W 13 k := ⟨_, rfl⟩
    rw [← hh, ← ht] at c
    rw [← hh] at q2 e2
    rw [← ht] at q3 e3
    rw [← hh, ← ht]
    have lr := @rn_lack_r W w h t 0 (X 0) hb q2.1 (by omega) q3.1 c.2
    have lr1 := @rn_lack_r W w h t 1 (X 0) hb q2.1 (by omega) q3.1 c.2
    have go : ∀ {Rt : Option ol_V → ol_M → Prop} {A : Nat → ol_Ls → ol_St → ol_M → Prop} (hA : ol_C q_X9_tries.1.cls q_X9_tries.2.1 2 (ol_lay n) Rt A), A 39 [some (.inr (.inr 132)), some (.inl k), some (.inl h), some (.inl t), none] [] M → A 0 [some (.inr (.inr 132)), some (.inl k), none, none, none] [] M := fun hA hr => b_X9_tries_0 hA k M (by
      rw [e2, e3, v1, v3]
      exact ⟨by omega, by omega, by omega, by omega, ⟨by omega, by omega⟩, rh, ol_if.pos ⟨q2.1, c.1⟩ ⟨⟨by omega, by omega⟩, rt, ol_if.pos ⟨q3.1, c.2⟩ hr⟩⟩)
    obtain ⟨M1, hM1⟩ : ∃ z, z = ol_ms M 149 k (rn_lack W h t 0 (X 0)) := ⟨_, rfl⟩
    have f1 : fr_s M M1 := by rw [hM1]; exact fr_s.rf.ms
    have l9 : M1 149 k = rn_lack W h t 0 (X 0) := by rw [hM1, ol_msA]
    have x' : mx W (ol_ms X 2 k (rn_lack W h t 0 (X 0))) M1 := by
      rw [hM1]
      refine ⟨fun j j0 j1 => ?_, fun i i0 i1 => ?_, fun i i0 i1 => ?_⟩
      · rw [ol_ms_ne _ _ _ (by decide), ol_ms_ne _ _ _ (by decide)]; exact x1 j j0 j1
      · rw [ol_ms_ne _ _ _ (by decide), ol_ms_ne _ _ _ (by decide), ol_ms_row, ol_ms_row]
        refine ⟨(x2 i i0 i1).1, ?_⟩
        by_cases z : i = k
        · rw [z, ol_rsA, ol_rsA]
        · rw [ol_rsN _ _ z, ol_rsN _ _ z]; exact (x2 i i0 i1).2
      · rw [ol_ms_ne _ _ _ (by decide), ol_ms_ne _ _ _ (by decide), ol_ms_ne _ _ _ (by decide), ol_ms_ne _ _ _ (by decide)]; exact x3 i i0 i1
    have v' : mv W M1 := v.fr f1
    have es : (ol_ms X 2 k (rn_lack W h t 0 (X 0))) 0 = X 0 := ol_ms_ne _ _ _ (by decide)
    have r9 : ol_r (M1 149 k) := by rw [l9]; exact ⟨by omega, by omega⟩
    have ek : M 139 (2 * h) = W 1 h := (v2 h q2.1 c.1).1
    have kk := (w1 h q2.1 c.1).1
    have go2 : ∀ {Rt : Option ol_V → ol_M → Prop} {A : Nat → ol_Ls → ol_St → ol_M → Prop} (hA : ol_C q_X9_tries.1.cls q_X9_tries.2.1 2 (ol_lay n) Rt A) (s0 : Int), (s0 = if rn_lack W h t 0 (X 0) = 0 then 0 else @ite Int (rn_sh W h t (X 0)) (Classical.propDecidable _) 1 0) → A 96 [some (.inr (.inr 132)), some (.inl k), some (.inl h), some (.inl t), none] [.inl s0] M1 → A 0 [some (.inr (.inr 132)), some (.inl k), none, none, none] [] M := by
      intro Rt A hA s0 hs0 hr
      refine go hA (b_X9_tries_39 hA k h t M ⟨_, _, m_lacksFor w v x hb q2.1 (by omega) q3.1 c.2 (Or.inl rfl), by omega, by omega, by omega, by omega, ?_⟩)
      rw [← hM1, l9, ek]
      refine ⟨⟨by omega, by omega⟩, ol_if.mk (fun d => ?_) (fun d => ⟨by omega, by omega, ol_if.mk (fun d2 => ?_) (fun d2 => ⟨⟨by omega, by omega⟩, ?_⟩)⟩)⟩
      · rw [if_pos (by omega)] at hs0
        subst hs0
        exact hr
      · rw [if_neg (by omega)] at hs0
        refine ⟨_, _, m_hasOthers w v' q3.1 c.2, ?_⟩
        by_cases d3 : 0 < W (30 + t) 1 ∨ 0 < W (30 + t) 2 ∨ 0 < W (30 + t) 3 ∨ 0 < W (30 + t) 5 ∨ 0 < W (30 + t) 6 ∨ 0 < W (30 + t) 7
        · rw [ol_b1 d3]
          refine ol_if.neg (by decide) ⟨⟨by decide, by decide⟩, _, _, m_lacksFor w v' x' (by rw [es]; exact hb) q2.1 (by omega) q3.1 c.2 (Or.inr rfl), ?_⟩
          rw [es]
          refine ol_if.mk (fun d4 => ?_) (fun d4 => ⟨⟨by omega, by omega⟩, ?_⟩)
          · rw [if_pos ⟨d2, d3, d4⟩] at hs0
            subst hs0
            exact hr
          · rw [if_neg (fun z => d4 z.2.2)] at hs0
            subst hs0
            exact hr
        · rw [ol_b0 d3]
          rw [if_neg (fun z => d3 z.2.1)] at hs0
          subst hs0
          exact ol_if.pos rfl hr
      · rw [if_neg (by omega), if_neg (fun z => d2 z.1)] at hs0
        subst hs0
        exact hr
    -- behind a spending
    have spd : ∀ (r b : Int), (r = 1 ∨ r = 2) → b = r - 1 → ∃ M', ol_R (ol_lay n) 2 q_X9_spends [.inr (.inr 132), .inl h, .inl t, .inl b] (ol_ms M1 148 k r) none M' ∧ mx W (ol_mp (ol_mp (ol_ms (ol_ms X 2 k (rn_lack W h t 0 (X 0))) 1 k r) 0 (rn_sp (W (30 + t)) h b (X 0))) 4 (rn_st (W (30 + t)) b (X 4))) M' ∧ fr_s M M' := by
      intro r b hr hbr
      refine ⟨_, m_spends (v'.fr fr_s.rf.ms) q2.1 (by omega) q3.1 c.2 w2.2 (by omega), ?_, (f1.ms).mp.mp⟩
      obtain ⟨y1, y2, y3⟩ := x'
      have r147 : (ol_ms M1 148 k r) 147 = M1 147 := ol_ms_ne _ _ _ (by decide)
      have r151 : (ol_ms M1 148 k r) 151 = M1 151 := ol_ms_ne _ _ _ (by decide)
      rw [r147, r151]
      refine ⟨fun j j0 j1 => ?_, fun i i0 i1 => ?_, fun i i0 i1 => ?_⟩
      · rw [ol_mp_ne _ _ (by decide), ol_mp_same, ol_mp_ne _ _ (show (0 : Int) ≠ 4 by decide), ol_mp_same]
        have z := y1 j j0 j1
        rw [es] at z
        unfold rn_sp
        by_cases a : 8 * h ≤ j ∧ j < 8 * h + 8
        · rw [ol_rg_in a.1 a.2, ol_rg_in a.1 a.2, z]
        · rw [ol_rg_out a, ol_rg_out a, z]
      · rw [ol_mp_ne _ _ (by decide), ol_mp_ne _ _ (by decide), ol_mp_ne _ _ (show (149 : Int) ≠ 151 by decide), ol_mp_ne _ _ (show (149 : Int) ≠ 147 by decide), ol_ms_row, ol_ms_ne _ _ _ (show (149 : Int) ≠ 148 by decide), ol_mp_ne _ _ (show (1 : Int) ≠ 4 by decide), ol_mp_ne _ _ (show (1 : Int) ≠ 0 by decide), ol_ms_row, ol_mp_ne _ _ (show (2 : Int) ≠ 4 by decide), ol_mp_ne _ _ (show (2 : Int) ≠ 0 by decide), ol_ms_ne _ _ _ (show (2 : Int) ≠ 1 by decide)]
        refine ⟨?_, (y2 i i0 i1).2⟩
        by_cases a : i = k
        · rw [a, ol_rsA, ol_rsA]
        · rw [ol_rsN _ _ a, ol_rsN _ _ a]
          exact (y2 i i0 i1).1
      · rw [ol_mp_ne _ _ (show (150 : Int) ≠ 151 by decide), ol_mp_ne _ _ (show (150 : Int) ≠ 147 by decide), ol_mp_same, ol_ms_ne _ _ _ (show (150 : Int) ≠ 148 by decide), ol_mp_ne _ _ (show (3 : Int) ≠ 4 by decide), ol_mp_ne _ _ (show (3 : Int) ≠ 0 by decide), ol_ms_ne _ _ _ (show (3 : Int) ≠ 1 by decide), ol_mp_same]
        refine ⟨(y3 i i0 i1).1, ?_⟩
        have z := (y3 i i0 i1).2
        rw [ol_ms_ne _ _ _ (show (4 : Int) ≠ 2 by decide)] at z
        unfold rn_st
        rw [ol_rg_in i0 i1, ol_rg_in i0 i1, z]
    unfold rn_res
    by_cases d : rn_lack W h t 0 (X 0) = 0
    · rw [if_pos d, if_neg (by decide)]
      obtain ⟨M', s1, s2, s3⟩ := spd 1 0 (Or.inl rfl) rfl
      refine ⟨M', ol_Ri (q := q_X9_tries) (by decide +kernel) (Nat.le_of_ble_eq_true rfl) rfl (fun Rt A hA hr => go2 hA 0 (by rw [if_pos d]) (b_X9_tries_96 hA k h t 0 M1 ?_)), s2, s3⟩
      rw [l9, ol_msA]
      exact ⟨by omega, by omega, ol_if.pos d ⟨by omega, by omega, by omega, by omega, ol_if.neg (by decide) ⟨⟨by decide, by decide⟩, _, s1, hr⟩⟩⟩
    · rw [if_neg d]
      by_cases d2 : rn_sh W h t (X 0)
      · rw [if_pos d2, if_neg (by decide)]
        obtain ⟨M', s1, s2, s3⟩ := spd 2 1 (Or.inr rfl) rfl
        refine ⟨M', ol_Ri (q := q_X9_tries) (by decide +kernel) (Nat.le_of_ble_eq_true rfl) rfl (fun Rt A hA hr => go2 hA 1 (by rw [if_neg d, if_pos d2]) (b_X9_tries_96 hA k h t 1 M1 ⟨by omega, by omega, ol_if.neg (by rw [l9]; exact d) ⟨r9, b_X9_tries_116 hA k h t 1 k M1 ?_⟩⟩)), s2, s3⟩
        rw [ol_msA, ol_msA]
        exact ol_if.neg (by decide) ⟨⟨by decide, by decide⟩, by omega, by omega, by omega, by omega, ol_if.neg (by decide) ⟨⟨by decide, by decide⟩, _, s1, hr⟩⟩
      · rw [if_neg d2, if_pos rfl]
        refine ⟨ol_ms (ol_ms M1 148 k 3) 150 h (M1 150 h + 1), ol_Ri (q := q_X9_tries) (by decide +kernel) (Nat.le_of_ble_eq_true rfl) rfl (fun Rt A hA hr => go2 hA 0 (by rw [if_neg d, if_neg d2]) (b_X9_tries_96 hA k h t 0 M1 ⟨by omega, by omega, ol_if.neg (by rw [l9]; exact d) ⟨r9, b_X9_tries_116 hA k h t 0 k M1 ?_⟩⟩)), ?_, f1.ms.ms⟩
        · rw [ol_msA]
          exact ol_if.pos rfl ⟨by omega, by omega, by omega, by omega, ol_if.pos rfl ⟨by omega, by omega, by omega, by omega, hr⟩⟩
        · obtain ⟨y1, y2, y3⟩ := x'
          refine ⟨fun j j0 j1 => ?_, fun i i0 i1 => ?_, fun i i0 i1 => ?_⟩
          · rw [ol_ms_ne _ _ _ (by decide), ol_ms_ne _ _ _ (by decide), ol_ms_ne _ _ _ (show (0 : Int) ≠ 3 by decide), ol_ms_ne _ _ _ (show (0 : Int) ≠ 1 by decide)]
            exact y1 j j0 j1
          · rw [ol_ms_ne _ _ _ (by decide), ol_ms_row, ol_ms_ne _ _ _ (show (149 : Int) ≠ 150 by decide), ol_ms_ne _ _ _ (show (149 : Int) ≠ 148 by decide), ol_ms_ne _ _ _ (show (1 : Int) ≠ 3 by decide), ol_ms_row, ol_ms_ne _ _ _ (show (2 : Int) ≠ 3 by decide), ol_ms_ne _ _ _ (show (2 : Int) ≠ 1 by decide)]
            refine ⟨?_, (y2 i i0 i1).2⟩
            by_cases a : i = k
            · rw [a, ol_rsA, ol_rsA]
            · rw [ol_rsN _ _ a, ol_rsN _ _ a]
              exact (y2 i i0 i1).1
          · rw [ol_ms_row, ol_ms_ne _ _ _ (show (150 : Int) ≠ 148 by decide), ol_ms_ne _ _ _ (show (151 : Int) ≠ 150 by decide), ol_ms_ne _ _ _ (show (151 : Int) ≠ 148 by decide), ol_ms_row, ol_ms_ne _ _ _ (show (3 : Int) ≠ 1 by decide), ol_ms_ne _ _ _ (show (4 : Int) ≠ 3 by decide), ol_ms_ne _ _ _ (show (4 : Int) ≠ 1 by decide)]
            refine ⟨?_, (y3 i i0 i1).2⟩
            have yh := (y3 h q2.1 (by omega)).1
            rw [ol_ms_ne _ _ _ (show (3 : Int) ≠ 2 by decide)] at yh
            by_cases a : i = h
            · rw [a, ol_rsA, ol_rsA, yh]
            · rw [ol_rsN _ _ a, ol_rsN _ _ a]
              exact (y3 i i0 i1).1
  · rw [if_neg c]
    refine ⟨M, ol_Ri (q := q_X9_tries) (by decide +kernel) (Nat.le_of_ble_eq_true rfl) rfl (fun Rt A hA hr => b_X9_tries_0 hA k M ?_), x, fr_s.rf⟩
    rw [e2, e3, v1, v3]
    exact ⟨by omega, by omega, by omega, by omega, ⟨by omega, by omega⟩, rh, ol_if.mk (fun d => ⟨⟨by omega, by omega⟩, rt, ol_if.neg (fun z => c ⟨d.2, z.2⟩) hr⟩) (fun _ => hr)⟩
