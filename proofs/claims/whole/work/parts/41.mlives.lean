theorem m_lends {n : Nat} {W X M : ol_M} (w : wk W) (v : mv W M) (x : mx W X M) (hb : xb 1000 (X 0)) {k : Int} (k0 : 0 ≤ k) (k1 : k < W 5 0) : ∃ M', ol_R (ol_lay n) 3 q_X9_lends [.inr (.inr 132), .inl k] M none M' ∧ mx W (ol_mp X 0 (rn_l1 W k (X 0))) M' ∧ fr_s M M' := by
  obtain ⟨v1, v2, v3, v4, v5, v6, v7, -⟩ := v
  obtain ⟨w0, w1, w2, w3, w4, w5, w6, -⟩ := w
  obtain ⟨x1, x2, x3⟩ := x
  obtain ⟨q1, q2, q3, q4, q5⟩ := w6 k k0 k1
  obtain ⟨e1, e2, e3, e4⟩ := v7 k k0 k1
  have rh : ol_r (W 0 0 - 1) := ⟨by omega, by omega⟩
  have keep : mx W (ol_mp X 0 (X 0)) M := by rw [ol_mp_self]; exact ⟨x1, x2, x3⟩
  unfold rn_l1
  by_cases c : W 7 k < W 0 0 ∧ W 8 k < W 0 0 ∧ 0 < X 0 (8 * W 7 k + W 9 k)
  · rw [if_pos c]
    have ef : M 147 (8 * W 7 k + W 9 k) = X 0 (8 * W 7 k + W 9 k) := x1 _ (by omega) (by omega)
    have et : M 147 (8 * W 8 k + W 9 k) = X 0 (8 * W 8 k + W 9 k) := x1 _ (by omega) (by omega)
    have kb := hb (8 * W 7 k + W 9 k) (by omega) (by omega)
    refine ⟨ol_ms (ol_ms M 147 (8 * W 7 k + W 9 k) (X 0 (8 * W 7 k + W 9 k) - 1)) 147 (8 * W 8 k + W 9 k) (X 0 (8 * W 8 k + W 9 k) + 1), ol_Ri (q := q_X9_lends) (by decide +kernel) (Nat.le_of_ble_eq_true rfl) rfl (fun Rt A hA hr => b_X9_lends_0 hA k M ?_), ?_, fr_s.rf.ms.ms⟩
    · rw [e2, e3, e4, v1, ef]
      rw [show (ol_ms M 147 (8 * W 7 k + W 9 k) (X 0 (8 * W 7 k + W 9 k) - 1)) 147 (8 * W 8 k + W 9 k) = X 0 (8 * W 8 k + W 9 k) by rw [ol_ms_i _ _ _ (by omega)]; exact et]
      exact ⟨by omega, by omega, by omega, by omega, by omega, by omega, by omega, by omega, by omega, by omega, ⟨by omega, by omega⟩, rh, ol_if.pos ⟨q2.1, c.1⟩ ⟨by omega, by omega, ⟨by omega, by omega⟩, rh, ol_if.pos ⟨q3.1, c.2.1⟩ ⟨by omega, by omega, ⟨by omega, by omega⟩, ol_if.neg (by omega) ⟨by omega, by omega, by omega, by omega, by omega, by omega, by omega, by omega, hr⟩⟩⟩⟩
    · refine ⟨fun j j0 j1 => ?_, fun i i0 i1 => ?_, fun i i0 i1 => ?_⟩
      · rw [ol_mp_same, ol_ms_row, ol_ms_row]
        by_cases a : j = 8 * W 8 k + W 9 k
        · rw [a, ol_rsA, ol_rsA]
        · rw [ol_rsN _ _ a, ol_rsN _ _ a]
          by_cases b : j = 8 * W 7 k + W 9 k
          · rw [b, ol_rsA, ol_rsA]
          · rw [ol_rsN _ _ b, ol_rsN _ _ b]
            exact x1 j j0 j1
      · rw [ol_mp_ne _ _ (by decide), ol_mp_ne _ _ (by decide), ol_ms_ne _ _ _ (by decide), ol_ms_ne _ _ _ (by decide), ol_ms_ne _ _ _ (by decide), ol_ms_ne _ _ _ (by decide)]
        exact x2 i i0 i1
      · rw [ol_mp_ne _ _ (by decide), ol_mp_ne _ _ (by decide), ol_ms_ne _ _ _ (by decide), ol_ms_ne _ _ _ (by decide), ol_ms_ne _ _ _ (by decide), ol_ms_ne _ _ _ (by decide)]
        exact x3 i i0 i1
  · rw [if_neg c]
    refine ⟨M, ol_Ri (q := q_X9_lends) (by decide +kernel) (Nat.le_of_ble_eq_true rfl) rfl (fun Rt A hA hr => b_X9_lends_0 hA k M ?_), keep, fr_s.rf⟩
    rw [e2, e3, e4, v1]
    refine ⟨by omega, by omega, by omega, by omega, by omega, by omega, by omega, by omega, by omega, by omega, ⟨by omega, by omega⟩, rh, ol_if.mk (fun d1 => ⟨by omega, by omega, ⟨by omega, by omega⟩, rh, ol_if.mk (fun d2 => ?_) (fun _ => hr)⟩) (fun _ => hr)⟩
    have ef : M 147 (8 * W 7 k + W 9 k) = X 0 (8 * W 7 k + W 9 k) := x1 _ (by omega) (by omega)
    have kb := hb (8 * W 7 k + W 9 k) (by omega) (by omega)
    rw [ef]
    exact ⟨by omega, by omega, ⟨by omega, by omega⟩, ol_if.pos (by omega) hr⟩
theorem m_lacksFor {n : Nat} {W X M : ol_M} (w : wk W) (v : mv W M) (x : mx W X M) (hb : xb 1000 (X 0)) {h t b : Int} (h0 : 0 ≤ h) (h1 : h < 8) (t0 : 0 ≤ t) (t1 : t < W 3 0) (b01 : b = 0 ∨ b = 1) : ol_R (ol_lay n) 2 q_X9_lacksFor [.inr (.inr 132), .inl h, .inl t, .inl b] M (some (.inl (rn_lack W h t b (X 0)))) M := by
  obtain ⟨v1, v2, v3, v4, -⟩ := v
  obtain ⟨w0, w1, w2, w3, -⟩ := w
  obtain ⟨x1, -, -⟩ := x
  refine ol_Ri (q := q_X9_lacksFor) (by decide +kernel) (Nat.le_of_ble_eq_true rfl) (Or.inl rfl) (fun Rt A hA hr => b_X9_lacksFor_0 hA h t b M ?_)
  have key : A 6 [some (.inr (.inr 132)), some (.inl h), some (.inl t), some (.inl b), some (.inl (lk (W (30 + t)) (fun l => X 0 (8 * h + l)) b (Int.toNat 0))), some (.inl 0), none] [] M := by
    refine ol_loop (P := fun l => A 6 [some (.inr (.inr 132)), some (.inl h), some (.inl t), some (.inl b), some (.inl (lk (W (30 + t)) (fun l => X 0 (8 * h + l)) b l.toNat)), some (.inl l), none] [] M) (a := 0) (b := 8) (by decide) (fun l l0 l1 hl => ?_) ?_
    · have en : M 143 (8 * t + l) = W (30 + t) l := v4 t t0 t1 l l0 l1
      have es : M 147 (8 * h + l) = X 0 (8 * h + l) := x1 _ (by omega) (by omega)
      have a1 := w3 t t0 t1 l l0 l1
      have a2 := hb (8 * h + l) (by omega) (by omega)
      refine b_X9_lacksFor_6 hA h t b _ l M ?_
      rw [en, es]
      rw [show (l + 1).toNat = l.toNat + 1 by omega] at hl
      simp only [lk] at hl
      rw [Int.toNat_of_nonneg l0] at hl
      refine ⟨⟨by omega, by omega⟩, ol_if.neg (by omega) ⟨by omega, by omega, by omega, by omega, ⟨by omega, by omega⟩, ol_if.mk (fun c => ?_) (fun c => ol_if.mk (fun d => ?_) (fun d => ⟨⟨by omega, by omega⟩, ⟨by omega, by omega⟩, ol_if.mk (fun e => ?_) (fun e => ?_)⟩))⟩⟩
      · rw [if_neg (fun q => by omega)] at hl
        exact hl
      · rw [if_pos ⟨by omega, fun q => q.1 d⟩] at hl
        exact hl
      · rw [if_neg (fun q => q.2 ⟨d, e⟩)] at hl
        exact hl
      · rw [if_pos ⟨by omega, fun q => e q.2⟩] at hl
        exact hl
    · exact b_X9_lacksFor_6 hA h t b _ 8 M ⟨⟨by decide, by decide⟩, ol_if.pos (by decide) hr⟩
  exact key
theorem m_hasOthers {n : Nat} {W M : ol_M} (w : wk W) (v : mv W M) {t : Int} (t0 : 0 ≤ t) (t1 : t < W 3 0) : ol_R (ol_lay n) 2 q_X9_hasOthers [.inr (.inr 132), .inl t] M (some (.inl (ol_b (0 < W (30 + t) 1 ∨ 0 < W (30 + t) 2 ∨ 0 < W (30 + t) 3 ∨ 0 < W (30 + t) 5 ∨ 0 < W (30 + t) 6 ∨ 0 < W (30 + t) 7)))) M := by
  obtain ⟨v1, v2, v3, v4, -⟩ := v
  obtain ⟨w0, w1, w2, w3, -⟩ := w
  refine ol_Ri (q := q_X9_hasOthers) (by decide +kernel) (Nat.le_of_ble_eq_true rfl) (Or.inr ⟨rfl, ol_b01⟩) (fun Rt A hA hr => b_X9_hasOthers_0 hA t M ?_)
  have step : ∀ (l z z' : Int), 0 ≤ l → l < 8 → (z = 0 ∨ z = 1) → (z' = if z = 1 ∨ (¬ (l = 0 ∨ l = 4) ∧ 0 < W (30 + t) l) then 1 else 0) → A 4 [some (.inr (.inr 132)), some (.inl t), some (.inl z'), some (.inl (l + 1))] [] M → A 4 [some (.inr (.inr 132)), some (.inl t), some (.inl z), some (.inl l)] [] M := by
    intro l z z' l0 l1 hz hz' hl
    have en : M 143 (8 * t + l) = W (30 + t) l := v4 t t0 t1 l l0 l1
    have a1 := w3 t t0 t1 l l0 l1
    refine b_X9_hasOthers_4 hA t z l M ?_
    rw [en]
    refine ⟨⟨by omega, by omega⟩, ol_if.neg (by omega) (ol_if.mk (fun c => ⟨⟨by omega, by omega⟩, ol_if.mk (fun d => ?_) (fun d => ⟨by omega, by omega, ⟨by omega, by omega⟩, ol_if.mk (fun e => ?_) (fun e => ?_)⟩)⟩) (fun c => ⟨⟨by omega, by omega⟩, ?_⟩))⟩
    · rw [if_neg (by omega)] at hz'; subst hz'; exact hl
    · rw [if_neg (by omega)] at hz'; subst hz'; exact hl
    · rw [if_pos (Or.inr ⟨d, by omega⟩)] at hz'; subst hz'; exact hl
    · rw [if_pos (Or.inl (by omega))] at hz'; subst hz'; exact hl
  have fin : ∀ z : Int, z = ol_b (0 < W (30 + t) 1 ∨ 0 < W (30 + t) 2 ∨ 0 < W (30 + t) 3 ∨ 0 < W (30 + t) 5 ∨ 0 < W (30 + t) 6 ∨ 0 < W (30 + t) 7) → A 4 [some (.inr (.inr 132)), some (.inl t), some (.inl z), some (.inl 8)] [] M := fun z hz => b_X9_hasOthers_4 hA t z 8 M ⟨⟨by decide, by decide⟩, ol_if.pos (by decide) (ol_rt hr hz.symm)⟩
  have i01 : ∀ (P : Prop) [Decidable P], (if P then (1 : Int) else 0) = 0 ∨ (if P then (1 : Int) else 0) = 1 := fun P _ => by split; exact Or.inr rfl; exact Or.inl rfl
  refine step 0 0 _ (by decide) (by decide) (Or.inl rfl) rfl ?_
  refine step 1 _ _ (by decide) (by decide) (i01 _) rfl ?_
  refine step 2 _ _ (by decide) (by decide) (i01 _) rfl ?_
  refine step 3 _ _ (by decide) (by decide) (i01 _) rfl ?_
  refine step 4 _ _ (by decide) (by decide) (i01 _) rfl ?_
  refine step 5 _ _ (by decide) (by decide) (i01 _) rfl ?_
  refine step 6 _ _ (by decide) (by decide) (i01 _) rfl ?_
  refine step 7 _ _ (by decide) (by decide) (i01 _) rfl ?_
  refine fin _ ?_
  unfold ol_b
  by_cases p1 : 0 < W (30 + t) 1 <;> by_cases p2 : 0 < W (30 + t) 2 <;> by_cases p3 : 0 < W (30 + t) 3 <;> by_cases p5 : 0 < W (30 + t) 5 <;> by_cases p6 : 0 < W (30 + t) 6 <;> by_cases p7 : 0 < W (30 + t) 7 <;> simp [p1, p2, p3, p5, p6, p7]
theorem m_spends {n : Nat} {W M : ol_M} (v : mv W M) {h t b : Int} (h0 : 0 ≤ h) (h1 : h < 8) (t0 : 0 ≤ t) (t1 : t < W 3 0) (t8 : W 3 0 ≤ 8) (b01 : b = 0 ∨ b = 1) : ol_R (ol_lay n) 2 q_X9_spends [.inr (.inr 132), .inl h, .inl t, .inl b] M none (ol_mp (ol_mp M 147 (rn_sp (W (30 + t)) h b (M 147))) 151 (rn_st (W (30 + t)) b (M 151))) := by
  obtain ⟨v1, v2, v3, v4, -⟩ := v
  refine ol_Ri (q := q_X9_spends) (by decide +kernel) (Nat.le_of_ble_eq_true rfl) rfl (fun Rt A hA hr => b_X9_spends_0 hA h t b M ?_)
  have key : A 3 [some (.inr (.inr 132)), some (.inl h), some (.inl t), some (.inl b), some (.inl 0), none] [] (ol_mp (ol_mp M 147 (ol_rg (M 147) (8 * h) (8 * h + 0) (fun j => M 147 j - rn_tk (W (30 + t)) b (j - 8 * h)))) 151 (ol_rg (M 151) 0 0 (fun l => M 151 l + rn_tk (W (30 + t)) b l))) := by
    refine ol_loop (P := fun l => A 3 [some (.inr (.inr 132)), some (.inl h), some (.inl t), some (.inl b), some (.inl l), none] [] (ol_mp (ol_mp M 147 (ol_rg (M 147) (8 * h) (8 * h + l) (fun j => M 147 j - rn_tk (W (30 + t)) b (j - 8 * h)))) 151 (ol_rg (M 151) 0 l (fun l => M 151 l + rn_tk (W (30 + t)) b l)))) (a := 0) (b := 8) (by decide) (fun l l0 l1 hl => ?_) ?_
    · have en : M 143 (8 * t + l) = W (30 + t) l := v4 t t0 t1 l l0 l1
      have eq : ∀ y : Int, y = rn_tk (W (30 + t)) b l → ol_ms (ol_ms (ol_mp (ol_mp M 147 (ol_rg (M 147) (8 * h) (8 * h + l) (fun j => M 147 j - rn_tk (W (30 + t)) b (j - 8 * h)))) 151 (ol_rg (M 151) 0 l (fun l => M 151 l + rn_tk (W (30 + t)) b l))) 147 (8 * h + l) (M 147 (8 * h + l) - y)) 151 l (M 151 l + y) = ol_mp (ol_mp M 147 (ol_rg (M 147) (8 * h) (8 * h + (l + 1)) (fun j => M 147 j - rn_tk (W (30 + t)) b (j - 8 * h)))) 151 (ol_rg (M 151) 0 (l + 1) (fun l => M 151 l + rn_tk (W (30 + t)) b l)) := by
        intro y hy
        funext c
        by_cases c1 : c = 151
        · subst c1
          rw [ol_ms_row, ol_ms_ne _ _ _ (by decide), ol_mp_same, ol_mp_same, ol_rg_s _ _ l0 (by rw [hy])]
        · by_cases c2 : c = 147
          · subst c2
            rw [ol_ms_ne _ _ _ c1, ol_ms_row, ol_mp_ne _ _ c1, ol_mp_same, ol_mp_ne _ _ c1, ol_mp_same, ol_rg_s _ _ (by omega) (by rw [hy, show 8 * h + l - 8 * h = l by omega]), Int.add_assoc]
          · rw [ol_ms_ne _ _ _ c1, ol_ms_ne _ _ _ c2, ol_mp_ne _ _ c1, ol_mp_ne _ _ c2, ol_mp_ne _ _ c1, ol_mp_ne _ _ c2]
      refine b_X9_spends_3 hA h t b l _ ?_
      rw [ol_mp_ne _ _ (show (143 : Int) ≠ 151 by decide), ol_mp_ne _ _ (show (143 : Int) ≠ 147 by decide), ol_mp_ne _ _ (show (147 : Int) ≠ 151 by decide), ol_mp_same, ol_mp_same, en, ol_rg_out (show ¬ (8 * h ≤ 8 * h + l ∧ 8 * h + l < 8 * h + l) by omega), ol_rg_out (show ¬ (0 ≤ l ∧ l < l) by omega)]
      refine ⟨⟨by omega, by omega⟩, ol_if.neg (by omega) (ol_if.mk (fun c => ⟨by omega, by omega, by omega, by omega, by omega, by omega, by omega, by omega, by omega, by omega, ?_⟩) (fun c => ⟨⟨by omega, by omega⟩, ⟨by omega, by omega⟩, ol_if.mk (fun d => ⟨by omega, by omega, by omega, by omega, by omega, by omega, by omega, by omega, ?_⟩) (fun d => ⟨by omega, by omega, by omega, by omega, by omega, by omega, by omega, by omega, by omega, by omega, ?_⟩)⟩))⟩
      · rw [eq _ (by unfold rn_tk; rw [if_neg (fun q => q.1 c)])]
        exact hl
      · rw [eq _ (by unfold rn_tk; rw [if_pos ⟨c, d⟩])]
        exact hl
      · rw [eq _ (by unfold rn_tk; rw [if_neg (fun q => d q.2)])]
        exact hl
    · exact b_X9_spends_3 hA h t b 8 _ ⟨⟨by decide, by decide⟩, ol_if.pos (by decide) hr⟩
  rw [Int.add_zero, ol_rg_mp0, ol_rg_mp0] at key
  exact key
