/-! THE CLASS READS THE HOUSES' TEXT -/
theorem x_kindOf {lay : ol_L} {b : Int} {M : ol_M} (r : ol_r b) : ol_R lay 1 q_X1_kindOf [.inl b] M (some (.inl (if ph_v 0 b = -9 then -1 else ph_v 0 b))) M := by
  refine ol_Ri (q := q_X1_kindOf) (by decide +kernel) (Nat.le_of_ble_eq_true rfl) (Or.inl rfl) (fun Rt A hA hr => b_X1_kindOf_0 hA b M ?_)
  have e : ph_v 0 b = if b = 114 then 0 else if b = 109 then 1 else if b = 118 then 2 else -9 := if_pos rfl
  rw [e] at hr
  refine ol_if.mk (fun c => ?_) (fun c => ⟨r, ol_if.mk (fun d => ?_) (fun d => ⟨r, ol_if.mk (fun f => ?_) (fun f => ⟨r, ?_⟩)⟩)⟩)
  · rw [if_pos c] at hr; exact hr
  · rw [if_neg c, if_pos d] at hr; exact hr
  · rw [if_neg c, if_neg d, if_pos f] at hr; exact hr
  · rw [if_neg c, if_neg d, if_neg f] at hr; exact hr
theorem ph_v_1e (b : Int) : ph_v 1 b = if 49 ≤ b ∧ b ≤ 57 then b - 48 else -9 := (if_neg (by decide)).trans (if_pos rfl)
theorem ph_v_2e (b : Int) : ph_v 2 b = if b = 59 then 0 else -9 := (if_neg (by decide)).trans (if_neg (by decide))
/-- what the class's cells are behind a byte -/
def xh_m (k b : Int) (M : ol_M) : ol_M := if k = 0 then ol_ms M 3 (M 1 3) (if ph_v 0 b = -9 then -1 else ph_v 0 b) else if k = 1 ∧ ph_v 1 b ≠ -9 then ol_ms (ol_ms M 4 (M 1 3) (ph_v 1 b)) 1 3 (M 1 3 + 1) else M
theorem x_next1 {n : Nat} {M : ol_M} {k b : Int} (k0 : 0 ≤ k) (k1 : k ≤ 2) (rb : ol_r b) (h0 : 0 ≤ M 1 3) (h1 : M 1 3 ≤ 8) (h2 : k ≠ 2 → M 1 3 < 8) : ol_R (ol_lay n) 4 q_X6_next [.inr (.inr 1), .inl k, .inl b] M (some (.inl (if ph_v k b = -9 then 3 else if k = 2 then 0 else k + 1))) (xh_m k b M) := by
  refine ol_Ri (q := q_X6_next) (by decide +kernel) (Nat.le_of_ble_eq_true rfl) (Or.inl rfl) (fun Rt A hA hr => b_X6_next_1_0 hA k b M ?_)
  unfold xh_m at hr
  have rk : ol_r k := ⟨by omega, by omega⟩
  rcases (show k = 0 ∨ k = 1 ∨ k = 2 by omega) with rfl | rfl | rfl
  · rw [if_pos rfl] at hr
    refine ol_if.neg (by decide) ⟨rk, ⟨by omega, by omega⟩, ol_if.neg (by have := h2 (by decide); omega) ⟨_, _, ?_, hr⟩⟩
    have h2 := h2 (by decide)
    refine ol_Ri (q := q_X1_step) (by decide +kernel) (Nat.le_of_ble_eq_true rfl) (Or.inl rfl) (fun Rt A hA hr => b_X1_step_0 hA 0 b M (ol_if.pos rfl ⟨_, M, x_kindOf rb, h0, h2, h0, h2, ?_⟩))
    rw [ol_msA]
    have pr := @ph_v_r 0 b
    refine ol_if.mk (fun c => ?_) (fun c => ⟨?_, ?_⟩)
    · have c' : ph_v 0 b = -9 := by
        by_cases d : ph_v 0 b = -9
        · exact d
        · rw [if_neg d] at c
          have := ph_v_0 d
          omega
      rw [if_pos c', if_pos c'] at hr
      rw [if_pos c']
      exact hr
    · split <;> exact ⟨by omega, by omega⟩
    · have c' : ph_v 0 b ≠ -9 := fun d => c (by rw [if_pos d])
      rw [if_neg c', if_neg (by decide), if_neg c'] at hr
      rw [if_neg c']
      exact hr
  · have h2 := h2 (by decide)
    refine ol_if.neg (by decide) ⟨rk, ⟨by omega, by omega⟩, ol_if.neg (by omega) ⟨_, _, ?_, hr⟩⟩
    refine ol_Ri (q := q_X1_step) (by decide +kernel) (Nat.le_of_ble_eq_true rfl) (Or.inl rfl) (fun Rt A hA hr => b_X1_step_0 hA 1 b M (ol_if.neg (by decide) ⟨rk, rb, ?_⟩))
    refine ol_if.mk (fun c => ?_) (fun c => ⟨rb, ol_if.mk (fun d => ⟨h0, h2, ?_⟩) (fun d => ?_)⟩)
    · have pv : ph_v 1 b = -9 := by rw [ph_v_1e, if_neg (by omega)]
      rw [if_pos pv, if_neg (show ¬ (1 : Int) = 0 by decide), if_neg (fun q => q.2 pv)] at hr
      exact hr
    · have pv : ph_v 1 b = b - 48 := by rw [ph_v_1e, if_pos (by omega)]
      have pn : ph_v 1 b ≠ -9 := by omega
      rw [if_neg pn, if_neg (show ¬ (1 : Int) = 2 by decide), if_neg (show ¬ (1 : Int) = 0 by decide), if_pos ⟨rfl, pn⟩, pv] at hr
      exact hr
    · have pv : ph_v 1 b = -9 := by rw [ph_v_1e, if_neg (by omega)]
      rw [if_pos pv, if_neg (show ¬ (1 : Int) = 0 by decide), if_neg (fun q => q.2 pv)] at hr
      exact hr
  · refine ol_if.pos rfl (ol_if.mk (fun c => ?_) (fun c => ⟨rb, ?_⟩))
    · have pv : ph_v 2 b = 0 := by rw [ph_v_2e, if_pos c]
      rw [if_neg (by omega), if_pos rfl, if_neg (show ¬ (2 : Int) = 0 by decide), if_neg (fun q => absurd q.1 (by decide))] at hr; exact hr
    · have pv : ph_v 2 b = -9 := by rw [ph_v_2e, if_neg c]
      rw [if_pos pv, if_neg (show ¬ (2 : Int) = 0 by decide), if_neg (fun q => absurd q.1 (by decide))] at hr; exact hr
theorem x_refuse1 {n : Nat} {M : ol_M} {p : Int} : ol_R (ol_lay n) 1 q_X6_refuse [.inr (.inr 1), .inl p] M none (ol_ms (ol_ms M 1 3 0) 1 4 p) :=
  ol_Ri (q := q_X6_refuse) (by decide +kernel) (Nat.le_of_ble_eq_true rfl) rfl (fun Rt A hA hr => b_X6_refuse_1_0 hA p M hr)
/-- only the houses that were read have changed -/
def fr_y (M M' : ol_M) : Prop := (∀ c, c ≠ 1 → c ≠ 3 → c ≠ 4 → M' c = M c) ∧ ∀ j, j ≠ 3 → j ≠ 4 → M' 1 j = M 1 j
theorem fr_y.rf {M : ol_M} : fr_y M M := ⟨fun _ _ _ _ => rfl, fun _ _ _ => rfl⟩
theorem fr_y.s1 {M M' : ol_M} (h : fr_y M M') {j v : Int} (hj : j = 3 ∨ j = 4) : fr_y M (ol_ms M' 1 j v) := ⟨fun c a b d => (ol_ms_ne _ _ _ a).trans (h.1 c a b d), fun i a b => (ol_ms_i _ _ _ (by omega)).trans (h.2 i a b)⟩
theorem fr_y.s34 {M M' : ol_M} (h : fr_y M M') {k i v : Int} (hk : k = 3 ∨ k = 4) : fr_y M (ol_ms M' k i v) := ⟨fun c a b d => (ol_ms_ne _ _ _ (by omega)).trans (h.1 c a b d), fun i a b => by rw [ol_ms_ne _ _ _ (by omega)]; exact h.2 i a b⟩
theorem fr_y.xh {M M' : ol_M} (h : fr_y M M') {k b : Int} : fr_y M (xh_m k b M') := by
  unfold xh_m
  split
  · exact h.s34 (Or.inl rfl)
  · split
    · exact (h.s34 (Or.inr rfl)).s1 (Or.inl rfl)
    · exact h
theorem x_readAgain1 {n : Nat} {S M : ol_M} (hs : sp_ok_t S) (e2 : M 1 2 = S 0 0) (eb : ∀ j, 0 ≤ j → j < S 0 0 → M 2 j = S 1 j) : ∃ M', ol_R (ol_lay n) 5 q_X6_readAgain [.inr (.inr 1)] M none M' ∧ fr_y M M' ∧ ix_p S M' := by
  obtain ⟨o1, o2, o3, o4⟩ := hs
  obtain ⟨N, hN⟩ : ∃ x, x = S 0 0 := ⟨_, rfl⟩
  rw [← hN] at o1 e2 eb o3
  have rN : ol_r N := ⟨by omega, by omega⟩
  have key : ∀ (u : Nat) (i : Int) (Mi : ol_M), 0 ≤ i → i ≤ N → i + u = 24 → fr_y M Mi → Mi 1 3 = (i + 1) / 3 → Mi 1 4 = -1 → (∀ a, 0 ≤ a → 3 * a < i → Mi 3 a = ph_v 0 (S 1 (3 * a))) → (∀ a, 0 ≤ a → 3 * a + 1 < i → Mi 4 a = ph_v 1 (S 1 (3 * a + 1))) → ∃ M', ol_T n q_X6_readAgain 4 14 [some (.inr (.inr 1)), some (.inl (i % 3)), some (.inl i)] [] Mi none M' ∧ fr_y M M' ∧ M' 1 4 = ph_ft (S 1) N u i ∧ (if ph_ft (S 1) N u i = -1 then M' 1 3 = (N + 1) / 3 ∧ (∀ a, 0 ≤ a → 3 * a < N → M' 3 a = ph_v 0 (S 1 (3 * a))) ∧ (∀ a, 0 ≤ a → 3 * a + 1 < N → M' 4 a = ph_v 1 (S 1 (3 * a + 1))) else M' 1 3 = 0) := by
    intro u
    induction u with
    | zero => intro i Mi i0 i1 i2; omega
    | succ u ih =>
      intro i Mi i0 i1 i2 fr e13 e14 e3 e4
      have ri : ol_r i := ⟨by omega, by omega⟩
      have e12 : Mi 1 2 = N := (fr.2 2 (by decide) (by decide)).trans e2
      unfold ph_ft
      by_cases c1 : N ≤ i
      · rw [if_pos c1]
        have hiN : i = N := by omega
        by_cases c2 : 0 < N ∧ N % 3 ≠ 2
        · rw [if_pos c2]
          refine ⟨ol_ms (ol_ms Mi 1 3 0) 1 4 N, fun Rt A hA hr => b_X6_readAgain_1_14 hA (i % 3) i Mi ?_, (fr.s1 (Or.inl rfl)).s1 (Or.inr rfl), ol_msA _ _ _ _, ?_⟩
          · rw [e12]
            exact ⟨ri, rN, ol_if.pos c1 ⟨rN, ol_if.neg (by omega) (ol_if.neg (by omega) ⟨⟨by omega, by omega⟩, _, x_refuse1, hr⟩)⟩⟩
          · rw [if_neg (by omega), ol_ms_i _ _ _ (by decide), ol_msA]
        · rw [if_neg c2]
          refine ⟨Mi, fun Rt A hA hr => b_X6_readAgain_1_14 hA (i % 3) i Mi ?_, fr, e14, ?_⟩
          · rw [e12]
            exact ⟨ri, rN, ol_if.pos c1 ⟨rN, ol_if.mk (fun _ => hr) (fun d => ol_if.pos (by omega) hr)⟩⟩
          · rw [if_pos rfl, e13, hiN]
            rw [hiN] at e3 e4
            exact ⟨rfl, e3, e4⟩
      · rw [if_neg c1]
        have ebi : Mi 2 i = S 1 i := by rw [fr.1 2 (by decide) (by decide) (by decide)]; exact eb i i0 (by omega)
        have rb : ol_r (S 1 i) := by have := o3 i i0 (by omega); exact ⟨by omega, by omega⟩
        have nx := @x_next1 n Mi (i % 3) (S 1 i) (by omega) (by omega) rb (by omega) (by omega) (fun q => by omega)
        by_cases c2 : ph_v (i % 3) (S 1 i) = -9
        · rw [if_pos c2]
          rw [if_pos c2] at nx
          refine ⟨ol_ms (ol_ms (xh_m (i % 3) (S 1 i) Mi) 1 3 0) 1 4 i, fun Rt A hA hr => b_X6_readAgain_1_14 hA (i % 3) i Mi ?_, (fr.xh.s1 (Or.inl rfl)).s1 (Or.inr rfl), ol_msA _ _ _ _, ?_⟩
          · rw [e12, ebi]
            exact ⟨ri, rN, ol_if.neg c1 ⟨ri, ol_if.neg (by omega) ⟨i0, by omega, _, _, nx, ol_if.pos rfl ⟨_, x_refuse1, hr⟩⟩⟩⟩
          · rw [if_neg (by omega), ol_ms_i _ _ _ (by decide), ol_msA]
        · rw [if_neg c2]
          rw [if_neg c2] at nx
          have es : (if i % 3 = 2 then 0 else i % 3 + 1) = (i + 1) % 3 := by split <;> omega
          rw [es] at nx
          have e1a : xh_m (i % 3) (S 1 i) Mi 1 3 = (i + 1 + 1) / 3 := by
            unfold xh_m
            by_cases q0 : i % 3 = 0
            · rw [if_pos q0, ol_ms_ne _ _ _ (by decide), e13]; omega
            · rw [if_neg q0]
              by_cases q1 : i % 3 = 1
              · rw [q1] at c2
                rw [if_pos ⟨q1, c2⟩, ol_msA, e13]; omega
              · rw [if_neg (fun q => q1 q.1), e13]; omega
          have e1b : xh_m (i % 3) (S 1 i) Mi 1 4 = -1 := by
            unfold xh_m
            split
            · rw [ol_ms_ne _ _ _ (by decide)]; exact e14
            · split
              · rw [ol_ms_i _ _ _ (by decide), ol_ms_ne _ _ _ (by decide)]; exact e14
              · exact e14
          have e3' : ∀ a, 0 ≤ a → 3 * a < i + 1 → xh_m (i % 3) (S 1 i) Mi 3 a = ph_v 0 (S 1 (3 * a)) := by
            intro a a0 a1
            unfold xh_m
            by_cases q0 : i % 3 = 0
            · rw [q0] at c2
              rw [if_pos q0, ol_ms_row, if_neg c2]
              by_cases q : 3 * a = i
              · rw [q, show a = Mi 1 3 by omega, ol_rsA]
              · rw [ol_rsN _ _ (by omega)]; exact e3 a a0 (by omega)
            · rw [if_neg q0]
              split
              · rw [ol_ms_ne _ _ _ (by decide), ol_ms_ne _ _ _ (by decide)]; exact e3 a a0 (by omega)
              · exact e3 a a0 (by omega)
          have e4' : ∀ a, 0 ≤ a → 3 * a + 1 < i + 1 → xh_m (i % 3) (S 1 i) Mi 4 a = ph_v 1 (S 1 (3 * a + 1)) := by
            intro a a0 a1
            unfold xh_m
            by_cases q0 : i % 3 = 0
            · rw [if_pos q0, ol_ms_ne _ _ _ (by decide)]; exact e4 a a0 (by omega)
            · rw [if_neg q0]
              by_cases q1 : i % 3 = 1
              · rw [q1] at c2
                rw [if_pos ⟨q1, c2⟩, ol_ms_ne _ _ _ (by decide), ol_ms_row]
                by_cases q : 3 * a + 1 = i
                · rw [q, show a = Mi 1 3 by omega, ol_rsA]
                · rw [ol_rsN _ _ (by omega)]; exact e4 a a0 (by omega)
              · rw [if_neg (fun q => q1 q.1)]; exact e4 a a0 (by omega)
          obtain ⟨M', hT, hf, h4, hP⟩ := ih (i + 1) _ (by omega) (by omega) (by omega) fr.xh e1a e1b e3' e4'
          refine ⟨M', fun Rt A hA hr => b_X6_readAgain_1_14 hA (i % 3) i Mi ?_, hf, h4, hP⟩
          rw [e12, ebi]
          exact ⟨ri, rN, ol_if.neg c1 ⟨ri, ol_if.neg (by omega) ⟨i0, by omega, _, _, nx, ol_if.neg (by omega) ⟨⟨by omega, by omega⟩, hT Rt A hA hr⟩⟩⟩⟩
  obtain ⟨M', hT, hf, h4, hP⟩ := key 24 0 (ol_ms (ol_ms M 1 3 0) 1 4 (-1)) (by decide) (by omega) (by decide) ((fr_y.rf.s1 (Or.inl rfl)).s1 (Or.inr rfl)) (by rw [ol_ms_i _ _ _ (by decide), ol_msA]; decide) (ol_msA _ _ _ _) (fun a a0 a1 => by omega) (fun a a0 a1 => by omega)
  have ehf : sp_hf S = ph_ft (S 1) N 24 0 := by unfold sp_hf; rw [← hN]
  refine ⟨M', ol_Ri (q := q_X6_readAgain) (by decide +kernel) (Nat.le_of_ble_eq_true rfl) rfl (fun Rt A hA hr => b_X6_readAgain_1_0 hA M (hT Rt A hA hr)), hf, ?_⟩
  unfold ix_p sp_nH
  rw [ehf, ← hN]
  by_cases q : ph_ft (S 1) N 24 0 = -1
  · rw [if_pos q] at hP ⊢
    exact ⟨hP.1, h4, fun h h0 h1 => ⟨hP.2.1 h h0 (by omega), hP.2.2 h h0 (by omega)⟩⟩
  · rw [if_neg q] at hP ⊢
    exact ⟨hP, h4, fun h h0 h1 => by omega⟩
