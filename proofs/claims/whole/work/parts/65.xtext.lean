/-! states stay as they may be -/
theorem sp_ok.setlen {S S' : ol_M} (hs : sp_ok S) (e : ∀ k, 3 ≤ k → S' k = S k) (e0 : ∀ j, 2 ≤ j → S' 0 j = S 0 j) (h : sp_ok_t S') : sp_ok S' := by
  obtain ⟨h1, h2, h3, h4, h5, h6, h7⟩ := hs
  refine ⟨h, ?_, ?_, ?_, ?_, ?_, ?_⟩
  · unfold sp_ok_r at *
    rw [e 3 (by decide)]; exact h2
  · unfold sp_ok_w at *
    rw [e0 2 (by decide), e 4 (by decide), e 5 (by decide), e 6 (by decide)]; exact h3
  · unfold sp_ok_l at *
    rw [e0 3 (by decide), e 7 (by decide), e 8 (by decide), e 9 (by decide), e 10 (by decide)]; exact h4
  · unfold sp_ok_s at *
    rw [e0 4 (by decide), e 11 (by decide), e 12 (by decide), e 13 (by decide), e 14 (by decide)]; exact h5
  · unfold sp_ok_f at *
    rw [e0 5 (by decide)]; exact h6
  · intro s h0 h9
    rw [e 15 (by decide), e 16 (by decide), e (20 + s) (by omega)]
    exact h7 s h0 h9
theorem sp_type_ok {S : ol_M} (hs : sp_ok S) (t b : Int) : sp_ok (sp_type S t b).2 := by
  unfold sp_type
  split
  · exact hs
  · rename_i c
    split
    · exact hs
    · rename_i d
      obtain ⟨o1, o2, o3, o4⟩ := hs.1
      have z : ∀ k, 3 ≤ k → ol_ms (ol_ms S (1 + t) (S 0 t) b) 0 t (S 0 t + 1) k = S k := fun k q => by rw [ol_ms_ne _ _ _ (by omega), ol_ms_ne _ _ _ (by omega)]
      show sp_ok (ol_ms (ol_ms S (1 + t) (S 0 t) b) 0 t (S 0 t + 1))
      refine hs.setlen z (fun j q => by rw [ol_ms_i _ _ _ (by omega), ol_ms_ne _ _ _ (by omega)]) ?_
      unfold sp_ok_t
      rcases (show t = 0 ∨ t = 1 by omega) with rfl | rfl
      · have d' : S 0 0 ≠ 23 := d
        rw [ol_msA, ol_ms_i _ _ _ (by decide), ol_ms_ne _ _ _ (show (0 : Int) ≠ 1 + 0 by decide), ol_ms_ne _ _ _ (show (1 : Int) ≠ 0 by decide), ol_ms_ne _ _ _ (show (2 : Int) ≠ 0 by decide), ol_ms_ne _ _ _ (show (2 : Int) ≠ 1 + 0 by decide), show (1 + 0 : Int) = 1 by decide, ol_ms_row]
        refine ⟨by omega, o2, fun j j0 j1 => ?_, o4⟩
        by_cases q : j = S 0 0
        · rw [q, ol_rsA]; omega
        · rw [ol_rsN _ _ q]; exact o3 j j0 (by omega)
      · have d' : S 0 1 ≠ 55 := d
        rw [ol_msA, ol_ms_i _ _ _ (by decide), ol_ms_ne _ _ _ (show (0 : Int) ≠ 1 + 1 by decide), ol_ms_ne _ _ _ (show (1 : Int) ≠ 0 by decide), ol_ms_ne _ _ _ (show (2 : Int) ≠ 0 by decide), ol_ms_ne _ _ _ (show (1 : Int) ≠ 1 + 1 by decide), show (1 + 1 : Int) = 2 by decide, ol_ms_row]
        refine ⟨o1, by omega, o3, fun j j0 j1 => ?_⟩
        by_cases q : j = S 0 1
        · rw [q, ol_rsA]; omega
        · rw [ol_rsN _ _ q]; exact o4 j j0 (by omega)
theorem sp_short_ok {S : ol_M} (hs : sp_ok S) {t v : Int} (c : 0 ≤ t ∧ t ≤ 1) (v0 : 0 ≤ v) (v1 : v ≤ S 0 t) : sp_ok (ol_ms S 0 t v) := by
  obtain ⟨o1, o2, o3, o4⟩ := hs.1
  refine hs.setlen (fun k q => ol_ms_ne _ _ _ (by omega)) (fun j q => ol_ms_i _ _ _ (by omega)) ?_
  unfold sp_ok_t
  rw [ol_ms_ne _ _ _ (show (1 : Int) ≠ 0 by decide), ol_ms_ne _ _ _ (show (2 : Int) ≠ 0 by decide)]
  rcases (show t = 0 ∨ t = 1 by omega) with rfl | rfl
  · rw [ol_msA, ol_ms_i _ _ _ (by decide)]
    exact ⟨by omega, o2, fun j j0 j1 => o3 j j0 (by omega), o4⟩
  · rw [ol_msA, ol_ms_i _ _ _ (by decide)]
    exact ⟨o1, by omega, o3, fun j j0 j1 => o4 j j0 (by omega)⟩
theorem sp_wipe_ok {S : ol_M} (hs : sp_ok S) (t : Int) : sp_ok (sp_wipe S t).2 := by
  unfold sp_wipe
  split
  · exact hs
  · rename_i c
    have c' := Classical.not_not.mp c
    exact sp_short_ok hs c' (by decide) (hs.len c').1
theorem sp_undo_ok {S : ol_M} (hs : sp_ok S) (t : Int) : sp_ok (sp_undo S t).2 := by
  unfold sp_undo
  split
  · exact hs
  · rename_i c
    have c' := Classical.not_not.mp c
    have := hs.len c'
    split
    · exact hs
    · exact sp_short_ok hs c' (by omega) (by omega)
/-! type, wipe, undo -/
theorem x_textOf {n : Nat} {M : ol_M} {t : Int} (r : ol_r t) : (t = 0 → ol_R (ol_lay n) 1 q_X8_textOf [.inr (.inr 0), .inl t] M (some (.inr (.inr 1))) M) ∧ (t ≠ 0 → ol_R (ol_lay n) 1 q_X8_textOf [.inr (.inr 0), .inl t] M (some (.inr (.inr 5))) M) :=
  ⟨fun c => ol_Ri (q := q_X8_textOf) (by decide +kernel) (Nat.le_of_ble_eq_true rfl) ⟨_, rfl⟩ (fun Rt A hA hr => b_X8_textOf_0 hA t M (ol_if.pos c hr)), fun c => ol_Ri (q := q_X8_textOf) (by decide +kernel) (Nat.le_of_ble_eq_true rfl) ⟨_, rfl⟩ (fun Rt A hA hr => b_X8_textOf_0 hA t M (ol_if.neg c ⟨r, hr⟩))⟩
theorem x_set1 {n : Nat} {S M S' N : ol_M} {v : Int} (h : iy S M) (hN : ∀ c, c ≠ 2 → N c = M c) (hS : ∀ k, k ≠ 0 → k ≠ 1 → S' k = S k) (hS0 : ∀ j, j ≠ 0 → S' 0 j = S 0 j) (hv : S' 0 0 = v) (hb : ∀ j, 0 ≤ j → j < v → N 2 j = S' 1 j) (ho : sp_ok_t S') : ∃ M', ol_R (ol_lay n) 6 q_X8_setLength [.inr (.inr 0), .inr (.inr 1), .inl v] N none M' ∧ ix S' M' ∧ fx N M' ∧ M' 1 2 = v := by
  obtain ⟨h1, h2, h3, h4, h5, h6, h7, h8, h9⟩ := h
  obtain ⟨M1, q, f, p⟩ := @x_readAgain1 n S' (ol_ms N 1 2 v) ho (by rw [ol_msA, hv]) (fun j j0 j1 => by rw [ol_ms_ne _ _ _ (by decide)]; exact hb j j0 (by omega))
  have e1 : ∀ c, c ≠ 1 → c ≠ 2 → c ≠ 3 → c ≠ 4 → M1 c = M c := fun c a b d e => by rw [f.1 c a d e, ol_ms_ne _ _ _ a, hN c b]
  have e2 : M1 2 = N 2 := by rw [f.1 2 (by decide) (by decide) (by decide), ol_ms_ne _ _ _ (by decide)]
  have e12 : M1 1 2 = v := by rw [f.2 2 (by decide) (by decide), ol_msA]
  have e11 : M1 1 1 = 23 := by rw [f.2 1 (by decide) (by decide), ol_ms_i _ _ _ (by decide), hN 1 (by decide)]; exact h1.1
  have n : ∀ c, 5 ≤ c → M1 c = M c := fun c q => e1 c (by omega) (by omega) (by omega) (by omega)
  refine ⟨xw M1, ol_Ri (q := q_X8_setLength) (by decide +kernel) (Nat.le_of_ble_eq_true rfl) rfl (fun Rt A hA hr => b_X8_setLength_1_0 hA v N ⟨M1, q, hr⟩), iy_xw ⟨?_, p, ?_, h4.keep (hS _ (by decide) (by decide)) (n _ (by decide)), h5.keep (hS0 _ (by decide)) (hS _ (by decide) (by decide)) (hS _ (by decide) (by decide)) (hS _ (by decide) (by decide)) (by rw [n _ (by decide)]) (n _ (by decide)) (n _ (by decide)) (n _ (by decide)), h6.keep (hS0 _ (by decide)) (hS _ (by decide) (by decide)) (hS _ (by decide) (by decide)) (hS _ (by decide) (by decide)) (hS _ (by decide) (by decide)) (by rw [n _ (by decide)]) (n _ (by decide)) (n _ (by decide)) (n _ (by decide)) (n _ (by decide)), h7.keep (hS0 _ (by decide)) (hS _ (by decide) (by decide)) (hS _ (by decide) (by decide)) (hS _ (by decide) (by decide)) (hS _ (by decide) (by decide)) (by rw [n _ (by decide)]) (n _ (by decide)) (n _ (by decide)) (n _ (by decide)) (n _ (by decide)), h8.keep (hS0 _ (by decide)) (by rw [e1 0 (by decide) (by decide) (by decide) (by decide)]) (fun c a _ => n c (by omega)), h9.keep (fun k q => hS k (by omega) (by omega)) (fun c a _ => n c (by omega))⟩, fx_xw (fun k q => by rw [f.1 k (by omega) (by omega) (by omega), ol_ms_ne _ _ _ (by omega)]), ?_⟩
  · obtain ⟨t1, t2, t3, t4, t5, t6⟩ := h1
    unfold ix_t
    rw [e11, e12, e2, n 5 (by decide), n 6 (by decide), hS0 1 (by decide), hS 2 (by decide) (by decide), hv]
    exact ⟨rfl, t2, rfl, t4, hb, t6⟩
  · exact h3.keep (by unfold sp_pt; rw [hS0 1 (by decide), hS 2 (by decide) (by decide)]) (n _ (by decide)) (fun c a _ => n c (by omega))
  · rw [xw_ne (by decide)]; exact e12
theorem x_set5 {n : Nat} {S M S' N : ol_M} {v : Int} (h : iy S M) (hN : ∀ c, c ≠ 6 → N c = M c) (hS : ∀ k, k ≠ 0 → k ≠ 2 → S' k = S k) (hS0 : ∀ j, j ≠ 1 → S' 0 j = S 0 j) (hv : S' 0 1 = v) (hb : ∀ j, 0 ≤ j → j < v → N 6 j = S' 2 j) (ho : sp_ok_t S') : ∃ M', ol_R (ol_lay n) 6 q_X8_setLength [.inr (.inr 0), .inr (.inr 5), .inl v] N none M' ∧ ix S' M' ∧ fx N M' ∧ M' 5 2 = v := by
  obtain ⟨h1, h2, h3, h4, h5, h6, h7, h8, h9⟩ := h
  obtain ⟨M1, q, f, p⟩ := @x_readAgain5 n S' (ol_ms N 5 2 v) ho (by rw [ol_msA, hv]) (fun j j0 j1 => by rw [ol_ms_ne _ _ _ (by decide)]; exact hb j j0 (by omega))
  have e1 : ∀ c, c ≠ 5 → c ≠ 6 → ¬ (8 ≤ c ∧ c ≤ 36) → M1 c = M c := fun c a b d => by rw [f.1 c a d, ol_ms_ne _ _ _ a, hN c b]
  have e6 : M1 6 = N 6 := by rw [f.1 6 (by decide) (by decide), ol_ms_ne _ _ _ (by decide)]
  have e52 : M1 5 2 = v := by rw [f.2 2 (by decide) (by decide), ol_msA]
  have e51 : M1 5 1 = 55 := by rw [f.2 1 (by decide) (by decide), ol_ms_i _ _ _ (by decide), hN 5 (by decide)]; exact h1.2.1
  have n : ∀ c, 37 ≤ c → M1 c = M c := fun c q => e1 c (by omega) (by omega) (by omega)
  have m : ∀ c, c ≤ 4 → M1 c = M c := fun c q => e1 c (by omega) (by omega) (by omega)
  have hf : sp_hf S' = sp_hf S := by unfold sp_hf; rw [hS0 0 (by decide), hS 1 (by decide) (by decide)]
  refine ⟨xw M1, ol_Ri (q := q_X8_setLength) (by decide +kernel) (Nat.le_of_ble_eq_true rfl) rfl (fun Rt A hA hr => b_X8_setLength_5_0 hA v N ⟨M1, q, hr⟩), iy_xw ⟨?_, ?_, p, h4.keep (hS _ (by decide) (by decide)) (n _ (by decide)), h5.keep (hS0 _ (by decide)) (hS _ (by decide) (by decide)) (hS _ (by decide) (by decide)) (hS _ (by decide) (by decide)) (by rw [n _ (by decide)]) (n _ (by decide)) (n _ (by decide)) (n _ (by decide)), h6.keep (hS0 _ (by decide)) (hS _ (by decide) (by decide)) (hS _ (by decide) (by decide)) (hS _ (by decide) (by decide)) (hS _ (by decide) (by decide)) (by rw [n _ (by decide)]) (n _ (by decide)) (n _ (by decide)) (n _ (by decide)) (n _ (by decide)), h7.keep (hS0 _ (by decide)) (hS _ (by decide) (by decide)) (hS _ (by decide) (by decide)) (hS _ (by decide) (by decide)) (hS _ (by decide) (by decide)) (by rw [n _ (by decide)]) (n _ (by decide)) (n _ (by decide)) (n _ (by decide)) (n _ (by decide)), h8.keep (hS0 _ (by decide)) (by rw [m 0 (by decide)]) (fun c a _ => n c (by omega)), h9.keep (fun k q => hS k (by omega) (by omega)) (fun c a _ => n c (by omega))⟩, fx_xw (fun k q => by rw [f.1 k (by omega) (by omega), ol_ms_ne _ _ _ (by omega)]), ?_⟩
  · obtain ⟨t1, t2, t3, t4, t5, t6⟩ := h1
    unfold ix_t
    rw [e51, e52, e6, m 1 (by decide), m 2 (by decide), hS0 0 (by decide), hS 1 (by decide) (by decide), hv]
    exact ⟨t1, rfl, t3, rfl, t5, hb⟩
  · exact h2.keep (by unfold sp_nH; rw [hf, hS0 0 (by decide)]) hf (by funext k; unfold sp_kd; rw [hS 1 (by decide) (by decide)]) (by funext k; unfold sp_hd; rw [hS 1 (by decide) (by decide)]) (m _ (by decide)) (m _ (by decide)) (m _ (by decide))
  · rw [xw_ne (by decide)]; exact e52
theorem x_type {n : Nat} {S M : ol_M} (h : ix S M) (hs : sp_ok S) {t b : Int} (r1 : ol_r t) (r2 : ol_r b) : x_ok n 7 q_X8_type [.inl t, .inl b] S M (sp_type S t b) := by
  have ho := sp_type_ok hs t b
  obtain ⟨t1, t2, t3, t4, t5, t6⟩ := h.1.1
  obtain ⟨o1, o2, o3, o4⟩ := hs.1
  unfold sp_type at ho ⊢
  by_cases c : ¬ (0 ≤ t ∧ t ≤ 1) ∨ ¬ (0 ≤ b ∧ b ≤ 255)
  · rw [if_pos c]
    exact ⟨M, ol_Ri (q := q_X8_type) (by decide +kernel) (Nat.le_of_ble_eq_true rfl) (Or.inl rfl) (fun Rt A hA hr => b_X8_type_1_0 hA t b M ⟨r1, ol_if.mk (fun d => ⟨r2, ol_if.neg (by omega) hr⟩) (fun _ => hr)⟩), h, fx.rf⟩
  rw [if_neg c] at ho ⊢
  rcases (show t = 0 ∨ t = 1 by omega) with rfl | rfl
  · have tx := (@x_textOf n M 0 r1).1 rfl
    by_cases c2 : S 0 0 = sp_cap 0
    · rw [if_pos c2]
      have c3 : S 0 0 = 23 := c2
      exact ⟨M, ol_Ri (q := q_X8_type) (by decide +kernel) (Nat.le_of_ble_eq_true rfl) (Or.inl rfl) (fun Rt A hA hr => b_X8_type_1_0 hA 0 b M ⟨r1, ol_if.pos (by decide) ⟨r2, ol_if.pos (by omega) ⟨M, tx, ⟨by omega, by omega⟩, ⟨by omega, by omega⟩, ol_if.neg (by omega) hr⟩⟩⟩), h, fx.rf⟩
    · rw [if_neg c2] at ho ⊢
      have c3 : S 0 0 ≠ 23 := c2
      obtain ⟨M', q, i, f, e⟩ := @x_set1 n S M _ (ol_ms M 2 (M 1 2) b) (S 0 0 + 1) h.1 (fun c q => ol_ms_ne _ _ _ q) (fun k a b' => by rw [ol_ms_ne _ _ _ a, ol_ms_ne _ _ _ (by omega)]) (fun j a => by rw [ol_ms_i _ _ _ a, ol_ms_ne _ _ _ (by decide)]) (ol_msA _ _ _ _) (fun j j0 j1 => by
        rw [ol_ms_row, ol_ms_ne _ _ _ (by decide), show (1 + 0 : Int) = 1 by decide, ol_ms_row, t3]
        by_cases p : j = S 0 0
        · rw [p, ol_rsA, ol_rsA]
        · rw [ol_rsN _ _ p, ol_rsN _ _ p]; exact t5 j j0 (by omega)) ho.1
      refine x_ok.of ⟨M', ol_Ri (q := q_X8_type) (by decide +kernel) (Nat.le_of_ble_eq_true rfl) (Or.inl rfl) (fun Rt A hA hr => b_X8_type_1_0 hA 0 b M ⟨r1, ol_if.pos (by decide) ⟨r2, ol_if.pos (by omega) ⟨M, tx, ⟨by omega, by omega⟩, ⟨by omega, by omega⟩, ol_if.pos (by omega) ⟨by omega, by omega, M', by rw [t3] at q ⊢; exact q, ol_rt hr e.symm⟩⟩⟩⟩), i, (fx.rf.ms).tr f⟩
  · have tx := (@x_textOf n M 1 r1).2 (by decide)
    by_cases c2 : S 0 1 = sp_cap 1
    · rw [if_pos c2]
      have c3 : S 0 1 = 55 := c2
      exact ⟨M, ol_Ri (q := q_X8_type) (by decide +kernel) (Nat.le_of_ble_eq_true rfl) (Or.inl rfl) (fun Rt A hA hr => b_X8_type_5_0 hA 1 b M ⟨r1, ol_if.pos (by decide) ⟨r2, ol_if.pos (by omega) ⟨M, tx, ⟨by omega, by omega⟩, ⟨by omega, by omega⟩, ol_if.neg (by omega) hr⟩⟩⟩), h, fx.rf⟩
    · rw [if_neg c2] at ho ⊢
      have c3 : S 0 1 ≠ 55 := c2
      obtain ⟨M', q, i, f, e⟩ := @x_set5 n S M _ (ol_ms M 6 (M 5 2) b) (S 0 1 + 1) h.1 (fun c q => ol_ms_ne _ _ _ q) (fun k a b' => by rw [ol_ms_ne _ _ _ a, ol_ms_ne _ _ _ (by omega)]) (fun j a => by rw [ol_ms_i _ _ _ a, ol_ms_ne _ _ _ (by decide)]) (ol_msA _ _ _ _) (fun j j0 j1 => by
        rw [ol_ms_row, ol_ms_ne _ _ _ (by decide), show (1 + 1 : Int) = 2 by decide, ol_ms_row, t4]
        by_cases p : j = S 0 1
        · rw [p, ol_rsA, ol_rsA]
        · rw [ol_rsN _ _ p, ol_rsN _ _ p]; exact t6 j j0 (by omega)) ho.1
      refine x_ok.of ⟨M', ol_Ri (q := q_X8_type) (by decide +kernel) (Nat.le_of_ble_eq_true rfl) (Or.inl rfl) (fun Rt A hA hr => b_X8_type_5_0 hA 1 b M ⟨r1, ol_if.pos (by decide) ⟨r2, ol_if.pos (by omega) ⟨M, tx, ⟨by omega, by omega⟩, ⟨by omega, by omega⟩, ol_if.pos (by omega) ⟨by omega, by omega, M', by rw [t4] at q ⊢; exact q, ol_rt hr e.symm⟩⟩⟩⟩), i, (fx.rf.ms).tr f⟩
theorem x_sh1 {n : Nat} {S M : ol_M} (h : ix S M) (hs : sp_ok S) {v : Int} (v0 : 0 ≤ v) (v1 : v ≤ S 0 0) : ∃ M', ol_R (ol_lay n) 6 q_X8_setLength [.inr (.inr 0), .inr (.inr 1), .inl v] M none M' ∧ ix (ol_ms S 0 0 v) M' ∧ fx M M' ∧ M' 1 2 = v :=
  x_set1 h.1 (fun _ _ => rfl) (fun k a _ => ol_ms_ne _ _ _ a) (fun j a => ol_ms_i _ _ _ a) (ol_msA _ _ _ _) (fun j j0 j1 => by rw [ol_ms_ne _ _ _ (by decide)]; exact h.1.1.2.2.2.2.1 j j0 (by omega)) (sp_short_ok hs (by decide) v0 v1).1
theorem x_sh5 {n : Nat} {S M : ol_M} (h : ix S M) (hs : sp_ok S) {v : Int} (v0 : 0 ≤ v) (v1 : v ≤ S 0 1) : ∃ M', ol_R (ol_lay n) 6 q_X8_setLength [.inr (.inr 0), .inr (.inr 5), .inl v] M none M' ∧ ix (ol_ms S 0 1 v) M' ∧ fx M M' ∧ M' 5 2 = v :=
  x_set5 h.1 (fun _ _ => rfl) (fun k a _ => ol_ms_ne _ _ _ a) (fun j a => ol_ms_i _ _ _ a) (ol_msA _ _ _ _) (fun j j0 j1 => by rw [ol_ms_ne _ _ _ (by decide)]; exact h.1.1.2.2.2.2.2 j j0 (by omega)) (sp_short_ok hs (by decide) v0 v1).1
theorem x_wipe {n : Nat} {S M : ol_M} (h : ix S M) (hs : sp_ok S) {t : Int} (r1 : ol_r t) : x_ok n 7 q_X8_wipe [.inl t] S M (sp_wipe S t) := by
  obtain ⟨t1, t2, t3, t4, t5, t6⟩ := h.1.1
  unfold sp_wipe
  by_cases c : 0 ≤ t ∧ t ≤ 1
  · rw [if_neg (fun q => q c)]
    have o := hs.len c
    rcases (show t = 0 ∨ t = 1 by omega) with rfl | rfl
    · obtain ⟨M', q, i, f, e⟩ := @x_sh1 n S M h hs 0 (by decide) o.1
      exact x_ok.of ⟨M', ol_Ri (q := q_X8_wipe) (by decide +kernel) (Nat.le_of_ble_eq_true rfl) (Or.inl rfl) (fun Rt A hA hr => b_X8_wipe_1_0 hA 0 M ⟨r1, ol_if.pos (by decide) ⟨M, (@x_textOf n M 0 r1).1 rfl, M', q, ol_rt hr t3.symm⟩⟩), i, f⟩
    · obtain ⟨M', q, i, f, e⟩ := @x_sh5 n S M h hs 0 (by decide) o.1
      exact x_ok.of ⟨M', ol_Ri (q := q_X8_wipe) (by decide +kernel) (Nat.le_of_ble_eq_true rfl) (Or.inl rfl) (fun Rt A hA hr => b_X8_wipe_5_0 hA 1 M ⟨r1, ol_if.pos (by decide) ⟨M, (@x_textOf n M 1 r1).2 (by decide), M', q, ol_rt hr t4.symm⟩⟩), i, f⟩
  · rw [if_pos c]
    exact x_ok.of ⟨M, ol_Ri (q := q_X8_wipe) (by decide +kernel) (Nat.le_of_ble_eq_true rfl) (Or.inl rfl) (fun Rt A hA hr => b_X8_wipe_1_0 hA t M ⟨r1, ol_if.neg (by omega) hr⟩), h, fx.rf⟩
theorem x_undo {n : Nat} {S M : ol_M} (h : ix S M) (hs : sp_ok S) {t : Int} (r1 : ol_r t) : x_ok n 7 q_X8_undo [.inl t] S M (sp_undo S t) := by
  obtain ⟨t1, t2, t3, t4, t5, t6⟩ := h.1.1
  unfold sp_undo
  by_cases c : 0 ≤ t ∧ t ≤ 1
  · rw [if_neg (fun q => q c)]
    have o := hs.len c
    rcases (show t = 0 ∨ t = 1 by omega) with rfl | rfl
    · have tx := (@x_textOf n M 0 r1).1 rfl
      by_cases c2 : S 0 0 = 0
      · rw [if_pos c2]
        exact x_ok.of ⟨M, ol_Ri (q := q_X8_undo) (by decide +kernel) (Nat.le_of_ble_eq_true rfl) (Or.inl rfl) (fun Rt A hA hr => b_X8_undo_1_0 hA 0 M ⟨r1, ol_if.pos (by decide) ⟨M, tx, ⟨by omega, by omega⟩, ol_if.neg (by omega) hr⟩⟩), h, fx.rf⟩
      · rw [if_neg c2]
        obtain ⟨M', q, i, f, e⟩ := @x_sh1 n S M h hs (S 0 0 - 1) (by omega) (by omega)
        exact x_ok.of ⟨M', ol_Ri (q := q_X8_undo) (by decide +kernel) (Nat.le_of_ble_eq_true rfl) (Or.inl rfl) (fun Rt A hA hr => b_X8_undo_1_0 hA 0 M ⟨r1, ol_if.pos (by decide) ⟨M, tx, ⟨by omega, by omega⟩, ol_if.pos (by omega) ⟨M', by rw [t3]; exact q, ol_rt hr e.symm⟩⟩⟩), i, f⟩
    · have tx := (@x_textOf n M 1 r1).2 (by decide)
      by_cases c2 : S 0 1 = 0
      · rw [if_pos c2]
        exact x_ok.of ⟨M, ol_Ri (q := q_X8_undo) (by decide +kernel) (Nat.le_of_ble_eq_true rfl) (Or.inl rfl) (fun Rt A hA hr => b_X8_undo_5_0 hA 1 M ⟨r1, ol_if.pos (by decide) ⟨M, tx, ⟨by omega, by omega⟩, ol_if.neg (by omega) hr⟩⟩), h, fx.rf⟩
      · rw [if_neg c2]
        obtain ⟨M', q, i, f, e⟩ := @x_sh5 n S M h hs (S 0 1 - 1) (by omega) (by omega)
        exact x_ok.of ⟨M', ol_Ri (q := q_X8_undo) (by decide +kernel) (Nat.le_of_ble_eq_true rfl) (Or.inl rfl) (fun Rt A hA hr => b_X8_undo_5_0 hA 1 M ⟨r1, ol_if.pos (by decide) ⟨M, tx, ⟨by omega, by omega⟩, ol_if.pos (by omega) ⟨M', by rw [t4]; exact q, ol_rt hr e.symm⟩⟩⟩), i, f⟩
  · rw [if_pos c]
    exact x_ok.of ⟨M, ol_Ri (q := q_X8_undo) (by decide +kernel) (Nat.le_of_ble_eq_true rfl) (Or.inl rfl) (fun Rt A hA hr => b_X8_undo_1_0 hA t M ⟨r1, ol_if.neg (by omega) hr⟩), h, fx.rf⟩
theorem x_fault {n : Nat} {S M : ol_M} (h : ix S M) {t : Int} (r1 : ol_r t) : x_ok n 2 q_X8_fault [.inl t] S M (sp_fault S t) := by
  unfold sp_fault
  apply x_ok.of
  by_cases c : t = 0
  · rw [if_pos c]
    exact ⟨M, ol_Ri (q := q_X8_fault) (by decide +kernel) (Nat.le_of_ble_eq_true rfl) (Or.inl rfl) (fun Rt A hA hr => b_X8_fault_1_0 hA t M ⟨r1, ol_if.pos (by omega) ⟨M, (@x_textOf n M t r1).1 c, ol_rt hr h.1.2.1.2.1.symm⟩⟩), h, fx.rf⟩
  · rw [if_neg c]
    by_cases d : t = 1
    · rw [if_pos d]
      exact ⟨M, ol_Ri (q := q_X8_fault) (by decide +kernel) (Nat.le_of_ble_eq_true rfl) (Or.inl rfl) (fun Rt A hA hr => b_X8_fault_5_0 hA t M ⟨r1, ol_if.pos (by omega) ⟨M, (@x_textOf n M t r1).2 c, ol_rt hr h.1.2.2.1.2.1.symm⟩⟩), h, fx.rf⟩
    · rw [if_neg d]
      exact ⟨M, ol_Ri (q := q_X8_fault) (by decide +kernel) (Nat.le_of_ble_eq_true rfl) (Or.inl rfl) (fun Rt A hA hr => b_X8_fault_1_0 hA t M ⟨r1, ol_if.neg (by omega) hr⟩), h, fx.rf⟩
theorem ix.nH {S M : ol_M} (h : ix S M) : M 1 3 = sp_nH S := h.1.2.1.1
theorem ix.nT {S M : ol_M} (h : ix S M) : M 5 3 = sp_nT S := h.1.2.2.1.1
theorem ix.nW {S M : ol_M} (h : ix S M) : M 37 4 = S 0 2 := h.1.2.2.2.2.1.1
theorem x_house {n : Nat} {S M : ol_M} (h : ix S M) (hs : sp_ok S) {a w : Int} (r1 : ol_r a) (r2 : ol_r w) : x_ok n 2 q_X8_house [.inl a, .inl w] S M (sp_hous S a w) := by
  have nr := sp_nH_r hs.1
  have eh := h.1.2.1.2.2
  unfold sp_hous
  apply x_ok.of
  refine ⟨M, ol_Ri (q := q_X8_house) (by decide +kernel) (Nat.le_of_ble_eq_true rfl) (Or.inl rfl) (fun Rt A hA hr => b_X8_house_0 hA a w M ?_), h, fx.rf⟩
  rw [h.nH]
  by_cases c : (0 ≤ a ∧ a < sp_nH S) ∧ (0 ≤ w ∧ w ≤ 1)
  · rw [if_pos c] at hr
    refine ⟨r1, ⟨by omega, by omega⟩, ol_if.pos c.1 ⟨r2, ol_if.pos (by omega) (ol_if.mk (fun d => ⟨by omega, by omega, ?_⟩) (fun d => ⟨r2, by omega, by omega, ?_⟩))⟩⟩
    · rw [if_pos d] at hr
      rw [(eh a c.1.1 c.1.2).1]; exact hr
    · rw [if_neg d] at hr
      rw [(eh a c.1.1 c.1.2).2]; exact hr
  · rw [if_neg c] at hr
    exact ⟨r1, ⟨by omega, by omega⟩, ol_if.mk (fun d => ⟨r2, ol_if.neg (fun z => c ⟨d, by omega⟩) hr⟩) (fun _ => hr)⟩
theorem x_word {n : Nat} {S M : ol_M} (h : ix S M) {a w : Int} (r1 : ol_r a) (r2 : ol_r w) : x_ok n 2 q_X8_word [.inl a, .inl w] S M (sp_word S a w) := by
  have nr := sp_nT_r S
  have et := h.1.2.2.1.2.2
  unfold sp_word
  apply x_ok.of
  refine ⟨M, ol_Ri (q := q_X8_word) (by decide +kernel) (Nat.le_of_ble_eq_true rfl) (Or.inl rfl) (fun Rt A hA hr => b_X8_word_0 hA a w M ?_), h, fx.rf⟩
  rw [h.nT]
  by_cases c : (0 ≤ a ∧ a < sp_nT S) ∧ (0 ≤ w ∧ w ≤ 9)
  · rw [if_pos c] at hr
    obtain ⟨t1, t2, t3, t4, t5, t6⟩ := et a c.1.1 c.1.2
    refine ⟨r1, ⟨by omega, by omega⟩, ol_if.pos c.1 ⟨r2, ol_if.pos (by omega) ⟨r2, ol_if.mk (fun d => ol_if.mk (fun e => ⟨by omega, by omega, ?_⟩) (fun e => ⟨r2, by omega, by omega, ?_⟩)) (fun d => ⟨by omega, by omega, by omega, by omega, ?_⟩)⟩⟩⟩
    · rw [if_neg (by omega), if_pos e] at hr
      rw [t2]; exact hr
    · rw [if_neg (by omega), if_neg e] at hr
      rw [t1]; exact hr
    · rw [if_pos (by omega)] at hr
      rw [t4 w c.2.1 (by omega)]; exact hr
  · rw [if_neg c] at hr
    exact ⟨r1, ⟨by omega, by omega⟩, ol_if.mk (fun d => ⟨r2, ol_if.neg (fun z => c ⟨d, by omega⟩) hr⟩) (fun _ => hr)⟩
