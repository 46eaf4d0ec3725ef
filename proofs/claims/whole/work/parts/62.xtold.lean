theorem iy.keepr {S M S' M' : ol_M} (h : iy S M) (eM : ∀ c, c ≠ 38 → M' c = M c) (eS : ∀ k, k ≠ 3 → S' k = S k) (hr : ix_r S' M') : iy S' M' := by
  obtain ⟨h1, h2, h3, h4, h5, h6, h7, h8, h9⟩ := h
  have pt : sp_pt S' = sp_pt S := by unfold sp_pt; rw [eS 0 (by decide), eS 2 (by decide)]
  have hf : sp_hf S' = sp_hf S := by unfold sp_hf; rw [eS 0 (by decide), eS 1 (by decide)]
  refine ⟨h1.keep (fun j _ _ => by rw [eS 0 (by decide)]) (eS _ (by decide)) (eS _ (by decide)) (eM _ (by decide)) (eM _ (by decide)) (eM _ (by decide)) (eM _ (by decide)), h2.keep (by unfold sp_nH; rw [hf, eS 0 (by decide)]) hf (by funext k; unfold sp_kd; rw [eS 1 (by decide)]) (by funext k; unfold sp_hd; rw [eS 1 (by decide)]) (eM _ (by decide)) (eM _ (by decide)) (eM _ (by decide)), h3.keep pt (eM _ (by decide)) (fun c a b => eM c (by omega)), hr, h5.keep (by rw [eS 0 (by decide)]) (eS _ (by decide)) (eS _ (by decide)) (eS _ (by decide)) (by rw [eM 37 (by decide)]) (eM _ (by decide)) (eM _ (by decide)) (eM _ (by decide)), h6.keep (by rw [eS 0 (by decide)]) (eS _ (by decide)) (eS _ (by decide)) (eS _ (by decide)) (eS _ (by decide)) (by rw [eM 37 (by decide)]) (eM _ (by decide)) (eM _ (by decide)) (eM _ (by decide)) (eM _ (by decide)), h7.keep (by rw [eS 0 (by decide)]) (eS _ (by decide)) (eS _ (by decide)) (eS _ (by decide)) (eS _ (by decide)) (by rw [eM 37 (by decide)]) (eM _ (by decide)) (eM _ (by decide)) (eM _ (by decide)) (eM _ (by decide)), h8.keep (by rw [eS 0 (by decide)]) (by rw [eM 0 (by decide)]) (fun c a _ => eM c (by omega)), h9.keep (fun k q => eS k (by omega)) (fun c a _ => eM c (by omega))⟩
theorem x_ration {n : Nat} {S M : ol_M} (h : ix S M) (hs : sp_ok S) {l v : Int} (r1 : ol_r l) (r2 : ol_r v) : x_ok n 2 q_X8_ration [.inl l, .inl v] S M (sp_ration S l v) := by
  unfold sp_ration
  by_cases c : ¬ (0 ≤ l ∧ l ≤ 7) ∨ ¬ (0 ≤ v ∧ v ≤ 9)
  · rw [if_pos c]
    exact ⟨M, ol_Ri (q := q_X8_ration) (by decide +kernel) (Nat.le_of_ble_eq_true rfl) (Or.inl rfl) (fun Rt A hA hr => b_X8_ration_0 hA l v M ⟨r1, ol_if.mk (fun d => ⟨r2, ol_if.neg (by omega) hr⟩) (fun _ => hr)⟩), h, fx.rf⟩
  rw [if_neg c]
  have hr4 : ix_r S M := h.1.2.2.2.1
  refine x_ok.of ⟨xw (ol_ms M 38 l v), ol_Ri (q := q_X8_ration) (by decide +kernel) (Nat.le_of_ble_eq_true rfl) (Or.inl rfl) (fun Rt A hA hr => b_X8_ration_0 hA l v M ⟨r1, ol_if.pos (by omega) ⟨r2, ol_if.pos (by omega) ⟨by omega, by omega, by omega, by omega, ol_rt hr (hr4 l (by omega) (by omega)).symm⟩⟩⟩), iy_xw (h.1.keepr (fun c q => ol_ms_ne _ _ _ q) (fun k q => ol_ms_ne _ _ _ q) (fun k k0 k1 => ?_)), fx_xw fx.rf.ms⟩
  rw [ol_ms_row, ol_ms_row]
  by_cases kl : k = l
  · rw [kl, ol_rsA, ol_rsA]
  · rw [ol_rsN _ _ kl, ol_rsN _ _ kl]
    exact hr4 k k0 k1
/-- writings have changed -/
theorem iy.keepw {S M S' M' : ol_M} (h : iy S M) (eM : ∀ c, c ≠ 37 → ¬ (39 ≤ c ∧ c ≤ 41) → M' c = M c) (e37 : ∀ j, j ≠ 4 → M' 37 j = M 37 j) (eS : ∀ k, k ≠ 0 → ¬ (4 ≤ k ∧ k ≤ 6) → S' k = S k) (e0 : ∀ j, j ≠ 2 → S' 0 j = S 0 j) (hw : ix_w S' M') : iy S' M' := by
  obtain ⟨h1, h2, h3, h4, h5, h6, h7, h8, h9⟩ := h
  have pt : sp_pt S' = sp_pt S := by unfold sp_pt; rw [e0 1 (by decide), eS 2 (by decide) (by decide)]
  have hf : sp_hf S' = sp_hf S := by unfold sp_hf; rw [e0 0 (by decide), eS 1 (by decide) (by decide)]
  refine ⟨h1.keep (fun j a b => e0 j (by omega)) (eS _ (by decide) (by decide)) (eS _ (by decide) (by decide)) (eM _ (by decide) (by decide)) (eM _ (by decide) (by decide)) (eM _ (by decide) (by decide)) (eM _ (by decide) (by decide)), h2.keep (by unfold sp_nH; rw [hf, e0 0 (by decide)]) hf (by funext k; unfold sp_kd; rw [eS 1 (by decide) (by decide)]) (by funext k; unfold sp_hd; rw [eS 1 (by decide) (by decide)]) (eM _ (by decide) (by decide)) (eM _ (by decide) (by decide)) (eM _ (by decide) (by decide)), h3.keep pt (eM _ (by decide) (by decide)) (fun c a b => eM c (by omega) (by omega)), h4.keep (eS _ (by decide) (by decide)) (eM _ (by decide) (by decide)), hw, h6.keep (e0 _ (by decide)) (eS _ (by decide) (by decide)) (eS _ (by decide) (by decide)) (eS _ (by decide) (by decide)) (eS _ (by decide) (by decide)) (e37 _ (by decide)) (eM _ (by decide) (by decide)) (eM _ (by decide) (by decide)) (eM _ (by decide) (by decide)) (eM _ (by decide) (by decide)), h7.keep (e0 _ (by decide)) (eS _ (by decide) (by decide)) (eS _ (by decide) (by decide)) (eS _ (by decide) (by decide)) (eS _ (by decide) (by decide)) (e37 _ (by decide)) (eM _ (by decide) (by decide)) (eM _ (by decide) (by decide)) (eM _ (by decide) (by decide)) (eM _ (by decide) (by decide)), h8.keep (e0 _ (by decide)) (by rw [eM 0 (by decide) (by decide)]) (fun c a _ => eM c (by omega) (by omega)), h9.keep (fun k q => eS k (by omega) (by omega)) (fun c a _ => eM c (by omega) (by omega))⟩
def x_wr (M : ol_M) (m h t : Int) : ol_M := ol_ms (ol_ms (ol_ms (ol_ms M 39 (M 37 4) m) 40 (M 37 4) h) 41 (M 37 4) t) 37 4 ((M 37 4) + 1)
theorem x_addw {n : Nat} {M : ol_M} {m h t : Int} (h0 : 0 ≤ M 37 4) (h1 : M 37 4 < 12) : ol_R (ol_lay n) 1 q_X7_addWriting [.inr (.inr 37), .inl m, .inl h, .inl t] M none (x_wr M m h t) :=
  ol_Ri (q := q_X7_addWriting) (by decide +kernel) (Nat.le_of_ble_eq_true rfl) rfl fun Rt A hA hr => b_X7_addWriting_0 hA m h t M ⟨⟨by omega, by omega⟩, ol_if.neg (by omega) ⟨h0, h1, h0, h1, h0, h1, hr⟩⟩
theorem x_wr_ne {M : ol_M} {m h t c : Int} (a : c ≠ 37) (b : ¬ (39 ≤ c ∧ c ≤ 41)) : x_wr M m h t c = M c := by
  unfold x_wr
  rw [ol_ms_ne _ _ _ a, ol_ms_ne _ _ _ (by omega), ol_ms_ne _ _ _ (by omega), ol_ms_ne _ _ _ (by omega)]
theorem x_wr_37 {M : ol_M} {m h t : Int} : x_wr M m h t 37 = ol_rs (M 37) 4 (M 37 4 + 1) := by simp [x_wr, ol_ms, ol_mp]
theorem x_wr_39 {M : ol_M} {m h t : Int} : x_wr M m h t 39 = ol_rs (M 39) (M 37 4) m := by simp [x_wr, ol_ms, ol_mp]
theorem x_wr_40 {M : ol_M} {m h t : Int} : x_wr M m h t 40 = ol_rs (M 40) (M 37 4) h := by simp [x_wr, ol_ms, ol_mp]
theorem x_wr_41 {M : ol_M} {m h t : Int} : x_wr M m h t 41 = ol_rs (M 41) (M 37 4) t := by simp [x_wr, ol_ms, ol_mp]
theorem iy.addw {S M : ol_M} (hi : iy S M) {m h t : Int} : iy (sp_addw S m h t) (x_wr M m h t) := by
  obtain ⟨g1, g2⟩ := hi.2.2.2.2.1
  refine hi.keepw (fun c a b => x_wr_ne a b) (fun j q => by rw [x_wr_37, ol_rsN _ _ q]) (fun k a b => ?_) (fun j q => by rw [sp_addw_0, ol_rsN _ _ q]) ?_
  · unfold sp_addw
    rw [ol_ms_ne _ _ _ (by omega), ol_ms_ne _ _ _ (by omega), ol_ms_ne _ _ _ (by omega), ol_ms_ne _ _ _ (by omega)]
  · unfold ix_w
    rw [x_wr_37, x_wr_39, x_wr_40, x_wr_41, sp_addw_0, sp_addw_4, sp_addw_5, sp_addw_6, g1, ol_rsA, ol_rsA]
    refine ⟨rfl, fun k k0 k1 => ?_⟩
    by_cases kw : k = S 0 2
    · rw [kw, ol_rsA, ol_rsA, ol_rsA, ol_rsA, ol_rsA, ol_rsA]
      exact ⟨rfl, rfl, rfl⟩
    · rw [ol_rsN _ _ kw, ol_rsN _ _ kw, ol_rsN _ _ kw, ol_rsN _ _ kw, ol_rsN _ _ kw, ol_rsN _ _ kw]
      exact g2 k k0 (by omega)
theorem fx.wr {M M' : ol_M} (f : fx M M') {m h t : Int} : fx M (x_wr M' m h t) := (((f.ms).ms).ms).ms
theorem x_writing {n : Nat} {S M : ol_M} (h : ix S M) (hs : sp_ok S) {m w t : Int} (r1 : ol_r m) (r2 : ol_r w) (r3 : ol_r t) : x_ok n 3 q_X8_writing [.inl m, .inl w, .inl t] S M (sp_writing S m w t) := by
  have e := h.1.2.2.2.2.1.1
  have o := hs.w.1
  have r4 : ol_r (M 37 4) := ⟨by omega, by omega⟩
  unfold sp_writing
  by_cases c : (0 ≤ m ∧ m ≤ 11) ∧ (0 ≤ w ∧ w ≤ 7) ∧ (0 ≤ t ∧ t ≤ 7)
  · rw [if_neg (fun q => q c)]
    by_cases c2 : S 0 2 = 12
    · rw [if_pos c2]
      exact ⟨M, ol_Ri (q := q_X8_writing) (by decide +kernel) (Nat.le_of_ble_eq_true rfl) (Or.inl rfl) (fun Rt A hA hr => b_X8_writing_0 hA m w t M ⟨r1, r2, r3, ol_if.pos (by omega) ⟨r4, ol_if.neg (by omega) hr⟩⟩), h, fx.rf⟩
    · rw [if_neg c2]
      exact x_ok.of ⟨xw (x_wr M m w t), ol_Ri (q := q_X8_writing) (by decide +kernel) (Nat.le_of_ble_eq_true rfl) (Or.inl rfl) (fun Rt A hA hr => b_X8_writing_0 hA m w t M ⟨r1, r2, r3, ol_if.pos (by omega) ⟨r4, ol_if.pos (by omega) ⟨_, x_addw (by omega) (by omega), ol_rt hr (by rw [x_wr_37, ol_rsA, e])⟩⟩⟩), iy_xw h.1.addw, fx_xw fx.rf.wr⟩
  · rw [if_pos c]
    exact ⟨M, ol_Ri (q := q_X8_writing) (by decide +kernel) (Nat.le_of_ble_eq_true rfl) (Or.inl rfl) (fun Rt A hA hr => b_X8_writing_0 hA m w t M ⟨r1, r2, r3, ol_if.neg (by omega) hr⟩), h, fx.rf⟩
/-- lendings have changed -/
theorem iy.keepl {S M S' M' : ol_M} (h : iy S M) (eM : ∀ c, c ≠ 37 → ¬ (42 ≤ c ∧ c ≤ 45) → M' c = M c) (e37 : ∀ j, j ≠ 9 → M' 37 j = M 37 j) (eS : ∀ k, k ≠ 0 → ¬ (7 ≤ k ∧ k ≤ 10) → S' k = S k) (e0 : ∀ j, j ≠ 3 → S' 0 j = S 0 j) (hl : ix_l S' M') : iy S' M' := by
  obtain ⟨h1, h2, h3, h4, h5, h6, h7, h8, h9⟩ := h
  have pt : sp_pt S' = sp_pt S := by unfold sp_pt; rw [e0 1 (by decide), eS 2 (by decide) (by decide)]
  have hf : sp_hf S' = sp_hf S := by unfold sp_hf; rw [e0 0 (by decide), eS 1 (by decide) (by decide)]
  refine ⟨h1.keep (fun j a b => e0 j (by omega)) (eS _ (by decide) (by decide)) (eS _ (by decide) (by decide)) (eM _ (by decide) (by decide)) (eM _ (by decide) (by decide)) (eM _ (by decide) (by decide)) (eM _ (by decide) (by decide)), h2.keep (by unfold sp_nH; rw [hf, e0 0 (by decide)]) hf (by funext k; unfold sp_kd; rw [eS 1 (by decide) (by decide)]) (by funext k; unfold sp_hd; rw [eS 1 (by decide) (by decide)]) (eM _ (by decide) (by decide)) (eM _ (by decide) (by decide)) (eM _ (by decide) (by decide)), h3.keep pt (eM _ (by decide) (by decide)) (fun c a b => eM c (by omega) (by omega)), h4.keep (eS _ (by decide) (by decide)) (eM _ (by decide) (by decide)), h5.keep (e0 _ (by decide)) (eS _ (by decide) (by decide)) (eS _ (by decide) (by decide)) (eS _ (by decide) (by decide)) (e37 _ (by decide)) (eM _ (by decide) (by decide)) (eM _ (by decide) (by decide)) (eM _ (by decide) (by decide)), hl, h7.keep (e0 _ (by decide)) (eS _ (by decide) (by decide)) (eS _ (by decide) (by decide)) (eS _ (by decide) (by decide)) (eS _ (by decide) (by decide)) (e37 _ (by decide)) (eM _ (by decide) (by decide)) (eM _ (by decide) (by decide)) (eM _ (by decide) (by decide)) (eM _ (by decide) (by decide)), h8.keep (e0 _ (by decide)) (by rw [eM 0 (by decide) (by decide)]) (fun c a _ => eM c (by omega) (by omega)), h9.keep (fun k q => eS k (by omega) (by omega)) (fun c a _ => eM c (by omega) (by omega))⟩
def x_lr (M : ol_M) (m h t l : Int) : ol_M := ol_ms (ol_ms (ol_ms (ol_ms (ol_ms M 42 (M 37 9) m) 43 (M 37 9) h) 44 (M 37 9) t) 45 (M 37 9) l) 37 9 ((M 37 9) + 1)
theorem x_lr_ne {M : ol_M} {m h t l c : Int} (a : c ≠ 37) (b : ¬ (42 ≤ c ∧ c ≤ 45)) : x_lr M m h t l c = M c := by
  unfold x_lr
  rw [ol_ms_ne _ _ _ a, ol_ms_ne _ _ _ (by omega), ol_ms_ne _ _ _ (by omega), ol_ms_ne _ _ _ (by omega), ol_ms_ne _ _ _ (by omega)]
theorem x_lr_37 {M : ol_M} {m h t l : Int} : x_lr M m h t l 37 = ol_rs (M 37) 9 (M 37 9 + 1) := by simp [x_lr, ol_ms, ol_mp]
theorem x_lr_42 {M : ol_M} {m h t l : Int} : x_lr M m h t l 42 = ol_rs (M 42) (M 37 9) m := by simp [x_lr, ol_ms, ol_mp]
theorem x_lr_43 {M : ol_M} {m h t l : Int} : x_lr M m h t l 43 = ol_rs (M 43) (M 37 9) h := by simp [x_lr, ol_ms, ol_mp]
theorem x_lr_44 {M : ol_M} {m h t l : Int} : x_lr M m h t l 44 = ol_rs (M 44) (M 37 9) t := by simp [x_lr, ol_ms, ol_mp]
theorem x_lr_45 {M : ol_M} {m h t l : Int} : x_lr M m h t l 45 = ol_rs (M 45) (M 37 9) l := by simp [x_lr, ol_ms, ol_mp]
theorem x_lending {n : Nat} {S M : ol_M} (h : ix S M) (hs : sp_ok S) {m w t l : Int} (r1 : ol_r m) (r2 : ol_r w) (r3 : ol_r t) (r4 : ol_r l) : x_ok n 2 q_X8_lending [.inl m, .inl w, .inl t, .inl l] S M (sp_lending S m w t l) := by
  obtain ⟨e, g2⟩ := h.1.2.2.2.2.2.1
  have o := hs.2.2.2.1.1
  have r5 : ol_r (M 37 9) := ⟨by omega, by omega⟩
  unfold sp_lending
  by_cases c : (0 ≤ m ∧ m ≤ 11) ∧ (0 ≤ w ∧ w ≤ 7) ∧ (0 ≤ t ∧ t ≤ 7) ∧ (0 ≤ l ∧ l ≤ 7) ∧ w ≠ t
  · rw [if_neg (fun q => q c)]
    by_cases c2 : S 0 3 = 8
    · rw [if_pos c2]
      exact ⟨M, ol_Ri (q := q_X8_lending) (by decide +kernel) (Nat.le_of_ble_eq_true rfl) (Or.inl rfl) (fun Rt A hA hr => b_X8_lending_0 hA m w t l M ⟨r1, ol_if.pos (by omega) ⟨r2, ol_if.pos (by omega) ⟨r3, ol_if.pos (by omega) ⟨r4, ol_if.pos (by omega) (ol_if.neg c.2.2.2.2 ⟨r2, r3, r5, ol_if.neg (by omega) hr⟩)⟩⟩⟩⟩), h, fx.rf⟩
    · rw [if_neg c2]
      refine x_ok.of ⟨xw (x_lr M m w t l), ol_Ri (q := q_X8_lending) (by decide +kernel) (Nat.le_of_ble_eq_true rfl) (Or.inl rfl) (fun Rt A hA hr => b_X8_lending_0 hA m w t l M ⟨r1, ol_if.pos (by omega) ⟨r2, ol_if.pos (by omega) ⟨r3, ol_if.pos (by omega) ⟨r4, ol_if.pos (by omega) (ol_if.neg c.2.2.2.2 ⟨r2, r3, r5, ol_if.pos (by omega) ⟨_, ol_Ri (q := q_X7_addLending) (by decide +kernel) (Nat.le_of_ble_eq_true rfl) rfl (fun Rt A hA hr => b_X7_addLending_0 hA m w t l M ⟨r5, ol_if.neg (by omega) ⟨by omega, by omega, by omega, by omega, by omega, by omega, by omega, by omega, hr⟩⟩), ol_rt hr (by rw [show (ol_ms (ol_ms (ol_ms (ol_ms (ol_ms M 42 (M 37 9) m) 43 (M 37 9) w) 44 (M 37 9) t) 45 (M 37 9) l) 37 9 ((M 37 9) + 1)) 37 9 = M 37 9 + 1 from ol_msA _ _ _ _, e])⟩⟩)⟩⟩⟩⟩), iy_xw (h.1.keepl (fun c a b => x_lr_ne a b) (fun j q => by rw [x_lr_37, ol_rsN _ _ q]) (fun k a b => ?_) (fun j q => ?_) ?_), fx_xw (((((fx.rf.ms).ms).ms).ms).ms)⟩
      · unfold sp_addl
        rw [ol_ms_ne _ _ _ (by omega), ol_ms_ne _ _ _ (by omega), ol_ms_ne _ _ _ (by omega), ol_ms_ne _ _ _ (by omega), ol_ms_ne _ _ _ (by omega)]
      · unfold sp_addl
        rw [ol_ms_i _ _ _ q, ol_ms_ne _ _ _ (by decide), ol_ms_ne _ _ _ (by decide), ol_ms_ne _ _ _ (by decide), ol_ms_ne _ _ _ (by decide)]
      · unfold ix_l
        rw [x_lr_37, x_lr_42, x_lr_43, x_lr_44, x_lr_45, e, ol_rsA, show sp_addl S m w t l 0 3 = S 0 3 + 1 by simp [sp_addl, ol_ms, ol_mp, ol_rs], show sp_addl S m w t l 7 = ol_rs (S 7) (S 0 3) m by simp [sp_addl, ol_ms, ol_mp], show sp_addl S m w t l 8 = ol_rs (S 8) (S 0 3) w by simp [sp_addl, ol_ms, ol_mp], show sp_addl S m w t l 9 = ol_rs (S 9) (S 0 3) t by simp [sp_addl, ol_ms, ol_mp], show sp_addl S m w t l 10 = ol_rs (S 10) (S 0 3) l by simp [sp_addl, ol_ms, ol_mp]]
        refine ⟨rfl, fun k k0 k1 => ?_⟩
        by_cases kw : k = S 0 3
        · rw [kw, ol_rsA, ol_rsA, ol_rsA, ol_rsA, ol_rsA, ol_rsA, ol_rsA, ol_rsA]
          exact ⟨rfl, rfl, rfl, rfl⟩
        · rw [ol_rsN _ _ kw, ol_rsN _ _ kw, ol_rsN _ _ kw, ol_rsN _ _ kw, ol_rsN _ _ kw, ol_rsN _ _ kw, ol_rsN _ _ kw, ol_rsN _ _ kw]
          exact g2 k k0 (by omega)
  · rw [if_pos c]
    exact ⟨M, ol_Ri (q := q_X8_lending) (by decide +kernel) (Nat.le_of_ble_eq_true rfl) (Or.inl rfl) (fun Rt A hA hr => b_X8_lending_0 hA m w t l M ⟨r1, ol_if.mk (fun d1 => ⟨r2, ol_if.mk (fun d2 => ⟨r3, ol_if.mk (fun d3 => ⟨r4, ol_if.mk (fun d4 => ol_if.mk (fun _ => hr) (fun d5 => absurd ⟨⟨d1.1, by omega⟩, ⟨d2.1, by omega⟩, ⟨d3.1, by omega⟩, ⟨d4.1, by omega⟩, d5⟩ c)) (fun _ => hr)⟩) (fun _ => hr)⟩) (fun _ => hr)⟩) (fun _ => hr)⟩), h, fx.rf⟩
theorem x_back {n : Nat} {S M : ol_M} (h : ix S M) (hs : sp_ok S) {w : Int} (r1 : ol_r w) : x_ok n 2 q_X8_back [.inl w] S M (sp_back S w) := by
  obtain ⟨e1, g1⟩ := h.1.2.2.2.2.1
  obtain ⟨e2, g2⟩ := h.1.2.2.2.2.2.1
  have o1 := hs.2.2.1.1
  have o2 := hs.2.2.2.1.1
  have r2 : ol_r (M 37 4) := ⟨by omega, by omega⟩
  have r3 : ol_r (M 37 9) := ⟨by omega, by omega⟩
  unfold sp_back
  by_cases c : 0 ≤ w ∧ w ≤ 1
  · rw [if_neg (fun q => q c)]
    rcases (show w = 0 ∨ w = 1 by omega) with rfl | rfl
    · show x_ok n 2 q_X8_back [.inl 0] S M (if S 0 2 = 0 then (-3, S) else (S 0 2 - 1, ol_ms S 0 2 (S 0 2 - 1)))
      by_cases c2 : S 0 2 = 0
      · rw [if_pos c2]
        exact ⟨M, ol_Ri (q := q_X8_back) (by decide +kernel) (Nat.le_of_ble_eq_true rfl) (Or.inl rfl) (fun Rt A hA hr => b_X8_back_0 hA 0 M ⟨r1, ol_if.pos (by decide) (b_X8_back_11 hA 0 M (ol_if.pos rfl ⟨r2, ol_if.neg (by omega) hr⟩))⟩), h, fx.rf⟩
      · rw [if_neg c2]
        refine x_ok.of ⟨xw (ol_ms M 37 4 (M 37 4 - 1)), ol_Ri (q := q_X8_back) (by decide +kernel) (Nat.le_of_ble_eq_true rfl) (Or.inl rfl) (fun Rt A hA hr => b_X8_back_0 hA 0 M ⟨r1, ol_if.pos (by decide) (b_X8_back_11 hA 0 M (ol_if.pos rfl ⟨r2, ol_if.pos (by omega) (ol_if.pos rfl (ol_rt hr (by rw [e1])))⟩))⟩), iy_xw (h.1.keepw (fun c a _ => ol_ms_ne _ _ _ a) (fun j q => ol_ms_i _ _ _ q) (fun k a _ => ol_ms_ne _ _ _ a) (fun j q => ol_ms_i _ _ _ q) ⟨by rw [ol_msA, ol_msA, e1], fun k k0 k1 => ?_⟩), fx_xw fx.rf.ms⟩
        rw [ol_msA] at k1
        rw [ol_ms_ne _ _ _ (by decide), ol_ms_ne _ _ _ (by decide), ol_ms_ne _ _ _ (by decide), ol_ms_ne _ _ _ (by decide), ol_ms_ne _ _ _ (by decide), ol_ms_ne _ _ _ (by decide)]
        exact g1 k k0 (by omega)
    · show x_ok n 2 q_X8_back [.inl 1] S M (if S 0 3 = 0 then (-3, S) else (S 0 3 - 1, ol_ms S 0 3 (S 0 3 - 1)))
      by_cases c2 : S 0 3 = 0
      · rw [if_pos c2]
        exact ⟨M, ol_Ri (q := q_X8_back) (by decide +kernel) (Nat.le_of_ble_eq_true rfl) (Or.inl rfl) (fun Rt A hA hr => b_X8_back_0 hA 1 M ⟨r1, ol_if.pos (by decide) (b_X8_back_11 hA 1 M (ol_if.neg (by decide) ⟨r1, r3, ol_if.neg (by omega) hr⟩))⟩), h, fx.rf⟩
      · rw [if_neg c2]
        refine x_ok.of ⟨xw (ol_ms M 37 9 (M 37 9 - 1)), ol_Ri (q := q_X8_back) (by decide +kernel) (Nat.le_of_ble_eq_true rfl) (Or.inl rfl) (fun Rt A hA hr => b_X8_back_0 hA 1 M ⟨r1, ol_if.pos (by decide) (b_X8_back_11 hA 1 M (ol_if.neg (by decide) ⟨r1, r3, ol_if.pos (by omega) (ol_if.neg (by decide) ⟨r1, ol_rt hr (by rw [e2])⟩)⟩))⟩), iy_xw (h.1.keepl (fun c a _ => ol_ms_ne _ _ _ a) (fun j q => ol_ms_i _ _ _ q) (fun k a _ => ol_ms_ne _ _ _ a) (fun j q => ol_ms_i _ _ _ q) ⟨by rw [ol_msA, ol_msA, e2], fun k k0 k1 => ?_⟩), fx_xw fx.rf.ms⟩
        rw [ol_msA] at k1
        rw [ol_ms_ne _ _ _ (by decide), ol_ms_ne _ _ _ (by decide), ol_ms_ne _ _ _ (by decide), ol_ms_ne _ _ _ (by decide), ol_ms_ne _ _ _ (by decide), ol_ms_ne _ _ _ (by decide), ol_ms_ne _ _ _ (by decide), ol_ms_ne _ _ _ (by decide)]
        exact g2 k k0 (by omega)
  · rw [if_pos c]
    exact ⟨M, ol_Ri (q := q_X8_back) (by decide +kernel) (Nat.le_of_ble_eq_true rfl) (Or.inl rfl) (fun Rt A hA hr => b_X8_back_0 hA w M ⟨r1, ol_if.neg (by omega) hr⟩), h, fx.rf⟩
def x_rd (s : Int) : Nat → Int → ol_M → ol_M → ol_M
  | 0, _, _, M => M
  | f + 1, n, S, M => if 3 * n + 3 ≤ S 16 s ∧ S 0 2 < 12 ∧ ((0 ≤ S (20 + s) (3 * n) ∧ S (20 + s) (3 * n) ≤ 11) ∧ (0 ≤ S (20 + s) (3 * n + 1) ∧ S (20 + s) (3 * n + 1) ≤ 7) ∧ (0 ≤ S (20 + s) (3 * n + 2) ∧ S (20 + s) (3 * n + 2) ≤ 7)) then x_rd s f (n + 1) (sp_addw S (S (20 + s) (3 * n)) (S (20 + s) (3 * n + 1)) (S (20 + s) (3 * n + 2))) (x_wr M (S (20 + s) (3 * n)) (S (20 + s) (3 * n + 1)) (S (20 + s) (3 * n + 2))) else M
theorem x_rd_iy {s : Int} : ∀ (f : Nat) (n : Int) (S M : ol_M), iy S M → iy (sp_rd s f n S).2 (x_rd s f n S M) := by
  intro f
  induction f with
  | zero => intro n S M h; exact h
  | succ f ih =>
    intro n S M h
    unfold sp_rd x_rd
    split
    · exact ih _ _ _ h.addw
    · exact h
theorem x_rd_fx {s : Int} : ∀ (f : Nat) (n : Int) (S M M0 : ol_M), fx M0 M → fx M0 (x_rd s f n S M) := by
  intro f
  induction f with
  | zero => intro n S M M0 h; exact h
  | succ f ih =>
    intro n S M M0 h
    unfold x_rd
    split
    · exact ih _ _ _ _ h.wr
    · exact h
theorem x_read {n : Nat} {S M : ol_M} (h : ix S M) (hs : sp_ok S) {s : Int} (r1 : ol_r s) : x_ok n 3 q_X8_read [.inl s] S M (sp_read S s) := by
  unfold sp_read
  by_cases c : 0 ≤ s ∧ s ≤ 3
  · rw [if_neg (fun q => q c)]
    obtain ⟨z1, z2, z3⟩ := ix_sz hs h (s := s) (by omega) (by omega)
    have r2 : ol_r (M 113 s) := ⟨by omega, by omega⟩
    by_cases c2 : S 15 s < 0
    · rw [if_pos c2]
      exact ⟨_, ol_Ri (q := q_X8_read) (by decide +kernel) (Nat.le_of_ble_eq_true rfl) (Or.inl rfl) (fun Rt A hA hr => b_X8_read_0 hA s M ⟨r1, ol_if.pos (by omega) ⟨c.1, by omega, r2, ol_if.pos (by omega) hr⟩⟩), ix_find hs h 1, fx.rf.ms⟩
    · rw [if_neg c2]
      refine ⟨xw (x_rd s 20 0 S M), ol_Ri (q := q_X8_read) (by decide +kernel) (Nat.le_of_ble_eq_true rfl) (Or.inl rfl) (fun Rt A hA hr => b_X8_read_0 hA s M ⟨r1, ol_if.pos (by omega) ⟨c.1, by omega, r2, ol_if.neg (by omega) ?_⟩⟩), iy_xw (x_rd_iy 20 0 S M h.1), fx_xw (x_rd_fx 20 0 S M M fx.rf)⟩
      have key : ∀ (f : Nat) (k : Int) (S' M' : ol_M), 0 ≤ k → k + f = 20 → iy S' M' → sp_ok S' → 0 ≤ S' 15 s → Rt (some (.inl (sp_rd s f k S').1)) (xw (x_rd s f k S' M')) → A 32 [some (.inr (.inr 0)), some (.inl s), some (.inl k), some (.inl (3 * k)), none, none, none] [] M' := by
        intro f
        induction f with
        | zero =>
          intro k S' M' k0 kf h' hs' hf hr'
          have g3 := ((h'.2.2.2.2.2.2.2.2 s (by omega) (by omega)).2.2 hf).2.1
          have o3 := ((hs'.h s (by omega) (by omega)).2 hf).1
          exact b_X8_read_32 hA s k (3 * k) M' ⟨c.1, by omega, ⟨by omega, by omega⟩, ⟨by omega, by omega⟩, ol_if.pos (by omega) hr'⟩
        | succ f ih =>
          intro k S' M' k0 kf h' hs' hf hr'
          obtain ⟨g2, g3, g4⟩ := (h'.2.2.2.2.2.2.2.2 s (by omega) (by omega)).2.2 hf
          obtain ⟨o3, o4⟩ := (hs'.h s (by omega) (by omega)).2 hf
          have ew := h'.2.2.2.2.1.1
          have ow := hs'.w.1
          refine b_X8_read_32 hA s k (3 * k) M' ⟨c.1, by omega, ⟨by omega, by omega⟩, ⟨by omega, by omega⟩, ?_⟩
          unfold sp_rd x_rd at hr'
          by_cases d1 : 3 * k + 3 ≤ S' 16 s
          · refine ol_if.neg (by omega) ⟨⟨by omega, by omega⟩, ?_⟩
            by_cases d3 : S' 0 2 < 12
            · refine ol_if.neg (by omega) ⟨c.1, by omega, by omega, by omega, c.1, by omega, by omega, by omega, c.1, by omega, by omega, by omega, ?_⟩
              rw [g4 (3 * k) (by omega) (by omega), g4 (3 * k + 1) (by omega) (by omega), g4 (3 * k + 2) (by omega) (by omega)]
              refine ⟨o4 (3 * k) (by omega) (by omega), o4 (3 * k + 1) (by omega) (by omega), o4 (3 * k + 2) (by omega) (by omega), ?_⟩
              by_cases d2 : (0 ≤ S' (20 + s) (3 * k) ∧ S' (20 + s) (3 * k) ≤ 11) ∧ (0 ≤ S' (20 + s) (3 * k + 1) ∧ S' (20 + s) (3 * k + 1) ≤ 7) ∧ (0 ≤ S' (20 + s) (3 * k + 2) ∧ S' (20 + s) (3 * k + 2) ≤ 7)
              · rw [if_pos ⟨d1, d3, d2⟩, if_pos ⟨d1, d3, d2⟩] at hr'
                refine ol_if.pos (by omega) ⟨_, x_addw (by omega) (by omega), ?_⟩
                have z := ih (k + 1) _ _ (by omega) (by omega) h'.addw (sp_addw_ok hs' d2 d3) (by rw [sp_addw_ne (by decide)]; exact hf) hr'
                rw [show 3 * (k + 1) = 3 * k + 3 by omega] at z
                exact z
              · rw [if_neg (fun q => d2 q.2.2), if_neg (fun q => d2 q.2.2)] at hr'
                exact ol_if.neg (by omega) hr'
            · rw [if_neg (fun q => d3 q.2.1), if_neg (fun q => d3 q.2.1)] at hr'
              exact ol_if.pos (by omega) hr'
          · rw [if_neg (fun q => d1 q.1), if_neg (fun q => d1 q.1)] at hr'
            exact ol_if.pos (by omega) hr'
      exact key 20 0 S M (by decide) (by decide) h.1 hs (by omega) hr
  · rw [if_pos c]
    exact x_ok.of ⟨M, ol_Ri (q := q_X8_read) (by decide +kernel) (Nat.le_of_ble_eq_true rfl) (Or.inl rfl) (fun Rt A hA hr => b_X8_read_0 hA s M ⟨r1, ol_if.neg (by omega) hr⟩), h, fx.rf⟩
/-- sights have changed -/
theorem ix.keeps {S M S' M' : ol_M} (hs : sp_ok S) (h : ix S M) (eM : ∀ c, c ≠ 37 → ¬ (46 ≤ c ∧ c ≤ 49) → M' c = M c) (e37 : ∀ j, j ≠ 14 → M' 37 j = M 37 j) (eS : ∀ k, k ≠ 0 → ¬ (11 ≤ k ∧ k ≤ 14) → S' k = S k) (e0 : ∀ j, j ≠ 4 → S' 0 j = S 0 j) (hh : ix_s S' M') : ix S' M' :=
  h.same hs.1 ⟨fun j j0 j1 => e0 j (by omega), fun k k0 k1 => eS k (by omega) (by omega)⟩ ⟨fun c _ _ b d => eM c b d, e37, fun j _ => by rw [eM 0 (by decide) (by decide)]⟩ hh (h.f.keep (e0 _ (by decide)) (by rw [eM 0 (by decide) (by decide)]) (fun c a _ => eM c (by omega) (by omega))) (h.h.keep (fun k q => eS k (by omega) (by omega)) (fun c a _ => eM c (by omega) (by omega)))
theorem x_seen {n : Nat} {S M : ol_M} (h : ix S M) (hs : sp_ok S) {m w t l : Int} (r1 : ol_r m) (r2 : ol_r w) (r3 : ol_r t) (r4 : ol_r l) : x_ok n 2 q_X8_seen [.inl m, .inl w, .inl t, .inl l] S M (sp_seen S m w t l) := by
  obtain ⟨e, g2⟩ := h.s
  have o := hs.2.2.2.2.1.1
  have r5 : ol_r (M 37 14) := ⟨by omega, by omega⟩
  unfold sp_seen
  by_cases c : (0 ≤ m ∧ m ≤ 11) ∧ (0 ≤ w ∧ w ≤ 7) ∧ (0 ≤ t ∧ t ≤ 7) ∧ (0 ≤ l ∧ l ≤ 99)
  · rw [if_neg (fun q => q c)]
    by_cases c2 : S 0 4 = 8
    · rw [if_pos c2]
      exact ⟨M, ol_Ri (q := q_X8_seen) (by decide +kernel) (Nat.le_of_ble_eq_true rfl) (Or.inl rfl) (fun Rt A hA hr => b_X8_seen_0 hA m w t l M ⟨r1, ol_if.pos (by omega) ⟨r2, ol_if.pos (by omega) ⟨r3, ol_if.pos (by omega) ⟨r4, ol_if.pos (by omega) ⟨r5, ol_if.neg (by omega) hr⟩⟩⟩⟩⟩), h, fx.rf⟩
    · rw [if_neg c2]
      refine x_ok.of ⟨_, ol_Ri (q := q_X8_seen) (by decide +kernel) (Nat.le_of_ble_eq_true rfl) (Or.inl rfl) (fun Rt A hA hr => b_X8_seen_0 hA m w t l M ⟨r1, ol_if.pos (by omega) ⟨r2, ol_if.pos (by omega) ⟨r3, ol_if.pos (by omega) ⟨r4, ol_if.pos (by omega) ⟨r5, ol_if.pos (by omega) ⟨_, ol_Ri (q := q_X7_addSight) (by decide +kernel) (Nat.le_of_ble_eq_true rfl) rfl (fun Rt A hA hr => b_X7_addSight_0 hA m w t l M ⟨r5, ol_if.neg (by omega) ⟨by omega, by omega, by omega, by omega, by omega, by omega, by omega, by omega, hr⟩⟩), ol_rt hr (by rw [ol_msA, e])⟩⟩⟩⟩⟩⟩), h.keeps hs (fun c a b => ?_) (fun j q => ?_) (fun k a b => ?_) (fun j q => ?_) ?_, ((((fx.rf.ms).ms).ms).ms).ms⟩
      · rw [ol_ms_ne _ _ _ (by omega), ol_ms_ne _ _ _ (by omega), ol_ms_ne _ _ _ (by omega), ol_ms_ne _ _ _ (by omega), ol_ms_ne _ _ _ (by omega)]
      · rw [ol_ms_i _ _ _ q, ol_ms_ne _ _ _ (by decide), ol_ms_ne _ _ _ (by decide), ol_ms_ne _ _ _ (by decide), ol_ms_ne _ _ _ (by decide)]
      · unfold sp_adds
        rw [ol_ms_ne _ _ _ (by omega), ol_ms_ne _ _ _ (by omega), ol_ms_ne _ _ _ (by omega), ol_ms_ne _ _ _ (by omega), ol_ms_ne _ _ _ (by omega)]
      · unfold sp_adds
        rw [ol_ms_i _ _ _ q, ol_ms_ne _ _ _ (by decide), ol_ms_ne _ _ _ (by decide), ol_ms_ne _ _ _ (by decide), ol_ms_ne _ _ _ (by decide)]
      · unfold ix_s
        rw [ol_msA, show sp_adds S m w t l 0 4 = S 0 4 + 1 by simp [sp_adds, ol_ms, ol_mp, ol_rs], show sp_adds S m w t l 11 = ol_rs (S 11) (S 0 4) m by simp [sp_adds, ol_ms, ol_mp], show sp_adds S m w t l 12 = ol_rs (S 12) (S 0 4) w by simp [sp_adds, ol_ms, ol_mp], show sp_adds S m w t l 13 = ol_rs (S 13) (S 0 4) t by simp [sp_adds, ol_ms, ol_mp], show sp_adds S m w t l 14 = ol_rs (S 14) (S 0 4) l by simp [sp_adds, ol_ms, ol_mp]]
        refine ⟨by rw [e], fun k k0 k1 => ?_⟩
        rw [ol_ms_ne _ _ _ (show (46 : Int) ≠ 37 by decide), ol_ms_ne _ _ _ (show (47 : Int) ≠ 37 by decide), ol_ms_ne _ _ _ (show (48 : Int) ≠ 37 by decide), ol_ms_ne _ _ _ (show (49 : Int) ≠ 37 by decide), ol_ms_ne _ _ _ (show (46 : Int) ≠ 49 by decide), ol_ms_ne _ _ _ (show (47 : Int) ≠ 49 by decide), ol_ms_ne _ _ _ (show (48 : Int) ≠ 49 by decide), ol_ms_ne _ _ _ (show (46 : Int) ≠ 48 by decide), ol_ms_ne _ _ _ (show (47 : Int) ≠ 48 by decide), ol_ms_ne _ _ _ (show (46 : Int) ≠ 47 by decide), ol_ms_row, ol_ms_row, ol_ms_row, ol_ms_row, ol_ms_ne _ _ _ (show (47 : Int) ≠ 46 by decide), ol_ms_ne _ _ _ (show (48 : Int) ≠ 47 by decide), ol_ms_ne _ _ _ (show (48 : Int) ≠ 46 by decide), ol_ms_ne _ _ _ (show (49 : Int) ≠ 48 by decide), ol_ms_ne _ _ _ (show (49 : Int) ≠ 47 by decide), ol_ms_ne _ _ _ (show (49 : Int) ≠ 46 by decide), e]
        by_cases kw : k = S 0 4
        · rw [kw, ol_rsA, ol_rsA, ol_rsA, ol_rsA, ol_rsA, ol_rsA, ol_rsA, ol_rsA]
          exact ⟨rfl, rfl, rfl, rfl⟩
        · rw [ol_rsN _ _ kw, ol_rsN _ _ kw, ol_rsN _ _ kw, ol_rsN _ _ kw, ol_rsN _ _ kw, ol_rsN _ _ kw, ol_rsN _ _ kw, ol_rsN _ _ kw]
          exact g2 k k0 (by omega)
  · rw [if_pos c]
    exact ⟨M, ol_Ri (q := q_X8_seen) (by decide +kernel) (Nat.le_of_ble_eq_true rfl) (Or.inl rfl) (fun Rt A hA hr => b_X8_seen_0 hA m w t l M ⟨r1, ol_if.mk (fun d1 => ⟨r2, ol_if.mk (fun d2 => ⟨r3, ol_if.mk (fun d3 => ⟨r4, ol_if.neg (by omega) hr⟩) (fun _ => hr)⟩) (fun _ => hr)⟩) (fun _ => hr)⟩), h, fx.rf⟩
theorem x_forget {n : Nat} {S M : ol_M} (h : ix S M) (hs : sp_ok S) : x_ok n 1 q_X8_forget [] S M (sp_forget S) := by
  refine x_ok.of ⟨_, ol_Ri (q := q_X8_forget) (by decide +kernel) (Nat.le_of_ble_eq_true rfl) (Or.inl rfl) (fun Rt A hA hr => b_X8_forget_0 hA M (ol_rt hr h.s.1.symm)), h.keeps hs (fun c a _ => ol_ms_ne _ _ _ a) (fun j q => ol_ms_i _ _ _ q) (fun k a _ => ol_ms_ne _ _ _ a) (fun j q => ol_ms_i _ _ _ q) ⟨by rw [ol_msA, ol_msA], fun k k0 k1 => ?_⟩, fx.rf.ms⟩
  rw [ol_msA] at k1
  omega
