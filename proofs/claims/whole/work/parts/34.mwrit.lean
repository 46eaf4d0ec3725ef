/-- behind 'writes' -/
def m_wr (M : ol_M) (m h t : Int) : ol_M := ol_ms (ol_ms (ol_ms (ol_ms M 145 (3 * (M 132 15)) m) 145 ((3 * (M 132 15)) + 1) h) 145 ((3 * (M 132 15)) + 2) t) 132 15 ((M 132 15) + 1)
theorem m_writes {n : Nat} {M : ol_M} {m h t : Int} (h0 : 0 ≤ M 132 15) (h1 : M 132 15 < 24) : ol_R (ol_lay n) 1 q_X9_writes [.inr (.inr 132), .inl m, .inl h, .inl t] M none (m_wr M m h t) :=
  ol_Ri (q := q_X9_writes) (by decide +kernel) (Nat.le_of_ble_eq_true rfl) rfl fun Rt A hA hr => b_X9_writes_0 hA m h t M ⟨by omega, by omega, by omega, by omega, by omega, by omega, hr⟩
theorem m_wr_row {M : ol_M} {m h t : Int} : m_wr M m h t 145 = ol_rs (ol_rs (ol_rs (M 145) (3 * M 132 15) m) (3 * M 132 15 + 1) h) (3 * M 132 15 + 2) t := by
  simp [m_wr, ol_ms, ol_mp]
theorem m_wr_132 {M : ol_M} {m h t : Int} : m_wr M m h t 132 = ol_rs (M 132) 15 (M 132 15 + 1) := by
  simp [m_wr, ol_ms, ol_mp]
theorem m_wr_ne {M : ol_M} {m h t k : Int} (a : k ≠ 132) (b : k ≠ 145) : m_wr M m h t k = M k := by
  unfold m_wr
  rw [ol_ms_ne _ _ _ a, ol_ms_ne _ _ _ b, ol_ms_ne _ _ _ b, ol_ms_ne _ _ _ b]
theorem sp_addw_ne {S : ol_M} {m h t k : Int} (a : 7 ≤ k ∨ (0 < k ∧ k < 4)) : sp_addw S m h t k = S k := by
  unfold sp_addw
  rw [ol_ms_ne _ _ _ (by omega), ol_ms_ne _ _ _ (by omega), ol_ms_ne _ _ _ (by omega), ol_ms_ne _ _ _ (by omega)]
theorem sp_addw_0 {S : ol_M} {m h t : Int} : sp_addw S m h t 0 = ol_rs (S 0) 2 (S 0 2 + 1) := by simp [sp_addw, ol_ms, ol_mp]
theorem sp_addw_4 {S : ol_M} {m h t : Int} : sp_addw S m h t 4 = ol_rs (S 4) (S 0 2) m := by simp [sp_addw, ol_ms, ol_mp]
theorem sp_addw_5 {S : ol_M} {m h t : Int} : sp_addw S m h t 5 = ol_rs (S 5) (S 0 2) h := by simp [sp_addw, ol_ms, ol_mp]
theorem sp_addw_6 {S : ol_M} {m h t : Int} : sp_addw S m h t 6 = ol_rs (S 6) (S 0 2) t := by simp [sp_addw, ol_ms, ol_mp]
theorem im.addw {S M : ol_M} (hi : im S M) {m h t : Int} : im (sp_addw S m h t) (m_wr M m h t) := by
  obtain ⟨h1, h2, h3, h4, h5, h6, h7, h8⟩ := hi
  have e0 : ∀ k, k ≠ 2 → sp_addw S m h t 0 k = S 0 k := fun k q => by rw [sp_addw_0, ol_rsN _ _ q]
  have e1 : ∀ k, k ≠ 15 → m_wr M m h t 132 k = M 132 k := fun k q => by rw [m_wr_132, ol_rsN _ _ q]
  refine ⟨h1.keep (e0 0 (by decide)) (e0 1 (by decide)) (sp_addw_ne (by decide)) (sp_addw_ne (by decide)) (m_wr_ne (by decide) (by decide)) (m_wr_ne (by decide) (by decide)), h2.keep (sp_addw_ne (by decide)) (m_wr_ne (by decide) (by decide)), ?_, h4.keep (e0 3 (by decide)) (sp_addw_ne (by decide)) (sp_addw_ne (by decide)) (sp_addw_ne (by decide)) (sp_addw_ne (by decide)) (e1 17 (by decide)) (m_wr_ne (by decide) (by decide)), h5.keep (e0 4 (by decide)) (sp_addw_ne (by decide)) (sp_addw_ne (by decide)) (sp_addw_ne (by decide)) (sp_addw_ne (by decide)) (e1 26 (by decide)) (m_wr_ne (by decide) (by decide)), h6.keep (e0 5 (by decide)) (e1 4 (by decide)), h7.keep (e1 24 (by decide)), h8.keep (fun k q => sp_addw_ne (Or.inl (by omega))) (m_wr_ne (by decide) (by decide)) (m_wr_ne (by decide) (by decide)) (m_wr_ne (by decide) (by decide))⟩
  obtain ⟨g1, g2⟩ := h3
  unfold im_w
  rw [m_wr_132, m_wr_row, sp_addw_0, sp_addw_4, sp_addw_5, sp_addw_6, g1, ol_rsA, ol_rsA]
  refine ⟨rfl, fun k k0 k1 => ?_⟩
  by_cases kw : k = S 0 2
  · subst kw
    rw [ol_rsA, ol_rsA, ol_rsA]
    refine ⟨?_, ?_, (ol_rsA _ _ _).symm⟩
    · rw [ol_rsN _ _ (by omega), ol_rsN _ _ (by omega), ol_rsA]
    · rw [ol_rsN _ _ (by omega), ol_rsA]
  · rw [ol_rsN _ _ kw, ol_rsN _ _ kw, ol_rsN _ _ kw]
    obtain ⟨a, b, c⟩ := g2 k k0 (by omega)
    refine ⟨?_, ?_, ?_⟩
    · rw [ol_rsN _ _ (by omega), ol_rsN _ _ (by omega), ol_rsN _ _ (by omega)]; exact a
    · rw [ol_rsN _ _ (by omega), ol_rsN _ _ (by omega), ol_rsN _ _ (by omega)]; exact b
    · rw [ol_rsN _ _ (by omega), ol_rsN _ _ (by omega), ol_rsN _ _ (by omega)]; exact c
theorem fm.wr {M M' : ol_M} (h0 : fm M M') {m h t : Int} : fm M (m_wr M' m h t) := fun k q => (m_wr_ne (by omega) (by omega)).trans (h0 k q)
theorem m_writing' {n : Nat} {S M : ol_M} (h : im S M) (hs : sp_ok_w S) {m w t : Int} (r1 : ol_r m) (r2 : ol_r w) (r3 : ol_r t) : m_ok n 3 q_X9_writing [.inl m, .inl w, .inl t] S M (sp_writing S m w t) := by
  obtain ⟨⟨o1, o2⟩, -⟩ := hs
  have e := h.2.2.1.1
  have r4 : ol_r (M 132 15) := ⟨by omega, by omega⟩
  unfold sp_writing
  by_cases c : (0 ≤ m ∧ m ≤ 11) ∧ (0 ≤ w ∧ w ≤ 7) ∧ (0 ≤ t ∧ t ≤ 7)
  · rw [if_neg (fun q => q c)]
    by_cases c2 : S 0 2 = 12
    · rw [if_pos c2]
      refine m_ok.of ⟨M, ol_Ri (q := q_X9_writing) (by decide +kernel) (Nat.le_of_ble_eq_true rfl) (Or.inl rfl) (fun Rt A hA hr => b_X9_writing_0 hA m w t M ⟨r1, ol_if.pos c.1 ⟨r2, ol_if.pos c.2.1 ⟨r3, ol_if.pos c.2.2 (ol_if.pos (by omega) hr)⟩⟩⟩), h, fm.rf⟩
    · rw [if_neg c2]
      refine m_ok.of ⟨m_wr M m w t, ol_Ri (q := q_X9_writing) (by decide +kernel) (Nat.le_of_ble_eq_true rfl) (Or.inl rfl) (fun Rt A hA hr => b_X9_writing_0 hA m w t M ⟨r1, ol_if.pos c.1 ⟨r2, ol_if.pos c.2.1 ⟨r3, ol_if.pos c.2.2 (ol_if.neg (by omega) ⟨r4, _, m_writes (by omega) (by omega), ol_rt hr (by rw [m_wr_132, ol_rsA, e])⟩)⟩⟩⟩), h.addw, fm.rf.wr⟩
  · rw [if_pos c]
    refine m_ok.of ⟨M, ol_Ri (q := q_X9_writing) (by decide +kernel) (Nat.le_of_ble_eq_true rfl) (Or.inl rfl) (fun Rt A hA hr => b_X9_writing_0 hA m w t M ?_), h, fm.rf⟩
    repeat' (first | exact hr | assumption | omega | exact ol_r_l (by assumption) | exact ⟨by decide, by decide⟩ | refine ol_if.mk (fun _ => ?_) (fun _ => ?_) | refine And.intro ?_ ?_)
theorem sp_ok.w {S : ol_M} (h : sp_ok S) : sp_ok_w S := h.2.2.1
theorem m_writing {n : Nat} {S M : ol_M} (h : im S M) (hs : sp_ok S) {m w t : Int} (r1 : ol_r m) (r2 : ol_r w) (r3 : ol_r t) : m_ok n 3 q_X9_writing [.inl m, .inl w, .inl t] S M (sp_writing S m w t) := m_writing' h hs.w r1 r2 r3
theorem m_lending {n : Nat} {S M : ol_M} (h : im S M) (hs : sp_ok S) {m w t l : Int} (r1 : ol_r m) (r2 : ol_r w) (r3 : ol_r t) (r4 : ol_r l) : m_ok n 3 q_X9_lending [.inl m, .inl w, .inl t, .inl l] S M (sp_lending S m w t l) := by
  obtain ⟨h1, h2, h3, h4, h5, h6, h7, h8⟩ := id h
  obtain ⟨⟨o1, o2⟩, -⟩ := hs.2.2.2.1
  have e := h4.1
  have r5 : ol_r (M 132 17) := ⟨by omega, by omega⟩
  unfold sp_lending
  by_cases c : (0 ≤ m ∧ m ≤ 11) ∧ (0 ≤ w ∧ w ≤ 7) ∧ (0 ≤ t ∧ t ≤ 7) ∧ (0 ≤ l ∧ l ≤ 7) ∧ w ≠ t
  · rw [if_neg (fun q => q c)]
    have go : ∀ {Rt : Option ol_V → ol_M → Prop} {A : Nat → ol_Ls → ol_St → ol_M → Prop} (hA : ol_C q_X9_lending.1.cls q_X9_lending.2.1 2 (ol_lay n) Rt A), A 37 [some (.inr (.inr 132)), some (.inl m), some (.inl w), some (.inl t), some (.inl l)] [] M → A 0 [some (.inr (.inr 132)), some (.inl m), some (.inl w), some (.inl t), some (.inl l)] [] M := fun hA hr => b_X9_lending_0 hA m w t l M ⟨r1, ol_if.pos c.1 ⟨r2, ol_if.pos c.2.1 ⟨r3, ol_if.pos c.2.2.1 (ol_if.neg c.2.2.2.2 ⟨r2, r3, r4, ol_if.pos c.2.2.2.1 hr⟩)⟩⟩⟩
    by_cases c2 : S 0 3 = 8
    · rw [if_pos c2]
      refine m_ok.of ⟨M, ol_Ri (q := q_X9_lending) (by decide +kernel) (Nat.le_of_ble_eq_true rfl) (Or.inl rfl) (fun Rt A hA hr => go hA (b_X9_lending_37 hA m w t l M (ol_if.pos (by omega) hr))), h, fm.rf⟩
    · rw [if_neg c2]
      refine m_ok.of ⟨_, ol_Ri (q := q_X9_lending) (by decide +kernel) (Nat.le_of_ble_eq_true rfl) (Or.inl rfl) (fun Rt A hA hr => go hA (b_X9_lending_37 hA m w t l M (ol_if.neg (by omega) ⟨r5, by omega, by omega, by omega, by omega, by omega, by omega, by omega, by omega, ol_rt hr (by rw [e])⟩))), ?_, fm.rf.ms.ms.ms.ms.ms⟩
      refine ⟨h1.keep (by simp [sp_addl, ol_ms, ol_mp, ol_rs]) (by simp [sp_addl, ol_ms, ol_mp, ol_rs]) (by simp [sp_addl, ol_ms, ol_mp, ol_rs]) (by simp [sp_addl, ol_ms, ol_mp, ol_rs]) (by simp [ol_ms, ol_mp, ol_rs]) (by simp [ol_ms, ol_mp, ol_rs]), h2.keep (by simp [sp_addl, ol_ms, ol_mp, ol_rs]) (by simp [ol_ms, ol_mp, ol_rs]), h3.keep (by simp [sp_addl, ol_ms, ol_mp, ol_rs]) (by simp [sp_addl, ol_ms, ol_mp, ol_rs]) (by simp [sp_addl, ol_ms, ol_mp, ol_rs]) (by simp [sp_addl, ol_ms, ol_mp, ol_rs]) (by simp [ol_ms, ol_mp, ol_rs]) (by simp [ol_ms, ol_mp, ol_rs]), ?_, h5.keep (by simp [sp_addl, ol_ms, ol_mp, ol_rs]) (by simp [sp_addl, ol_ms, ol_mp, ol_rs]) (by simp [sp_addl, ol_ms, ol_mp, ol_rs]) (by simp [sp_addl, ol_ms, ol_mp, ol_rs]) (by simp [sp_addl, ol_ms, ol_mp, ol_rs]) (by simp [ol_ms, ol_mp, ol_rs]) (by simp [ol_ms, ol_mp, ol_rs]), h6.keep (by simp [sp_addl, ol_ms, ol_mp, ol_rs]) (by simp [ol_ms, ol_mp, ol_rs]), h7.keep (by simp [ol_ms, ol_mp, ol_rs]), h8.keep (fun k q => by unfold sp_addl; rw [ol_ms_ne _ _ _ (by omega), ol_ms_ne _ _ _ (by omega), ol_ms_ne _ _ _ (by omega), ol_ms_ne _ _ _ (by omega), ol_ms_ne _ _ _ (by omega)]) (by simp [ol_ms, ol_mp, ol_rs]) (by simp [ol_ms, ol_mp, ol_rs]) (by simp [ol_ms, ol_mp, ol_rs])⟩
      obtain ⟨g1, g2⟩ := h4
      unfold im_l
      rw [show sp_addl S m w t l 0 3 = S 0 3 + 1 by simp [sp_addl, ol_ms, ol_mp, ol_rs], show sp_addl S m w t l 7 = ol_rs (S 7) (S 0 3) m by simp [sp_addl, ol_ms, ol_mp], show sp_addl S m w t l 8 = ol_rs (S 8) (S 0 3) w by simp [sp_addl, ol_ms, ol_mp], show sp_addl S m w t l 9 = ol_rs (S 9) (S 0 3) t by simp [sp_addl, ol_ms, ol_mp], show sp_addl S m w t l 10 = ol_rs (S 10) (S 0 3) l by simp [sp_addl, ol_ms, ol_mp]]
      refine ⟨by rw [ol_msA, e], fun k k0 k1 => ?_⟩
      rw [ol_ms_ne _ _ _ (show (146 : Int) ≠ 132 by decide), ol_ms_row, ol_ms_row, ol_ms_row, ol_ms_row, e]
      by_cases kw : k = S 0 3
      · subst kw
        rw [ol_rsA, ol_rsA, ol_rsA, ol_rsA]
        refine ⟨?_, ?_, ?_, (ol_rsA _ _ _).symm⟩
        · rw [ol_rsN _ _ (by omega), ol_rsN _ _ (by omega), ol_rsN _ _ (by omega), ol_rsA]
        · rw [ol_rsN _ _ (by omega), ol_rsN _ _ (by omega), ol_rsA]
        · rw [ol_rsN _ _ (by omega), ol_rsA]
      · rw [ol_rsN _ _ kw, ol_rsN _ _ kw, ol_rsN _ _ kw, ol_rsN _ _ kw]
        obtain ⟨a, b, c, d⟩ := g2 k k0 (by omega)
        refine ⟨?_, ?_, ?_, ?_⟩
        · rw [ol_rsN _ _ (by omega), ol_rsN _ _ (by omega), ol_rsN _ _ (by omega), ol_rsN _ _ (by omega)]; exact a
        · rw [ol_rsN _ _ (by omega), ol_rsN _ _ (by omega), ol_rsN _ _ (by omega), ol_rsN _ _ (by omega)]; exact b
        · rw [ol_rsN _ _ (by omega), ol_rsN _ _ (by omega), ol_rsN _ _ (by omega), ol_rsN _ _ (by omega)]; exact c
        · rw [ol_rsN _ _ (by omega), ol_rsN _ _ (by omega), ol_rsN _ _ (by omega), ol_rsN _ _ (by omega)]; exact d
  · rw [if_pos c]
    refine m_ok.of ⟨M, ol_Ri (q := q_X9_lending) (by decide +kernel) (Nat.le_of_ble_eq_true rfl) (Or.inl rfl) (fun Rt A hA hr => b_X9_lending_0 hA m w t l M ?_), h, fm.rf⟩
    repeat' (first | exact hr | assumption | omega | exact ol_r_l (by assumption) | exact ⟨by decide, by decide⟩ | refine ol_if.mk (fun _ => ?_) (fun _ => ?_) | refine And.intro ?_ ?_)
theorem m_seen {n : Nat} {S M : ol_M} (h : im S M) (hs : sp_ok S) {m w t l : Int} (r1 : ol_r m) (r2 : ol_r w) (r3 : ol_r t) (r4 : ol_r l) : m_ok n 3 q_X9_seen [.inl m, .inl w, .inl t, .inl l] S M (sp_seen S m w t l) := by
  obtain ⟨h1, h2, h3, h4, h5, h6, h7, h8⟩ := id h
  obtain ⟨⟨o1, o2⟩, -⟩ := hs.2.2.2.2.1
  have e := h5.1
  have r5 : ol_r (M 132 26) := ⟨by omega, by omega⟩
  unfold sp_seen
  by_cases c : (0 ≤ m ∧ m ≤ 11) ∧ (0 ≤ w ∧ w ≤ 7) ∧ (0 ≤ t ∧ t ≤ 7) ∧ (0 ≤ l ∧ l ≤ 99)
  · rw [if_neg (fun q => q c)]
    have go : ∀ {Rt : Option ol_V → ol_M → Prop} {A : Nat → ol_Ls → ol_St → ol_M → Prop} (hA : ol_C q_X9_seen.1.cls q_X9_seen.2.1 2 (ol_lay n) Rt A), A 37 [some (.inr (.inr 132)), some (.inl m), some (.inl w), some (.inl t), some (.inl l)] [] M → A 0 [some (.inr (.inr 132)), some (.inl m), some (.inl w), some (.inl t), some (.inl l)] [] M := fun hA hr => b_X9_seen_0 hA m w t l M ⟨r1, ol_if.pos c.1 ⟨r2, ol_if.pos c.2.1 ⟨r3, ol_if.pos c.2.2.1 ⟨r4, ol_r_l r4, ol_if.pos c.2.2.2 hr⟩⟩⟩⟩
    by_cases c2 : S 0 4 = 8
    · rw [if_pos c2]
      refine m_ok.of ⟨M, ol_Ri (q := q_X9_seen) (by decide +kernel) (Nat.le_of_ble_eq_true rfl) (Or.inl rfl) (fun Rt A hA hr => go hA (b_X9_seen_37 hA m w t l M (ol_if.pos (by omega) hr))), h, fm.rf⟩
    · rw [if_neg c2]
      refine m_ok.of ⟨_, ol_Ri (q := q_X9_seen) (by decide +kernel) (Nat.le_of_ble_eq_true rfl) (Or.inl rfl) (fun Rt A hA hr => go hA (b_X9_seen_37 hA m w t l M (ol_if.neg (by omega) ⟨r5, by omega, by omega, by omega, by omega, by omega, by omega, by omega, by omega, ol_rt hr (by rw [e])⟩))), ?_, fm.rf.ms.ms.ms.ms.ms⟩
      refine ⟨h1.keep (by simp [sp_adds, ol_ms, ol_mp, ol_rs]) (by simp [sp_adds, ol_ms, ol_mp, ol_rs]) (by simp [sp_adds, ol_ms, ol_mp, ol_rs]) (by simp [sp_adds, ol_ms, ol_mp, ol_rs]) (by simp [ol_ms, ol_mp, ol_rs]) (by simp [ol_ms, ol_mp, ol_rs]), h2.keep (by simp [sp_adds, ol_ms, ol_mp, ol_rs]) (by simp [ol_ms, ol_mp, ol_rs]), h3.keep (by simp [sp_adds, ol_ms, ol_mp, ol_rs]) (by simp [sp_adds, ol_ms, ol_mp, ol_rs]) (by simp [sp_adds, ol_ms, ol_mp, ol_rs]) (by simp [sp_adds, ol_ms, ol_mp, ol_rs]) (by simp [ol_ms, ol_mp, ol_rs]) (by simp [ol_ms, ol_mp, ol_rs]), h4.keep (by simp [sp_adds, ol_ms, ol_mp, ol_rs]) (by simp [sp_adds, ol_ms, ol_mp, ol_rs]) (by simp [sp_adds, ol_ms, ol_mp, ol_rs]) (by simp [sp_adds, ol_ms, ol_mp, ol_rs]) (by simp [sp_adds, ol_ms, ol_mp, ol_rs]) (by simp [ol_ms, ol_mp, ol_rs]) (by simp [ol_ms, ol_mp, ol_rs]), ?_, h6.keep (by simp [sp_adds, ol_ms, ol_mp, ol_rs]) (by simp [ol_ms, ol_mp, ol_rs]), h7.keep (by simp [ol_ms, ol_mp, ol_rs]), h8.keep (fun k q => by unfold sp_adds; rw [ol_ms_ne _ _ _ (by omega), ol_ms_ne _ _ _ (by omega), ol_ms_ne _ _ _ (by omega), ol_ms_ne _ _ _ (by omega), ol_ms_ne _ _ _ (by omega)]) (by simp [ol_ms, ol_mp, ol_rs]) (by simp [ol_ms, ol_mp, ol_rs]) (by simp [ol_ms, ol_mp, ol_rs])⟩
      obtain ⟨g1, g2⟩ := h5
      unfold im_s
      rw [show sp_adds S m w t l 0 4 = S 0 4 + 1 by simp [sp_adds, ol_ms, ol_mp, ol_rs], show sp_adds S m w t l 11 = ol_rs (S 11) (S 0 4) m by simp [sp_adds, ol_ms, ol_mp], show sp_adds S m w t l 12 = ol_rs (S 12) (S 0 4) w by simp [sp_adds, ol_ms, ol_mp], show sp_adds S m w t l 13 = ol_rs (S 13) (S 0 4) t by simp [sp_adds, ol_ms, ol_mp], show sp_adds S m w t l 14 = ol_rs (S 14) (S 0 4) l by simp [sp_adds, ol_ms, ol_mp]]
      refine ⟨by rw [ol_msA, e], fun k k0 k1 => ?_⟩
      rw [ol_ms_ne _ _ _ (show (152 : Int) ≠ 132 by decide), ol_ms_row, ol_ms_row, ol_ms_row, ol_ms_row, e]
      by_cases kw : k = S 0 4
      · subst kw
        rw [ol_rsA, ol_rsA, ol_rsA, ol_rsA]
        refine ⟨?_, ?_, ?_, (ol_rsA _ _ _).symm⟩
        · rw [ol_rsN _ _ (by omega), ol_rsN _ _ (by omega), ol_rsN _ _ (by omega), ol_rsA]
        · rw [ol_rsN _ _ (by omega), ol_rsN _ _ (by omega), ol_rsA]
        · rw [ol_rsN _ _ (by omega), ol_rsA]
      · rw [ol_rsN _ _ kw, ol_rsN _ _ kw, ol_rsN _ _ kw, ol_rsN _ _ kw]
        obtain ⟨a, b, c, d⟩ := g2 k k0 (by omega)
        refine ⟨?_, ?_, ?_, ?_⟩
        · rw [ol_rsN _ _ (by omega), ol_rsN _ _ (by omega), ol_rsN _ _ (by omega), ol_rsN _ _ (by omega)]; exact a
        · rw [ol_rsN _ _ (by omega), ol_rsN _ _ (by omega), ol_rsN _ _ (by omega), ol_rsN _ _ (by omega)]; exact b
        · rw [ol_rsN _ _ (by omega), ol_rsN _ _ (by omega), ol_rsN _ _ (by omega), ol_rsN _ _ (by omega)]; exact c
        · rw [ol_rsN _ _ (by omega), ol_rsN _ _ (by omega), ol_rsN _ _ (by omega), ol_rsN _ _ (by omega)]; exact d
  · rw [if_pos c]
    refine m_ok.of ⟨M, ol_Ri (q := q_X9_seen) (by decide +kernel) (Nat.le_of_ble_eq_true rfl) (Or.inl rfl) (fun Rt A hA hr => b_X9_seen_0 hA m w t l M ?_), h, fm.rf⟩
    repeat' (first | exact hr | assumption | omega | exact ol_r_l (by assumption) | exact ⟨by decide, by decide⟩ | refine ol_if.mk (fun _ => ?_) (fun _ => ?_) | refine And.intro ?_ ?_)
theorem m_forget {n : Nat} {S M : ol_M} (h : im S M) : m_ok n 1 q_X9_forget [] S M (sp_forget S) := by
  obtain ⟨h1, h2, h3, h4, h5, h6, h7, h8⟩ := id h
  refine m_ok.of ⟨_, ol_Ri (q := q_X9_forget) (by decide +kernel) (Nat.le_of_ble_eq_true rfl) (Or.inl rfl) (fun Rt A hA hr => b_X9_forget_0 hA M (ol_rt hr h5.1.symm)), ?_, fm.rf.ms⟩
  refine ⟨h1.keep (by simp [ol_ms, ol_mp, ol_rs]) (by simp [ol_ms, ol_mp, ol_rs]) (by simp [ol_ms, ol_mp, ol_rs]) (by simp [ol_ms, ol_mp, ol_rs]) (by simp [ol_ms, ol_mp, ol_rs]) (by simp [ol_ms, ol_mp, ol_rs]), h2.keep (by simp [ol_ms, ol_mp, ol_rs]) (by simp [ol_ms, ol_mp, ol_rs]), h3.keep (by simp [ol_ms, ol_mp, ol_rs]) (by simp [ol_ms, ol_mp, ol_rs]) (by simp [ol_ms, ol_mp, ol_rs]) (by simp [ol_ms, ol_mp, ol_rs]) (by simp [ol_ms, ol_mp, ol_rs]) (by simp [ol_ms, ol_mp, ol_rs]), h4.keep (by simp [ol_ms, ol_mp, ol_rs]) (by simp [ol_ms, ol_mp, ol_rs]) (by simp [ol_ms, ol_mp, ol_rs]) (by simp [ol_ms, ol_mp, ol_rs]) (by simp [ol_ms, ol_mp, ol_rs]) (by simp [ol_ms, ol_mp, ol_rs]) (by simp [ol_ms, ol_mp, ol_rs]), ⟨by simp [ol_ms, ol_mp, ol_rs], fun k k0 k1 => ?_⟩, h6.keep (by simp [ol_ms, ol_mp, ol_rs]) (by simp [ol_ms, ol_mp, ol_rs]), h7.keep (by simp [ol_ms, ol_mp, ol_rs]), h8.keep (fun k q => ol_ms_ne _ _ _ (by omega)) (by simp [ol_ms, ol_mp, ol_rs]) (by simp [ol_ms, ol_mp, ol_rs]) (by simp [ol_ms, ol_mp, ol_rs])⟩
  rw [ol_msA] at k1
  omega
theorem ol_ms_self (M : ol_M) (k i : Int) : ol_ms M k i (M k i) = M := by
  unfold ol_ms
  rw [show ol_rs (M k) i (M k i) = M k from funext fun j => by unfold ol_rs; split <;> simp_all, ol_mp_self]
/-- fewer writings, or lendings -/
theorem im.fewer {S M : ol_M} (h : im S M) {w v : Int} (c : 0 ≤ w ∧ w ≤ 1) (h0 : v ≤ S 0 (2 + w)) : im (ol_ms S 0 (2 + w) v) (ol_ms M 132 (15 + 2 * w) v) := by
  obtain ⟨h1, h2, h3, h4, h5, h6, h7, h8⟩ := h
  rcases (show w = 0 ∨ w = 1 by omega) with rfl | rfl
  · refine ⟨h1.keep (by simp [ol_ms, ol_mp, ol_rs]) (by simp [ol_ms, ol_mp, ol_rs]) (by simp [ol_ms, ol_mp, ol_rs]) (by simp [ol_ms, ol_mp, ol_rs]) (by simp [ol_ms, ol_mp, ol_rs]) (by simp [ol_ms, ol_mp, ol_rs]), h2.keep (by simp [ol_ms, ol_mp, ol_rs]) (by simp [ol_ms, ol_mp, ol_rs]), ⟨by simp [ol_ms, ol_mp, ol_rs], fun k k0 k1 => ?_⟩, h4.keep (by simp [ol_ms, ol_mp, ol_rs]) (by simp [ol_ms, ol_mp, ol_rs]) (by simp [ol_ms, ol_mp, ol_rs]) (by simp [ol_ms, ol_mp, ol_rs]) (by simp [ol_ms, ol_mp, ol_rs]) (by simp [ol_ms, ol_mp, ol_rs]) (by simp [ol_ms, ol_mp, ol_rs]), h5.keep (by simp [ol_ms, ol_mp, ol_rs]) (by simp [ol_ms, ol_mp, ol_rs]) (by simp [ol_ms, ol_mp, ol_rs]) (by simp [ol_ms, ol_mp, ol_rs]) (by simp [ol_ms, ol_mp, ol_rs]) (by simp [ol_ms, ol_mp, ol_rs]) (by simp [ol_ms, ol_mp, ol_rs]), h6.keep (by simp [ol_ms, ol_mp, ol_rs]) (by simp [ol_ms, ol_mp, ol_rs]), h7.keep (by simp [ol_ms, ol_mp, ol_rs]), h8.keep (fun k q => ol_ms_ne _ _ _ (by omega)) (by simp [ol_ms, ol_mp, ol_rs]) (by simp [ol_ms, ol_mp, ol_rs]) (by simp [ol_ms, ol_mp, ol_rs])⟩
    have z := h3.2 k k0 (by simp [ol_ms, ol_mp, ol_rs] at k1; simp at h0; omega)
    simpa [ol_ms, ol_mp, ol_rs] using z
  · refine ⟨h1.keep (by simp [ol_ms, ol_mp, ol_rs]) (by simp [ol_ms, ol_mp, ol_rs]) (by simp [ol_ms, ol_mp, ol_rs]) (by simp [ol_ms, ol_mp, ol_rs]) (by simp [ol_ms, ol_mp, ol_rs]) (by simp [ol_ms, ol_mp, ol_rs]), h2.keep (by simp [ol_ms, ol_mp, ol_rs]) (by simp [ol_ms, ol_mp, ol_rs]), h3.keep (by simp [ol_ms, ol_mp, ol_rs]) (by simp [ol_ms, ol_mp, ol_rs]) (by simp [ol_ms, ol_mp, ol_rs]) (by simp [ol_ms, ol_mp, ol_rs]) (by simp [ol_ms, ol_mp, ol_rs]) (by simp [ol_ms, ol_mp, ol_rs]), ⟨by simp [ol_ms, ol_mp, ol_rs], fun k k0 k1 => ?_⟩, h5.keep (by simp [ol_ms, ol_mp, ol_rs]) (by simp [ol_ms, ol_mp, ol_rs]) (by simp [ol_ms, ol_mp, ol_rs]) (by simp [ol_ms, ol_mp, ol_rs]) (by simp [ol_ms, ol_mp, ol_rs]) (by simp [ol_ms, ol_mp, ol_rs]) (by simp [ol_ms, ol_mp, ol_rs]), h6.keep (by simp [ol_ms, ol_mp, ol_rs]) (by simp [ol_ms, ol_mp, ol_rs]), h7.keep (by simp [ol_ms, ol_mp, ol_rs]), h8.keep (fun k q => ol_ms_ne _ _ _ (by omega)) (by simp [ol_ms, ol_mp, ol_rs]) (by simp [ol_ms, ol_mp, ol_rs]) (by simp [ol_ms, ol_mp, ol_rs])⟩
    have z := h4.2 k k0 (by simp [ol_ms, ol_mp, ol_rs] at k1; simp at h0; omega)
    simpa [ol_ms, ol_mp, ol_rs] using z
theorem m_back {n : Nat} {S M : ol_M} (h : im S M) (hs : sp_ok S) {w : Int} (r1 : ol_r w) : m_ok n 3 q_X9_back [.inl w] S M (sp_back S w) := by
  have e1 := h.2.2.1.1
  have e2 := h.2.2.2.1.1
  have o1 := hs.2.2.1.1
  have o2 := hs.2.2.2.1.1
  have r2 : ol_r (M 132 15) := ⟨by omega, by omega⟩
  have r3 : ol_r (M 132 17) := ⟨by omega, by omega⟩
  unfold sp_back
  by_cases c : 0 ≤ w ∧ w ≤ 1
  · rw [if_neg (fun q => q c)]
    by_cases c2 : S 0 (2 + w) = 0
    · rw [if_pos c2]
      refine m_ok.of ⟨M, ol_Ri (q := q_X9_back) (by decide +kernel) (Nat.le_of_ble_eq_true rfl) (Or.inl rfl) (fun Rt A hA hr => b_X9_back_0 hA w M ⟨r1, ol_if.pos c (b_X9_back_10 hA w M ?_)⟩), h, fm.rf⟩
      rcases (show w = 0 ∨ w = 1 by omega) with rfl | rfl
      · exact ol_if.pos rfl (ol_if.pos (by rw [e1]; exact c2) hr)
      · exact ol_if.neg (by decide) ⟨r1, ol_if.pos (by rw [e2]; exact c2) hr⟩
    · rw [if_neg c2]
      refine m_ok.of ⟨ol_ms M 132 (15 + 2 * w) (S 0 (2 + w) - 1), ol_Ri (q := q_X9_back) (by decide +kernel) (Nat.le_of_ble_eq_true rfl) (Or.inl rfl) (fun Rt A hA hr => b_X9_back_0 hA w M ⟨r1, ol_if.pos c (b_X9_back_10 hA w M ?_)⟩), h.fewer c (by omega), fm.rf.ms⟩
      rcases (show w = 0 ∨ w = 1 by omega) with rfl | rfl
      · refine ol_if.pos rfl (ol_if.neg (by rw [e1]; exact c2) ⟨r2, ol_if.pos rfl (ol_rtm (ol_rt hr (by rw [e1]; rfl)) ?_)⟩)
        show ol_ms M 132 15 (S 0 2 - 1) = ol_ms (ol_ms M 132 15 (M 132 15 - 1)) 132 17 (M 132 17 - 0)
        rw [e1, show M 132 17 - 0 = (ol_ms M 132 15 (S 0 2 - 1)) 132 17 by rw [ol_ms_i _ _ _ (by decide)]; omega, ol_ms_self]
      · refine ol_if.neg (by decide) ⟨r1, ol_if.neg (by rw [e2]; exact c2) ⟨r3, ol_if.neg (by decide) ⟨r1, ol_rtm (ol_rt hr (by rw [e2]; rfl)) ?_⟩⟩⟩
        show ol_ms M 132 17 (S 0 3 - 1) = ol_ms (ol_ms M 132 15 (M 132 15 - 0)) 132 17 (M 132 17 - 1)
        rw [e2, show M 132 15 - 0 = M 132 15 by omega, ol_ms_self]
  · rw [if_pos c]
    exact m_ok.of ⟨M, ol_Ri (q := q_X9_back) (by decide +kernel) (Nat.le_of_ble_eq_true rfl) (Or.inl rfl) (fun Rt A hA hr => b_X9_back_0 hA w M ⟨r1, ol_if.neg c hr⟩), h, fm.rf⟩
