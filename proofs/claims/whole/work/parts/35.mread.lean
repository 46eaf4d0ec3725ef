theorem m_w_bad {n : Nat} {M : ol_M} {m w t : Int} (r1 : ol_r m) (r2 : ol_r w) (r3 : ol_r t) (c : ¬ ((0 ≤ m ∧ m ≤ 11) ∧ (0 ≤ w ∧ w ≤ 7) ∧ (0 ≤ t ∧ t ≤ 7))) : ol_R (ol_lay n) 3 q_X9_writing [.inr (.inr 132), .inl m, .inl w, .inl t] M (some (.inl (-2))) M := by
  refine ol_Ri (q := q_X9_writing) (by decide +kernel) (Nat.le_of_ble_eq_true rfl) (Or.inl rfl) (fun Rt A hA hr => b_X9_writing_0 hA m w t M ?_)
  repeat' (first | exact hr | assumption | omega | exact ol_r_l (by assumption) | exact ⟨by decide, by decide⟩ | refine ol_if.mk (fun _ => ?_) (fun _ => ?_) | refine And.intro ?_ ?_)
theorem m_w_full {n : Nat} {M : ol_M} {m w t : Int} (r1 : ol_r m) (r2 : ol_r w) (r3 : ol_r t) (c : (0 ≤ m ∧ m ≤ 11) ∧ (0 ≤ w ∧ w ≤ 7) ∧ (0 ≤ t ∧ t ≤ 7)) (e : M 132 15 = 12) : ol_R (ol_lay n) 3 q_X9_writing [.inr (.inr 132), .inl m, .inl w, .inl t] M (some (.inl (-4))) M :=
  ol_Ri (q := q_X9_writing) (by decide +kernel) (Nat.le_of_ble_eq_true rfl) (Or.inl rfl) (fun Rt A hA hr => b_X9_writing_0 hA m w t M ⟨r1, ol_if.pos c.1 ⟨r2, ol_if.pos c.2.1 ⟨r3, ol_if.pos c.2.2 (ol_if.pos (by omega) hr)⟩⟩⟩)
theorem m_w_ok {n : Nat} {M : ol_M} {m w t : Int} (r1 : ol_r m) (r2 : ol_r w) (r3 : ol_r t) (c : (0 ≤ m ∧ m ≤ 11) ∧ (0 ≤ w ∧ w ≤ 7) ∧ (0 ≤ t ∧ t ≤ 7)) (e0 : 0 ≤ M 132 15) (e : M 132 15 < 12) : ol_R (ol_lay n) 3 q_X9_writing [.inr (.inr 132), .inl m, .inl w, .inl t] M (some (.inl (M 132 15 + 1))) (m_wr M m w t) :=
  ol_Ri (q := q_X9_writing) (by decide +kernel) (Nat.le_of_ble_eq_true rfl) (Or.inl rfl) (fun Rt A hA hr => b_X9_writing_0 hA m w t M ⟨r1, ol_if.pos c.1 ⟨r2, ol_if.pos c.2.1 ⟨r3, ol_if.pos c.2.2 (ol_if.neg (by omega) ⟨⟨by omega, by omega⟩, _, m_writes (by omega) (by omega), ol_rt hr (by rw [m_wr_132, ol_rsA])⟩)⟩⟩⟩)
def m_rd (s : Int) : Nat → Int → ol_M → ol_M → ol_M
  | 0, _, _, M => M
  | f + 1, n, S, M => if 3 * n + 3 ≤ S 16 s ∧ S 0 2 < 12 ∧ ((0 ≤ S (20 + s) (3 * n) ∧ S (20 + s) (3 * n) ≤ 11) ∧ (0 ≤ S (20 + s) (3 * n + 1) ∧ S (20 + s) (3 * n + 1) ≤ 7) ∧ (0 ≤ S (20 + s) (3 * n + 2) ∧ S (20 + s) (3 * n + 2) ≤ 7)) then m_rd s f (n + 1) (sp_addw S (S (20 + s) (3 * n)) (S (20 + s) (3 * n + 1)) (S (20 + s) (3 * n + 2))) (m_wr M (S (20 + s) (3 * n)) (S (20 + s) (3 * n + 1)) (S (20 + s) (3 * n + 2))) else M
theorem sp_addw_ok {S : ol_M} (hs : sp_ok S) {m h t : Int} (c : (0 ≤ m ∧ m ≤ 11) ∧ (0 ≤ h ∧ h ≤ 7) ∧ (0 ≤ t ∧ t ≤ 7)) (h12 : S 0 2 < 12) : sp_ok (sp_addw S m h t) := by
  obtain ⟨h1, h2, h3, h4, h5, h6, h7⟩ := hs
  have e0 : ∀ k, k ≠ 2 → sp_addw S m h t 0 k = S 0 k := fun k q => by rw [sp_addw_0, ol_rsN _ _ q]
  have en : ∀ k, (7 ≤ k ∨ (0 < k ∧ k < 4)) → sp_addw S m h t k = S k := fun k q => sp_addw_ne q
  refine ⟨?_, ?_, ?_, ?_, ?_, ?_, ?_⟩
  · unfold sp_ok_t at *
    rw [e0 0 (by decide), e0 1 (by decide), en 1 (by decide), en 2 (by decide)]
    exact h1
  · unfold sp_ok_r at *
    rw [en 3 (by decide)]
    exact h2
  · obtain ⟨o1, o2⟩ := h3
    unfold sp_ok_w
    rw [sp_addw_0, ol_rsA, sp_addw_4, sp_addw_5, sp_addw_6]
    refine ⟨by omega, fun k k0 k1 => ?_⟩
    by_cases kw : k = S 0 2
    · rw [kw, ol_rsA, ol_rsA, ol_rsA]
      exact c
    · rw [ol_rsN _ _ kw, ol_rsN _ _ kw, ol_rsN _ _ kw]
      exact o2 k k0 (by omega)
  · unfold sp_ok_l at *
    rw [e0 3 (by decide), en 7 (by decide), en 8 (by decide), en 9 (by decide), en 10 (by decide)]
    exact h4
  · unfold sp_ok_s at *
    rw [e0 4 (by decide), en 11 (by decide), en 12 (by decide), en 13 (by decide), en 14 (by decide)]
    exact h5
  · unfold sp_ok_f at *
    rw [e0 5 (by decide)]
    exact h6
  · intro s h0 h9
    rw [en 15 (by decide), en 16 (by decide), en (20 + s) (by omega)]
    exact h7 s h0 h9
theorem m_rd_im {s : Int} : ∀ (f : Nat) (n : Int) (S M : ol_M), im S M → sp_ok S → im (sp_rd s f n S).2 (m_rd s f n S M) ∧ sp_ok (sp_rd s f n S).2 := by
  intro f
  induction f with
  | zero => intro n S M h hs; exact ⟨h, hs⟩
  | succ f ih =>
    intro n S M h hs
    unfold sp_rd m_rd
    split
    · rename_i c
      exact ih _ _ _ h.addw (sp_addw_ok hs c.2.2 c.2.1)
    · exact ⟨h, hs⟩
theorem m_rd_fm {s : Int} : ∀ (f : Nat) (n : Int) (S M M0 : ol_M), fm M0 M → fm M0 (m_rd s f n S M) := by
  intro f
  induction f with
  | zero => intro n S M M0 h; exact h
  | succ f ih =>
    intro n S M M0 h
    unfold m_rd
    split
    · exact ih _ _ _ _ h.wr
    · exact h
theorem m_read {n : Nat} {S M : ol_M} (h : im S M) (hs : sp_ok S) {s : Int} (r1 : ol_r s) : m_ok n 4 q_X9_read [.inl s] S M (sp_read S s) := by
  unfold sp_read
  by_cases c : 0 ≤ s ∧ s ≤ 3
  · rw [if_neg (fun q => q c)]
    obtain ⟨e1, e2⟩ := h.h s (by omega) (by omega)
    obtain ⟨k1, k2⟩ := hs.h s (by omega) (by omega)
    have r2 : ol_r (M 133 s) := ⟨by omega, by omega⟩
    by_cases c2 : S 15 s < 0
    · rw [if_pos c2]
      exact m_ok.of ⟨_, ol_Ri (q := q_X9_read) (by decide +kernel) (Nat.le_of_ble_eq_true rfl) (Or.inl rfl) (fun Rt A hA hr => b_X9_read_0 hA s M ⟨r1, ol_if.pos c ⟨c.1, by omega, r2, ol_if.neg (by omega) hr⟩⟩), h.find 1, fm.rf.ms⟩
    · rw [if_neg c2]
      refine ⟨m_rd s 20 0 S M, ol_Ri (q := q_X9_read) (by decide +kernel) (Nat.le_of_ble_eq_true rfl) (Or.inl rfl) (fun Rt A hA hr => b_X9_read_0 hA s M ⟨r1, ol_if.pos c ⟨c.1, by omega, r2, ol_if.pos (by omega) ?_⟩⟩), (m_rd_im 20 0 S M h hs).1, m_rd_fm 20 0 S M M fm.rf⟩
      have key : ∀ (f : Nat) (k : Int) (S' M' : ol_M), 0 ≤ k → k + f = 20 → im S' M' → sp_ok S' → 0 ≤ S' 15 s → Rt (some (.inl (sp_rd s f k S').1)) (m_rd s f k S' M') → A 29 [some (.inr (.inr 132)), some (.inl s), some (.inl k), some (.inl 1), none] [] M' := by
        intro f
        induction f with
        | zero =>
          intro k S' M' k0 kf h' hs' hf hr'
          obtain ⟨g1, g2⟩ := h'.h s (by omega) (by omega)
          have g3 := (g2 hf).1
          have o3 := ((hs'.h s (by omega) (by omega)).2 hf).1
          exact b_X9_read_29 hA s k 1 M' (ol_if.neg (by decide) ⟨⟨by decide, by decide⟩, by omega, by omega, ⟨by omega, by omega⟩, ⟨by omega, by omega⟩, ol_if.pos (by omega) hr'⟩)
        | succ f ih =>
          intro k S' M' k0 kf h' hs' hf hr'
          obtain ⟨g1, g2⟩ := h'.h s (by omega) (by omega)
          obtain ⟨g3, g4⟩ := g2 hf
          obtain ⟨o3, o4⟩ := (hs'.h s (by omega) (by omega)).2 hf
          have ew := h'.2.2.1.1
          have ow := hs'.w.1
          refine b_X9_read_29 hA s k 1 M' (ol_if.neg (by decide) ⟨⟨by decide, by decide⟩, by omega, by omega, ⟨by omega, by omega⟩, ⟨by omega, by omega⟩, ?_⟩)
          unfold sp_rd m_rd at hr'
          by_cases d1 : 3 * k + 3 ≤ S' 16 s
          · refine ol_if.neg (by omega) ⟨by omega, by omega, by omega, by omega, by omega, by omega, ?_⟩
            have i0 := g4 (3 * k) (by omega) (by omega)
            have i1 := g4 (3 * k + 1) (by omega) (by omega)
            have i2 := g4 (3 * k + 2) (by omega) (by omega)
            rw [← Int.add_assoc] at i1 i2
            rw [i0, i1, i2]
            have q0 := o4 (3 * k) (by omega) (by omega)
            have q1 := o4 (3 * k + 1) (by omega) (by omega)
            have q2 := o4 (3 * k + 2) (by omega) (by omega)
            by_cases d2 : (0 ≤ S' (20 + s) (3 * k) ∧ S' (20 + s) (3 * k) ≤ 11) ∧ (0 ≤ S' (20 + s) (3 * k + 1) ∧ S' (20 + s) (3 * k + 1) ≤ 7) ∧ (0 ≤ S' (20 + s) (3 * k + 2) ∧ S' (20 + s) (3 * k + 2) ≤ 7)
            · by_cases d3 : S' 0 2 < 12
              · rw [if_pos ⟨d1, d3, d2⟩, if_pos ⟨d1, d3, d2⟩] at hr'
                refine ⟨_, _, m_w_ok q0 q1 q2 d2 (by omega) (by omega), ⟨by omega, by omega⟩, ol_if.neg (by omega) (ol_if.neg (by decide) ⟨⟨by decide, by decide⟩, ?_⟩)⟩
                exact ih (k + 1) _ _ (by omega) (by omega) h'.addw (sp_addw_ok hs' d2 d3) (by rw [sp_addw_ne (by decide)]; exact hf) hr'
              · rw [if_neg (fun q => d3 q.2.1), if_neg (fun q => d3 q.2.1)] at hr'
                refine ⟨_, _, m_w_full q0 q1 q2 d2 (by omega), ⟨by decide, by decide⟩, ol_if.pos (by decide) (ol_if.pos rfl ?_)⟩
                rw [Int.add_zero]
                exact b_X9_read_29 hA s k 0 M' (ol_if.pos rfl hr')
            · rw [if_neg (fun q => d2 q.2.2), if_neg (fun q => d2 q.2.2)] at hr'
              refine ⟨_, _, m_w_bad q0 q1 q2 d2, ⟨by decide, by decide⟩, ol_if.pos (by decide) (ol_if.pos rfl ?_)⟩
              rw [Int.add_zero]
              exact b_X9_read_29 hA s k 0 M' (ol_if.pos rfl hr')
          · rw [if_neg (fun q => d1 q.1), if_neg (fun q => d1 q.1)] at hr'
            exact ol_if.pos (by omega) hr'
      exact key 20 0 S M (by decide) (by decide) h hs (by omega) hr
  · rw [if_pos c]
    exact m_ok.of ⟨M, ol_Ri (q := q_X9_read) (by decide +kernel) (Nat.le_of_ble_eq_true rfl) (Or.inl rfl) (fun Rt A hA hr => b_X9_read_0 hA s M ⟨r1, ol_if.neg c hr⟩), h, fm.rf⟩
