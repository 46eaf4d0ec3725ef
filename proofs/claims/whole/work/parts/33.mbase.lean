/-! what the calls of the first group, and seen and forget, answer and leave -/
def sp_cap (t : Int) : Int := if t = 0 then 23 else 55
def sp_type (S : ol_M) (t b : Int) : Int × ol_M := if ¬ (0 ≤ t ∧ t ≤ 1) ∨ ¬ (0 ≤ b ∧ b ≤ 255) then (-2, S) else if S 0 t = sp_cap t then (-4, S) else (S 0 t + 1, ol_ms (ol_ms S (1 + t) (S 0 t) b) 0 t (S 0 t + 1))
def sp_wipe (S : ol_M) (t : Int) : Int × ol_M := if ¬ (0 ≤ t ∧ t ≤ 1) then (-2, S) else (S 0 t, ol_ms S 0 t 0)
def sp_undo (S : ol_M) (t : Int) : Int × ol_M := if ¬ (0 ≤ t ∧ t ≤ 1) then (-2, S) else if S 0 t = 0 then (-3, S) else (S 0 t - 1, ol_ms S 0 t (S 0 t - 1))
def sp_ration (S : ol_M) (l v : Int) : Int × ol_M := if ¬ (0 ≤ l ∧ l ≤ 7) ∨ ¬ (0 ≤ v ∧ v ≤ 9) then (-2, S) else (S 3 l, ol_ms S 3 l v)
def sp_addw (S : ol_M) (m h t : Int) : ol_M := ol_ms (ol_ms (ol_ms (ol_ms S 4 (S 0 2) m) 5 (S 0 2) h) 6 (S 0 2) t) 0 2 (S 0 2 + 1)
def sp_isw (m h t : Int) : Prop := (0 ≤ m ∧ m ≤ 11) ∧ (0 ≤ h ∧ h ≤ 7) ∧ (0 ≤ t ∧ t ≤ 7)
def sp_writing (S : ol_M) (m h t : Int) : Int × ol_M := if ¬ ((0 ≤ m ∧ m ≤ 11) ∧ (0 ≤ h ∧ h ≤ 7) ∧ (0 ≤ t ∧ t ≤ 7)) then (-2, S) else if S 0 2 = 12 then (-4, S) else (S 0 2 + 1, sp_addw S m h t)
def sp_addl (S : ol_M) (m h t l : Int) : ol_M := ol_ms (ol_ms (ol_ms (ol_ms (ol_ms S 7 (S 0 3) m) 8 (S 0 3) h) 9 (S 0 3) t) 10 (S 0 3) l) 0 3 (S 0 3 + 1)
def sp_lending (S : ol_M) (m h t l : Int) : Int × ol_M := if ¬ ((0 ≤ m ∧ m ≤ 11) ∧ (0 ≤ h ∧ h ≤ 7) ∧ (0 ≤ t ∧ t ≤ 7) ∧ (0 ≤ l ∧ l ≤ 7) ∧ h ≠ t) then (-2, S) else if S 0 3 = 8 then (-4, S) else (S 0 3 + 1, sp_addl S m h t l)
def sp_back (S : ol_M) (w : Int) : Int × ol_M := if ¬ (0 ≤ w ∧ w ≤ 1) then (-2, S) else if S 0 (2 + w) = 0 then (-3, S) else (S 0 (2 + w) - 1, ol_ms S 0 (2 + w) (S 0 (2 + w) - 1))
def sp_rd (s : Int) : Nat → Int → ol_M → Int × ol_M
  | 0, n, S => (n, S)
  | f + 1, n, S => if 3 * n + 3 ≤ S 16 s ∧ S 0 2 < 12 ∧ ((0 ≤ S (20 + s) (3 * n) ∧ S (20 + s) (3 * n) ≤ 11) ∧ (0 ≤ S (20 + s) (3 * n + 1) ∧ S (20 + s) (3 * n + 1) ≤ 7) ∧ (0 ≤ S (20 + s) (3 * n + 2) ∧ S (20 + s) (3 * n + 2) ≤ 7)) then sp_rd s f (n + 1) (sp_addw S (S (20 + s) (3 * n)) (S (20 + s) (3 * n + 1)) (S (20 + s) (3 * n + 2))) else (n, S)
def sp_read (S : ol_M) (s : Int) : Int × ol_M := if ¬ (0 ≤ s ∧ s ≤ 3) then (-2, S) else if S 15 s < 0 then sp_find S 1 else sp_rd s 20 0 S
def sp_adds (S : ol_M) (m h l v : Int) : ol_M := ol_ms (ol_ms (ol_ms (ol_ms (ol_ms S 11 (S 0 4) m) 12 (S 0 4) h) 13 (S 0 4) l) 14 (S 0 4) v) 0 4 (S 0 4 + 1)
def sp_seen (S : ol_M) (m h l v : Int) : Int × ol_M := if ¬ ((0 ≤ m ∧ m ≤ 11) ∧ (0 ≤ h ∧ h ≤ 7) ∧ (0 ≤ l ∧ l ≤ 7) ∧ (0 ≤ v ∧ v ≤ 99)) then (-2, S) else if S 0 4 = 8 then (-4, S) else (S 0 4 + 1, sp_adds S m h l v)
def sp_forget (S : ol_M) : Int × ol_M := (S 0 4, ol_ms S 0 4 0)
theorem im_t.keep {S M S' M' : ol_M} (h : im_t S M) (a : S' 0 0 = S 0 0) (b : S' 0 1 = S 0 1) (c : S' 1 = S 1) (d : S' 2 = S 2) (e : M' 137 = M 137) (f : M' 138 = M 138) : im_t S' M' := by
  unfold im_t at *
  rw [a, b, c, d, e, f]
  exact h
theorem im_r.keep {S M S' M' : ol_M} (h : im_r S M) (c : S' 3 = S 3) (e : M' 144 = M 144) : im_r S' M' := by
  unfold im_r at *
  rw [c, e]
  exact h
theorem im_w.keep {S M S' M' : ol_M} (h : im_w S M) (a : S' 0 2 = S 0 2) (b : S' 4 = S 4) (c : S' 5 = S 5) (d : S' 6 = S 6) (e : M' 132 15 = M 132 15) (f : M' 145 = M 145) : im_w S' M' := by
  unfold im_w at *
  rw [a, b, c, d, e, f]
  exact h
theorem im_l.keep {S M S' M' : ol_M} (h : im_l S M) (a : S' 0 3 = S 0 3) (b : S' 7 = S 7) (c : S' 8 = S 8) (d : S' 9 = S 9) (d' : S' 10 = S 10) (e : M' 132 17 = M 132 17) (f : M' 146 = M 146) : im_l S' M' := by
  unfold im_l at *
  rw [a, b, c, d, d', e, f]
  exact h
theorem im_s.keep {S M S' M' : ol_M} (h : im_s S M) (a : S' 0 4 = S 0 4) (b : S' 11 = S 11) (c : S' 12 = S 12) (d : S' 13 = S 13) (d' : S' 14 = S 14) (e : M' 132 26 = M 132 26) (f : M' 152 = M 152) : im_s S' M' := by
  unfold im_s at *
  rw [a, b, c, d, d', e, f]
  exact h
theorem im_f.keep {S M S' M' : ol_M} (h : im_f S M) (a : S' 0 5 = S 0 5) (e : M' 132 4 = M 132 4) : im_f S' M' := by
  unfold im_f at *
  rw [a, e]
  exact h
theorem im_g.keep {M M' : ol_M} (h : im_g M) (e : M' 132 24 = M 132 24) : im_g M' := by
  unfold im_g at *
  rw [e]
  exact h
theorem im_h.keep {S M S' M' : ol_M} (h : im_h S M) (a : ∀ k, 15 ≤ k → S' k = S k) (b : M' 133 = M 133) (c : M' 134 = M 134) (d : M' 135 = M 135) : im_h S' M' := by
  intro s h0 h1
  rw [a 15 (by omega), a 16 (by omega), a (20 + s) (by omega), b, c, d]
  exact h s h0 h1
theorem m_type_0 {n : Nat} {S M : ol_M} (h : im S M) (hs : sp_ok S) {b : Int} (r2 : ol_r b) : m_ok n 3 q_X9_type [.inl 0, .inl b] S M (sp_type S 0 b) := by
  obtain ⟨h1, h2, h3, h4, h5, h6, h7, h8⟩ := id h
  obtain ⟨o1, o2, -⟩ := hs.1
  have r1 : ol_r 0 := ⟨by decide, by decide⟩
  unfold sp_type
  by_cases c : ¬ (0 ≤ (0 : Int) ∧ (0 : Int) ≤ 1) ∨ ¬ (0 ≤ b ∧ b ≤ 255)
  · rw [if_pos c]
    refine ⟨M, ol_Ri (q := q_X9_type) (by decide +kernel) (Nat.le_of_ble_eq_true rfl) (Or.inl rfl) (fun Rt A hA hr => b_X9_type_0 hA _ b M ?_), h, fm.rf⟩
    repeat' (first | exact hr | assumption | omega | exact ol_r_l (by assumption) | exact ⟨by decide, by decide⟩ | refine ol_if.mk (fun _ => ?_) (fun _ => ?_) | refine And.intro ?_ ?_)
  rw [if_neg c]
  have e1 : M 138 0 = S 0 0 := by first | exact h1.1 | exact h1.2.1
  have r3 : ol_r (M 138 0) := ⟨by omega, by omega⟩
  have r4 : ol_r (23 : Int) := ⟨by decide, by decide⟩
  by_cases c2 : S 0 0 = sp_cap 0
  · rw [if_pos c2]
    have c3 : S 0 0 = 23 := c2
    refine ⟨M, ol_Ri (q := q_X9_type) (by decide +kernel) (Nat.le_of_ble_eq_true rfl) (Or.inl rfl) (fun Rt A hA hr => b_X9_type_0 hA _ b M ⟨r1, ol_if.pos (by decide) ⟨r2, ol_r_l r2, ol_if.pos (by omega) (b_X9_type_22 hA _ b M ?_)⟩⟩), h, fm.rf⟩
    repeat' (first | exact hr | assumption | omega | exact ol_r_l (by assumption) | exact ⟨by decide, by decide⟩ | refine ol_if.mk (fun _ => ?_) (fun _ => ?_) | refine And.intro ?_ ?_)
  rw [if_neg c2]
  have c3 : S 0 0 ≠ 23 := c2
  refine m_ok.of ⟨ol_ms (ol_ms M 137 (56 * 0 + M 138 0) b) 138 0 (M 138 0 + 1), ol_Ri (q := q_X9_type) (by decide +kernel) (Nat.le_of_ble_eq_true rfl) (Or.inl rfl) (fun Rt A hA hr => b_X9_type_0 hA _ b M ⟨r1, ol_if.pos (by decide) ⟨r2, ol_r_l r2, ol_if.pos (by omega) (b_X9_type_22 hA _ b M ?_)⟩⟩), ?_, fm.rf.ms.ms⟩
  · have hr := ol_rt hr (show S 0 0 + 1 = (ol_ms (ol_ms M 137 (56 * 0 + M 138 0) b) 138 0 (M 138 0 + 1)) 138 0 by rw [ol_msA, e1])
    repeat' (first | exact hr | assumption | omega | exact ol_r_l (by assumption) | exact ⟨by decide, by decide⟩ | refine ol_if.mk (fun _ => ?_) (fun _ => ?_) | refine And.intro ?_ ?_)
  · refine ⟨?_, h2.keep (by simp [ol_ms, ol_mp, ol_rs]) (by simp [ol_ms, ol_mp, ol_rs]), h3.keep (by simp [ol_ms, ol_mp, ol_rs]) (by simp [ol_ms, ol_mp, ol_rs]) (by simp [ol_ms, ol_mp, ol_rs]) (by simp [ol_ms, ol_mp, ol_rs]) (by simp [ol_ms, ol_mp, ol_rs]) (by simp [ol_ms, ol_mp, ol_rs]), h4.keep (by simp [ol_ms, ol_mp, ol_rs]) (by simp [ol_ms, ol_mp, ol_rs]) (by simp [ol_ms, ol_mp, ol_rs]) (by simp [ol_ms, ol_mp, ol_rs]) (by simp [ol_ms, ol_mp, ol_rs]) (by simp [ol_ms, ol_mp, ol_rs]) (by simp [ol_ms, ol_mp, ol_rs]), h5.keep (by simp [ol_ms, ol_mp, ol_rs]) (by simp [ol_ms, ol_mp, ol_rs]) (by simp [ol_ms, ol_mp, ol_rs]) (by simp [ol_ms, ol_mp, ol_rs]) (by simp [ol_ms, ol_mp, ol_rs]) (by simp [ol_ms, ol_mp, ol_rs]) (by simp [ol_ms, ol_mp, ol_rs]), h6.keep (by simp [ol_ms, ol_mp, ol_rs]) (by simp [ol_ms, ol_mp, ol_rs]), h7.keep (by simp [ol_ms, ol_mp, ol_rs]), h8.keep (fun k q => by rw [ol_ms_ne _ _ _ (by omega), ol_ms_ne _ _ _ (by omega)]) (by simp [ol_ms, ol_mp, ol_rs]) (by simp [ol_ms, ol_mp, ol_rs]) (by simp [ol_ms, ol_mp, ol_rs])⟩
    obtain ⟨g1, g2, g3, g4⟩ := h1
    refine ⟨by simp [ol_ms, ol_mp, ol_rs, g1], by simp [ol_ms, ol_mp, ol_rs, g2], fun j j0 j1 => ?_, fun j j0 j1 => ?_⟩
    · simp [ol_ms, ol_mp, ol_rs] at j1
      by_cases j2 : j < S 0 0
      · have z := g3 j j0 j2
        simp [ol_ms, ol_mp, ol_rs]
        first | (rw [if_neg (by omega), if_neg (by omega)]; exact z) | (rw [if_neg (by omega)]; exact z) | exact z
      · first
          | (exfalso; omega)
          | (have j3 : j = S 0 0 := by omega
             simp [ol_ms, ol_mp, ol_rs, j3, e1])
    · simp [ol_ms, ol_mp, ol_rs] at j1
      by_cases j2 : j < S 0 1
      · have z := g4 j j0 j2
        simp [ol_ms, ol_mp, ol_rs]
        first | (rw [if_neg (by omega), if_neg (by omega)]; exact z) | (rw [if_neg (by omega)]; exact z) | exact z
      · first
          | (exfalso; omega)
          | (have j3 : j = S 0 1 := by omega
             simp [ol_ms, ol_mp, ol_rs, j3, e1])
theorem m_type_1 {n : Nat} {S M : ol_M} (h : im S M) (hs : sp_ok S) {b : Int} (r2 : ol_r b) : m_ok n 3 q_X9_type [.inl 1, .inl b] S M (sp_type S 1 b) := by
  obtain ⟨h1, h2, h3, h4, h5, h6, h7, h8⟩ := id h
  obtain ⟨o1, o2, -⟩ := hs.1
  have r1 : ol_r 1 := ⟨by decide, by decide⟩
  unfold sp_type
  by_cases c : ¬ (0 ≤ (1 : Int) ∧ (1 : Int) ≤ 1) ∨ ¬ (0 ≤ b ∧ b ≤ 255)
  · rw [if_pos c]
    refine ⟨M, ol_Ri (q := q_X9_type) (by decide +kernel) (Nat.le_of_ble_eq_true rfl) (Or.inl rfl) (fun Rt A hA hr => b_X9_type_0 hA _ b M ?_), h, fm.rf⟩
    repeat' (first | exact hr | assumption | omega | exact ol_r_l (by assumption) | exact ⟨by decide, by decide⟩ | refine ol_if.mk (fun _ => ?_) (fun _ => ?_) | refine And.intro ?_ ?_)
  rw [if_neg c]
  have e1 : M 138 1 = S 0 1 := by first | exact h1.1 | exact h1.2.1
  have r3 : ol_r (M 138 1) := ⟨by omega, by omega⟩
  have r4 : ol_r (55 : Int) := ⟨by decide, by decide⟩
  by_cases c2 : S 0 1 = sp_cap 1
  · rw [if_pos c2]
    have c3 : S 0 1 = 55 := c2
    refine ⟨M, ol_Ri (q := q_X9_type) (by decide +kernel) (Nat.le_of_ble_eq_true rfl) (Or.inl rfl) (fun Rt A hA hr => b_X9_type_0 hA _ b M ⟨r1, ol_if.pos (by decide) ⟨r2, ol_r_l r2, ol_if.pos (by omega) (b_X9_type_22 hA _ b M ?_)⟩⟩), h, fm.rf⟩
    repeat' (first | exact hr | assumption | omega | exact ol_r_l (by assumption) | exact ⟨by decide, by decide⟩ | refine ol_if.mk (fun _ => ?_) (fun _ => ?_) | refine And.intro ?_ ?_)
  rw [if_neg c2]
  have c3 : S 0 1 ≠ 55 := c2
  refine m_ok.of ⟨ol_ms (ol_ms M 137 (56 * 1 + M 138 1) b) 138 1 (M 138 1 + 1), ol_Ri (q := q_X9_type) (by decide +kernel) (Nat.le_of_ble_eq_true rfl) (Or.inl rfl) (fun Rt A hA hr => b_X9_type_0 hA _ b M ⟨r1, ol_if.pos (by decide) ⟨r2, ol_r_l r2, ol_if.pos (by omega) (b_X9_type_22 hA _ b M ?_)⟩⟩), ?_, fm.rf.ms.ms⟩
  · have hr := ol_rt hr (show S 0 1 + 1 = (ol_ms (ol_ms M 137 (56 * 1 + M 138 1) b) 138 1 (M 138 1 + 1)) 138 1 by rw [ol_msA, e1])
    repeat' (first | exact hr | assumption | omega | exact ol_r_l (by assumption) | exact ⟨by decide, by decide⟩ | refine ol_if.mk (fun _ => ?_) (fun _ => ?_) | refine And.intro ?_ ?_)
  · refine ⟨?_, h2.keep (by simp [ol_ms, ol_mp, ol_rs]) (by simp [ol_ms, ol_mp, ol_rs]), h3.keep (by simp [ol_ms, ol_mp, ol_rs]) (by simp [ol_ms, ol_mp, ol_rs]) (by simp [ol_ms, ol_mp, ol_rs]) (by simp [ol_ms, ol_mp, ol_rs]) (by simp [ol_ms, ol_mp, ol_rs]) (by simp [ol_ms, ol_mp, ol_rs]), h4.keep (by simp [ol_ms, ol_mp, ol_rs]) (by simp [ol_ms, ol_mp, ol_rs]) (by simp [ol_ms, ol_mp, ol_rs]) (by simp [ol_ms, ol_mp, ol_rs]) (by simp [ol_ms, ol_mp, ol_rs]) (by simp [ol_ms, ol_mp, ol_rs]) (by simp [ol_ms, ol_mp, ol_rs]), h5.keep (by simp [ol_ms, ol_mp, ol_rs]) (by simp [ol_ms, ol_mp, ol_rs]) (by simp [ol_ms, ol_mp, ol_rs]) (by simp [ol_ms, ol_mp, ol_rs]) (by simp [ol_ms, ol_mp, ol_rs]) (by simp [ol_ms, ol_mp, ol_rs]) (by simp [ol_ms, ol_mp, ol_rs]), h6.keep (by simp [ol_ms, ol_mp, ol_rs]) (by simp [ol_ms, ol_mp, ol_rs]), h7.keep (by simp [ol_ms, ol_mp, ol_rs]), h8.keep (fun k q => by rw [ol_ms_ne _ _ _ (by omega), ol_ms_ne _ _ _ (by omega)]) (by simp [ol_ms, ol_mp, ol_rs]) (by simp [ol_ms, ol_mp, ol_rs]) (by simp [ol_ms, ol_mp, ol_rs])⟩
    obtain ⟨g1, g2, g3, g4⟩ := h1
    refine ⟨by simp [ol_ms, ol_mp, ol_rs, g1], by simp [ol_ms, ol_mp, ol_rs, g2], fun j j0 j1 => ?_, fun j j0 j1 => ?_⟩
    · simp [ol_ms, ol_mp, ol_rs] at j1
      by_cases j2 : j < S 0 0
      · have z := g3 j j0 j2
        simp [ol_ms, ol_mp, ol_rs]
        first | (rw [if_neg (by omega), if_neg (by omega)]; exact z) | (rw [if_neg (by omega)]; exact z) | exact z
      · first
          | (exfalso; omega)
          | (have j3 : j = S 0 0 := by omega
             simp [ol_ms, ol_mp, ol_rs, j3, e1])
    · simp [ol_ms, ol_mp, ol_rs] at j1
      by_cases j2 : j < S 0 1
      · have z := g4 j j0 j2
        simp [ol_ms, ol_mp, ol_rs]
        first | (rw [if_neg (by omega), if_neg (by omega)]; exact z) | (rw [if_neg (by omega)]; exact z) | exact z
      · first
          | (exfalso; omega)
          | (have j3 : j = S 0 1 := by omega
             simp [ol_ms, ol_mp, ol_rs, j3, e1])

theorem m_type {n : Nat} {S M : ol_M} (h : im S M) (hs : sp_ok S) {t b : Int} (r1 : ol_r t) (r2 : ol_r b) : m_ok n 3 q_X9_type [.inl t, .inl b] S M (sp_type S t b) := by
  by_cases c : 0 ≤ t ∧ t ≤ 1
  · rcases (show t = 0 ∨ t = 1 by omega) with rfl | rfl
    · exact m_type_0 h hs r2
    · exact m_type_1 h hs r2
  · unfold sp_type
    rw [if_pos (Or.inl c)]
    refine ⟨M, ol_Ri (q := q_X9_type) (by decide +kernel) (Nat.le_of_ble_eq_true rfl) (Or.inl rfl) (fun Rt A hA hr => b_X9_type_0 hA _ b M ?_), h, fm.rf⟩
    repeat' (first | exact hr | assumption | omega | exact ol_r_l (by assumption) | exact ⟨by decide, by decide⟩ | refine ol_if.mk (fun _ => ?_) (fun _ => ?_) | refine And.intro ?_ ?_)
/-- the length of a text has shrunk -/
theorem im.short {S M : ol_M} (h : im S M) {t v : Int} (c : 0 ≤ t ∧ t ≤ 1) (h0 : v ≤ S 0 t) : im (ol_ms S 0 t v) (ol_ms M 138 t v) := by
  obtain ⟨h1, h2, h3, h4, h5, h6, h7, h8⟩ := h
  have e0 : ∀ k, 2 ≤ k → ol_ms S 0 t v 0 k = S 0 k := fun k q => ol_ms_i _ _ _ (by omega)
  refine ⟨?_, h2.keep (ol_ms_ne _ _ _ (by decide)) (ol_ms_ne _ _ _ (by decide)), h3.keep (e0 2 (by decide)) (ol_ms_ne _ _ _ (by decide)) (ol_ms_ne _ _ _ (by decide)) (ol_ms_ne _ _ _ (by decide)) (by rw [ol_ms_ne _ _ _ (by decide)]) (ol_ms_ne _ _ _ (by decide)), h4.keep (e0 3 (by decide)) (ol_ms_ne _ _ _ (by decide)) (ol_ms_ne _ _ _ (by decide)) (ol_ms_ne _ _ _ (by decide)) (ol_ms_ne _ _ _ (by decide)) (by rw [ol_ms_ne _ _ _ (by decide)]) (ol_ms_ne _ _ _ (by decide)), h5.keep (e0 4 (by decide)) (ol_ms_ne _ _ _ (by decide)) (ol_ms_ne _ _ _ (by decide)) (ol_ms_ne _ _ _ (by decide)) (ol_ms_ne _ _ _ (by decide)) (by rw [ol_ms_ne _ _ _ (by decide)]) (ol_ms_ne _ _ _ (by decide)), h6.keep (e0 5 (by decide)) (by rw [ol_ms_ne _ _ _ (by decide)]), h7.keep (by rw [ol_ms_ne _ _ _ (by decide)]), h8.keep (fun k q => ol_ms_ne _ _ _ (by omega)) (ol_ms_ne _ _ _ (by decide)) (ol_ms_ne _ _ _ (by decide)) (ol_ms_ne _ _ _ (by decide))⟩
  obtain ⟨g1, g2, g3, g4⟩ := h1
  unfold im_t
  rw [ol_ms_row, ol_ms_row, ol_ms_ne M _ _ (show (137 : Int) ≠ 138 by decide), ol_ms_ne S _ _ (show (1 : Int) ≠ 0 by decide), ol_ms_ne S _ _ (show (2 : Int) ≠ 0 by decide)]
  rcases (show t = 0 ∨ t = 1 by omega) with rfl | rfl
  · rw [ol_rsA, ol_rsA, ol_rsN _ _ (by decide), ol_rsN _ _ (by decide)]
    exact ⟨rfl, g2, fun j j0 j1 => g3 j j0 (by omega), g4⟩
  · rw [ol_rsA, ol_rsA, ol_rsN _ _ (by decide), ol_rsN _ _ (by decide)]
    exact ⟨g1, rfl, g3, fun j j0 j1 => g4 j j0 (by omega)⟩
theorem im.len {S M : ol_M} (h : im S M) {t : Int} (c : 0 ≤ t ∧ t ≤ 1) : M 138 t = S 0 t := by
  rcases (show t = 0 ∨ t = 1 by omega) with rfl | rfl
  · exact h.1.1
  · exact h.1.2.1
theorem sp_ok.len {S : ol_M} (h : sp_ok S) {t : Int} (c : 0 ≤ t ∧ t ≤ 1) : 0 ≤ S 0 t ∧ S 0 t ≤ 55 := by
  rcases (show t = 0 ∨ t = 1 by omega) with rfl | rfl
  · have := h.1.1; omega
  · exact h.1.2.1
theorem m_wipe {n : Nat} {S M : ol_M} (h : im S M) (hs : sp_ok S) {t : Int} (r1 : ol_r t) : m_ok n 3 q_X9_wipe [.inl t] S M (sp_wipe S t) := by
  unfold sp_wipe
  by_cases c : 0 ≤ t ∧ t ≤ 1
  · rw [if_neg (fun q => q c)]
    have e := h.len c
    have o := hs.len c
    exact m_ok.of ⟨ol_ms M 138 t 0, ol_Ri (q := q_X9_wipe) (by decide +kernel) (Nat.le_of_ble_eq_true rfl) (Or.inl rfl) (fun Rt A hA hr => b_X9_wipe_0 hA t M ⟨r1, ol_if.pos c ⟨c.1, by omega, c.1, by omega, ol_rt hr e.symm⟩⟩), h.short c (by omega), fm.rf.ms⟩
  · rw [if_pos c]
    exact m_ok.of ⟨M, ol_Ri (q := q_X9_wipe) (by decide +kernel) (Nat.le_of_ble_eq_true rfl) (Or.inl rfl) (fun Rt A hA hr => b_X9_wipe_0 hA t M ⟨r1, ol_if.neg c hr⟩), h, fm.rf⟩
theorem m_undo {n : Nat} {S M : ol_M} (h : im S M) (hs : sp_ok S) {t : Int} (r1 : ol_r t) : m_ok n 3 q_X9_undo [.inl t] S M (sp_undo S t) := by
  unfold sp_undo
  by_cases c : 0 ≤ t ∧ t ≤ 1
  · rw [if_neg (fun q => q c)]
    have e := h.len c
    have o := hs.len c
    by_cases c2 : S 0 t = 0
    · rw [if_pos c2]
      exact m_ok.of ⟨M, ol_Ri (q := q_X9_undo) (by decide +kernel) (Nat.le_of_ble_eq_true rfl) (Or.inl rfl) (fun Rt A hA hr => b_X9_undo_0 hA t M ⟨r1, ol_if.pos c ⟨c.1, by omega, ol_if.pos (by omega) hr⟩⟩), h, fm.rf⟩
    · rw [if_neg c2]
      refine m_ok.of ⟨ol_ms M 138 t (S 0 t - 1), ol_Ri (q := q_X9_undo) (by decide +kernel) (Nat.le_of_ble_eq_true rfl) (Or.inl rfl) (fun Rt A hA hr => b_X9_undo_0 hA t M ⟨r1, ol_if.pos c ⟨c.1, by omega, ol_if.neg (by omega) ⟨⟨by omega, by omega⟩, c.1, by omega, c.1, by omega, c.1, by omega, ?_⟩⟩⟩), h.short c (by omega), fm.rf.ms⟩
      rw [e, ol_msA]
      exact hr
  · rw [if_pos c]
    exact m_ok.of ⟨M, ol_Ri (q := q_X9_undo) (by decide +kernel) (Nat.le_of_ble_eq_true rfl) (Or.inl rfl) (fun Rt A hA hr => b_X9_undo_0 hA t M ⟨r1, ol_if.neg c hr⟩), h, fm.rf⟩
theorem m_ration {n : Nat} {S M : ol_M} (h : im S M) (hs : sp_ok S) {l v : Int} (r1 : ol_r l) (r2 : ol_r v) : m_ok n 3 q_X9_ration [.inl l, .inl v] S M (sp_ration S l v) := by
  obtain ⟨h1, h2, h3, h4, h5, h6, h7, h8⟩ := id h
  unfold sp_ration
  by_cases c : ¬ (0 ≤ l ∧ l ≤ 7) ∨ ¬ (0 ≤ v ∧ v ≤ 9)
  · rw [if_pos c]
    refine m_ok.of ⟨M, ol_Ri (q := q_X9_ration) (by decide +kernel) (Nat.le_of_ble_eq_true rfl) (Or.inl rfl) (fun Rt A hA hr => b_X9_ration_0 hA l v M ?_), h, fm.rf⟩
    repeat' (first | exact hr | assumption | omega | exact ol_r_l (by assumption) | exact ⟨by decide, by decide⟩ | refine ol_if.mk (fun _ => ?_) (fun _ => ?_) | refine And.intro ?_ ?_)
  rw [if_neg c]
  refine m_ok.of ⟨ol_ms M 144 l v, ol_Ri (q := q_X9_ration) (by decide +kernel) (Nat.le_of_ble_eq_true rfl) (Or.inl rfl) (fun Rt A hA hr => b_X9_ration_0 hA l v M ⟨r1, ol_if.pos (by omega) ⟨r2, ol_r_l r2, ol_if.pos (by omega) ⟨by omega, by omega, by omega, by omega, ol_rt hr (h2 l (by omega) (by omega)).symm⟩⟩⟩), ?_, fm.rf.ms⟩
  refine ⟨h1.keep (by simp [ol_ms, ol_mp, ol_rs]) (by simp [ol_ms, ol_mp, ol_rs]) (by simp [ol_ms, ol_mp, ol_rs]) (by simp [ol_ms, ol_mp, ol_rs]) (by simp [ol_ms, ol_mp, ol_rs]) (by simp [ol_ms, ol_mp, ol_rs]), ?_, h3.keep (by simp [ol_ms, ol_mp, ol_rs]) (by simp [ol_ms, ol_mp, ol_rs]) (by simp [ol_ms, ol_mp, ol_rs]) (by simp [ol_ms, ol_mp, ol_rs]) (by simp [ol_ms, ol_mp, ol_rs]) (by simp [ol_ms, ol_mp, ol_rs]), h4.keep (by simp [ol_ms, ol_mp, ol_rs]) (by simp [ol_ms, ol_mp, ol_rs]) (by simp [ol_ms, ol_mp, ol_rs]) (by simp [ol_ms, ol_mp, ol_rs]) (by simp [ol_ms, ol_mp, ol_rs]) (by simp [ol_ms, ol_mp, ol_rs]) (by simp [ol_ms, ol_mp, ol_rs]), h5.keep (by simp [ol_ms, ol_mp, ol_rs]) (by simp [ol_ms, ol_mp, ol_rs]) (by simp [ol_ms, ol_mp, ol_rs]) (by simp [ol_ms, ol_mp, ol_rs]) (by simp [ol_ms, ol_mp, ol_rs]) (by simp [ol_ms, ol_mp, ol_rs]) (by simp [ol_ms, ol_mp, ol_rs]), h6.keep (by simp [ol_ms, ol_mp, ol_rs]) (by simp [ol_ms, ol_mp, ol_rs]), h7.keep (by simp [ol_ms, ol_mp, ol_rs]), h8.keep (fun k q => ol_ms_ne _ _ _ (by omega)) (by simp [ol_ms, ol_mp, ol_rs]) (by simp [ol_ms, ol_mp, ol_rs]) (by simp [ol_ms, ol_mp, ol_rs])⟩
  intro k k0 k1
  rw [ol_ms_row, ol_ms_row]
  by_cases kl : k = l
  · rw [kl, ol_rsA, ol_rsA]
  · rw [ol_rsN _ _ kl, ol_rsN _ _ kl]
    exact h2 k k0 k1
