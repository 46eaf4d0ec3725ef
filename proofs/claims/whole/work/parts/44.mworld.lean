/-! THE WORLD THAT A STATE TELLS -/
def sp_W (S : ol_M) : ol_M := fun c => if 30 ≤ c then sp_need S (c - 30) else if c = 0 then fun _ => sp_nH S else if c = 1 then sp_kd S else if c = 2 then sp_hd S else if c = 3 then fun _ => sp_nT S else if c = 4 then S 3 else if c = 5 then fun _ => S 0 3 else if 0 ≤ c ∧ c ≤ 9 then S (c + 1) else if c = 10 then fun _ => S 0 2 else if 0 ≤ c ∧ c ≤ 13 then S (c - 7) else fun _ => 0
theorem ph_ft_v {f : Int → Int} {n : Int} : ∀ (u : Nat) (i : Int), n ≤ i + u → ph_ft f n u i = -1 → ∀ j, 0 ≤ i → i ≤ j → j < n → ph_v (j % 3) (f j) ≠ -9 := by
  intro u
  induction u with
  | zero => intro i h1 _ j _ h2 h3; omega
  | succ u ih =>
    intro i h1 h j i0 h2 h3
    unfold ph_ft at h
    rw [if_neg (by omega)] at h
    by_cases c : ph_v (i % 3) (f i) = -9
    · rw [if_pos c] at h; omega
    · rw [if_neg c] at h
      by_cases d : j = i
      · rw [d]; exact c
      · exact ih (i + 1) (by omega) h j (by omega) (by omega) h3
theorem sp_nH_r {S : ol_M} (hs : sp_ok_t S) : 0 ≤ sp_nH S ∧ sp_nH S ≤ 8 := by
  have := hs.1
  unfold sp_nH
  split <;> omega
theorem ph_v_0 {b : Int} (a : ph_v 0 b ≠ -9) : 0 ≤ ph_v 0 b ∧ ph_v 0 b ≤ 2 := by
  have e : ph_v 0 b = if b = 114 then 0 else if b = 109 then 1 else if b = 118 then 2 else -9 := if_pos rfl
  rw [e] at a ⊢
  split
  · omega
  · rename_i x
    rw [if_neg x] at a
    split
    · omega
    · rename_i y
      rw [if_neg y] at a
      split
      · omega
      · rename_i z
        rw [if_neg z] at a
        exact absurd rfl a
theorem ph_v_1 {b : Int} (a : ph_v 1 b ≠ -9) : 1 ≤ ph_v 1 b ∧ ph_v 1 b ≤ 9 := by
  have e : ph_v 1 b = if 49 ≤ b ∧ b ≤ 57 then b - 48 else -9 := (if_neg (by decide)).trans (if_pos rfl)
  rw [e] at a ⊢
  split
  · omega
  · rename_i x
    rw [if_neg x] at a
    exact absurd rfl a
theorem sp_house {S : ol_M} (hs : sp_ok_t S) {h : Int} (h0 : 0 ≤ h) (h1 : h < sp_nH S) : (0 ≤ sp_kd S h ∧ sp_kd S h ≤ 2) ∧ (1 ≤ sp_hd S h ∧ sp_hd S h ≤ 9) := by
  have n0 := hs.1
  unfold sp_nH at h1
  by_cases c : sp_hf S = -1
  · rw [if_pos c] at h1
    have a := ph_ft_v 24 0 (by omega) c (3 * h) (by omega) (by omega) (by omega)
    have b := ph_ft_v 24 0 (by omega) c (3 * h + 1) (by omega) (by omega) (by omega)
    rw [show 3 * h % 3 = 0 by omega] at a
    rw [show (3 * h + 1) % 3 = 1 by omega] at b
    exact ⟨ph_v_0 a, ph_v_1 b⟩
  · rw [if_neg c] at h1; omega
theorem sp_W_need {S : ol_M} {t : Int} (t0 : 0 ≤ t) : sp_W S (30 + t) = sp_need S t := by
  unfold sp_W
  rw [if_pos (by omega), show 30 + t - 30 = t by omega]
theorem sp_W_k {S : ol_M} (hs : sp_ok S) : wk (sp_W S) := by
  obtain ⟨s1, s2, s3, s4, s5, s6, s7⟩ := hs
  refine ⟨sp_nH_r s1, fun h h0 h1 => sp_house s1 h0 h1, sp_nT_r S, fun t t0 t1 l l0 l1 => ?_, s2, s4.1, s4.2, ⟨s3.1.1, Int.le_trans s3.1.2 (by decide)⟩, s3.2⟩
  rw [sp_W_need t0]
  exact sp_need_r t0 t1
/-- the reference has read the texts of the state -/
def mz (S M : ol_M) : Prop := im S M ∧ mv (sp_W S) M ∧ ∀ t, 0 ≤ t → t < sp_nT S → m_tm (sp_pt S).2.2 M t
theorem m_reads {n : Nat} {S M : ol_M} (h : im S M) (hs : sp_ok S) : ∃ M', ol_R (ol_lay n) 4 q_X9_reads [.inr (.inr 132)] M none M' ∧ mz S (ol_ms M' 132 25 (M' 132 17)) ∧ fm M M' ∧ im S M' ∧ M' 132 7 = sp_nH S ∧ M' 132 9 = sp_nT S ∧ (∀ k, 0 ≤ k → k < sp_nH S → M' 139 (2 * k) = sp_kd S k ∧ M' 139 (2 * k + 1) = sp_hd S k) ∧ ∀ t, 0 ≤ t → t < sp_nT S → m_tm (sp_pt S).2.2 M' t := by
  obtain ⟨h1, h2, h3, h4, h5, h6, h7, h8⟩ := id h
  obtain ⟨s1, s2, s3, s4, s5, s6, s7⟩ := id hs
  obtain ⟨M1, r1, f1, a1, a2⟩ := @m_readsHouses n S M h1 s1
  obtain ⟨M2, r2, f2, b1, b2⟩ := @m_readsTerms n S M1 (h1.keep rfl rfl rfl rfl (f1.1 _ (by decide) (by decide)) (f1.1 _ (by decide) (by decide))) s1
  have e : ∀ c, c ≠ 132 → c ≠ 139 → ¬ (140 ≤ c ∧ c ≤ 143) → M2 c = M c := fun c a b d => (f2.1 c a d).trans (f1.1 c a b)
  have g : ∀ j, j ≠ 7 → j ≠ 9 → M2 132 j = M 132 j := fun j a b => (f2.2 j b).trans (f1.2 j a)
  have e139 : M2 139 = M1 139 := f2.1 _ (by decide) (by decide)
  have a1' : M2 132 7 = sp_nH S := (f2.2 7 (by decide)).trans a1
  have i2 : im S M2 := by
    refine ⟨h1.keep rfl rfl rfl rfl (e _ (by decide) (by decide) (by decide)) (e _ (by decide) (by decide) (by decide)), h2.keep rfl (e _ (by decide) (by decide) (by decide)), h3.keep rfl rfl rfl rfl (g _ (by decide) (by decide)) (e _ (by decide) (by decide) (by decide)), h4.keep rfl rfl rfl rfl rfl (g _ (by decide) (by decide)) (e _ (by decide) (by decide) (by decide)), h5.keep rfl rfl rfl rfl rfl (g _ (by decide) (by decide)) (e _ (by decide) (by decide) (by decide)), h6.keep rfl (g _ (by decide) (by decide)), ?_, ?_⟩
    · exact (g _ (by decide) (by decide)).trans h7
    · intro s x0 x1
      rw [e 133 (by decide) (by decide) (by decide), e 134 (by decide) (by decide) (by decide), e 135 (by decide) (by decide) (by decide)]
      exact h8 s x0 x1
  have a2' : ∀ k, 0 ≤ k → k < sp_nH S → M2 139 (2 * k) = sp_kd S k ∧ M2 139 (2 * k + 1) = sp_hd S k := by rw [e139]; exact a2
  have e17 : M2 132 17 = S 0 3 := i2.2.2.2.1.1
  have n : ∀ c, c ≠ 132 → ol_ms M2 132 25 (M2 132 17) c = M2 c := fun c q => ol_ms_ne _ _ _ q
  have p : ∀ j, j ≠ 25 → ol_ms M2 132 25 (M2 132 17) 132 j = M2 132 j := fun j q => ol_ms_i _ _ _ q
  refine ⟨M2, ol_Ri (q := q_X9_reads) (by decide +kernel) (Nat.le_of_ble_eq_true rfl) rfl (fun Rt A hA hr => b_X9_reads_0 hA M ⟨_, M1, r1, _, M2, r2, hr⟩), ⟨?_, ?_, ?_⟩, fun k q => e k (by omega) (by omega) (by omega), i2, a1', b1, a2', b2⟩
  · obtain ⟨j1, j2, j3, j4, j5, j6, j7, j8⟩ := id i2
    refine ⟨j1.keep rfl rfl rfl rfl (n _ (by decide)) (n _ (by decide)), j2.keep rfl (n _ (by decide)), j3.keep rfl rfl rfl rfl (p _ (by decide)) (n _ (by decide)), j4.keep rfl rfl rfl rfl rfl (p _ (by decide)) (n _ (by decide)), j5.keep rfl rfl rfl rfl rfl (p _ (by decide)) (n _ (by decide)), j6.keep rfl (p _ (by decide)), ?_, ?_⟩
    · exact (p _ (by decide)).trans j7
    · intro s x0 x1
      rw [n 133 (by decide), n 134 (by decide), n 135 (by decide)]
      exact j8 s x0 x1
  · obtain ⟨j1, j2, j3, j4, j5, j6, j7, j8⟩ := id i2
    refine ⟨(p _ (by decide)).trans a1', ?_, (p _ (by decide)).trans b1, ?_, ?_, ?_, ?_, (p _ (by decide)).trans j3.1, ?_, ?_, ?_⟩
    · rw [n 139 (by decide)]; exact a2'
    · rw [n 143 (by decide)]
      intro t t0 t1 l l0 l1
      rw [sp_W_need t0]
      exact (b2 t t0 t1).2.2.2 l l0 l1
    · rw [n 144 (by decide)]; exact j2
    · rw [ol_msA]; exact e17
    · rw [n 146 (by decide)]; exact j4.2
    · rw [n 145 (by decide)]; exact j3.2
    · rw [p _ (by decide), j7]; exact ⟨by decide, by decide⟩
    · intro k k0 k1
      rw [p _ (by decide), j7]
      show (0 : Int) / 2 ^ k.toNat % 2 = 1 ↔ (0 : Int) = 1
      rw [Int.zero_ediv]
      omega
  · intro t t0 t1
    have z := b2 t t0 t1
    unfold m_tm at z ⊢
    rw [n 140 (by decide), n 141 (by decide), n 142 (by decide), n 143 (by decide)]
    exact z
theorem m_find {n : Nat} {S M : ol_M} (h : im S M) (hs : sp_ok S) : ∃ M', ol_R (ol_lay n) 5 q_X9_find [.inr (.inr 132)] M none M' ∧ mz S M' ∧ fm M M' := by
  obtain ⟨M1, r, z, f, -⟩ := @m_reads n S M h hs
  exact ⟨_, ol_Ri (q := q_X9_find) (by decide +kernel) (Nat.le_of_ble_eq_true rfl) rfl (fun Rt A hA hr => b_X9_find_0 hA M ⟨M1, r, hr⟩), z, f.ms⟩
def sp_fault (S : ol_M) (t : Int) : Int × ol_M := (if t = 0 then sp_hf S else if t = 1 then sp_tf S else -2, S)
def sp_hous (S : ol_M) (h w : Int) : Int × ol_M := (if (0 ≤ h ∧ h < sp_nH S) ∧ (0 ≤ w ∧ w ≤ 1) then (if w = 0 then sp_kd S h else sp_hd S h) else -2, S)
def sp_word (S : ol_M) (t w : Int) : Int × ol_M := (if (0 ≤ t ∧ t < sp_nT S) ∧ (0 ≤ w ∧ w ≤ 9) then (if w < 8 then sp_need S t w else if w = 8 then sp_mn S t else sp_ln S t) else -2, S)
theorem m_fault {n : Nat} {S M : ol_M} (h : im S M) (hs : sp_ok S) {t : Int} (r1 : ol_r t) : m_ok n 4 q_X9_fault [.inl t] S M (sp_fault S t) := by
  obtain ⟨h1, h2, h3, h4, h5, h6, h7, h8⟩ := id h
  unfold sp_fault
  apply m_ok.of
  by_cases c : t = 0
  · rw [if_pos c]
    obtain ⟨M1, r, f1, -⟩ := @m_readsHouses n S M h1 hs.1
    refine ⟨M1, ol_Ri (q := q_X9_fault) (by decide +kernel) (Nat.le_of_ble_eq_true rfl) (Or.inl rfl) (fun Rt A hA hr => b_X9_fault_0 hA t M ⟨r1, ol_if.pos (by omega) (ol_if.pos c ⟨_, M1, r, hr⟩)⟩), ?_, fun k q => f1.1 k (by omega) (by omega)⟩
    have e : ∀ c, c ≠ 132 → c ≠ 139 → M1 c = M c := f1.1
    have g : ∀ j, j ≠ 7 → M1 132 j = M 132 j := f1.2
    refine ⟨h1.keep rfl rfl rfl rfl (e _ (by decide) (by decide)) (e _ (by decide) (by decide)), h2.keep rfl (e _ (by decide) (by decide)), h3.keep rfl rfl rfl rfl (g _ (by decide)) (e _ (by decide) (by decide)), h4.keep rfl rfl rfl rfl rfl (g _ (by decide)) (e _ (by decide) (by decide)), h5.keep rfl rfl rfl rfl rfl (g _ (by decide)) (e _ (by decide) (by decide)), h6.keep rfl (g _ (by decide)), (g _ (by decide)).trans h7, ?_⟩
    intro s x0 x1
    rw [e 133 (by decide) (by decide), e 134 (by decide) (by decide), e 135 (by decide) (by decide)]
    exact h8 s x0 x1
  · rw [if_neg c]
    by_cases d : t = 1
    · rw [if_pos d]
      obtain ⟨M1, r, f1, -⟩ := @m_readsTerms n S M h1 hs.1
      refine ⟨M1, ol_Ri (q := q_X9_fault) (by decide +kernel) (Nat.le_of_ble_eq_true rfl) (Or.inl rfl) (fun Rt A hA hr => b_X9_fault_0 hA t M ⟨r1, ol_if.pos (by omega) (ol_if.neg c ⟨r1, _, M1, r, hr⟩)⟩), ?_, fun k q => f1.1 k (by omega) (by omega)⟩
      have e : ∀ c, c ≠ 132 → ¬ (140 ≤ c ∧ c ≤ 143) → M1 c = M c := f1.1
      have g : ∀ j, j ≠ 9 → M1 132 j = M 132 j := f1.2
      refine ⟨h1.keep rfl rfl rfl rfl (e _ (by decide) (by decide)) (e _ (by decide) (by decide)), h2.keep rfl (e _ (by decide) (by decide)), h3.keep rfl rfl rfl rfl (g _ (by decide)) (e _ (by decide) (by decide)), h4.keep rfl rfl rfl rfl rfl (g _ (by decide)) (e _ (by decide) (by decide)), h5.keep rfl rfl rfl rfl rfl (g _ (by decide)) (e _ (by decide) (by decide)), h6.keep rfl (g _ (by decide)), (g _ (by decide)).trans h7, ?_⟩
      intro s x0 x1
      rw [e 133 (by decide) (by decide), e 134 (by decide) (by decide), e 135 (by decide) (by decide)]
      exact h8 s x0 x1
    · rw [if_neg d]
      exact ⟨M, ol_Ri (q := q_X9_fault) (by decide +kernel) (Nat.le_of_ble_eq_true rfl) (Or.inl rfl) (fun Rt A hA hr => b_X9_fault_0 hA t M ⟨r1, ol_if.neg (by omega) hr⟩), h, fm.rf⟩
theorem m_house {n : Nat} {S M : ol_M} (h : im S M) (hs : sp_ok S) {a w : Int} (r1 : ol_r a) (r2 : ol_r w) : m_ok n 5 q_X9_house [.inl a, .inl w] S M (sp_hous S a w) := by
  obtain ⟨M1, r, -, f, i, e7, e9, eh, et⟩ := @m_reads n S M h hs
  have nr := sp_nH_r hs.1
  unfold sp_hous
  apply m_ok.of
  by_cases c : (0 ≤ a ∧ a < sp_nH S) ∧ (0 ≤ w ∧ w ≤ 1)
  · rw [if_pos c]
    refine ⟨M1, ol_Ri (q := q_X9_house) (by decide +kernel) (Nat.le_of_ble_eq_true rfl) (Or.inl rfl) (fun Rt A hA hr => b_X9_house_0 hA a w M ⟨M1, r, ?_⟩), i, f⟩
    rw [e7]
    refine ⟨r1, ⟨by omega, by omega⟩, ol_if.pos c.1 ⟨r2, ol_if.pos c.2 ⟨by omega, by omega, ?_⟩⟩⟩
    by_cases d : w = 0
    · rw [if_pos d] at hr
      rw [d, Int.add_zero, (eh a c.1.1 c.1.2).1]
      exact hr
    · rw [if_neg d] at hr
      rw [show w = 1 by omega, (eh a c.1.1 c.1.2).2]
      exact hr
  · rw [if_neg c]
    refine ⟨M1, ol_Ri (q := q_X9_house) (by decide +kernel) (Nat.le_of_ble_eq_true rfl) (Or.inl rfl) (fun Rt A hA hr => b_X9_house_0 hA a w M ⟨M1, r, ?_⟩), i, f⟩
    rw [e7]
    exact ⟨r1, ⟨by omega, by omega⟩, ol_if.mk (fun d => ⟨r2, ol_if.neg (fun z => c ⟨d, z⟩) hr⟩) (fun _ => hr)⟩
theorem m_word {n : Nat} {S M : ol_M} (h : im S M) (hs : sp_ok S) {a w : Int} (r1 : ol_r a) (r2 : ol_r w) : m_ok n 5 q_X9_word [.inl a, .inl w] S M (sp_word S a w) := by
  obtain ⟨M1, r, -, f, i, e7, e9, eh, et⟩ := @m_reads n S M h hs
  have nr := sp_nT_r S
  unfold sp_word
  apply m_ok.of
  by_cases c : (0 ≤ a ∧ a < sp_nT S) ∧ (0 ≤ w ∧ w ≤ 9)
  · rw [if_pos c]
    obtain ⟨t1, t2, t3, t4⟩ := et a c.1.1 c.1.2
    refine ⟨M1, ol_Ri (q := q_X9_word) (by decide +kernel) (Nat.le_of_ble_eq_true rfl) (Or.inl rfl) (fun Rt A hA hr => b_X9_word_0 hA a w M ⟨M1, r, ?_⟩), i, f⟩
    rw [e9]
    refine ⟨r1, ⟨by omega, by omega⟩, ol_if.pos c.1 ⟨r2, ol_r_l r2, ol_if.pos c.2 ⟨_, M1, ol_Ri (q := q_X9_wordOf) (by decide +kernel) (Nat.le_of_ble_eq_true rfl) (Or.inl rfl) (fun Rt A hA hr => b_X9_wordOf_0 hA a w M1 ⟨r2, ?_⟩), hr⟩⟩⟩
    refine ol_if.mk (fun d => ol_if.mk (fun e => ⟨by omega, by omega, ?_⟩) (fun e => ⟨r2, by omega, by omega, ?_⟩)) (fun d => ⟨by omega, by omega, ?_⟩)
    · rw [if_neg (by omega), if_pos e] at hr
      rw [t2]; exact hr
    · rw [if_neg (by omega), if_neg e] at hr
      rw [t1]; exact hr
    · rw [if_pos (by omega)] at hr
      rw [t4 w c.2.1 (by omega)]; exact hr
  · rw [if_neg c]
    refine ⟨M1, ol_Ri (q := q_X9_word) (by decide +kernel) (Nat.le_of_ble_eq_true rfl) (Or.inl rfl) (fun Rt A hA hr => b_X9_word_0 hA a w M ⟨M1, r, ?_⟩), i, f⟩
    rw [e9]
    exact ⟨r1, ⟨by omega, by omega⟩, ol_if.mk (fun d => ⟨r2, ol_r_l r2, ol_if.neg (fun z => c ⟨d, z⟩) hr⟩) (fun _ => hr)⟩
