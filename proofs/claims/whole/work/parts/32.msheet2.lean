theorem m_lacks {n : Nat} {S M : ol_M} (h : im S M) (hs : sp_ok S) {s f i : Int} (r2 : ol_r f) (r3 : ol_r i) (b0 : 0 ≤ s) (b1 : s ≤ 3) : (sp_lacks S s f i = 0 → ol_R (ol_lay n) 2 q_X9_lacks [.inr (.inr 132), .inl s, .inl f, .inl i] M (some (.inl 0)) M) ∧ (sp_lacks S s f i ≠ 0 → ol_R (ol_lay n) 2 q_X9_lacks [.inr (.inr 132), .inl s, .inl f, .inl i] M (some (.inl (-10 - sp_lacks S s f i))) (ol_ms M 132 4 (sp_lacks S s f i))) := by
  obtain ⟨e1, e2⟩ := h.h s (by omega) (by omega)
  obtain ⟨k1, k2⟩ := hs.h s (by omega) (by omega)
  have r4 : ol_r (M 133 s) := ⟨by omega, by omega⟩
  unfold sp_lacks
  by_cases c1 : S 15 s < 0
  · rw [if_pos c1]
    refine ⟨fun q => absurd q (by decide), fun _ => ol_Ri (q := q_X9_lacks) (by decide +kernel) (Nat.le_of_ble_eq_true rfl) (Or.inl rfl) (fun Rt A hA hr => b_X9_lacks_0 hA s f i M ?_)⟩
    repeat' (first | exact hr | assumption | omega | exact ol_r_l (by assumption) | exact ⟨by decide, by decide⟩ | refine ol_if.mk (fun _ => ?_) (fun _ => ?_) | refine And.intro ?_ ?_)
  rw [if_neg c1]
  have e3 := (e2 (by omega)).1
  have k3 := (k2 (by omega)).1
  have r5 : ol_r (M 134 s - 1) := ⟨by omega, by omega⟩
  by_cases c2 : S 15 s ≠ f
  · rw [if_pos c2]
    refine ⟨fun q => absurd q (by decide), fun _ => ol_Ri (q := q_X9_lacks) (by decide +kernel) (Nat.le_of_ble_eq_true rfl) (Or.inl rfl) (fun Rt A hA hr => b_X9_lacks_0 hA s f i M ?_)⟩
    repeat' (first | exact hr | assumption | omega | exact ol_r_l (by assumption) | exact ⟨by decide, by decide⟩ | refine ol_if.mk (fun _ => ?_) (fun _ => ?_) | refine And.intro ?_ ?_)
  rw [if_neg c2]
  by_cases c3 : 0 ≤ i ∧ i < S 16 s
  · rw [if_pos c3]
    refine ⟨fun _ => ol_Ri (q := q_X9_lacks) (by decide +kernel) (Nat.le_of_ble_eq_true rfl) (Or.inl rfl) (fun Rt A hA hr => b_X9_lacks_0 hA s f i M ?_), fun q => absurd rfl q⟩
    repeat' (first | exact hr | assumption | omega | exact ol_r_l (by assumption) | exact ⟨by decide, by decide⟩ | refine ol_if.mk (fun _ => ?_) (fun _ => ?_) | refine And.intro ?_ ?_)
  · rw [if_neg c3]
    refine ⟨fun q => absurd q (by decide), fun _ => ol_Ri (q := q_X9_lacks) (by decide +kernel) (Nat.le_of_ble_eq_true rfl) (Or.inl rfl) (fun Rt A hA hr => b_X9_lacks_0 hA s f i M ?_)⟩
    repeat' (first | exact hr | assumption | omega | exact ol_r_l (by assumption) | exact ⟨by decide, by decide⟩ | refine ol_if.mk (fun _ => ?_) (fun _ => ?_) | refine And.intro ?_ ?_)
theorem sp_lacks_r {S : ol_M} {s f i : Int} : 0 ≤ sp_lacks S s f i ∧ sp_lacks S s f i ≤ 3 := by
  unfold sp_lacks
  split
  · decide
  · split
    · decide
    · split <;> decide
theorem sp_lacks_0 {S : ol_M} {s f i : Int} (h : sp_lacks S s f i = 0) : 0 ≤ S 15 s ∧ S 15 s = f ∧ 0 ≤ i ∧ i < S 16 s := by
  unfold sp_lacks at h
  by_cases c1 : S 15 s < 0
  · rw [if_pos c1] at h; cases h
  rw [if_neg c1] at h
  by_cases c2 : S 15 s ≠ f
  · rw [if_pos c2] at h; cases h
  rw [if_neg c2] at h
  by_cases c3 : 0 ≤ i ∧ i < S 16 s
  · exact ⟨by omega, Classical.not_not.mp c2, c3⟩
  · rw [if_neg c3] at h; cases h
/-- a row of items has changed, no more -/
theorem im.newi {S M : ol_M} (h : im S M) (hs : sp_ok S) {t : Int} (t0 : 0 ≤ t) (t1 : t ≤ 3) (ht : 0 ≤ S 15 t) (g g' : Int → Int) (hg : ∀ i, 0 ≤ i → i < S 16 t → g' (60 * t + i) = g i) (ho : ∀ j, ¬ (60 * t ≤ j ∧ j < 60 * t + S 16 t) → g' j = M 135 j) {M' : ol_M} (e1 : M' 132 = M 132) (e2 : M' 133 = M 133) (e3 : M' 134 = M 134) (e5 : M' 135 = g') (eM : ∀ k, 136 < k → M' k = M k) : im (ol_mp S (20 + t) g) M' := by
  refine h.newh (fun k q => ol_mp_ne _ _ (by omega)) e1 eM ?_
  intro u h0 h9
  obtain ⟨f1, f2⟩ := h.h u h0 h9
  rw [e2, e3, e5, ol_mp_ne _ _ (show (15 : Int) ≠ 20 + t by omega), ol_mp_ne _ _ (show (16 : Int) ≠ 20 + t by omega)]
  refine ⟨f1, fun q => ⟨(f2 q).1, fun i i0 i1 => ?_⟩⟩
  have hz := ((hs.h u h0 h9).2 q).1
  have hw := ((hs.h t (by omega) (by omega)).2 ht).1
  by_cases ut : u = t
  · subst ut
    rw [ol_mp_same]
    exact hg i i0 i1
  · rw [ol_mp_ne _ _ (by omega), ho _ (by omega)]
    exact (f2 q).2 i i0 i1
theorem m_lay {n : Nat} {S M : ol_M} (h : im S M) (hs : sp_ok S) {s f i v : Int} (r1 : ol_r s) (r2 : ol_r f) (r3 : ol_r i) : m_ok n 3 q_X9_lay [.inl s, .inl f, .inl i, .inl v] S M (sp_lay S s f i v) := by
  unfold sp_lay
  by_cases b : ¬ (0 ≤ s ∧ s ≤ 3) ∨ ¬ (0 ≤ f ∧ f ≤ 2)
  · rw [if_pos b]
    refine ⟨M, ol_Ri (q := q_X9_lay) (by decide +kernel) (Nat.le_of_ble_eq_true rfl) (Or.inl rfl) (fun Rt A hA hr => b_X9_lay_0 hA s f i v M ?_), h, fm.rf⟩
    repeat' (first | exact hr | assumption | omega | exact ol_r_l (by assumption) | exact ⟨by decide, by decide⟩ | refine ol_if.mk (fun _ => ?_) (fun _ => ?_) | refine And.intro ?_ ?_)
  rw [if_neg b]
  obtain ⟨l1, l2⟩ := m_lacks (n := n) h hs (s := s) r2 r3 (by omega) (by omega)
  have lr := @sp_lacks_r S s f i
  by_cases b2 : sp_lacks S s f i ≠ 0
  · rw [if_pos b2]
    refine ⟨ol_ms M 132 4 _, ol_Ri (q := q_X9_lay) (by decide +kernel) (Nat.le_of_ble_eq_true rfl) (Or.inl rfl) (fun Rt A hA hr => b_X9_lay_0 hA s f i v M ⟨r1, ol_if.pos (by omega) ⟨r2, ol_r_l r2, ol_if.pos (by omega) ⟨_, _, l2 b2, ol_if.neg (by omega) ⟨⟨by omega, by omega⟩, hr⟩⟩⟩⟩), h.find _, fm.rf.ms⟩
  rw [if_neg b2]
  obtain ⟨z1, z2, z3, z4⟩ := sp_lacks_0 (Classical.not_not.mp b2)
  have hw := ((hs.h s (by omega) (by omega)).2 z1).1
  refine m_ok.of ⟨ol_ms M 135 (60 * s + i) (ol_cut f v), ol_Ri (q := q_X9_lay) (by decide +kernel) (Nat.le_of_ble_eq_true rfl) (Or.inl rfl) (fun Rt A hA hr => b_X9_lay_0 hA s f i v M ⟨r1, ol_if.pos (by omega) ⟨r2, ol_r_l r2, ol_if.pos (by omega) ⟨_, _, l1 (Classical.not_not.mp b2), ol_if.pos rfl ⟨r2, by omega, by omega, hr⟩⟩⟩⟩), ?_, fm.rf.ms⟩
  refine h.newi hs (by omega) (by omega) z1 _ (ol_rs (M 135) (60 * s + i) (ol_cut f v)) (fun j j0 j1 => ?_) (fun j hj => ol_rsN _ _ (by omega)) (by simp [ol_ms, ol_mp, ol_rs]) (by simp [ol_ms, ol_mp, ol_rs]) (by simp [ol_ms, ol_mp, ol_rs]) (ol_ms_row _ _ _ _) (fun k q => ol_ms_ne _ _ _ (by omega))
  by_cases ji : j = i
  · subst ji
    rw [ol_rsA, ol_rsA]
  · rw [ol_rsN _ _ ji, ol_rsN _ _ (by omega)]
    exact ((h.h s (by omega) (by omega)).2 z1).2 j j0 j1
theorem m_get {n : Nat} {S M : ol_M} (h : im S M) (hs : sp_ok S) {s f i : Int} (r1 : ol_r s) (r2 : ol_r f) (r3 : ol_r i) : m_ok n 3 q_X9_get [.inl s, .inl f, .inl i] S M (sp_get S s f i) := by
  unfold sp_get
  by_cases b : ¬ (0 ≤ s ∧ s ≤ 3) ∨ ¬ (0 ≤ f ∧ f ≤ 2)
  · rw [if_pos b]
    refine ⟨M, ol_Ri (q := q_X9_get) (by decide +kernel) (Nat.le_of_ble_eq_true rfl) (Or.inl rfl) (fun Rt A hA hr => b_X9_get_0 hA s f i M ?_), h, fm.rf⟩
    repeat' (first | exact hr | assumption | omega | exact ol_r_l (by assumption) | exact ⟨by decide, by decide⟩ | refine ol_if.mk (fun _ => ?_) (fun _ => ?_) | refine And.intro ?_ ?_)
  rw [if_neg b]
  obtain ⟨l1, l2⟩ := m_lacks (n := n) h hs (s := s) r2 r3 (by omega) (by omega)
  have lr := @sp_lacks_r S s f i
  by_cases b2 : sp_lacks S s f i ≠ 0
  · rw [if_pos b2]
    exact m_ok.of ⟨ol_ms M 132 4 _, ol_Ri (q := q_X9_get) (by decide +kernel) (Nat.le_of_ble_eq_true rfl) (Or.inl rfl) (fun Rt A hA hr => b_X9_get_0 hA s f i M ⟨r1, ol_if.pos (by omega) ⟨r2, ol_r_l r2, ol_if.pos (by omega) ⟨_, _, l2 b2, ol_if.neg (by omega) ⟨⟨by omega, by omega⟩, hr⟩⟩⟩⟩), h.find _, fm.rf.ms⟩
  rw [if_neg b2]
  obtain ⟨z1, z2, z3, z4⟩ := sp_lacks_0 (Classical.not_not.mp b2)
  have hw := ((hs.h s (by omega) (by omega)).2 z1).1
  have hv := ((h.h s (by omega) (by omega)).2 z1).2 i z3 z4
  refine m_ok.of ⟨M, ol_Ri (q := q_X9_get) (by decide +kernel) (Nat.le_of_ble_eq_true rfl) (Or.inl rfl) (fun Rt A hA hr => b_X9_get_0 hA s f i M ⟨r1, ol_if.pos (by omega) ⟨r2, ol_r_l r2, ol_if.pos (by omega) ⟨_, _, l1 (Classical.not_not.mp b2), ol_if.pos rfl ⟨by omega, by omega, ol_rt hr hv.symm⟩⟩⟩⟩), h, fm.rf⟩
theorem m_copy {n : Nat} {S M : ol_M} (h : im S M) (hs : sp_ok S) {s i t j c : Int} (r1 : ol_r s) (r2 : ol_r i) (r3 : ol_r t) (r4 : ol_r j) (r5 : ol_r c) : m_ok n 3 q_X9_copy [.inl s, .inl i, .inl t, .inl j, .inl c] S M (sp_copy S s i t j c) := by
  unfold sp_copy
  by_cases b : ¬ (0 ≤ s ∧ s ≤ 3) ∨ ¬ (0 ≤ t ∧ t ≤ 3)
  · rw [if_pos b]
    refine ⟨M, ol_Ri (q := q_X9_copy) (by decide +kernel) (Nat.le_of_ble_eq_true rfl) (Or.inl rfl) (fun Rt A hA hr => b_X9_copy_0 hA s i t j c M ?_), h, fm.rf⟩
    repeat' (first | exact hr | assumption | omega | exact ol_r_l (by assumption) | exact ⟨by decide, by decide⟩ | refine ol_if.mk (fun _ => ?_) (fun _ => ?_) | refine And.intro ?_ ?_)
  rw [if_neg b]
  obtain ⟨e1, e2⟩ := h.h s (by omega) (by omega)
  obtain ⟨k1, k2⟩ := hs.h s (by omega) (by omega)
  obtain ⟨f1, f2⟩ := h.h t (by omega) (by omega)
  obtain ⟨g1, g2⟩ := hs.h t (by omega) (by omega)
  have r6 : ol_r (M 133 s) := ⟨by omega, by omega⟩
  have r7 : ol_r (M 133 t) := ⟨by omega, by omega⟩
  have go : ∀ {Rt : Option ol_V → ol_M → Prop} {A : Nat → ol_Ls → ol_St → ol_M → Prop} (hA : ol_C q_X9_copy.1.cls q_X9_copy.2.1 2 (ol_lay n) Rt A), A 17 [some (.inr (.inr 132)), some (.inl s), some (.inl i), some (.inl t), some (.inl j), some (.inl c), none] [] M → A 0 [some (.inr (.inr 132)), some (.inl s), some (.inl i), some (.inl t), some (.inl j), some (.inl c), none] [] M := fun hA hr => b_X9_copy_0 hA s i t j c M ⟨r1, ol_if.pos (by omega) ⟨r3, ol_if.pos (by omega) hr⟩⟩
  by_cases b2 : S 15 s < 0 ∨ S 15 t < 0
  · rw [if_pos b2]
    refine ⟨ol_ms M 132 4 1, ol_Ri (q := q_X9_copy) (by decide +kernel) (Nat.le_of_ble_eq_true rfl) (Or.inl rfl) (fun Rt A hA hr => go hA (b_X9_copy_17 hA s i t j c M ?_)), h.find 1, fm.rf.ms⟩
    repeat' (first | exact hr | assumption | omega | exact ol_r_l (by assumption) | exact ⟨by decide, by decide⟩ | refine ol_if.mk (fun _ => ?_) (fun _ => ?_) | refine And.intro ?_ ?_)
  rw [if_neg b2]
  by_cases b3 : S 15 s ≠ S 15 t
  · rw [if_pos b3]
    refine ⟨ol_ms M 132 4 4, ol_Ri (q := q_X9_copy) (by decide +kernel) (Nat.le_of_ble_eq_true rfl) (Or.inl rfl) (fun Rt A hA hr => go hA (b_X9_copy_17 hA s i t j c M ?_)), h.find 4, fm.rf.ms⟩
    repeat' (first | exact hr | assumption | omega | exact ol_r_l (by assumption) | exact ⟨by decide, by decide⟩ | refine ol_if.mk (fun _ => ?_) (fun _ => ?_) | refine And.intro ?_ ?_)
  rw [if_neg b3]
  have go2 : ∀ {Rt : Option ol_V → ol_M → Prop} {A : Nat → ol_Ls → ol_St → ol_M → Prop} (hA : ol_C q_X9_copy.1.cls q_X9_copy.2.1 2 (ol_lay n) Rt A), A 62 [some (.inr (.inr 132)), some (.inl s), some (.inl i), some (.inl t), some (.inl j), some (.inl c), none] [] M → A 0 [some (.inr (.inr 132)), some (.inl s), some (.inl i), some (.inl t), some (.inl j), some (.inl c), none] [] M := fun hA hr => go hA (b_X9_copy_17 hA s i t j c M ⟨by omega, by omega, r6, ol_if.neg (by omega) ⟨by omega, by omega, r7, ol_if.pos (by omega) ⟨by omega, by omega, by omega, by omega, ol_if.pos (by omega) hr⟩⟩⟩)
  have e3 := (e2 (by omega)).1
  have k3 := (k2 (by omega)).1
  have f3 := (f2 (by omega)).1
  have g3 := (g2 (by omega)).1
  have r8 : ol_r (M 134 s) := ⟨by omega, by omega⟩
  have r9 : ol_r (M 134 t) := ⟨by omega, by omega⟩
  have rA : ol_rl (i + c) := ⟨by have := r2.1; have := r5.1; omega, by have := r2.2; have := r5.2; omega⟩
  have rB : ol_rl (j + c) := ⟨by have := r4.1; have := r5.1; omega, by have := r4.2; have := r5.2; omega⟩
  by_cases b4 : i < 0 ∨ j < 0 ∨ c < 0 ∨ S 16 s < i + c ∨ S 16 t < j + c
  · rw [if_pos b4]
    refine ⟨ol_ms M 132 4 2, ol_Ri (q := q_X9_copy) (by decide +kernel) (Nat.le_of_ble_eq_true rfl) (Or.inl rfl) (fun Rt A hA hr => go2 hA (b_X9_copy_62 hA s i t j c M ?_)), h.find 2, fm.rf.ms⟩
    repeat' (first | exact hr | assumption | omega | exact ol_r_l (by assumption) | exact ⟨by decide, by decide⟩ | refine ol_if.mk (fun _ => ?_) (fun _ => ?_) | refine And.intro ?_ ?_)
  rw [if_neg b4]
  obtain ⟨M1, hM1⟩ : ∃ x, x = ol_mp M 136 (ol_rg (M 136) 0 c (fun a => M 135 (60 * s + i + a))) := ⟨_, rfl⟩
  have m1 : M1 135 = M 135 := by rw [hM1]; simp [ol_mp]
  refine m_ok.of ⟨ol_mp M1 135 (ol_rg (M1 135) (60 * t + j) (60 * t + j + c) (fun q => M1 136 (q - (60 * t + j)))), ol_Ri (q := q_X9_copy) (by decide +kernel) (Nat.le_of_ble_eq_true rfl) (Or.inl rfl) (fun Rt A hA hr => go2 hA (b_X9_copy_62 hA s i t j c M ⟨r2, ol_if.neg (by omega) ⟨r4, ol_if.neg (by omega) ⟨r5, ol_if.neg (by omega) ⟨r2, r5, by omega, by omega, r8, rA, ol_r_l r8, ol_if.neg (by omega) ⟨r4, r5, by omega, by omega, r9, rB, ol_r_l r9, ol_if.pos (by omega) ?_⟩⟩⟩⟩⟩)), ?_, ?_⟩
  · have z1 : A 157 [some (.inr (.inr 132)), none, none, some (.inl t), some (.inl j), some (.inl c), some (.inl 0)] [] (ol_mp M1 135 (ol_rg (M1 135) (60 * t + j) (60 * t + j + 0) (fun q => M1 136 (q - (60 * t + j))))) := by
      refine ol_loop (P := fun a => A 157 [some (.inr (.inr 132)), none, none, some (.inl t), some (.inl j), some (.inl c), some (.inl a)] [] (ol_mp M1 135 (ol_rg (M1 135) (60 * t + j) (60 * t + j + a) (fun q => M1 136 (q - (60 * t + j)))))) (a := 0) (b := c) (by omega) (fun a h0 h1 hi => ?_) ?_
      · refine b_X9_copy_157 hA t j c a _ ⟨⟨by omega, by omega⟩, r5, ol_if.neg (by omega) ⟨by omega, by omega, by omega, by omega, ?_⟩⟩
        rw [ol_rg_ms M1 135 _ _ (by omega) (by rw [ol_mp_ne _ _ (by decide)]; congr 1; omega), Int.add_assoc]
        exact hi
      · exact b_X9_copy_157 hA t j c c _ ⟨r5, r5, ol_if.pos (by omega) hr⟩
    rw [Int.add_zero, ol_rg_mp0] at z1
    have z2 : A 120 [some (.inr (.inr 132)), some (.inl s), some (.inl i), some (.inl t), some (.inl j), some (.inl c), some (.inl 0)] [] (ol_mp M 136 (ol_rg (M 136) 0 0 (fun a => M 135 (60 * s + i + a)))) := by
      refine ol_loop (P := fun a => A 120 [some (.inr (.inr 132)), some (.inl s), some (.inl i), some (.inl t), some (.inl j), some (.inl c), some (.inl a)] [] (ol_mp M 136 (ol_rg (M 136) 0 a (fun a => M 135 (60 * s + i + a))))) (a := 0) (b := c) (by omega) (fun a h0 h1 hi => ?_) ?_
      · refine b_X9_copy_120 hA s i t j c a _ ⟨⟨by omega, by omega⟩, r5, ol_if.neg (by omega) ⟨by omega, by omega, by omega, by omega, ?_⟩⟩
        rw [ol_rg_ms M 136 _ _ (by omega) (by rw [ol_mp_ne _ _ (by decide)])]
        exact hi
      · refine b_X9_copy_120 hA s i t j c c _ ⟨r5, r5, ol_if.pos (by omega) ?_⟩
        rw [← hM1]
        exact z1
    rw [ol_rg_mp0] at z2
    exact z2
  · have q1 : ∀ k, k ≠ 135 → k ≠ 136 → ol_mp M1 135 (ol_rg (M1 135) (60 * t + j) (60 * t + j + c) (fun q => M1 136 (q - (60 * t + j)))) k = M k := fun k a b => by
      rw [ol_mp_ne _ _ a, hM1, ol_mp_ne _ _ b]
    refine h.newi hs (by omega) (by omega) (by omega) _ _ (fun a a0 a1 => ?_) (fun a ha => ?_) (q1 132 (by decide) (by decide)) (q1 133 (by decide) (by decide)) (q1 134 (by decide) (by decide)) (ol_mp_same _ _ _) (fun k q => q1 k (by omega) (by omega))
    · unfold ol_cp
      by_cases ha : j ≤ a ∧ a < j + c
      · rw [if_pos ha, ol_rg_in (by omega) (by omega), hM1, ol_mp_same, ol_rg_in (by omega) (by omega)]
        rw [← (e2 (by omega)).2 (i + (a - j)) (by omega) (by omega)]
        congr 1
        omega
      · rw [if_neg ha, ol_rg_out (by omega), m1]
        exact (f2 (by omega)).2 a a0 a1
    · rw [ol_rg_out (by omega), m1]
  · rw [hM1]
    exact (fm.rf.mp).mp
