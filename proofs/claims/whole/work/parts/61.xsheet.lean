theorem ix.h {S M : ol_M} (h : ix S M) : ix_h S M := h.1.2.2.2.2.2.2.2.2
theorem ix.s {S M : ol_M} (h : ix S M) : ix_s S M := h.1.2.2.2.2.2.2.1
theorem ix.f {S M : ol_M} (h : ix S M) : ix_f S M := h.1.2.2.2.2.2.2.2.1
theorem ix_find {S M : ol_M} (hs : sp_ok S) (h : ix S M) (f : Int) : ix (sp_find S f).2 (ol_ms M 0 9 f) := by
  have n : ∀ c : Int, c ≠ 0 → ol_ms M 0 9 f c = M c := fun c q => ol_ms_ne _ _ _ q
  have m : ∀ c : Int, c ≠ 0 → (sp_find S f).2 c = S c := fun c q => ol_ms_ne _ _ _ q
  have e : ∀ j : Int, j ≠ 5 → (sp_find S f).2 0 j = S 0 j := fun j q => ol_ms_i S 0 f q
  refine h.same hs.1 ⟨fun j j0 j1 => e j (by omega), fun k k0 k1 => m k (by omega)⟩ ⟨fun c a _ _ _ => n c (by omega), fun j _ => by rw [n 37 (by decide)], fun j q => ol_ms_i _ _ _ q⟩ (h.s.keep (e _ (by decide)) (m _ (by decide)) (m _ (by decide)) (m _ (by decide)) (m _ (by decide)) (by rw [n 37 (by decide)]) (n _ (by decide)) (n _ (by decide)) (n _ (by decide)) (n _ (by decide))) ?_ (h.h.keep (fun k q => m k (by omega)) (fun c a _ => n c (by omega)))
  exact ⟨by rw [ol_msA]; exact (ol_msA S 0 5 f).symm, fun w w0 w1 l l0 l1 => by rw [n _ (by omega)]; exact h.f.2 w w0 w1 l l0 l1⟩
/-- the sheets have changed, no more -/
theorem ix.newh {S M S' M' : ol_M} (hs : sp_ok S) (h : ix S M) (eS : ∀ k, k < 15 → S' k = S k) (eM : ∀ k, (k < 111 ∨ 118 < k) → M' k = M k) (h8 : ix_h S' M') : ix S' M' := by
  refine h.same hs.1 ⟨fun j _ _ => by rw [eS 0 (by decide)], fun k k0 k1 => eS k (by omega)⟩ ⟨fun c _ a _ _ => eM c (Or.inl a), fun j _ => by rw [eM 37 (by decide)], fun j _ => by rw [eM 0 (by decide)]⟩ (h.s.keep (by rw [eS 0 (by decide)]) (eS _ (by decide)) (eS _ (by decide)) (eS _ (by decide)) (eS _ (by decide)) (by rw [eM 37 (by decide)]) (eM _ (by decide)) (eM _ (by decide)) (eM _ (by decide)) (eM _ (by decide))) (h.f.keep (by rw [eS 0 (by decide)]) (by rw [eM 0 (by decide)]) (fun c a _ => eM c (by omega))) h8
/-- a row of items has changed, no more -/
theorem ix.newi {S M : ol_M} (hs : sp_ok S) (h : ix S M) {t : Int} (t0 : 0 ≤ t) (t1 : t ≤ 3) (ht : 0 ≤ S 15 t) {g : Int → Int} {M' : ol_M} (hg : ∀ i, 0 ≤ i → i < S 16 t → M' (115 + t) i = g i) (eM : ∀ k, k ≠ 115 + t → M' k = M k) : ix (ol_mp S (20 + t) g) M' := by
  refine h.newh hs (fun k q => ol_mp_ne _ _ (by omega)) (fun k q => eM k (by omega)) (fun u h0 h9 => ?_)
  obtain ⟨f0, f1, f2⟩ := h.h u h0 h9
  rw [eM 112 (by omega), eM 113 (by omega), ol_mp_ne _ _ (show (15 : Int) ≠ 20 + t by omega), ol_mp_ne _ _ (show (16 : Int) ≠ 20 + t by omega)]
  refine ⟨f0, f1, fun q => ⟨(f2 q).1, (f2 q).2.1, fun i i0 i1 => ?_⟩⟩
  by_cases ut : u = t
  · subst ut
    rw [ol_mp_same]
    exact hg i i0 i1
  · rw [ol_mp_ne _ _ (by omega), eM (115 + u) (by omega)]
    exact (f2 q).2.2 i i0 i1
theorem x_make {n : Nat} {M : ol_M} {s f c : Int} (s0 : 0 ≤ s) (s1 : s < 4) : ol_R (ol_lay n) 2 q_X4_make [.inr (.inr 111), .inl s, .inl f, .inl c] M none (ol_mp (ol_ms (ol_ms M 112 s f) 113 s c) (115 + s) (ol_fl ((ol_ms (ol_ms M 112 s f) 113 s c) (115 + s)) 0 60)) :=
  ol_Ri (q := q_X4_make) (by decide +kernel) (Nat.le_of_ble_eq_true rfl) rfl (fun Rt A hA hr => b_X4_make_0 hA s f c M ⟨s0, s1, s0, s1, s0, s1, hr⟩)
theorem x_put {n : Nat} {M : ol_M} {s i v : Int} (s0 : 0 ≤ s) (s1 : s < 4) (i0 : 0 ≤ i) (i1 : i < 60) (r : ol_r (M 112 s)) : ol_R (ol_lay n) 1 q_X4_put [.inr (.inr 111), .inl s, .inl i, .inl v] M none (ol_ms M (115 + s) i (ol_cut (M 112 s) v)) := by
  refine ol_Ri (q := q_X4_put) (by decide +kernel) (Nat.le_of_ble_eq_true rfl) rfl (fun Rt A hA hr => b_X4_put_0 hA s i v M ⟨s0, s1, ?_⟩)
  unfold ol_cut at hr
  refine ol_if.mk (fun c => ⟨s0, s1, i0, i1, ?_⟩) (fun c => ⟨r, s0, s1, ol_if.mk (fun d => ⟨s0, s1, i0, i1, ?_⟩) (fun d => ⟨r, s0, s1, i0, i1, ?_⟩)⟩)
  · rw [if_pos c] at hr; exact hr
  · rw [if_neg c, if_pos d] at hr; exact hr
  · rw [if_neg c, if_neg d] at hr; exact hr
theorem x_sheet {n : Nat} {S M : ol_M} (h : ix S M) (hs : sp_ok S) {s f c : Int} (r1 : ol_r s) (r2 : ol_r f) (r3 : ol_r c) : x_ok n 3 q_X8_sheet [.inl s, .inl f, .inl c] S M (sp_sheet S s f c) := by
  unfold sp_sheet
  by_cases b : ¬ (0 ≤ s ∧ s ≤ 3) ∨ ¬ (0 ≤ f ∧ f ≤ 2) ∨ 60 < c
  · rw [if_pos b]
    refine ⟨M, ol_Ri (q := q_X8_sheet) (by decide +kernel) (Nat.le_of_ble_eq_true rfl) (Or.inl rfl) (fun Rt A hA hr => b_X8_sheet_0 hA s f c M ?_), h, fx.rf⟩
    refine ⟨r1, ol_if.mk (fun d1 => ⟨r2, ol_if.mk (fun d2 => ⟨r3, ol_if.neg (by omega) hr⟩) (fun _ => hr)⟩) (fun _ => hr)⟩
  rw [if_neg b]
  by_cases b2 : c < 0
  · rw [if_pos b2]
    exact ⟨ol_ms M 0 9 5, ol_Ri (q := q_X8_sheet) (by decide +kernel) (Nat.le_of_ble_eq_true rfl) (Or.inl rfl) (fun Rt A hA hr => b_X8_sheet_0 hA s f c M ⟨r1, ol_if.pos (by omega) ⟨r2, ol_if.pos (by omega) ⟨r3, ol_if.pos (by omega) ⟨r3, ol_if.neg (by omega) hr⟩⟩⟩⟩), ix_find hs h 5, fx.rf.ms⟩
  rw [if_neg b2]
  refine x_ok.of ⟨_, ol_Ri (q := q_X8_sheet) (by decide +kernel) (Nat.le_of_ble_eq_true rfl) (Or.inl rfl) (fun Rt A hA hr => b_X8_sheet_0 hA s f c M ⟨r1, ol_if.pos (by omega) ⟨r2, ol_if.pos (by omega) ⟨r3, ol_if.pos (by omega) ⟨r3, ol_if.pos (by omega) ⟨_, x_make (by omega) (by omega), hr⟩⟩⟩⟩⟩), ?_, ((fx.rf.ms).ms).mp (by omega)⟩
  refine h.newh hs (fun k q => ?_) (fun k q => ?_) (fun t h0 h9 => ?_)
  · rw [ol_mp_ne _ _ (by omega), ol_ms_ne _ _ _ (by omega), ol_ms_ne _ _ _ (by omega)]
  · rw [ol_mp_ne _ _ (by omega), ol_ms_ne _ _ _ (by omega), ol_ms_ne _ _ _ (by omega)]
  · obtain ⟨e0, e1, e2⟩ := h.h t h0 h9
    rw [ol_mp_ne _ _ (show (112 : Int) ≠ 115 + s by omega), ol_mp_ne _ _ (show (113 : Int) ≠ 115 + s by omega), ol_ms_ne _ _ _ (show (112 : Int) ≠ 113 by decide), ol_ms_row, ol_ms_row, ol_ms_ne _ _ _ (show (113 : Int) ≠ 112 by decide)]
    rw [ol_mp_ne _ _ (show (15 : Int) ≠ 20 + s by omega), ol_mp_ne _ _ (show (16 : Int) ≠ 20 + s by omega), ol_ms_ne _ _ _ (show (15 : Int) ≠ 16 by decide), ol_ms_row, ol_ms_row, ol_ms_ne _ _ _ (show (16 : Int) ≠ 15 by decide)]
    by_cases ts : t = s
    · subst ts
      rw [ol_rsA, ol_rsA, ol_rsA, ol_rsA]
      refine ⟨by omega, fun q => by omega, fun _ => ⟨rfl, rfl, fun i i0 i1 => ?_⟩⟩
      rw [ol_mp_same, ol_mp_same]
      unfold ol_fl
      rw [if_pos ⟨i0, by omega⟩]
    · rw [ol_rsN _ _ ts, ol_rsN _ _ ts, ol_rsN _ _ ts, ol_rsN _ _ ts]
      refine ⟨e0, e1, fun q => ⟨(e2 q).1, (e2 q).2.1, fun i i0 i1 => ?_⟩⟩
      rw [ol_mp_ne _ _ (by omega), ol_ms_ne _ _ _ (by omega), ol_ms_ne _ _ _ (by omega), ol_mp_ne _ _ (by omega), ol_ms_ne _ _ _ (by omega), ol_ms_ne _ _ _ (by omega)]
      exact (e2 q).2.2 i i0 i1
theorem ix_sz {S M : ol_M} (hs : sp_ok S) (h : ix S M) {s : Int} (s0 : 0 ≤ s) (s1 : s < 4) : -1 ≤ M 113 s ∧ M 113 s ≤ 60 ∧ (S 15 s < 0 ↔ M 113 s = -1) := by
  obtain ⟨e0, e1, e2⟩ := h.h s s0 s1
  obtain ⟨k1, k2⟩ := hs.h s s0 s1
  by_cases c : S 15 s < 0
  · rw [e1 c]
    exact ⟨by decide, by decide, fun _ => rfl, fun _ => c⟩
  · have a := (e2 (by omega)).2.1
    have b := (k2 (by omega)).1
    rw [a]
    exact ⟨by omega, by omega, fun q => absurd q c, fun q => by omega⟩
theorem x_lose {n : Nat} {S M : ol_M} (h : ix S M) (hs : sp_ok S) {s : Int} (r1 : ol_r s) : x_ok n 2 q_X8_lose [.inl s] S M (sp_lose S s) := by
  unfold sp_lose
  by_cases b : ¬ (0 ≤ s ∧ s ≤ 3)
  · rw [if_pos b]
    exact ⟨M, ol_Ri (q := q_X8_lose) (by decide +kernel) (Nat.le_of_ble_eq_true rfl) (Or.inl rfl) (fun Rt A hA hr => b_X8_lose_0 hA s M ⟨r1, ol_if.neg (by omega) hr⟩), h, fx.rf⟩
  rw [if_neg b]
  obtain ⟨z1, z2, z3⟩ := ix_sz hs h (s := s) (by omega) (by omega)
  have r2 : ol_r (M 113 s) := ⟨by omega, by omega⟩
  by_cases b2 : S 15 s < 0
  · rw [if_pos b2]
    exact ⟨ol_ms M 0 9 1, ol_Ri (q := q_X8_lose) (by decide +kernel) (Nat.le_of_ble_eq_true rfl) (Or.inl rfl) (fun Rt A hA hr => b_X8_lose_0 hA s M ⟨r1, ol_if.pos (by omega) ⟨by omega, by omega, r2, ol_if.pos (by omega) hr⟩⟩), ix_find hs h 1, fx.rf.ms⟩
  rw [if_neg b2]
  obtain ⟨e0, e1, e2⟩ := h.h s (by omega) (by omega)
  refine x_ok.of ⟨ol_ms M 113 s (-1), ol_Ri (q := q_X8_lose) (by decide +kernel) (Nat.le_of_ble_eq_true rfl) (Or.inl rfl) (fun Rt A hA hr => b_X8_lose_0 hA s M ⟨r1, ol_if.pos (by omega) ⟨by omega, by omega, r2, ol_if.neg (by omega) ⟨by omega, by omega, by omega, by omega, ol_rt hr (e2 (by omega)).2.1.symm⟩⟩⟩), ?_, fx.rf.ms⟩
  refine h.newh hs (fun k q => ol_ms_ne _ _ _ (by omega)) (fun k q => ol_ms_ne _ _ _ (by omega)) (fun t h0 h9 => ?_)
  obtain ⟨g0, g1, g2⟩ := h.h t h0 h9
  rw [ol_ms_ne _ _ _ (show (112 : Int) ≠ 113 by decide), ol_ms_row, ol_ms_row, ol_ms_ne _ _ _ (show (115 + t : Int) ≠ 113 by omega), ol_ms_ne _ _ _ (show (16 : Int) ≠ 15 by decide), ol_ms_ne _ _ _ (show (20 + t : Int) ≠ 15 by omega)]
  by_cases ts : t = s
  · subst ts
    rw [ol_rsA, ol_rsA]
    exact ⟨g0, fun _ => rfl, fun q => absurd q (by decide)⟩
  · rw [ol_rsN _ _ ts, ol_rsN _ _ ts]
    exact ⟨g0, g1, g2⟩
theorem ix_fnd {S M : ol_M} (hs : sp_ok S) (h : ix S M) {s : Int} (s0 : 0 ≤ s) (s1 : s < 4) (f i : Int) : ol_fnd M s f i = sp_lacks S s f i := by
  obtain ⟨z1, z2, z3⟩ := ix_sz hs h s0 s1
  obtain ⟨e0, e1, e2⟩ := h.h s s0 s1
  unfold ol_fnd sp_lacks
  by_cases c : S 15 s < 0
  · rw [if_pos c, if_pos (e1 c)]
  · rw [if_neg c, if_neg (fun q => c (z3.mpr q)), (e2 (by omega)).1, (e2 (by omega)).2.1]
theorem x_lay {n : Nat} {S M : ol_M} (h : ix S M) (hs : sp_ok S) {s f i v : Int} (r1 : ol_r s) (r2 : ol_r f) (r3 : ol_r i) : x_ok n 3 q_X8_lay [.inl s, .inl f, .inl i, .inl v] S M (sp_lay S s f i v) := by
  unfold sp_lay
  by_cases b : ¬ (0 ≤ s ∧ s ≤ 3) ∨ ¬ (0 ≤ f ∧ f ≤ 2)
  · rw [if_pos b]
    exact ⟨M, ol_Ri (q := q_X8_lay) (by decide +kernel) (Nat.le_of_ble_eq_true rfl) (Or.inl rfl) (fun Rt A hA hr => b_X8_lay_0 hA s f i v M ⟨r1, ol_if.mk (fun d => ⟨r2, ol_if.neg (by omega) hr⟩) (fun _ => hr)⟩), h, fx.rf⟩
  rw [if_neg b]
  obtain ⟨z1, z2, z3⟩ := ix_sz hs h (s := s) (by omega) (by omega)
  obtain ⟨e0, e1, e2⟩ := h.h s (by omega) (by omega)
  have ef := ix_fnd hs h (s := s) (by omega) (by omega) f i
  have lr := @sp_lacks_r S s f i
  have r4 : ol_r (M 113 s) := ⟨by omega, by omega⟩
  have r5 : ol_r (M 112 s) := ⟨by omega, by omega⟩
  by_cases b2 : sp_lacks S s f i ≠ 0
  · rw [if_pos b2]
    refine ⟨ol_ms M 0 9 _, ol_Ri (q := q_X8_lay) (by decide +kernel) (Nat.le_of_ble_eq_true rfl) (Or.inl rfl) (fun Rt A hA hr => b_X8_lay_0 hA s f i v M ⟨r1, ol_if.pos (by omega) ⟨r2, ol_if.pos (by omega) ⟨by omega, by omega, r4, r5, r2, r3, ?_⟩⟩⟩), ix_find hs h _, fx.rf.ms⟩
    rw [ef]
    exact ol_if.neg b2 ⟨⟨by omega, by omega⟩, hr⟩
  rw [if_neg b2]
  have b3 := Classical.not_not.mp b2
  obtain ⟨y1, y2, y3, y4⟩ := sp_lacks_0 b3
  have hw := ((hs.h s (by omega) (by omega)).2 y1).1
  refine x_ok.of ⟨_, ol_Ri (q := q_X8_lay) (by decide +kernel) (Nat.le_of_ble_eq_true rfl) (Or.inl rfl) (fun Rt A hA hr => b_X8_lay_0 hA s f i v M ⟨r1, ol_if.pos (by omega) ⟨r2, ol_if.pos (by omega) ⟨by omega, by omega, r4, r5, r2, r3, ol_if.pos (ef.trans b3) ⟨_, x_put (by omega) (by omega) (by omega) (by omega) r5, hr⟩⟩⟩⟩), ?_, fx.rf.ms (by omega)⟩
  rw [(e2 y1).1, y2]
  refine h.newi hs (by omega) (by omega) y1 (fun j j0 j1 => ?_) (fun k q => ol_ms_ne _ _ _ q)
  rw [ol_ms_row]
  by_cases ji : j = i
  · rw [ji, ol_rsA, ol_rsA]
  · rw [ol_rsN _ _ ji, ol_rsN _ _ ji]
    exact (e2 y1).2.2 j j0 j1
theorem x_get {n : Nat} {S M : ol_M} (h : ix S M) (hs : sp_ok S) {s f i : Int} (r1 : ol_r s) (r2 : ol_r f) (r3 : ol_r i) : x_ok n 3 q_X8_get [.inl s, .inl f, .inl i] S M (sp_get S s f i) := by
  unfold sp_get
  by_cases b : ¬ (0 ≤ s ∧ s ≤ 3) ∨ ¬ (0 ≤ f ∧ f ≤ 2)
  · rw [if_pos b]
    exact ⟨M, ol_Ri (q := q_X8_get) (by decide +kernel) (Nat.le_of_ble_eq_true rfl) (Or.inl rfl) (fun Rt A hA hr => b_X8_get_0 hA s f i M ⟨r1, ol_if.mk (fun d => ⟨r2, ol_if.neg (by omega) hr⟩) (fun _ => hr)⟩), h, fx.rf⟩
  rw [if_neg b]
  obtain ⟨z1, z2, z3⟩ := ix_sz hs h (s := s) (by omega) (by omega)
  obtain ⟨e0, e1, e2⟩ := h.h s (by omega) (by omega)
  have ef := ix_fnd hs h (s := s) (by omega) (by omega) f i
  have lr := @sp_lacks_r S s f i
  have r4 : ol_r (M 113 s) := ⟨by omega, by omega⟩
  have r5 : ol_r (M 112 s) := ⟨by omega, by omega⟩
  by_cases b2 : sp_lacks S s f i ≠ 0
  · rw [if_pos b2]
    refine x_ok.of ⟨ol_ms M 0 9 _, ol_Ri (q := q_X8_get) (by decide +kernel) (Nat.le_of_ble_eq_true rfl) (Or.inl rfl) (fun Rt A hA hr => b_X8_get_0 hA s f i M ⟨r1, ol_if.pos (by omega) ⟨r2, ol_if.pos (by omega) ⟨by omega, by omega, r4, r5, r2, r3, ?_⟩⟩⟩), ix_find hs h _, fx.rf.ms⟩
    rw [ef]
    exact ol_if.neg b2 ⟨⟨by omega, by omega⟩, hr⟩
  rw [if_neg b2]
  have b3 := Classical.not_not.mp b2
  obtain ⟨y1, y2, y3, y4⟩ := sp_lacks_0 b3
  have hw := ((hs.h s (by omega) (by omega)).2 y1).1
  exact x_ok.of ⟨M, ol_Ri (q := q_X8_get) (by decide +kernel) (Nat.le_of_ble_eq_true rfl) (Or.inl rfl) (fun Rt A hA hr => b_X8_get_0 hA s f i M ⟨r1, ol_if.pos (by omega) ⟨r2, ol_if.pos (by omega) ⟨by omega, by omega, r4, r5, r2, r3, ol_if.pos (ef.trans b3) ⟨by omega, by omega, by omega, by omega, ol_rt hr ((e2 y1).2.2 i y3 y4).symm⟩⟩⟩⟩), h, fx.rf⟩
theorem x_copy {n : Nat} {S M : ol_M} (h : ix S M) (hs : sp_ok S) {s i t j c : Int} (r1 : ol_r s) (r2 : ol_r i) (r3 : ol_r t) (r4 : ol_r j) (r5 : ol_r c) : x_ok n 2 q_X8_copy [.inl s, .inl i, .inl t, .inl j, .inl c] S M (sp_copy S s i t j c) := by
  unfold sp_copy
  by_cases b : ¬ (0 ≤ s ∧ s ≤ 3) ∨ ¬ (0 ≤ t ∧ t ≤ 3)
  · rw [if_pos b]
    exact ⟨M, ol_Ri (q := q_X8_copy) (by decide +kernel) (Nat.le_of_ble_eq_true rfl) (Or.inl rfl) (fun Rt A hA hr => b_X8_copy_0 hA s i t j c M ⟨r1, ol_if.mk (fun d => ⟨r3, ol_if.neg (by omega) hr⟩) (fun _ => hr)⟩), h, fx.rf⟩
  rw [if_neg b]
  obtain ⟨z1, z2, z3⟩ := ix_sz hs h (s := s) (by omega) (by omega)
  obtain ⟨e0, e1, e2⟩ := h.h s (by omega) (by omega)
  obtain ⟨y1, y2, y3⟩ := ix_sz hs h (s := t) (by omega) (by omega)
  obtain ⟨g0, g1, g2⟩ := h.h t (by omega) (by omega)
  have r6 : ol_r (M 113 s) := ⟨by omega, by omega⟩
  have r7 : ol_r (M 113 t) := ⟨by omega, by omega⟩
  have r8 : ol_r (M 112 s) := ⟨by omega, by omega⟩
  have r9 : ol_r (M 112 t) := ⟨by omega, by omega⟩
  by_cases b2 : S 15 s < 0 ∨ S 15 t < 0
  · rw [if_pos b2]
    exact ⟨ol_ms M 0 9 1, ol_Ri (q := q_X8_copy) (by decide +kernel) (Nat.le_of_ble_eq_true rfl) (Or.inl rfl) (fun Rt A hA hr => b_X8_copy_0 hA s i t j c M ⟨r1, ol_if.pos (by omega) ⟨r3, ol_if.pos (by omega) (b_X8_copy_19 hA s i t j c M ⟨by omega, by omega, r6, ol_if.mk (fun _ => hr) (fun d => ⟨by omega, by omega, r7, ol_if.pos (by omega) hr⟩)⟩)⟩⟩), ix_find hs h 1, fx.rf.ms⟩
  rw [if_neg b2]
  have a1 := e2 (by omega)
  have a2 := g2 (by omega)
  have k1 := ((hs.h s (by omega) (by omega)).2 (by omega)).1
  have k2 := ((hs.h t (by omega) (by omega)).2 (by omega)).1
  have go : ∀ {Rt : Option ol_V → ol_M → Prop} {A : Nat → ol_Ls → ol_St → ol_M → Prop} (hA : ol_C q_X8_copy.1.cls q_X8_copy.2.1 1 (ol_lay n) Rt A), (S 15 s = S 15 t → A 74 [some (.inr (.inr 0)), some (.inl s), some (.inl i), some (.inl t), some (.inl j), some (.inl c)] [] M) → (S 15 s ≠ S 15 t → Rt (some (.inl ((-10) - 4))) (ol_ms M 0 9 4)) → A 0 [some (.inr (.inr 0)), some (.inl s), some (.inl i), some (.inl t), some (.inl j), some (.inl c)] [] M := fun hA hq hr => b_X8_copy_0 hA s i t j c M ⟨r1, ol_if.pos (by omega) ⟨r3, ol_if.pos (by omega) (b_X8_copy_19 hA s i t j c M ⟨by omega, by omega, r6, ol_if.neg (by omega) ⟨by omega, by omega, r7, ol_if.neg (by omega) ⟨by omega, by omega, by omega, by omega, ol_if.mk (fun d => hq (by omega)) (fun d => ⟨r8, r9, hr (by omega)⟩)⟩⟩⟩)⟩⟩
  by_cases b3 : S 15 s ≠ S 15 t
  · rw [if_pos b3]
    exact ⟨ol_ms M 0 9 4, ol_Ri (q := q_X8_copy) (by decide +kernel) (Nat.le_of_ble_eq_true rfl) (Or.inl rfl) (fun Rt A hA hr => go hA (fun q => absurd q b3) (fun _ => hr)), ix_find hs h 4, fx.rf.ms⟩
  rw [if_neg b3]
  by_cases b4 : i < 0 ∨ j < 0 ∨ c < 0 ∨ S 16 s < i + c ∨ S 16 t < j + c
  · rw [if_pos b4]
    refine ⟨ol_ms M 0 9 2, ol_Ri (q := q_X8_copy) (by decide +kernel) (Nat.le_of_ble_eq_true rfl) (Or.inl rfl) (fun Rt A hA hr => go hA (fun _ => b_X8_copy_74 hA s i t j c M ⟨by omega, by omega, r6, by omega, r2, r5, ol_if.mk (fun d => ⟨by omega, by omega, r7, by omega, r4, r5, ol_if.neg (by omega) hr⟩) (fun _ => hr)⟩) (fun q => absurd q b3)), ix_find hs h 2, fx.rf.ms⟩
  rw [if_neg b4]
  refine x_ok.of ⟨_, ol_Ri (q := q_X8_copy) (by decide +kernel) (Nat.le_of_ble_eq_true rfl) (Or.inl rfl) (fun Rt A hA hr => go hA (fun _ => b_X8_copy_74 hA s i t j c M ⟨by omega, by omega, r6, by omega, r2, r5, ol_if.pos (by omega) ⟨by omega, by omega, r7, by omega, r4, r5, ol_if.pos (by omega) ⟨by omega, by omega, by omega, by omega, by omega, by omega, by omega, by omega, by omega, hr⟩⟩⟩) (fun q => absurd q b3)), ?_, fx.rf.mp (by omega)⟩
  refine h.newi hs (by omega) (by omega) (by omega) (fun a a0 a1' => ?_) (fun k q => ol_mp_ne _ _ q)
  rw [ol_mp_same]
  unfold ol_cp
  by_cases ha : j ≤ a ∧ a < j + c
  · rw [if_pos ha, if_pos ha]
    exact a1.2.2 _ (by omega) (by omega)
  · rw [if_neg ha, if_neg ha]
    exact a2.2.2 a a0 a1'
