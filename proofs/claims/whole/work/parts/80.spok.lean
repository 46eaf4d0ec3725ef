/-! STATES STAY AS THEY MAY BE; each side leaves the other's cells -/
theorem ix.fm {S M M' : ol_M} (hs : sp_ok_t S) (h : ix S M) (f : fm M M') : ix S M' := by
  refine ix.same hs h ws.rf ⟨fun c _ q _ _ => f c (by omega), fun j _ => by rw [f 37 (by decide)], fun j _ => by rw [f 0 (by decide)]⟩ ?_ ?_ ?_
  · have q := h.1.2.2.2.2.2.2.1
    unfold ix_s at *
    rw [f 37 (by decide), f 46 (by decide), f 47 (by decide), f 48 (by decide), f 49 (by decide)]
    exact q
  · have q := h.1.2.2.2.2.2.2.2.1
    refine ⟨by rw [f 0 (by decide)]; exact q.1, fun w w0 w1 l l0 l1 => ?_⟩
    rw [f (120 + w) (by omega)]
    exact q.2 w w0 w1 l l0 l1
  · intro s s0 s1
    have q := h.1.2.2.2.2.2.2.2.2 s s0 s1
    rw [f 112 (by decide), f 113 (by decide), f (115 + s) (by omega)]
    exact q
theorem im.fx {S M M' : ol_M} (h : im S M) (f : fx M M') : im S M' := by
  have e : ∀ k : Int, 132 ≤ k → M' k = M k := fun k q => f k (Or.inl q)
  obtain ⟨h1, h2, h3, h4, h5, h6, h7, h8⟩ := h
  refine ⟨?_, ?_, ?_, ?_, ?_, ?_, ?_, ?_⟩
  · unfold im_t at *; rw [e 137 (by decide), e 138 (by decide)]; exact h1
  · unfold im_r at *; rw [e 144 (by decide)]; exact h2
  · unfold im_w at *; rw [e 132 (by decide), e 145 (by decide)]; exact h3
  · unfold im_l at *; rw [e 132 (by decide), e 146 (by decide)]; exact h4
  · unfold im_s at *; rw [e 132 (by decide), e 152 (by decide)]; exact h5
  · unfold im_f at *; rw [e 132 (by decide)]; exact h6
  · unfold im_g at *; rw [e 132 (by decide)]; exact h7
  · unfold im_h at *; rw [e 133 (by decide), e 134 (by decide), e 135 (by decide)]; exact h8
theorem sp_ok.newh {S S' : ol_M} (hs : sp_ok S) (e : ∀ k, k < 15 → S' k = S k) (h : sp_ok_h S') : sp_ok S' := by
  obtain ⟨h1, h2, h3, h4, h5, h6, h7⟩ := hs
  refine ⟨?_, ?_, ?_, ?_, ?_, ?_, h⟩
  · unfold sp_ok_t at *; rw [e 0 (by decide), e 1 (by decide), e 2 (by decide)]; exact h1
  · unfold sp_ok_r at *; rw [e 3 (by decide)]; exact h2
  · unfold sp_ok_w at *; rw [e 0 (by decide), e 4 (by decide), e 5 (by decide), e 6 (by decide)]; exact h3
  · unfold sp_ok_l at *; rw [e 0 (by decide), e 7 (by decide), e 8 (by decide), e 9 (by decide), e 10 (by decide)]; exact h4
  · unfold sp_ok_s at *; rw [e 0 (by decide), e 11 (by decide), e 12 (by decide), e 13 (by decide), e 14 (by decide)]; exact h5
  · unfold sp_ok_f at *; rw [e 0 (by decide)]; exact h6
theorem sp_ok.newi {S : ol_M} (hs : sp_ok S) {t : Int} {g : Int → Int} (t0 : 0 ≤ t) (t1 : t ≤ 3) (hg : 0 ≤ S 15 t → ∀ i, 0 ≤ i → i < S 16 t → ol_r (g i)) : sp_ok (ol_mp S (20 + t) g) := by
  refine hs.newh (fun k q => ol_mp_ne _ _ (by omega)) (fun s s0 s1 => ?_)
  obtain ⟨a, b⟩ := hs.h s s0 s1
  rw [ol_mp_ne _ _ (show (15 : Int) ≠ 20 + t by omega), ol_mp_ne _ _ (show (16 : Int) ≠ 20 + t by omega)]
  refine ⟨a, fun q => ⟨(b q).1, fun i i0 i1 => ?_⟩⟩
  by_cases st : s = t
  · subst st
    rw [ol_mp_same]
    exact hg q i i0 i1
  · rw [ol_mp_ne _ _ (by omega)]
    exact (b q).2 i i0 i1
theorem sp_find_ok {S : ol_M} (hs : sp_ok S) {f : Int} (f0 : 0 ≤ f) (f1 : f ≤ 5) : sp_ok (sp_find S f).2 := by
  obtain ⟨h1, h2, h3, h4, h5, h6, h7⟩ := hs
  have e : ∀ k, k ≠ 0 → (sp_find S f).2 k = S k := fun k q => ol_ms_ne S _ _ q
  have e0 : ∀ j, j ≠ 5 → (sp_find S f).2 0 j = S 0 j := fun j q => ol_ms_i S 0 f q
  refine ⟨?_, ?_, ?_, ?_, ?_, ?_, ?_⟩
  · unfold sp_ok_t at *; rw [e0 0 (by decide), e0 1 (by decide), e 1 (by decide), e 2 (by decide)]; exact h1
  · unfold sp_ok_r at *; rw [e 3 (by decide)]; exact h2
  · unfold sp_ok_w at *; rw [e0 2 (by decide), e 4 (by decide), e 5 (by decide), e 6 (by decide)]; exact h3
  · unfold sp_ok_l at *; rw [e0 3 (by decide), e 7 (by decide), e 8 (by decide), e 9 (by decide), e 10 (by decide)]; exact h4
  · unfold sp_ok_s at *; rw [e0 4 (by decide), e 11 (by decide), e 12 (by decide), e 13 (by decide), e 14 (by decide)]; exact h5
  · unfold sp_ok_f; rw [show (sp_find S f).2 0 5 = f from ol_msA S 0 5 f]; exact ⟨f0, f1⟩
  · intro s s0 s1
    rw [e 15 (by decide), e 16 (by decide), e (20 + s) (by omega)]
    exact h7 s s0 s1
theorem sp_sheet_ok {S : ol_M} (hs : sp_ok S) (s f c : Int) : sp_ok (sp_sheet S s f c).2 := by
  unfold sp_sheet
  split
  · exact hs
  · rename_i b
    split
    · exact sp_find_ok hs (by decide) (by decide)
    · rename_i d
      refine hs.newh (fun k q => ?_) (fun u u0 u1 => ?_)
      · show ol_mp (ol_ms (ol_ms S 15 s f) 16 s c) (20 + s) (fun _ => 0) k = S k
        rw [ol_mp_ne _ _ (by omega), ol_ms_ne _ _ _ (by omega), ol_ms_ne _ _ _ (by omega)]
      · show (-1 ≤ ol_mp (ol_ms (ol_ms S 15 s f) 16 s c) (20 + s) (fun _ => 0) 15 u ∧ ol_mp (ol_ms (ol_ms S 15 s f) 16 s c) (20 + s) (fun _ => 0) 15 u ≤ 2) ∧ (0 ≤ ol_mp (ol_ms (ol_ms S 15 s f) 16 s c) (20 + s) (fun _ => 0) 15 u → (0 ≤ ol_mp (ol_ms (ol_ms S 15 s f) 16 s c) (20 + s) (fun _ => 0) 16 u ∧ ol_mp (ol_ms (ol_ms S 15 s f) 16 s c) (20 + s) (fun _ => 0) 16 u ≤ 60) ∧ ∀ i, 0 ≤ i → i < ol_mp (ol_ms (ol_ms S 15 s f) 16 s c) (20 + s) (fun _ => 0) 16 u → ol_r (ol_mp (ol_ms (ol_ms S 15 s f) 16 s c) (20 + s) (fun _ => 0) (20 + u) i))
        obtain ⟨a1, a2⟩ := hs.h u u0 u1
        rw [ol_mp_ne _ _ (show (15 : Int) ≠ 20 + s by omega), ol_mp_ne _ _ (show (16 : Int) ≠ 20 + s by omega), ol_ms_ne _ _ _ (show (15 : Int) ≠ 16 by decide), ol_ms_row, ol_ms_row, ol_ms_ne _ _ _ (show (16 : Int) ≠ 15 by decide)]
        by_cases us : u = s
        · subst us
          rw [ol_rsA, ol_rsA, ol_mp_same]
          exact ⟨by omega, fun _ => ⟨by omega, fun _ _ _ => ⟨by decide, by decide⟩⟩⟩
        · rw [ol_rsN _ _ us, ol_rsN _ _ us, ol_mp_ne _ _ (by omega), ol_ms_ne _ _ _ (by omega), ol_ms_ne _ _ _ (by omega)]
          exact ⟨a1, a2⟩
theorem sp_lose_ok {S : ol_M} (hs : sp_ok S) (s : Int) : sp_ok (sp_lose S s).2 := by
  unfold sp_lose
  split
  · exact hs
  · rename_i b
    split
    · exact sp_find_ok hs (by decide) (by decide)
    · rename_i d
      refine hs.newh (fun k q => ol_ms_ne _ _ _ (by omega)) (fun u u0 u1 => ?_)
      obtain ⟨a1, a2⟩ := hs.h u u0 u1
      show (-1 ≤ ol_ms S 15 s (-1) 15 u ∧ ol_ms S 15 s (-1) 15 u ≤ 2) ∧ (0 ≤ ol_ms S 15 s (-1) 15 u → (0 ≤ ol_ms S 15 s (-1) 16 u ∧ ol_ms S 15 s (-1) 16 u ≤ 60) ∧ ∀ i, 0 ≤ i → i < ol_ms S 15 s (-1) 16 u → ol_r (ol_ms S 15 s (-1) (20 + u) i))
      rw [ol_ms_row, ol_ms_ne _ _ _ (show (16 : Int) ≠ 15 by decide), ol_ms_ne _ _ _ (show (20 + u : Int) ≠ 15 by omega)]
      by_cases us : u = s
      · subst us
        rw [ol_rsA]
        exact ⟨by decide, fun q => absurd q (by decide)⟩
      · rw [ol_rsN _ _ us]
        exact ⟨a1, a2⟩
theorem ol_cut_r {f v : Int} (r : ol_r v) : ol_r (ol_cut f v) := by
  unfold ol_cut ol_r at *
  have a := @Int.le_bmod v 256 (by decide)
  have b := @Int.bmod_lt v 256 (by decide)
  have c := @Int.le_bmod v 65536 (by decide)
  have d := @Int.bmod_lt v 65536 (by decide)
  split
  · omega
  · split
    · omega
    · exact r
theorem sp_lay_ok {S : ol_M} (hs : sp_ok S) (s f i : Int) {v : Int} (r : ol_r v) : sp_ok (sp_lay S s f i v).2 := by
  unfold sp_lay
  split
  · exact hs
  · rename_i b
    split
    · exact sp_find_ok hs sp_lacks_r.1 (Int.le_trans sp_lacks_r.2 (by decide))
    · refine hs.newi (by omega) (by omega) (fun q j j0 j1 => ?_)
      by_cases ji : j = i
      · rw [ji, ol_rsA]; exact ol_cut_r r
      · rw [ol_rsN _ _ ji]; exact ((hs.h s (by omega) (by omega)).2 q).2 j j0 j1
theorem sp_get_ok {S : ol_M} (hs : sp_ok S) (s f i : Int) : sp_ok (sp_get S s f i).2 := by
  unfold sp_get
  split
  · exact hs
  · split
    · exact sp_find_ok hs sp_lacks_r.1 (Int.le_trans sp_lacks_r.2 (by decide))
    · exact hs
theorem sp_copy_ok {S : ol_M} (hs : sp_ok S) (s i t j n : Int) : sp_ok (sp_copy S s i t j n).2 := by
  unfold sp_copy
  split
  · exact hs
  · rename_i b
    split
    · exact sp_find_ok hs (by decide) (by decide)
    · rename_i c
      split
      · exact sp_find_ok hs (by decide) (by decide)
      · rename_i d
        split
        · exact sp_find_ok hs (by decide) (by decide)
        · rename_i e
          refine hs.newi (by omega) (by omega) (fun q k k0 k1 => ?_)
          unfold ol_cp
          split
          · exact ((hs.h s (by omega) (by omega)).2 (by omega)).2 _ (by omega) (by omega)
          · exact ((hs.h t (by omega) (by omega)).2 q).2 k k0 k1
theorem sp_ration_ok {S : ol_M} (hs : sp_ok S) (l v : Int) : sp_ok (sp_ration S l v).2 := by
  unfold sp_ration
  split
  · exact hs
  · rename_i b
    obtain ⟨h1, h2, h3, h4, h5, h6, h7⟩ := hs
    have e : ∀ k, k ≠ 3 → ol_ms S 3 l v k = S k := fun k q => ol_ms_ne S _ _ q
    show sp_ok (ol_ms S 3 l v)
    refine ⟨?_, ?_, ?_, ?_, ?_, ?_, ?_⟩
    · unfold sp_ok_t at *; rw [e 0 (by decide), e 1 (by decide), e 2 (by decide)]; exact h1
    · intro k k0 k1
      rw [ol_ms_row]
      by_cases kl : k = l
      · rw [kl, ol_rsA]; omega
      · rw [ol_rsN _ _ kl]; exact h2 k k0 k1
    · unfold sp_ok_w at *; rw [e 0 (by decide), e 4 (by decide), e 5 (by decide), e 6 (by decide)]; exact h3
    · unfold sp_ok_l at *; rw [e 0 (by decide), e 7 (by decide), e 8 (by decide), e 9 (by decide), e 10 (by decide)]; exact h4
    · unfold sp_ok_s at *; rw [e 0 (by decide), e 11 (by decide), e 12 (by decide), e 13 (by decide), e 14 (by decide)]; exact h5
    · unfold sp_ok_f at *; rw [e 0 (by decide)]; exact h6
    · intro s s0 s1
      rw [e 15 (by decide), e 16 (by decide), e (20 + s) (by omega)]
      exact h7 s s0 s1
theorem sp_writing_ok {S : ol_M} (hs : sp_ok S) (m h t : Int) : sp_ok (sp_writing S m h t).2 := by
  unfold sp_writing
  have := hs.w.1
  split
  · exact hs
  · rename_i b
    split
    · exact hs
    · exact sp_addw_ok hs (Classical.not_not.mp b) (by omega)
theorem sp_lending_ok {S : ol_M} (hs : sp_ok S) (m h t l : Int) : sp_ok (sp_lending S m h t l).2 := by
  unfold sp_lending
  split
  · exact hs
  · rename_i b
    split
    · exact hs
    · rename_i c
      obtain ⟨h1, h2, h3, h4, h5, h6, h7⟩ := hs
      have e : ∀ k, k ≠ 0 → ¬ (7 ≤ k ∧ k ≤ 10) → sp_addl S m h t l k = S k := fun k q r => by
        unfold sp_addl
        rw [ol_ms_ne _ _ _ (by omega), ol_ms_ne _ _ _ (by omega), ol_ms_ne _ _ _ (by omega), ol_ms_ne _ _ _ (by omega), ol_ms_ne _ _ _ (by omega)]
      have e0 : sp_addl S m h t l 0 = ol_rs (S 0) 3 (S 0 3 + 1) := by
        unfold sp_addl
        rw [ol_ms_row, ol_ms_ne _ _ _ (by decide), ol_ms_ne _ _ _ (by decide), ol_ms_ne _ _ _ (by decide), ol_ms_ne _ _ _ (by decide)]
      have e7 : sp_addl S m h t l 7 = ol_rs (S 7) (S 0 3) m := by
        unfold sp_addl
        rw [ol_ms_ne _ _ _ (by decide), ol_ms_ne _ _ _ (by decide), ol_ms_ne _ _ _ (by decide), ol_ms_ne _ _ _ (by decide), ol_ms_row]
      have e8 : sp_addl S m h t l 8 = ol_rs (S 8) (S 0 3) h := by
        unfold sp_addl
        rw [ol_ms_ne _ _ _ (by decide), ol_ms_ne _ _ _ (by decide), ol_ms_ne _ _ _ (by decide), ol_ms_row, ol_ms_ne _ _ _ (by decide)]
      have e9 : sp_addl S m h t l 9 = ol_rs (S 9) (S 0 3) t := by
        unfold sp_addl
        rw [ol_ms_ne _ _ _ (by decide), ol_ms_ne _ _ _ (by decide), ol_ms_row, ol_ms_ne _ _ _ (by decide), ol_ms_ne _ _ _ (by decide)]
      have e10 : sp_addl S m h t l 10 = ol_rs (S 10) (S 0 3) l := by
        unfold sp_addl
        rw [ol_ms_ne _ _ _ (by decide), ol_ms_row, ol_ms_ne _ _ _ (by decide), ol_ms_ne _ _ _ (by decide), ol_ms_ne _ _ _ (by decide)]
      show sp_ok (sp_addl S m h t l)
      refine ⟨?_, ?_, ?_, ?_, ?_, ?_, ?_⟩
      · unfold sp_ok_t at *; rw [e0, ol_rsN _ _ (by decide), ol_rsN _ _ (by decide), e 1 (by decide) (by decide), e 2 (by decide) (by decide)]; exact h1
      · unfold sp_ok_r at *; rw [e 3 (by decide) (by decide)]; exact h2
      · unfold sp_ok_w at *; rw [e0, ol_rsN _ _ (by decide), e 4 (by decide) (by decide), e 5 (by decide) (by decide), e 6 (by decide) (by decide)]; exact h3
      · obtain ⟨o1, o2⟩ := h4
        unfold sp_ok_l
        rw [e0, ol_rsA, e7, e8, e9, e10]
        refine ⟨by omega, fun k k0 k1 => ?_⟩
        by_cases kw : k = S 0 3
        · rw [kw, ol_rsA, ol_rsA, ol_rsA, ol_rsA]
          exact Classical.not_not.mp b
        · rw [ol_rsN _ _ kw, ol_rsN _ _ kw, ol_rsN _ _ kw, ol_rsN _ _ kw]
          exact o2 k k0 (by omega)
      · unfold sp_ok_s at *; rw [e0, ol_rsN _ _ (by decide), e 11 (by decide) (by decide), e 12 (by decide) (by decide), e 13 (by decide) (by decide), e 14 (by decide) (by decide)]; exact h5
      · unfold sp_ok_f at *; rw [e0, ol_rsN _ _ (by decide)]; exact h6
      · intro s s0 s1
        rw [e 15 (by decide) (by decide), e 16 (by decide) (by decide), e (20 + s) (by omega) (by omega)]
        exact h7 s s0 s1
theorem sp_seen_ok {S : ol_M} (hs : sp_ok S) (m h t l : Int) : sp_ok (sp_seen S m h t l).2 := by
  unfold sp_seen
  split
  · exact hs
  · rename_i b
    split
    · exact hs
    · rename_i c
      obtain ⟨h1, h2, h3, h4, h5, h6, h7⟩ := hs
      have e : ∀ k, k ≠ 0 → ¬ (11 ≤ k ∧ k ≤ 14) → sp_adds S m h t l k = S k := fun k q r => by
        unfold sp_adds
        rw [ol_ms_ne _ _ _ (by omega), ol_ms_ne _ _ _ (by omega), ol_ms_ne _ _ _ (by omega), ol_ms_ne _ _ _ (by omega), ol_ms_ne _ _ _ (by omega)]
      have e0 : sp_adds S m h t l 0 = ol_rs (S 0) 4 (S 0 4 + 1) := by
        unfold sp_adds
        rw [ol_ms_row, ol_ms_ne _ _ _ (by decide), ol_ms_ne _ _ _ (by decide), ol_ms_ne _ _ _ (by decide), ol_ms_ne _ _ _ (by decide)]
      have e7 : sp_adds S m h t l 11 = ol_rs (S 11) (S 0 4) m := by
        unfold sp_adds
        rw [ol_ms_ne _ _ _ (by decide), ol_ms_ne _ _ _ (by decide), ol_ms_ne _ _ _ (by decide), ol_ms_ne _ _ _ (by decide), ol_ms_row]
      have e8 : sp_adds S m h t l 12 = ol_rs (S 12) (S 0 4) h := by
        unfold sp_adds
        rw [ol_ms_ne _ _ _ (by decide), ol_ms_ne _ _ _ (by decide), ol_ms_ne _ _ _ (by decide), ol_ms_row, ol_ms_ne _ _ _ (by decide)]
      have e9 : sp_adds S m h t l 13 = ol_rs (S 13) (S 0 4) t := by
        unfold sp_adds
        rw [ol_ms_ne _ _ _ (by decide), ol_ms_ne _ _ _ (by decide), ol_ms_row, ol_ms_ne _ _ _ (by decide), ol_ms_ne _ _ _ (by decide)]
      have e10 : sp_adds S m h t l 14 = ol_rs (S 14) (S 0 4) l := by
        unfold sp_adds
        rw [ol_ms_ne _ _ _ (by decide), ol_ms_row, ol_ms_ne _ _ _ (by decide), ol_ms_ne _ _ _ (by decide), ol_ms_ne _ _ _ (by decide)]
      show sp_ok (sp_adds S m h t l)
      refine ⟨?_, ?_, ?_, ?_, ?_, ?_, ?_⟩
      · unfold sp_ok_t at *; rw [e0, ol_rsN _ _ (by decide), ol_rsN _ _ (by decide), e 1 (by decide) (by decide), e 2 (by decide) (by decide)]; exact h1
      · unfold sp_ok_r at *; rw [e 3 (by decide) (by decide)]; exact h2
      · unfold sp_ok_w at *; rw [e0, ol_rsN _ _ (by decide), e 4 (by decide) (by decide), e 5 (by decide) (by decide), e 6 (by decide) (by decide)]; exact h3
      · unfold sp_ok_l at *; rw [e0, ol_rsN _ _ (by decide), e 7 (by decide) (by decide), e 8 (by decide) (by decide), e 9 (by decide) (by decide), e 10 (by decide) (by decide)]; exact h4
      · obtain ⟨o1, o2⟩ := h5
        unfold sp_ok_s
        rw [e0, ol_rsA, e7, e8, e9, e10]
        refine ⟨by omega, fun k k0 k1 => ?_⟩
        by_cases kw : k = S 0 4
        · rw [kw, ol_rsA, ol_rsA, ol_rsA, ol_rsA]
          exact Classical.not_not.mp b
        · rw [ol_rsN _ _ kw, ol_rsN _ _ kw, ol_rsN _ _ kw, ol_rsN _ _ kw]
          exact o2 k k0 (by omega)
      · unfold sp_ok_f at *; rw [e0, ol_rsN _ _ (by decide)]; exact h6
      · intro s s0 s1
        rw [e 15 (by decide) (by decide), e 16 (by decide) (by decide), e (20 + s) (by omega) (by omega)]
        exact h7 s s0 s1
/-- one of the numbers of writings, lendings, sights falls -/
theorem sp_less_ok {S : ol_M} (hs : sp_ok S) {t v : Int} (t0 : 2 ≤ t) (t1 : t ≤ 4) (v0 : 0 ≤ v) (v1 : v ≤ S 0 t) : sp_ok (ol_ms S 0 t v) := by
  obtain ⟨h1, h2, h3, h4, h5, h6, h7⟩ := hs
  have e : ∀ k, k ≠ 0 → ol_ms S 0 t v k = S k := fun k q => ol_ms_ne S _ _ q
  have e0 : ∀ j, j ≠ t → ol_ms S 0 t v 0 j = S 0 j := fun j q => ol_ms_i S _ _ q
  have le : ∀ j, ol_ms S 0 t v 0 j ≤ S 0 j := fun j => by
    by_cases q : j = t
    · rw [q, ol_msA]; exact v1
    · rw [e0 j q]; exact Int.le_refl _
  have nn : ∀ j, 0 ≤ S 0 j → 0 ≤ ol_ms S 0 t v 0 j := fun j p => by
    by_cases q : j = t
    · rw [q, ol_msA]; exact v0
    · rw [e0 j q]; exact p
  refine ⟨?_, ?_, ?_, ?_, ?_, ?_, ?_⟩
  · unfold sp_ok_t at *; rw [e0 0 (by omega), e0 1 (by omega), e 1 (by decide), e 2 (by decide)]; exact h1
  · unfold sp_ok_r at *; rw [e 3 (by decide)]; exact h2
  · have a := le 2
    have b := nn 2 h3.1.1
    have c := h3.1.2
    refine ⟨by omega, fun k k0 k1 => ?_⟩
    rw [e 4 (by decide), e 5 (by decide), e 6 (by decide)]
    exact h3.2 k k0 (by omega)
  · have a := le 3
    have b := nn 3 h4.1.1
    have c := h4.1.2
    refine ⟨by omega, fun k k0 k1 => ?_⟩
    rw [e 7 (by decide), e 8 (by decide), e 9 (by decide), e 10 (by decide)]
    exact h4.2 k k0 (by omega)
  · have a := le 4
    have b := nn 4 h5.1.1
    have c := h5.1.2
    refine ⟨by omega, fun k k0 k1 => ?_⟩
    rw [e 11 (by decide), e 12 (by decide), e 13 (by decide), e 14 (by decide)]
    exact h5.2 k k0 (by omega)
  · unfold sp_ok_f at *; rw [e0 5 (by omega)]; exact h6
  · intro s s0 s1
    rw [e 15 (by decide), e 16 (by decide), e (20 + s) (by omega)]
    exact h7 s s0 s1
theorem sp_back_ok {S : ol_M} (hs : sp_ok S) (w : Int) : sp_ok (sp_back S w).2 := by
  unfold sp_back
  split
  · exact hs
  · rename_i b
    split
    · exact hs
    · rename_i c
      have q1 := hs.w.1
      have q2 := hs.2.2.2.1.1
      have z : 0 ≤ S 0 (2 + w) := by
        rcases (show w = 0 ∨ w = 1 by omega) with rfl | rfl
        · exact q1.1
        · exact q2.1
      exact sp_less_ok hs (by omega) (by omega) (by omega) (by omega)
theorem sp_forget_ok {S : ol_M} (hs : sp_ok S) : sp_ok (sp_forget S).2 := sp_less_ok hs (by decide) (by decide) (by decide) hs.2.2.2.2.1.1.1
theorem sp_rd_ok {s : Int} : ∀ (f : Nat) (n : Int) (S : ol_M), sp_ok S → sp_ok (sp_rd s f n S).2 := by
  intro f
  induction f with
  | zero => intro n S hs; exact hs
  | succ f ih =>
    intro n S hs
    unfold sp_rd
    split
    · rename_i c
      exact ih _ _ (sp_addw_ok hs c.2.2 c.2.1)
    · exact hs
theorem sp_read_ok {S : ol_M} (hs : sp_ok S) (s : Int) : sp_ok (sp_read S s).2 := by
  unfold sp_read
  split
  · exact hs
  · split
    · exact sp_find_ok hs (by decide) (by decide)
    · exact sp_rd_ok _ _ _ hs
theorem sp_write_ok {S : ol_M} (hs : sp_ok S) (m h s : Int) : sp_ok (sp_write S m h s).2 := by
  have nh := sp_nH_r hs.1
  unfold sp_write
  split
  · exact hs
  · rename_i b
    split
    · exact sp_find_ok hs (by decide) (by decide)
    · refine hs.newi (by omega) (by omega) (fun q i i0 i1 => ?_)
      by_cases c : 0 ≤ i ∧ i < ol_min (S 16 s) 8
      · rw [ol_rg_in c.1 c.2]
        have c8 : i < 8 := by
          have := c.2
          unfold ol_min at this
          split at this <;> omega
        have z := (rn_lv_b (sp_W_k hs) (m + 1).toNat).1 (8 * h + i) (by omega) (by omega)
        exact ol_cut_r ⟨by omega, by omega⟩
      · rw [ol_rg_out c]
        exact ((hs.h s (by omega) (by omega)).2 q).2 i i0 i1
