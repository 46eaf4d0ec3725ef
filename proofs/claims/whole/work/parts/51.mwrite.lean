noncomputable def sp_write (S : ol_M) (m h s : Int) : Int × ol_M := if ¬ ((0 ≤ m ∧ m ≤ 11) ∧ (0 ≤ h ∧ h < sp_nH S) ∧ (0 ≤ s ∧ s ≤ 3)) then (-2, S) else if S 15 s < 0 then sp_find S 1 else (ol_min (S 16 s) 8, ol_mp S (20 + s) (ol_rg (S (20 + s)) 0 (ol_min (S 16 s) 8) (fun l => ol_cut (S 15 s) (rn_lv (sp_W S) (m + 1).toNat 0 (8 * h + l)))))
theorem m_write {n : Nat} {S M : ol_M} (i : im S M) (hs : sp_ok S) {m h s : Int} (r1 : ol_r m) (r2 : ol_r h) (r3 : ol_r s) : m_ok n 6 q_X9_write [.inl m, .inl h, .inl s] S M (sp_write S m h s) := by
  obtain ⟨M1, r, z, f⟩ := @m_find n S M i hs
  have nr := sp_nH_r hs.1
  have e7 := z.nH
  unfold sp_write
  by_cases c : (0 ≤ m ∧ m ≤ 11) ∧ (0 ≤ h ∧ h < sp_nH S) ∧ (0 ≤ s ∧ s ≤ 3)
  · rw [if_neg (fun q => q c)]
    obtain ⟨a1, a2⟩ := z.1.h s c.2.2.1 (by omega)
    obtain ⟨b1, b2⟩ := hs.h s c.2.2.1 (by omega)
    by_cases d : S 15 s < 0
    · rw [if_pos d]
      apply m_ok.of
      refine ⟨ol_ms M1 132 4 1, ol_Ri (q := q_X9_write) (by decide +kernel) (Nat.le_of_ble_eq_true rfl) (Or.inl rfl) (fun Rt A hA hr => b_X9_write_0 hA m h s M ⟨M1, r, ?_⟩), z.1.find 1, f.ms⟩
      rw [e7, a1]
      exact ⟨r1, ol_if.pos c.1 ⟨r2, ⟨by omega, by omega⟩, ol_if.pos c.2.1 ⟨r3, ol_if.pos c.2.2 ⟨by omega, by omega, ⟨by omega, by omega⟩, ol_if.neg (by omega) hr⟩⟩⟩⟩
    · rw [if_neg d]
      apply m_ok.of
      obtain ⟨M2, q, x, g⟩ := @m_lives n _ M1 (sp_W_k hs) z.2.1 m (by omega) (by omega)
      have z2 := z.fr g
      obtain ⟨c1, c2⟩ := z2.1.h s c.2.2.1 (by omega)
      obtain ⟨c3, c4⟩ := c2 (by omega)
      obtain ⟨b3, b4⟩ := b2 (by omega)
      obtain ⟨K, hK⟩ : ∃ y, y = ol_min (S 16 s) 8 := ⟨_, rfl⟩
      have kr : 0 ≤ K ∧ K ≤ 8 ∧ K ≤ S 16 s := by rw [hK]; unfold ol_min; split <;> omega
      rw [← hK]
      refine ⟨ol_mp M2 135 (ol_rg (M2 135) (60 * s) (60 * s + K) (fun j => ol_cut (S 15 s) (M2 147 (8 * h + (j - 60 * s))))), ol_Ri (q := q_X9_write) (by decide +kernel) (Nat.le_of_ble_eq_true rfl) (Or.inl rfl) (fun Rt A hA hr => b_X9_write_0 hA m h s M ⟨M1, r, ?_⟩), ?_, (f.tr g.fm).mp⟩
      · rw [e7, a1]
        refine ⟨r1, ol_if.pos c.1 ⟨r2, ⟨by omega, by omega⟩, ol_if.pos c.2.1 ⟨r3, ol_if.pos c.2.2 ⟨by omega, by omega, ⟨by omega, by omega⟩, ol_if.pos (by omega) ⟨M2, q, by omega, by omega, ?_⟩⟩⟩⟩⟩
        rw [c3, ← hK]
        refine ⟨⟨by omega, by omega⟩, ?_⟩
        have inner : A 65 [some (.inr (.inr 132)), none, some (.inl h), some (.inl s), some (.inl K), some (.inl 0)] [] (ol_mp M2 135 (ol_rg (M2 135) (60 * s) (60 * s + 0) (fun j => ol_cut (S 15 s) (M2 147 (8 * h + (j - 60 * s)))))) := by
          refine ol_loop (P := fun l => A 65 [some (.inr (.inr 132)), none, some (.inl h), some (.inl s), some (.inl K), some (.inl l)] [] (ol_mp M2 135 (ol_rg (M2 135) (60 * s) (60 * s + l) (fun j => ol_cut (S 15 s) (M2 147 (8 * h + (j - 60 * s))))))) (a := 0) (b := K) kr.1 (fun l l0 l1 hl => ?_) ?_
          · refine b_X9_write_65 hA h s K l _ ?_
            rw [ol_mp_ne _ _ (show (133 : Int) ≠ 135 by decide), ol_mp_ne _ _ (show (147 : Int) ≠ 135 by decide), c1]
            refine ⟨⟨by omega, by omega⟩, ⟨by omega, by omega⟩, ol_if.neg (by omega) ⟨by omega, by omega, by omega, by omega, ⟨by omega, by omega⟩, by omega, by omega, ?_⟩⟩
            rw [ol_rg_ms _ _ _ _ (by omega) (by show _ = ol_cut (S 15 s) (M2 147 (8 * h + (60 * s + l - 60 * s))); rw [show 8 * h + (60 * s + l - 60 * s) = 8 * h + l by omega])]
            rw [show 60 * s + l + 1 = 60 * s + (l + 1) by omega]
            exact hl
          · exact b_X9_write_65 hA h s K K _ ⟨⟨by omega, by omega⟩, ⟨by omega, by omega⟩, ol_if.pos (by omega) hr⟩
        rw [Int.add_zero, ol_rg_mp0] at inner
        exact inner
      · refine z2.1.newi hs c.2.2.1 c.2.2.2 (by omega) _ _ (fun j j0 j1 => ?_) (fun j hj => ol_rg_out (by omega)) (ol_mp_ne _ _ (by decide)) (ol_mp_ne _ _ (by decide)) (ol_mp_ne _ _ (by decide)) (ol_mp_same _ _ _) (fun k hk => ol_mp_ne _ _ (by omega))
        by_cases p : j < K
        · rw [ol_rg_in (by omega) (by omega), ol_rg_in j0 p, show 8 * h + (60 * s + j - 60 * s) = 8 * h + j by omega, x.1 _ (by omega) (by omega)]
        · rw [ol_rg_out (by omega), ol_rg_out (by omega)]
          exact c4 j j0 j1
  · rw [if_pos c]
    apply m_ok.of
    refine ⟨M1, ol_Ri (q := q_X9_write) (by decide +kernel) (Nat.le_of_ble_eq_true rfl) (Or.inl rfl) (fun Rt A hA hr => b_X9_write_0 hA m h s M ⟨M1, r, ?_⟩), z.1, f⟩
    rw [e7]
    exact ⟨r1, ol_if.mk (fun d1 => ⟨r2, ⟨by omega, by omega⟩, ol_if.mk (fun d2 => ⟨r3, ol_if.neg (fun d3 => c ⟨d1, d2, d3⟩) hr⟩) (fun _ => hr)⟩) (fun _ => hr)⟩
noncomputable def rn_fines (W : ol_M) : Int := sm (rn_lv W 12 3) (W 0 0).toNat
theorem m_allFined {n : Nat} {W M : ol_M} (w : wk W) (v : mv W M) : ∃ M', ol_R (ol_lay n) 5 q_X9_allFined [.inr (.inr 132)] M (some (.inl (rn_fines W))) M' ∧ fr_s M M' := by
  obtain ⟨M2, q, x, g⟩ := @m_lives n _ M w v 11 (by decide) (by decide)
  have w0 := w.1
  have e7 : M2 132 7 = W 0 0 := (v.fr g).1
  refine ⟨M2, ol_Ri (q := q_X9_allFined) (by decide +kernel) (Nat.le_of_ble_eq_true rfl) (Or.inl rfl) (fun Rt A hA hr => b_X9_allFined_0 hA M ⟨M2, q, ?_⟩), g⟩
  show A 10 [some (.inr (.inr 132)), some (.inl (sm (rn_lv W 12 3) (Int.toNat 0))), some (.inl 0)] [] M2
  refine ol_loop (P := fun h => A 10 [some (.inr (.inr 132)), some (.inl (sm (rn_lv W 12 3) h.toNat)), some (.inl h)] [] M2) (a := 0) (b := W 0 0) w0.1 (fun h h0 h1 hh => ?_) ?_
  · rw [show (h + 1).toNat = h.toNat + 1 by omega] at hh
    simp only [sm] at hh
    rw [Int.toNat_of_nonneg h0] at hh
    refine b_X9_allFined_10 hA _ h M2 ?_
    rw [e7, (x.2.2 h h0 (by omega)).1]
    exact ⟨⟨by omega, by omega⟩, ⟨by omega, by omega⟩, ol_if.neg (by omega) ⟨h0, by omega, hh⟩⟩
  · refine b_X9_allFined_10 hA _ (W 0 0) M2 ?_
    rw [e7]
    exact ⟨⟨by omega, by omega⟩, ⟨by omega, by omega⟩, ol_if.pos (by omega) hr⟩
noncomputable def sp_cnt (S : ol_M) (w : Int) : Int := if w = 0 then sp_nH S else if w = 1 then sp_nT S else if w = 2 then S 0 0 else if w = 3 then S 0 1 else if w = 4 then S 0 2 else if w = 5 then S 0 3 else if w = 6 then rn_fines (sp_W S) else if w = 7 then S 0 4 else if w = 8 then S 0 5 else -2
noncomputable def sp_count (S : ol_M) (w : Int) : Int × ol_M := (sp_cnt S w, S)
theorem m_count' {n : Nat} {S M : ol_M} (i : im S M) (hs : sp_ok S) {w : Int} (r1 : ol_r w) : ∃ M', ol_R (ol_lay n) 6 q_X9_count [.inr (.inr 132), .inl w] M (some (.inl (sp_cnt S w))) M' ∧ mz S M' ∧ fm M M' := by
  obtain ⟨M1, r, z, f⟩ := @m_find n S M i hs
  obtain ⟨M2, q, g⟩ := @m_allFined n _ M1 (sp_W_k hs) z.2.1
  have e7 := z.nH
  have e9 := z.nT
  have e15 := z.nW
  obtain ⟨⟨i1a, i1b, -⟩, -, -, ⟨i4, -⟩, ⟨i5, -⟩, i6, -⟩ := z.1
  have i6' : M1 132 4 = S 0 5 := i6
  by_cases c : w = 6
  · refine ⟨M2, ol_Ri (q := q_X9_count) (by decide +kernel) (Nat.le_of_ble_eq_true rfl) (Or.inl rfl) (fun Rt A hA hr => b_X9_count_0 hA w M ⟨M1, r, ?_⟩), z.fr g, f.tr g.fm⟩
    subst c
    refine ⟨r1, fun h => absurd h (by decide), fun h => absurd h (by decide), fun h => absurd h (by decide), fun h => absurd h (by decide), fun h => absurd h (by decide), fun h => absurd h (by decide), fun h => absurd h (by decide), fun _ => ⟨_, M2, q, hr⟩, fun h => absurd h (by decide), fun h => absurd h (by decide)⟩
  · refine ⟨M1, ol_Ri (q := q_X9_count) (by decide +kernel) (Nat.le_of_ble_eq_true rfl) (Or.inl rfl) (fun Rt A hA hr => b_X9_count_0 hA w M ⟨M1, r, ?_⟩), z, f⟩
    rw [e7, e9, e15, i4, i5, i6']
    refine ⟨r1, fun h => ?_, fun h => ?_, fun h => ?_, fun h => ?_, fun h => ?_, fun h => ?_, fun h => ?_, fun h => absurd h c, fun h => ?_, fun h => ?_⟩
    · unfold sp_cnt at hr
      rw [if_neg (by omega), if_neg (by omega), if_neg (by omega), if_neg (by omega), if_neg (by omega), if_neg (by omega), if_neg (by omega), if_neg (by omega), if_neg (by omega)] at hr
      exact hr
    · subst h; exact hr
    · subst h; exact hr
    · subst h
      refine ⟨by decide, by decide, ?_⟩
      show Rt (some (.inl (M1 138 0))) M1
      rw [i1a]; exact hr
    · subst h
      refine ⟨by decide, by decide, ?_⟩
      show Rt (some (.inl (M1 138 1))) M1
      rw [i1b]; exact hr
    · subst h; exact hr
    · subst h; exact hr
    · subst h; exact hr
    · subst h; exact hr
theorem m_count {n : Nat} {S M : ol_M} (i : im S M) (hs : sp_ok S) {w : Int} (r1 : ol_r w) : m_ok n 6 q_X9_count [.inl w] S M (sp_count S w) := by
  obtain ⟨M', r, z, f⟩ := @m_count' n S M i hs w r1
  exact ⟨M', r, z.1, f⟩
