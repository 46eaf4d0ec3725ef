/-! digest -/
def f31 (x a : Int) : Int := 31 * x + a
def hl (g : Int → Int) (x : Int) : Nat → Int
  | 0 => x
  | k + 1 => f31 (hl g x k) (g k)
def hh (F : Int → Int → Int) (x : Int) : Nat → Int
  | 0 => x
  | k + 1 => F (hh F x k) k
noncomputable def sp_mst (S : ol_M) (k e : Int) : Int := if e = 0 then ol_pop (rn_most (sp_W S) (rn_lv (sp_W S) 4 0) k) else rn_most (sp_W S) (rn_lv (sp_W S) 4 0) k
noncomputable def sp_pap (S : ol_M) (t e : Int) : Int := if rn_papers (sp_W S) t = -1 ∨ e = 1 then rn_papers (sp_W S) t else ol_pop (rn_papers (sp_W S) t)
def sp_wd (S : ol_M) (t w : Int) : Int := if w < 8 then sp_need S t w else if w = 8 then sp_mn S t else sp_ln S t
noncomputable def sp_tH (S : ol_M) (x k : Int) : Int := f31 (f31 (f31 (f31 (f31 (f31 (f31 (f31 (f31 (f31 (f31 (f31 (f31 x (sp_kd S k)) (sp_hd S k)) (rn_has (sp_W S) 0 k (-1))) (rn_has (sp_W S) 11 k (-1))) (rn_has (sp_W S) 5 k 0)) (rn_lv (sp_W S) 12 3 k)) (sp_mst S k 0)) (sp_mst S k 1)) (sy S (rn_lv (sp_W S) 4 0) k 1 (sp_nT S).toNat)) (am (sp_al S 3 k) 7)) (sp_cen S 5 k 1 0)) (sp_cen S 5 k 1 1)) (sp_pst S 7 9 k)
noncomputable def sp_tT (S : ol_M) (x t : Int) : Int := f31 (f31 (f31 (hl (sp_wd S t) x 10) (sp_pap S t 0)) (sp_pap S t 1)) (bs (sp_mb S t) (sp_nT S).toNat)
noncomputable def sp_tW (S : ol_M) (x k : Int) : Int := f31 (f31 x (rn_lv (sp_W S) 12 1 k)) (rn_lv (ol_mp (sp_W S) 5 (fun _ => 0)) 12 2 k)
noncomputable def sp_tL (S : ol_M) (x l : Int) : Int := f31 (f31 x (rn_lv (sp_W S) 12 4 l)) (bs (sp_rs S l) 10)
noncomputable def sp_d1 (S : ol_M) : Int := f31 (f31 (hl (sp_cnt S) 17 8) (sp_hf S)) (sp_tf S)
noncomputable def sp_d2 (S : ol_M) : Int := hh (sp_tH S) (sp_d1 S) (sp_nH S).toNat
noncomputable def sp_d3 (S : ol_M) : Int := hh (sp_tT S) (sp_d2 S) (sp_nT S).toNat
noncomputable def sp_d4 (S : ol_M) : Int := hh (sp_tW S) (sp_d3 S) (S 0 2).toNat
noncomputable def sp_d5 (S : ol_M) : Int := hh (sp_tL S) (sp_d4 S) 8
noncomputable def sp_dig (S : ol_M) : Int := f31 (f31 (f31 (f31 (sp_d5 S) (br_m (sp_W S) 0 12 0)) (br_m (sp_W S) 1 12 0)) (bs (sp_su S) (S 0 2).toNat)) (sp_pst S 7 9 (-1))
noncomputable def sp_digest (S : ol_M) : Int × ol_M := (sp_dig S, S)
theorem rn_most_r {W : ol_M} (w : wk W) {st : Int → Int} {h : Int} : 0 ≤ rn_most W st h ∧ rn_most W st h < 256 := by
  have nr := w.2.2.1
  have pw := @pw_le (W 3 0).toNat 8 (by omega)
  have yr := @mo_r (fits W st h) (2 ^ (W 3 0).toNat)
  have pc : ((2 ^ (W 3 0).toNat : Nat) : Int) = 2 ^ (W 3 0).toNat := by exact_mod_cast rfl
  rw [pc] at yr
  unfold rn_most
  omega
theorem rn_papers_r {W : ol_M} (w : wk W) {t : Int} : -1 ≤ rn_papers W t ∧ rn_papers W t < 256 := by
  have nr := w.2.2.1
  have pw := @pw_le (W 3 0).toNat 8 (by omega)
  have yr := @pa_r (gives W t) t (2 ^ (W 3 0).toNat)
  have pc : ((2 ^ (W 3 0).toNat : Nat) : Int) = 2 ^ (W 3 0).toNat := by exact_mod_cast rfl
  rw [pc] at yr
  unfold rn_papers
  omega
theorem sp_mst_r {S : ol_M} (hs : sp_ok S) {k e : Int} : ol_r (sp_mst S k e) := by
  have a := @rn_most_r (sp_W S) (sp_W_k hs) (rn_lv (sp_W S) 4 0) k
  have b := @ol_pop_r (rn_most (sp_W S) (rn_lv (sp_W S) 4 0) k)
  unfold sp_mst
  split <;> exact ⟨by omega, by omega⟩
theorem sp_pap_r {S : ol_M} (hs : sp_ok S) {t e : Int} : ol_r (sp_pap S t e) := by
  have a := @rn_papers_r (sp_W S) (sp_W_k hs) t
  have b := @ol_pop_r (rn_papers (sp_W S) t)
  unfold sp_pap
  split <;> exact ⟨by omega, by omega⟩
theorem sp_wd_r {S : ol_M} {t w : Int} (t0 : 0 ≤ t) (t1 : t < sp_nT S) : ol_r (sp_wd S t w) := by
  have a := @sp_need_r S t w t0 t1
  have b := sp_term t0 t1
  unfold sp_wd
  split
  · exact ⟨by omega, by omega⟩
  · split <;> exact ⟨by omega, by omega⟩
theorem bs_r12 {f : Int → Int} {k : Nat} (h : k ≤ 12) : ol_r (bs f k) := by
  have a := @bs_r f k
  have b := @pw_le k 12 h
  exact ⟨by omega, by omega⟩
theorem sp_pst_r {S : ol_M} (hs : sp_ok S) {s m h : Int} (m0 : 0 ≤ m) (m1 : m < 12) (hh : h = -1 ∨ (0 ≤ h ∧ h < 8)) : ol_r (sp_pst S s m h) := by
  have a : 0 ≤ sp_pst S s m h ∧ sp_pst S s m h ≤ 8000 := by
    unfold sp_pst
    by_cases c : 0 < sp_nH S ∧ 0 < sp_nT S
    · rw [if_pos c]
      exact rn_post_r (sp_W_k hs) hs.w.1.2 (by omega) (by omega) (fun _ => c) hh
    · rw [if_neg c]
      exact rn_post_r (sp_W_k hs) hs.w.1.2 (by decide) (by decide) (fun q => absurd q (by decide)) hh
  exact ⟨by omega, by omega⟩
theorem sp_sy_r {S : ol_M} {st : Int → Int} {h e : Int} : ol_r (sy S st h e (sp_nT S).toNat) := by
  have a := @sy_r S st h e (sp_nT S).toNat
  have b := sp_nT_r S
  exact ⟨by omega, by omega⟩
theorem am_r7 {g : Int → Int} : ol_r (am g 7) := by
  have a := @am_r g 7
  exact ⟨by omega, by omega⟩
theorem rn_has_rr {W : ol_M} (w : wk W) {m h l : Int} (h0 : 0 ≤ h) (h1 : h < 8) (l0 : -1 ≤ l) (l1 : l < 8) : ol_r (rn_has W m h l) := by
  have a := @rn_has_r W w m h l h0 h1 l0 l1
  exact ⟨by omega, by omega⟩
theorem rn_lv_3r {W : ol_M} (w : wk W) {j : Int} : ol_r (rn_lv W 12 3 j) := by
  have a := @rn_lv_3 W w j 12
  exact ⟨by omega, by omega⟩
theorem rn_lv_1r {W : ol_M} {j : Int} : ol_r (rn_lv W 12 1 j) := by
  have a := @rn_lv_1 W j 12
  exact ⟨by omega, by omega⟩
theorem rn_lv_2r {W : ol_M} (w : wk W) {j : Int} : ol_r (rn_lv W 12 2 j) := by
  have a := @rn_lv_2 W w j 12
  exact ⟨by omega, by omega⟩
theorem rn_lv_4r {W : ol_M} (w : wk W) {j : Int} (j0 : 0 ≤ j) (j1 : j < 8) : ol_r (rn_lv W 12 4 j) := by
  have a := @rn_lv_4 W w j j0 j1 12
  exact ⟨by omega, by omega⟩
theorem br_m_rr {W : ol_M} {e : Int} : ol_r (br_m W e 12 0) := by
  have a := @br_m_r W e 12 0 (by decide)
  exact ⟨by omega, by omega⟩
theorem m_becameOf {n : Nat} {W M : ol_M} (w : wk W) (v : mv W M) {k : Int} (k0 : 0 ≤ k) (k1 : k < W 10 0) : ∃ M', ol_R (ol_lay n) 5 q_X9_becameOf [.inr (.inr 132), .inl k] M (some (.inl (rn_lv W 12 1 k))) M' ∧ fr_s M M' := by
  have w10 := w.2.2.2.2.2.2.2.1
  obtain ⟨M2, q, x, g⟩ := @m_lives n _ M w v 11 (by decide) (by decide)
  refine ⟨M2, ol_Ri (q := q_X9_becameOf) (by decide +kernel) (Nat.le_of_ble_eq_true rfl) (Or.inl rfl) (fun Rt A hA hr => b_X9_becameOf_0 hA k M ⟨M2, q, by omega, by omega, ?_⟩), g⟩
  rw [(x.2.1 k k0 k1).1]
  exact hr
theorem m_spentOf {n : Nat} {W M : ol_M} (w : wk W) (v : mv W M) {l : Int} (l0 : 0 ≤ l) (l1 : l < 8) : ∃ M', ol_R (ol_lay n) 5 q_X9_spentOf [.inr (.inr 132), .inl l] M (some (.inl (rn_lv W 12 4 l))) M' ∧ fr_s M M' := by
  obtain ⟨M2, q, x, g⟩ := @m_lives n _ M w v 11 (by decide) (by decide)
  refine ⟨M2, ol_Ri (q := q_X9_spentOf) (by decide +kernel) (Nat.le_of_ble_eq_true rfl) (Or.inl rfl) (fun Rt A hA hr => b_X9_spentOf_0 hA l M ⟨M2, q, by omega, by omega, ?_⟩), g⟩
  rw [(x.2.2 l l0 l1).2]
  exact hr
theorem m_lendOf {n : Nat} {S M : ol_M} (hs : sp_ok S) (z : mz S M) {k : Int} (k0 : 0 ≤ k) (k1 : k < S 0 2) : ∃ M', ol_R (ol_lay n) 5 q_X9_lendOf [.inr (.inr 132), .inl k] M (some (.inl (rn_lv (ol_mp (sp_W S) 5 (fun _ => 0)) 12 2 k))) M' ∧ fr_s M M' := by
  have nr := hs.w.1
  obtain ⟨M2, q, x, g⟩ := @m_lives n _ _ (sp_W_k hs).nol z.2.1.nol 11 (by decide) (by decide)
  have e17 : M2 132 17 = M 132 25 := by
    rw [g 132 (by decide), ol_ms_i _ _ _ (by decide)]
    exact z.1.2.2.2.1.1.trans z.2.1.2.2.2.2.2.1.symm
  obtain ⟨g1, -⟩ := gx (by decide) g
  refine ⟨ol_ms M2 132 25 (M 132 25), ol_Ri (q := q_X9_lendOf) (by decide +kernel) (Nat.le_of_ble_eq_true rfl) (Or.inl rfl) (fun Rt A hA hr => b_X9_lendOf_0 hA k M ⟨M2, q, by omega, by omega, ?_⟩), g1⟩
  rw [(x.2.1 k k0 (by rw [ol_mp_ne _ _ (by decide)]; exact k1)).2, e17]
  exact hr
theorem m_bareOfR {n : Nat} {W M : ol_M} (w : wk W) (v : mv W M) {e : Int} (re : ol_r e) : ∃ M', ol_R (ol_lay n) 5 q_X9_bareOf [.inr (.inr 132), .inl e] M (some (.inl (br_m W e 12 0))) M' ∧ fr_s M M' := by
  obtain ⟨M2, t, g⟩ := @m_bareOf n _ M w e re 12 0 M (by decide) (by decide) v fr_s.rf
  exact ⟨M2, ol_Ri (q := q_X9_bareOf) (by decide +kernel) (Nat.le_of_ble_eq_true rfl) (Or.inl rfl) (fun Rt A hA hr => b_X9_bareOf_0 hA e M (t Rt A hA hr)), g⟩
theorem m_wordOf {n : Nat} {S M : ol_M} (z : mz S M) {a w : Int} (a0 : 0 ≤ a) (a1 : a < sp_nT S) (w0 : 0 ≤ w) (w1 : w < 10) : ol_R (ol_lay n) 1 q_X9_wordOf [.inr (.inr 132), .inl a, .inl w] M (some (.inl (sp_wd S a w))) M := by
  have nr := sp_nT_r S
  obtain ⟨t1, t2, t3, t4⟩ := z.2.2 a a0 a1
  have r2 : ol_r w := ⟨by omega, by omega⟩
  refine ol_Ri (q := q_X9_wordOf) (by decide +kernel) (Nat.le_of_ble_eq_true rfl) (Or.inl rfl) (fun Rt A hA hr => b_X9_wordOf_0 hA a w M ⟨r2, ?_⟩)
  unfold sp_wd at hr
  refine ol_if.mk (fun d => ol_if.mk (fun e => ⟨by omega, by omega, ?_⟩) (fun e => ⟨r2, by omega, by omega, ?_⟩)) (fun d => ⟨by omega, by omega, ?_⟩)
  · rw [if_neg (by omega), if_pos e] at hr
    rw [t2]; exact hr
  · rw [if_neg (by omega), if_neg e] at hr
    rw [t1]; exact hr
  · rw [if_pos (by omega)] at hr
    rw [t4 w w0 (by omega)]; exact hr
theorem m_tellsTerm {n : Nat} {S M : ol_M} (hs : sp_ok S) (z : mz S M) {x t : Int} (t0 : 0 ≤ t) (t1 : t < sp_nT S) : ol_R (ol_lay n) 5 q_X9_tellsTerm [.inr (.inr 132), .inr (.inl x), .inl t] M (some (.inr (.inl (sp_tT S x t)))) M := by
  have w := sp_W_k hs
  have nr := sp_nT_r S
  have r0 : ol_r 0 := ⟨by decide, by decide⟩
  have r1 : ol_r 1 := ⟨by decide, by decide⟩
  refine ol_Ri (q := q_X9_tellsTerm) (by decide +kernel) (Nat.le_of_ble_eq_true rfl) rfl (fun Rt A hA hr => b_X9_tellsTerm_0 hA x t M ?_)
  show A 6 [some (.inr (.inr 132)), none, none, some (.inl t), some (.inr (.inl (hl (sp_wd S t) x (Int.toNat 0)))), none, some (.inl 0)] [] M
  refine ol_loop (P := fun k => A 6 [some (.inr (.inr 132)), none, none, some (.inl t), some (.inr (.inl (hl (sp_wd S t) x k.toNat))), none, some (.inl k)] [] M) (a := 0) (b := 10) (by decide) (fun k k0 k1 hk => ?_) ?_
  · rw [show (k + 1).toNat = k.toNat + 1 by omega] at hk
    simp only [hl] at hk
    rw [Int.toNat_of_nonneg k0] at hk
    exact b_X9_tellsTerm_6 hA t _ k M ⟨⟨by omega, by omega⟩, ol_if.neg (by omega) ⟨_, M, m_wordOf z t0 t1 k0 k1, sp_wd_r t0 t1, hk⟩⟩
  · refine b_X9_tellsTerm_6 hA t _ 10 M ⟨⟨by decide, by decide⟩, ol_if.pos (by decide) (b_X9_tellsTerm_36 hA t _ M ?_)⟩
    exact ⟨_, M, m_papersOf w z.2.1 t0 t1 r0, sp_pap_r (e := 0) hs, _, M, m_papersOf w z.2.1 t0 t1 r1, sp_pap_r (e := 1) hs, _, M, m_meantOf hs z t0 t1, bs_r12 (by omega), hr⟩
theorem m_tellsHouse {n : Nat} {S M : ol_M} (hs : sp_ok S) (z : mz S M) {x k : Int} (k0 : 0 ≤ k) (k1 : k < sp_nH S) : ∃ M', ol_R (ol_lay n) 9 q_X9_tellsHouse [.inr (.inr 132), .inr (.inl x), .inl k] M (some (.inr (.inl (sp_tH S x k)))) M' ∧ mz S M' ∧ fm M M' := by
  have w := sp_W_k hs
  have nh := sp_nH_r hs.1
  have k8 : k < 8 := by omega
  have r0 : ol_r 0 := ⟨by decide, by decide⟩
  have r1 : ol_r 1 := ⟨by decide, by decide⟩
  obtain ⟨M1, q1, g1⟩ := @m_hasOf n _ M w z.2.1 0 k (-1) (by decide) (by decide) k0 k8 (by decide) (by decide)
  have z1 := z.fr g1
  obtain ⟨M2, q2, g2⟩ := @m_hasOf n _ M1 w z1.2.1 11 k (-1) (by decide) (by decide) k0 k8 (by decide) (by decide)
  have z2 := z1.fr g2
  obtain ⟨M3, q3, g3⟩ := @m_hasOf n _ M2 w z2.2.1 5 k 0 (by decide) (by decide) k0 k8 (by decide) (by decide)
  have z3 := z2.fr g3
  obtain ⟨M4, q4, g4⟩ := @m_finesOf n _ M3 w z3.2.1 k k0 k8
  have z4 := z3.fr g4
  obtain ⟨M5, q5, g5⟩ := @m_mostOf n _ M4 w z4.2.1 3 k 0 (by decide) (by decide) k0 k8 r0
  have z5 := z4.fr g5
  obtain ⟨M6, q6, g6⟩ := @m_mostOf n _ M5 w z5.2.1 3 k 1 (by decide) (by decide) k0 k8 r1
  have z6 := z5.fr g6
  obtain ⟨M7, q7, g7⟩ := @m_sayOf n S M6 hs z6 3 k 1 (by decide) (by decide) k0 k8 r1
  have z7 := z6.fr g7
  obtain ⟨M8, q8, g8⟩ := @m_askOf n S M7 hs z7 3 k (by decide) (by decide) k0 k8
  have z8 := z7.frc g8
  obtain ⟨M9, q9, g9⟩ := @m_censorOf n S M8 hs z8 5 k 1 0 (by decide) (by decide) k0 k8 r1 r0
  have z9 := z8.fr g9
  obtain ⟨MA, qA, gA⟩ := @m_censorOf n S M9 hs z9 5 k 1 1 (by decide) (by decide) k0 k8 r1 r1
  have zA := z9.fr gA
  obtain ⟨MB, qB, zB, gB⟩ := @m_postOf n S MA hs zA 7 9 k (by decide) (by decide) (Or.inr ⟨k0, k8⟩)
  have f : fm M MB := ((((((((((g1.fm.tr g2.fm).tr g3.fm).tr g4.fm).tr g5.fm).tr g6.fm).tr g7.fm).tr g8.fm).tr g9.fm).tr gA.fm).tr gB)
  have hk := z.2.1.2.1 k k0 k1
  have hr := sp_house hs.1 k0 k1
  have e0 : M 139 (2 * k + 0) = sp_kd S k := by rw [Int.add_zero]; exact hk.1
  have e1 : M 139 (2 * k + (0 + 1)) = sp_hd S k := hk.2
  refine ⟨MB, ol_Ri (q := q_X9_tellsHouse) (by decide +kernel) (Nat.le_of_ble_eq_true rfl) rfl (fun Rt A hA hr' => b_X9_tellsHouse_0 hA x k M (b_X9_tellsHouse_6 hA k _ 0 M ⟨⟨by decide, by decide⟩, ol_if.neg (by decide) ⟨by omega, by omega, by rw [e0]; exact ⟨by omega, by omega⟩, ?_⟩⟩)), zB, f⟩
  rw [e0]
  refine b_X9_tellsHouse_6 hA k _ (0 + 1) M ⟨⟨by decide, by decide⟩, ol_if.neg (by decide) ⟨by omega, by omega, by rw [e1]; exact ⟨by omega, by omega⟩, ?_⟩⟩
  rw [e1]
  refine b_X9_tellsHouse_6 hA k _ (0 + 1 + 1) M ⟨⟨by decide, by decide⟩, ol_if.pos (by decide) (b_X9_tellsHouse_39 hA k _ M ?_)⟩
  exact ⟨_, M1, q1, rn_has_rr w k0 k8 (by decide) (by decide), _, M2, q2, rn_has_rr w k0 k8 (by decide) (by decide), _, M3, q3, rn_has_rr w k0 k8 (by decide) (by decide), _, M4, q4, rn_lv_3r w, _, M5, q5, sp_mst_r (e := 0) hs, _, M6, q6, sp_mst_r (e := 1) hs, _, M7, q7, sp_sy_r, _, M8, q8, am_r7, _, M9, q9, _, MA, qA, _, MB, qB, sp_pst_r hs (by decide) (by decide) (Or.inr ⟨k0, k8⟩), hr'⟩
theorem m_digest {n : Nat} {S M : ol_M} (i : im S M) (hs : sp_ok S) : m_okl n 10 q_X9_digest [] S M (sp_digest S) := by
  have w := sp_W_k hs
  have nh := sp_nH_r hs.1
  have nt := sp_nT_r S
  have nw := hs.w.1
  have r0 : ol_r 0 := ⟨by decide, by decide⟩
  have r1 : ol_r 1 := ⟨by decide, by decide⟩
  have d5 : ∀ M1, mz S M1 → fm M M1 → ∃ M', ol_T n q_X9_digest 9 187 [some (.inr (.inr 132)), some (.inr (.inl (sp_d5 S))), none, none] [] M1 (some (.inr (.inl (sp_dig S)))) M' ∧ im S M' ∧ fm M M' := by
    intro M1 z f
    obtain ⟨M2, q2, g2⟩ := @m_bareOfR n _ M1 w z.2.1 0 r0
    have z2 := z.fr g2
    obtain ⟨M3, q3, g3⟩ := @m_bareOfR n _ M2 w z2.2.1 1 r1
    have z3 := z2.fr g3
    obtain ⟨M4, q4, g4⟩ := @m_neverNow n S M3 hs z3
    have z4 := z3.fr g4
    obtain ⟨M5, q5, z5, g5⟩ := @m_postOf n S M4 hs z4 7 9 (-1) (by decide) (by decide) (Or.inl rfl)
    exact ⟨M5, fun Rt A hA hr => b_X9_digest_187 hA _ M1 ⟨_, M2, q2, br_m_rr, _, M3, q3, br_m_rr, _, M4, q4, bs_r12 (by omega), _, M5, q5, sp_pst_r hs (by decide) (by decide) (Or.inl rfl), hr⟩, z5.1, (((f.tr g2.fm).tr g3.fm).tr g4.fm).tr g5⟩
  have d4 : ∀ M1, mz S M1 → fm M M1 → ∃ M', ol_T n q_X9_digest 9 149 [some (.inr (.inr 132)), some (.inr (.inl (hh (sp_tL S) (sp_d4 S) (Int.toNat 0)))), none, some (.inl 0)] [] M1 (some (.inr (.inl (sp_dig S)))) M' ∧ im S M' ∧ fm M M' := by
    refine ol_loop (P := fun l => ∀ M1, mz S M1 → fm M M1 → ∃ M', ol_T n q_X9_digest 9 149 [some (.inr (.inr 132)), some (.inr (.inl (hh (sp_tL S) (sp_d4 S) l.toNat))), none, some (.inl l)] [] M1 (some (.inr (.inl (sp_dig S)))) M' ∧ im S M' ∧ fm M M') (a := 0) (b := 8) (by decide) (fun l l0 l1 hk M1 z f => ?_) (fun M1 z f => ?_)
    · rw [show (l + 1).toNat = l.toNat + 1 by omega] at hk
      simp only [hh] at hk
      rw [Int.toNat_of_nonneg l0] at hk
      obtain ⟨M2, q2, g2⟩ := @m_spentOf n _ M1 w z.2.1 l l0 l1
      have z2 := z.fr g2
      obtain ⟨M3, q3, g3⟩ := @m_gotOf n S M2 hs z2 l l0 l1
      obtain ⟨M', t, e⟩ := hk M3 (z2.fr g3) ((f.tr g2.fm).tr g3.fm)
      exact ⟨M', fun Rt A hA hr => b_X9_digest_149 hA _ l M1 ⟨⟨by omega, by omega⟩, ol_if.neg (by omega) ⟨_, M2, q2, rn_lv_4r w l0 l1, _, M3, q3, bs_r12 (by decide), t Rt A hA hr⟩⟩, e⟩
    · obtain ⟨M', t, e⟩ := d5 M1 z f
      exact ⟨M', fun Rt A hA hr => b_X9_digest_149 hA _ 8 M1 ⟨⟨by decide, by decide⟩, ol_if.pos (by decide) (t Rt A hA hr)⟩, e⟩
  have d3 : ∀ M1, mz S M1 → fm M M1 → ∃ M', ol_T n q_X9_digest 9 107 [some (.inr (.inr 132)), some (.inr (.inl (hh (sp_tW S) (sp_d3 S) (Int.toNat 0)))), none, some (.inl 0)] [] M1 (some (.inr (.inl (sp_dig S)))) M' ∧ im S M' ∧ fm M M' := by
    refine ol_loop (P := fun l => ∀ M1, mz S M1 → fm M M1 → ∃ M', ol_T n q_X9_digest 9 107 [some (.inr (.inr 132)), some (.inr (.inl (hh (sp_tW S) (sp_d3 S) l.toNat))), none, some (.inl l)] [] M1 (some (.inr (.inl (sp_dig S)))) M' ∧ im S M' ∧ fm M M') (a := 0) (b := S 0 2) nw.1 (fun l l0 l1 hk M1 z f => ?_) (fun M1 z f => ?_)
    · rw [show (l + 1).toNat = l.toNat + 1 by omega] at hk
      simp only [hh] at hk
      rw [Int.toNat_of_nonneg l0] at hk
      obtain ⟨M2, q2, g2⟩ := @m_becameOf n _ M1 w z.2.1 l l0 l1
      have z2 := z.fr g2
      obtain ⟨M3, q3, g3⟩ := @m_lendOf n S M2 hs z2 l l0 l1
      obtain ⟨M', t, e⟩ := hk M3 (z2.fr g3) ((f.tr g2.fm).tr g3.fm)
      refine ⟨M', fun Rt A hA hr => b_X9_digest_107 hA _ l M1 ?_, e⟩
      rw [z.nW]
      exact ⟨⟨by omega, by omega⟩, ⟨by omega, by omega⟩, ol_if.neg (by omega) ⟨_, M2, q2, rn_lv_1r, _, M3, q3, rn_lv_2r w.nol, t Rt A hA hr⟩⟩
    · obtain ⟨M', t, e⟩ := d4 M1 z f
      refine ⟨M', fun Rt A hA hr => b_X9_digest_107 hA _ _ M1 ?_, e⟩
      rw [z.nW]
      exact ⟨⟨by omega, by omega⟩, ⟨by omega, by omega⟩, ol_if.pos (by omega) (t Rt A hA hr)⟩
  have d2 : ∀ M1, mz S M1 → fm M M1 → ∃ M', ol_T n q_X9_digest 9 84 [some (.inr (.inr 132)), some (.inr (.inl (hh (sp_tT S) (sp_d2 S) (Int.toNat 0)))), none, some (.inl 0)] [] M1 (some (.inr (.inl (sp_dig S)))) M' ∧ im S M' ∧ fm M M' := by
    refine ol_loop (P := fun l => ∀ M1, mz S M1 → fm M M1 → ∃ M', ol_T n q_X9_digest 9 84 [some (.inr (.inr 132)), some (.inr (.inl (hh (sp_tT S) (sp_d2 S) l.toNat))), none, some (.inl l)] [] M1 (some (.inr (.inl (sp_dig S)))) M' ∧ im S M' ∧ fm M M') (a := 0) (b := sp_nT S) nt.1 (fun l l0 l1 hk M1 z f => ?_) (fun M1 z f => ?_)
    · rw [show (l + 1).toNat = l.toNat + 1 by omega] at hk
      simp only [hh] at hk
      rw [Int.toNat_of_nonneg l0] at hk
      obtain ⟨M', t, e⟩ := hk M1 z f
      refine ⟨M', fun Rt A hA hr => b_X9_digest_84 hA _ l M1 ?_, e⟩
      rw [z.nT]
      exact ⟨⟨by omega, by omega⟩, ⟨by omega, by omega⟩, ol_if.neg (by omega) ⟨_, M1, m_tellsTerm hs z l0 l1, t Rt A hA hr⟩⟩
    · obtain ⟨M', t, e⟩ := d3 M1 z f
      refine ⟨M', fun Rt A hA hr => b_X9_digest_84 hA _ _ M1 ?_, e⟩
      rw [z.nT]
      exact ⟨⟨by omega, by omega⟩, ⟨by omega, by omega⟩, ol_if.pos (by omega) (t Rt A hA hr)⟩
  have d1 : ∀ M1, mz S M1 → fm M M1 → ∃ M', ol_T n q_X9_digest 9 61 [some (.inr (.inr 132)), some (.inr (.inl (hh (sp_tH S) (sp_d1 S) (Int.toNat 0)))), none, some (.inl 0)] [] M1 (some (.inr (.inl (sp_dig S)))) M' ∧ im S M' ∧ fm M M' := by
    refine ol_loop (P := fun l => ∀ M1, mz S M1 → fm M M1 → ∃ M', ol_T n q_X9_digest 9 61 [some (.inr (.inr 132)), some (.inr (.inl (hh (sp_tH S) (sp_d1 S) l.toNat))), none, some (.inl l)] [] M1 (some (.inr (.inl (sp_dig S)))) M' ∧ im S M' ∧ fm M M') (a := 0) (b := sp_nH S) nh.1 (fun l l0 l1 hk M1 z f => ?_) (fun M1 z f => ?_)
    · rw [show (l + 1).toNat = l.toNat + 1 by omega] at hk
      simp only [hh] at hk
      rw [Int.toNat_of_nonneg l0] at hk
      obtain ⟨M2, q2, z2, g2⟩ := @m_tellsHouse n S M1 hs z (hh (sp_tH S) (sp_d1 S) l.toNat) l l0 l1
      obtain ⟨M', t, e⟩ := hk M2 z2 (f.tr g2)
      refine ⟨M', fun Rt A hA hr => b_X9_digest_61 hA _ l M1 ?_, e⟩
      rw [z.nH]
      exact ⟨⟨by omega, by omega⟩, ⟨by omega, by omega⟩, ol_if.neg (by omega) ⟨_, M2, q2, t Rt A hA hr⟩⟩
    · obtain ⟨M', t, e⟩ := d2 M1 z f
      refine ⟨M', fun Rt A hA hr => b_X9_digest_61 hA _ _ M1 ?_, e⟩
      rw [z.nH]
      exact ⟨⟨by omega, by omega⟩, ⟨by omega, by omega⟩, ol_if.pos (by omega) (t Rt A hA hr)⟩
  have d0 : ∀ M1, im S M1 → fm M M1 → ∃ M', ol_T n q_X9_digest 9 6 [some (.inr (.inr 132)), some (.inr (.inl (hl (sp_cnt S) 17 (Int.toNat 0)))), none, some (.inl 0)] [] M1 (some (.inr (.inl (sp_dig S)))) M' ∧ im S M' ∧ fm M M' := by
    refine ol_loop (P := fun l => ∀ M1, im S M1 → fm M M1 → ∃ M', ol_T n q_X9_digest 9 6 [some (.inr (.inr 132)), some (.inr (.inl (hl (sp_cnt S) 17 l.toNat))), none, some (.inl l)] [] M1 (some (.inr (.inl (sp_dig S)))) M' ∧ im S M' ∧ fm M M') (a := 0) (b := 8) (by decide) (fun l l0 l1 hk M1 i1 f => ?_) (fun M1 i1 f => ?_)
    · rw [show (l + 1).toNat = l.toNat + 1 by omega] at hk
      simp only [hl] at hk
      rw [Int.toNat_of_nonneg l0] at hk
      obtain ⟨M2, q2, z2, g2⟩ := @m_count' n S M1 i1 hs l ⟨by omega, by omega⟩
      obtain ⟨M', t, e⟩ := hk M2 z2.1 (f.tr g2)
      exact ⟨M', fun Rt A hA hr => b_X9_digest_6 hA _ l M1 ⟨⟨by omega, by omega⟩, ol_if.neg (by omega) ⟨_, M2, q2, sp_cnt_r hs, t Rt A hA hr⟩⟩, e⟩
    · obtain ⟨h1, h2, h3, h4, h5, h6, h7, h8⟩ := id i1
      obtain ⟨M2, q2, f2, a1, a2⟩ := @m_readsHouses n S M1 h1 hs.1
      have i2 : im S M2 := by
        refine ⟨h1.keep rfl rfl rfl rfl (f2.1 _ (by decide) (by decide)) (f2.1 _ (by decide) (by decide)), h2.keep rfl (f2.1 _ (by decide) (by decide)), h3.keep rfl rfl rfl rfl (f2.2 _ (by decide)) (f2.1 _ (by decide) (by decide)), h4.keep rfl rfl rfl rfl rfl (f2.2 _ (by decide)) (f2.1 _ (by decide) (by decide)), h5.keep rfl rfl rfl rfl rfl (f2.2 _ (by decide)) (f2.1 _ (by decide) (by decide)), h6.keep rfl (f2.2 _ (by decide)), (f2.2 _ (by decide)).trans h7, ?_⟩
        intro s x0 x1
        rw [f2.1 133 (by decide) (by decide), f2.1 134 (by decide) (by decide), f2.1 135 (by decide) (by decide)]
        exact h8 s x0 x1
      obtain ⟨k1, k2, k3, k4, k5, k6, k7, k8⟩ := id i2
      obtain ⟨M3, q3, f3, b1, b2⟩ := @m_readsTerms n S M2 k1 hs.1
      have i3 : im S M3 := by
        refine ⟨k1.keep rfl rfl rfl rfl (f3.1 _ (by decide) (by decide)) (f3.1 _ (by decide) (by decide)), k2.keep rfl (f3.1 _ (by decide) (by decide)), k3.keep rfl rfl rfl rfl (f3.2 _ (by decide)) (f3.1 _ (by decide) (by decide)), k4.keep rfl rfl rfl rfl rfl (f3.2 _ (by decide)) (f3.1 _ (by decide) (by decide)), k5.keep rfl rfl rfl rfl rfl (f3.2 _ (by decide)) (f3.1 _ (by decide) (by decide)), k6.keep rfl (f3.2 _ (by decide)), (f3.2 _ (by decide)).trans k7, ?_⟩
        intro s x0 x1
        rw [f3.1 133 (by decide) (by decide), f3.1 134 (by decide) (by decide), f3.1 135 (by decide) (by decide)]
        exact k8 s x0 x1
      obtain ⟨M4, q4, z4, g4⟩ := @m_find n S M3 i3 hs
      have fA : fm M1 M3 := fun k q => (f3.1 k (by omega) (by omega)).trans (f2.1 k (by omega) (by omega))
      obtain ⟨M', t, e⟩ := d1 M4 z4 ((f.tr fA).tr g4)
      have ra := sp_hf_r hs.1
      have rb := sp_tf_r hs.1
      exact ⟨M', fun Rt A hA hr => b_X9_digest_6 hA _ 8 M1 ⟨⟨by decide, by decide⟩, ol_if.pos (by decide) ⟨_, M2, q2, ⟨by omega, by omega⟩, _, M3, q3, ⟨by omega, by omega⟩, M4, q4, t Rt A hA hr⟩⟩, e⟩
  obtain ⟨M', t, e⟩ := d0 M i fm.rf
  exact ⟨M', ol_Ri (q := q_X9_digest) (by decide +kernel) (Nat.le_of_ble_eq_true rfl) rfl (fun Rt A hA hr => b_X9_digest_0 hA M (t Rt A hA hr)), e⟩
