noncomputable def rn_post (W : ol_M) (s m h k : Int) : Int := if h = -1 then sm (fun j => if 1 ≤ rn_lv (sp_pw W s k) (m + 1).toNat 1 (W 10 0 + j) ∧ rn_lv (sp_pw W s k) (m + 1).toNat 1 (W 10 0 + j) ≤ 2 then 1 else 0) k.toNat else rn_all (rn_lv (sp_pw W s k) (m + 1).toNat 0) h
noncomputable def sp_pst (S : ol_M) (s m h : Int) : Int := rn_post (sp_W S) s m h (if 0 < sp_nH S ∧ 0 < sp_nT S then m + 1 else 0)
noncomputable def sp_post (S : ol_M) (s m h : Int) : Int × ol_M := (if (0 ≤ m ∧ m ≤ 11) ∧ (h = -1 ∨ (0 ≤ h ∧ h < sp_nH S)) then sp_pst S s m h else -2, S)
theorem rn_try_1 {W : ol_M} {k j : Int} {X : ol_M} : rn_try W k X 1 j = 0 ∨ rn_try W k X 1 j = 1 ∨ rn_try W k X 1 j = 2 ∨ rn_try W k X 1 j = 3 ∨ rn_try W k X 1 j = X 1 j := by
  unfold rn_try
  by_cases c : W 12 k < W 0 0 ∧ W 13 k < W 3 0
  · rw [if_pos c]
    have r := rn_res_r W (W 12 k) (W 13 k) (X 0)
    by_cases d : rn_res W (W 12 k) (W 13 k) (X 0) = 3
    · rw [if_pos d, ol_ms_ne _ _ _ (by decide), ol_ms_row]
      by_cases e : j = k
      · rw [e, ol_rsA]; omega
      · rw [ol_rsN _ _ e, ol_ms_ne _ _ _ (by decide)]; omega
    · rw [if_neg d, ol_mp_ne _ _ (by decide), ol_mp_ne _ _ (by decide), ol_ms_row]
      by_cases e : j = k
      · rw [e, ol_rsA]; omega
      · rw [ol_rsN _ _ e, ol_ms_ne _ _ _ (by decide)]; omega
  · rw [if_neg c]; omega
theorem rn_ws_1 {W : ol_M} {m j : Int} : ∀ (k : Nat) (X : ol_M), (0 ≤ X 1 j ∧ X 1 j ≤ 3) → 0 ≤ rn_ws W m k X 1 j ∧ rn_ws W m k X 1 j ≤ 3 := by
  intro k
  induction k with
  | zero => intro X h; exact h
  | succ k ih =>
    intro X h
    have i := ih X h
    unfold rn_ws
    split
    · have := @rn_try_1 W k j (rn_ws W m k X)
      omega
    · exact i
theorem rn_lv_1 {W : ol_M} {j : Int} : ∀ m : Nat, 0 ≤ rn_lv W m 1 j ∧ rn_lv W m 1 j ≤ 3 := by
  intro m
  induction m with
  | zero => exact ⟨Int.le_refl 0, by show (0 : Int) ≤ 3; decide⟩
  | succ m ih =>
    unfold rn_lv rn_mo
    refine rn_ws_1 _ _ ?_
    rw [ol_mp_ne _ _ (by decide)]
    exact ih
theorem m_post_end {n : Nat} {W M M0 : ol_M} (w : wk W) (h12 : W 10 0 ≤ 12) {s k m h N : Int} (eN : N = W 10 0) (k0 : 0 ≤ k) (k1 : k ≤ 12) (m0 : 0 ≤ m) (m1 : m < 12) (hh : h = -1 ∨ (0 ≤ h ∧ h < 8)) (hp : 0 < k → 0 < W 0 0 ∧ 0 < W 3 0) (v : mv (sp_pw W s k) M) (f : fr_p N M0 M) : ∃ M1 M', ol_R (ol_lay n) 4 q_X9_lives [.inr (.inr 132), .inl m] M none M1 ∧ ol_T n q_X9_postOf 4 78 [some (.inr (.inr 132)), none, none, some (.inl h), some (.inl N), some (.inl 0), some (.inl N)] [] M1 (some (.inl (rn_post W s m h k))) M' ∧ fr_p N M0 M' ∧ M' 132 15 = N := by
  have w' := sp_pw_k w h12 (s := s) k0 k1 hp
  have w10 := w.2.2.2.2.2.2.2.1
  obtain ⟨M1, q, x, g⟩ := @m_lives n _ M w' v m (by omega) m1
  have v1 := v.fr g
  have e15 : M1 132 15 = W 10 0 + k := v1.2.2.2.2.2.2.2.1
  refine ⟨M1, ol_ms M1 132 15 N, q, fun Rt A hA hr => ?_, (f.tr g.p).s15 (Or.inl rfl), ol_msA _ _ _ _⟩
  obtain ⟨fn, hfn⟩ : ∃ y : Int → Int, y = fun j => if 1 ≤ rn_lv (sp_pw W s k) (m + 1).toNat 1 (W 10 0 + j) ∧ rn_lv (sp_pw W s k) (m + 1).toNat 1 (W 10 0 + j) ≤ 2 then 1 else 0 := ⟨_, rfl⟩
  unfold rn_post at hr
  rw [← hfn] at hr
  have key : A 78 [some (.inr (.inr 132)), none, none, some (.inl h), some (.inl N), some (.inl (sm fn (Int.toNat 0))), some (.inl (N + 0))] [] M1 := by
    refine ol_loop (P := fun j => A 78 [some (.inr (.inr 132)), none, none, some (.inl h), some (.inl N), some (.inl (sm fn j.toNat)), some (.inl (N + j))] [] M1) (a := 0) (b := k) k0 (fun j j0 j1 hj => ?_) ?_
    · rw [show (j + 1).toNat = j.toNat + 1 by omega] at hj
      simp only [sm] at hj
      rw [Int.toNat_of_nonneg j0, ← Int.add_assoc] at hj
      have r := @rn_lv_1 (sp_pw W s k) (W 10 0 + j) (m + 1).toNat
      refine b_X9_postOf_78 hA h N _ (N + j) M1 ?_
      rw [e15, (x.2.1 (N + j) (by omega) (show N + j < W 10 0 + k by omega)).1, eN]
      rw [eN] at hj
      refine ⟨⟨by omega, by omega⟩, ⟨by omega, by omega⟩, ol_if.neg (by omega) ⟨by omega, by omega, ⟨by omega, by omega⟩, ol_r_l ⟨by omega, by omega⟩, ol_if.mk (fun c => ?_) (fun c => ?_)⟩⟩
      · rw [show fn j = 1 by rw [hfn]; exact if_pos c] at hj
        exact hj
      · rw [show fn j = 0 by rw [hfn]; exact if_neg c] at hj
        exact hj
    · refine b_X9_postOf_78 hA h N _ (N + k) M1 ?_
      rw [e15]
      refine ⟨⟨by omega, by omega⟩, ⟨by omega, by omega⟩, ol_if.pos (by omega) (ol_if.mk (fun c => ?_) (fun c => ⟨⟨by omega, by omega⟩, _, _, m_allOf (W := sp_pw W s k) (X := rn_lv (sp_pw W s k) (m + 1).toNat) ?_ (by omega) (by omega), ?_⟩))⟩
      · rw [if_pos c] at hr
        exact hr
      · obtain ⟨x1, x2, x3⟩ := x
        refine ⟨?_, ?_, ?_⟩
        · rw [ol_ms_ne _ _ _ (by decide)]; exact x1
        · rw [ol_ms_ne _ _ _ (by decide), ol_ms_ne _ _ _ (by decide)]; exact x2
        · rw [ol_ms_ne _ _ _ (by decide), ol_ms_ne _ _ _ (by decide)]; exact x3
      · rw [if_neg c] at hr
        exact hr
  rw [Int.add_zero] at key
  exact key
theorem m_postOf {n : Nat} {S M : ol_M} (hs : sp_ok S) (z : mz S M) {s m h : Int} (m0 : 0 ≤ m) (m1 : m < 12) (hh : h = -1 ∨ (0 ≤ h ∧ h < 8)) : ∃ M', ol_R (ol_lay n) 5 q_X9_postOf [.inr (.inr 132), .inl s, .inl m, .inl h] M (some (.inl (sp_pst S s m h))) M' ∧ mz S M' ∧ fm M M' := by
  have w := sp_W_k hs
  have nw := hs.w.1
  have nh := sp_nH_r hs.1
  have nt := sp_nT_r S
  have e15 := z.nW
  have mv0 : mv (sp_pw (sp_W S) s 0) (ol_ms M 132 29 s) := by
    obtain ⟨v1, v2, v3, v4, v5, v6, v7, v8, v9, v10, v11⟩ := z.2.1
    have e : ∀ c : Int, ¬ (10 ≤ c ∧ c ≤ 13) → sp_pw (sp_W S) s 0 c = sp_W S c := fun c q => sp_pw_ne q
    have n : ∀ c : Int, c ≠ 132 → ol_ms M 132 29 s c = M c := fun c q => ol_ms_ne _ _ _ q
    have p : ∀ j : Int, j ≠ 29 → ol_ms M 132 29 s 132 j = M 132 j := fun j q => ol_ms_i _ _ _ q
    unfold mv
    rw [e 0 (by decide), e 1 (by decide), e 2 (by decide), e 3 (by decide), e 4 (by decide), e 5 (by decide), e 6 (by decide), e 7 (by decide), e 8 (by decide), e 9 (by decide), e 14 (by decide), n 139 (by decide), n 143 (by decide), n 144 (by decide), n 145 (by decide), n 146 (by decide), p 7 (by decide), p 9 (by decide), p 25 (by decide), p 15 (by decide), p 24 (by decide)]
    refine ⟨v1, v2, v3, fun t t0 t1 l l0 l1 => ?_, v5, v6, v7, ?_, fun k k0 k1 => ?_, v10, fun k k0 k1 => v11 k k0 ?_⟩
    · rw [e (30 + t) (by omega)]
      exact v4 t t0 t1 l l0 l1
    · rw [v8]; show sp_W S 10 0 = sp_W S 10 0 + 0; omega
    · have k2 : k < sp_W S 10 0 + 0 := k1
      show _ = (if k < sp_W S 10 0 then sp_W S 11 k else k - sp_W S 10 0) ∧ _ = (if k < sp_W S 10 0 then sp_W S 12 k else lt (sd s (2 * (k - sp_W S 10 0) + 1).toNat) (sp_W S 0 0)) ∧ _ = (if k < sp_W S 10 0 then sp_W S 13 k else lt (sd s (2 * (k - sp_W S 10 0) + 2).toNat) (sp_W S 3 0))
      rw [if_pos (by omega), if_pos (by omega), if_pos (by omega)]
      exact v9 k k0 (by omega)
    · have k2 : k < sp_W S 10 0 + 0 := k1
      omega
  have fin : ∀ M', fr_p (S 0 2) M M' → M' 132 15 = S 0 2 → mz S M' ∧ fm M M' := fun M' f e => ⟨z.frp f e, f.fm⟩
  have f0 : fr_p (S 0 2) M (ol_ms M 132 29 s) := fr_p.rf.s15 (Or.inr rfl)
  unfold sp_pst
  by_cases c : 0 < sp_nH S ∧ 0 < sp_nT S
  · rw [if_pos c]
    have key : ∀ M1, fr_p (S 0 2) M M1 → mv (sp_pw (sp_W S) s 0) M1 → M1 132 29 = sd s (Int.toNat (2 * 0)) → ∃ M', ol_T n q_X9_postOf 4 14 [some (.inr (.inr 132)), none, some (.inl m), some (.inl h), some (.inl (S 0 2)), some (.inl 0), none] [] M1 (some (.inl (rn_post (sp_W S) s m h (m + 1)))) M' ∧ fr_p (S 0 2) M M' ∧ M' 132 15 = S 0 2 := by
      refine ol_loop (P := fun k => ∀ M1, fr_p (S 0 2) M M1 → mv (sp_pw (sp_W S) s k) M1 → M1 132 29 = sd s (Int.toNat (2 * k)) → ∃ M', ol_T n q_X9_postOf 4 14 [some (.inr (.inr 132)), none, some (.inl m), some (.inl h), some (.inl (S 0 2)), some (.inl k), none] [] M1 (some (.inl (rn_post (sp_W S) s m h (m + 1)))) M' ∧ fr_p (S 0 2) M M' ∧ M' 132 15 = S 0 2) (a := 0) (b := m + 1) (by omega) (fun k k0 k1 hk M1 f v e29 => ?_) (fun M1 f v e29 => ?_)
      · have e7 : M1 132 7 = sp_nH S := v.1
        have e9 : M1 132 9 = sp_nT S := v.2.2.1
        have e15' : M1 132 15 = S 0 2 + k := v.2.2.2.2.2.2.2.1
        have e24 : M1 132 24 = 0 := (f.2.1 24 (by decide) (by decide)).trans z.1.2.2.2.2.2.2.1
        have l1 := @m_lot n M1 (sp_nH S) c.1 ⟨by omega, by omega⟩
        obtain ⟨s1, hs1⟩ : ∃ y, y = 1103515245 * M1 132 29 + 12345 := ⟨_, rfl⟩
        rw [← hs1] at l1
        have l2 := @m_lot n (ol_ms M1 132 29 s1) (sp_nT S) c.2 ⟨by omega, by omega⟩
        rw [ol_msA, ol_ms_ms] at l2
        obtain ⟨s2, hs2⟩ : ∃ y, y = 1103515245 * s1 + 12345 := ⟨_, rfl⟩
        rw [← hs2] at l2
        have es1 : s1 = sd s (2 * k + 1).toNat := by rw [hs1, e29, show (2 * k + 1).toNat = (2 * k).toNat + 1 by omega]; rfl
        have es2 : s2 = sd s (2 * k + 2).toNat := by rw [hs2, es1, show (2 * k + 2).toNat = (2 * k + 1).toNat + 1 by omega]; rfl
        obtain ⟨M2, hM2⟩ : ∃ y, y = ol_ms M1 132 29 s2 := ⟨_, rfl⟩
        rw [← hM2] at l2
        have p : ∀ j : Int, j ≠ 29 → M2 132 j = M1 132 j := fun j q => by rw [hM2]; exact ol_ms_i _ _ _ q
        have nn : ∀ c : Int, c ≠ 132 → M2 c = M1 c := fun c q => by rw [hM2]; exact ol_ms_ne _ _ _ q
        have v2 : mv (sp_pw (sp_W S) s k) M2 := by
          unfold mv at v ⊢
          rw [nn 139 (by decide), nn 143 (by decide), nn 144 (by decide), nn 145 (by decide), nn 146 (by decide), p 7 (by decide), p 9 (by decide), p 25 (by decide), p 15 (by decide), p 24 (by decide)]
          exact v
        have l3 := @m_writes n M2 k (lt s1 (sp_nH S)) (lt s2 (sp_nT S)) (by rw [p 15 (by decide)]; omega) (by rw [p 15 (by decide)]; omega)
        have v3 := @mv.post (sp_W S) M2 s k k0 nw.1 rfl (by rw [p 24 (by decide)]; exact e24) v2 (lt s1 (sp_nH S)) (lt s2 (sp_nT S)) (by rw [es1]; rfl) (by rw [es2]; rfl)
        have f3 : fr_p (S 0 2) M (m_wr M2 k (lt s1 (sp_nH S)) (lt s2 (sp_nT S))) := by
          have f2 : fr_p (S 0 2) M M2 := by rw [hM2]; exact f.s15 (Or.inr rfl)
          refine f2.tr ⟨fun c a b _ => m_wr_ne a b, fun j a _ => by rw [m_wr_132, ol_rsN _ _ a], fun j a => ?_⟩
          have : M2 132 15 = S 0 2 + k := (p 15 (by decide)).trans e15'
          rw [m_wr_row, ol_rsN _ _ (by omega), ol_rsN _ _ (by omega), ol_rsN _ _ (by omega)]
        have e29' : m_wr M2 k (lt s1 (sp_nH S)) (lt s2 (sp_nT S)) 132 29 = sd s (2 * (k + 1)).toNat := by
          rw [m_wr_132, ol_rsN _ _ (by decide), hM2, ol_msA, es2, show 2 * k + 2 = 2 * (k + 1) by omega]
        obtain ⟨M', t, g1, g2⟩ := hk _ f3 v3 e29'
        refine ⟨M', fun Rt A hA hr => b_X9_postOf_14 hA m h _ k M1 ?_, g1, g2⟩
        rw [e7, e9]
        refine ⟨⟨by omega, by omega⟩, ⟨by omega, by omega⟩, ol_if.neg (by omega) ⟨⟨by omega, by omega⟩, ol_if.neg (by omega) ⟨⟨by omega, by omega⟩, ol_if.neg (by omega) ⟨_, _, l1, ?_⟩⟩⟩⟩
        rw [ol_ms_i _ _ _ (by decide), e9]
        exact ⟨_, M2, l2, _, l3, t Rt A hA hr⟩
      · obtain ⟨M2, M', q, t, g1, g2⟩ := @m_post_end n (sp_W S) M1 M w nw.2 s (m + 1) m h (S 0 2) rfl (by omega) (by omega) m0 m1 hh (fun _ => c) v f
        exact ⟨M', fun Rt A hA hr => b_X9_postOf_14 hA m h _ _ M1 ⟨⟨by omega, by omega⟩, ⟨by omega, by omega⟩, ol_if.pos (by omega) ⟨M2, q, t Rt A hA hr⟩⟩, g1, g2⟩
    obtain ⟨M', t, g1, g2⟩ := key (ol_ms M 132 29 s) f0 mv0 (ol_msA _ _ _ _)
    refine ⟨M', ol_Ri (q := q_X9_postOf) (by decide +kernel) (Nat.le_of_ble_eq_true rfl) (Or.inl rfl) (fun Rt A hA hr => b_X9_postOf_0 hA s m h M ?_), fin M' g1 g2⟩
    rw [e15]
    exact t Rt A hA hr
  · rw [if_neg c]
    obtain ⟨M2, M', q, t, g1, g2⟩ := @m_post_end n (sp_W S) (ol_ms M 132 29 s) M w nw.2 s 0 m h (S 0 2) rfl (by decide) (by decide) m0 m1 hh (fun q => absurd q (by decide)) mv0 f0
    refine ⟨M', ol_Ri (q := q_X9_postOf) (by decide +kernel) (Nat.le_of_ble_eq_true rfl) (Or.inl rfl) (fun Rt A hA hr => b_X9_postOf_0 hA s m h M ?_), fin M' g1 g2⟩
    rw [e15]
    refine b_X9_postOf_14 hA m h _ 0 _ ?_
    rw [show (ol_ms M 132 29 s) 132 7 = sp_nH S from mv0.1, show (ol_ms M 132 29 s) 132 9 = sp_nT S from mv0.2.2.1]
    exact ⟨⟨by decide, by decide⟩, ⟨by omega, by omega⟩, ol_if.neg (by omega) ⟨⟨by omega, by omega⟩, ol_if.mk (fun _ => ⟨M2, q, t Rt A hA hr⟩) (fun d => ⟨⟨by omega, by omega⟩, ol_if.pos (by omega) ⟨M2, q, t Rt A hA hr⟩⟩)⟩⟩
theorem m_post {n : Nat} {S M : ol_M} (i : im S M) (hs : sp_ok S) {s m h : Int} (r2 : ol_r m) (r3 : ol_r h) : m_ok n 6 q_X9_post [.inl s, .inl m, .inl h] S M (sp_post S s m h) := by
  obtain ⟨M1, r, z, f⟩ := @m_find n S M i hs
  have nr := sp_nH_r hs.1
  have e7 := z.nH
  unfold sp_post
  apply m_ok.of
  by_cases c : (0 ≤ m ∧ m ≤ 11) ∧ (h = -1 ∨ (0 ≤ h ∧ h < sp_nH S))
  · rw [if_pos c]
    obtain ⟨M2, q, z2, g⟩ := @m_postOf n S M1 hs z s m h c.1.1 (by omega) (by omega)
    refine ⟨M2, ol_Ri (q := q_X9_post) (by decide +kernel) (Nat.le_of_ble_eq_true rfl) (Or.inl rfl) (fun Rt A hA hr => b_X9_post_0 hA s m h M ⟨M1, r, ?_⟩), z2.1, f.tr g⟩
    rw [e7]
    exact ⟨r2, ol_if.pos c.1 (ol_if.mk (fun _ => ⟨_, M2, q, hr⟩) (fun d => ⟨r3, r3, ⟨by omega, by omega⟩, ol_if.pos (c.2.resolve_left d) ⟨_, M2, q, hr⟩⟩))⟩
  · rw [if_neg c]
    refine ⟨M1, ol_Ri (q := q_X9_post) (by decide +kernel) (Nat.le_of_ble_eq_true rfl) (Or.inl rfl) (fun Rt A hA hr => b_X9_post_0 hA s m h M ⟨M1, r, ?_⟩), z.1, f⟩
    rw [e7]
    exact ⟨r2, ol_if.mk (fun d1 => ol_if.mk (fun d => absurd ⟨d1, Or.inl d⟩ c) (fun d => ⟨r3, r3, ⟨by omega, by omega⟩, ol_if.neg (fun q => c ⟨d1, Or.inr q⟩) hr⟩)) (fun _ => hr)⟩
