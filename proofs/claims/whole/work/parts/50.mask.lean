theorem m_mostAlike {n : Nat} {M : ol_M} {f c : Int → Int} {N l : Int} (e15 : M 132 15 = N) (n0 : 0 ≤ N) (n1 : N ≤ 12) (l0 : 0 ≤ l) (l1 : l < 8) (hc : ∀ a, 0 ≤ a → a < N → M 153 (8 * a + l) = c a ∧ ol_r (c a)) : ol_R (ol_lay n) 2 q_X9_mostAlike [.inr (.inr 132), .inl l, .inl (bs f N.toNat)] M (some (.inl (ma f c N.toNat N.toNat))) M := by
  have br := @bs_r f N.toNat
  have pw := @pw_le N.toNat 12 (by omega)
  have rb : ol_r (bs f N.toNat) := ⟨by omega, by omega⟩
  refine ol_Ri (q := q_X9_mostAlike) (by decide +kernel) (Nat.le_of_ble_eq_true rfl) (Or.inl rfl) (fun Rt A hA hr => b_X9_mostAlike_0 hA l _ M ?_)
  show A 5 [some (.inr (.inr 132)), some (.inl l), some (.inl (bs f N.toNat)), some (.inl (ma f c N.toNat (Int.toNat 0))), some (.inl 0), none, none] [] M
  refine ol_loop (P := fun a => A 5 [some (.inr (.inr 132)), some (.inl l), some (.inl (bs f N.toNat)), some (.inl (ma f c N.toNat a.toNat)), some (.inl a), none, none] [] M) (a := 0) (b := N) n0 (fun a a0 a1 ha => ?_) ?_
  · rw [show (a + 1).toNat = a.toNat + 1 by omega] at ha
    simp only [ma] at ha
    rw [Int.toNat_of_nonneg a0] at ha
    have mr := @ma_r f c N.toNat a.toNat
    have ba := @bs_bit f N.toNat a.toNat (by omega)
    rw [Int.toNat_of_nonneg a0] at ba
    refine b_X9_mostAlike_5 hA l _ _ a M ?_
    rw [e15]
    refine ⟨⟨by omega, by omega⟩, ⟨by omega, by omega⟩, ol_if.neg (by omega) ?_⟩
    show A 20 [some (.inr (.inr 132)), some (.inl l), some (.inl (bs f N.toNat)), some (.inl (ma f c N.toNat a.toNat)), some (.inl a), some (.inl (ac f c a (Int.toNat 0))), some (.inl 0)] [] M
    refine ol_loop (P := fun b => A 20 [some (.inr (.inr 132)), some (.inl l), some (.inl (bs f N.toNat)), some (.inl (ma f c N.toNat a.toNat)), some (.inl a), some (.inl (ac f c a b.toNat)), some (.inl b)] [] M) (a := 0) (b := N) n0 (fun b b0 b1 hb => ?_) ?_
    · rw [show (b + 1).toNat = b.toNat + 1 by omega] at hb
      simp only [ac] at hb
      rw [Int.toNat_of_nonneg b0] at hb
      have bb := @bs_bit f N.toNat b.toNat (by omega)
      rw [Int.toNat_of_nonneg b0] at bb
      obtain ⟨ca, ra⟩ := hc a a0 a1
      obtain ⟨cb, rb'⟩ := hc b b0 b1
      refine b_X9_mostAlike_20 hA l _ _ a _ b M ?_
      rw [e15, ca, cb]
      refine ⟨⟨by omega, by omega⟩, ⟨by omega, by omega⟩, ol_if.neg (by omega) ⟨rb, a0, by omega, ol_if.mk (fun d => ⟨rb, b0, by omega, ol_if.mk (fun e => ⟨by omega, by omega, by omega, by omega, ol_if.mk (fun g => ?_) (fun g => ⟨ra, rb', ?_⟩)⟩) (fun e => ?_)⟩) (fun d => ?_)⟩⟩
      · rw [if_pos ⟨ba.mp d, bb.mp e, g⟩] at hb; exact hb
      · rw [if_neg (fun q => g q.2.2)] at hb; exact hb
      · rw [if_neg (fun q => e (bb.mpr q.2.1))] at hb; exact hb
      · rw [if_neg (fun q => d (ba.mpr q.1))] at hb; exact hb
    · have ar := @ac_r f c a N.toNat
      refine b_X9_mostAlike_20 hA l _ _ a _ N M ?_
      rw [e15]
      refine ⟨⟨by omega, by omega⟩, ⟨by omega, by omega⟩, ol_if.pos (by omega) ⟨⟨by omega, by omega⟩, ⟨by omega, by omega⟩, ol_if.mk (fun d => ?_) (fun d => ?_)⟩⟩
      · rw [if_neg (by omega)] at ha; exact ha
      · rw [if_pos (by omega)] at ha; exact ha
  · refine b_X9_mostAlike_5 hA l _ _ N M ?_
    rw [e15]
    exact ⟨⟨by omega, by omega⟩, ⟨by omega, by omega⟩, ol_if.pos (by omega) hr⟩
theorem m_askOf {n : Nat} {S M : ol_M} (hs : sp_ok S) (z : mz S M) {m h : Int} (m0 : 0 ≤ m) (m1 : m < 12) (h0 : 0 ≤ h) (h1 : h < 8) : ∃ M', ol_R (ol_lay n) 8 q_X9_askOf [.inr (.inr 132), .inl m, .inl h] M (some (.inl (am (sp_al S m h) 7))) M' ∧ fr_c M M' := by
  have w := sp_W_k hs
  have nr := hs.w.1
  have e24 : ∀ N, fr_c M N → N 132 24 = 0 := fun N f => by rw [f 132 (by decide) (by decide)]; exact z.1.2.2.2.2.2.2.1
  obtain ⟨M0, q0, g0⟩ := @m_neverNow n S M hs z
  obtain ⟨B, hB⟩ : ∃ y, y = bs (sp_su S) (S 0 2).toNat := ⟨_, rfl⟩
  have key : ∀ N c, fr_c M N → (∀ a, 0 ≤ a → a < 0 → ∀ l, 0 ≤ l → l < 8 → N 153 (8 * a + l) = sp_ct S m h l a) → ∃ M', ol_T n q_X9_askOf 7 8 [some (.inr (.inr 132)), some (.inl m), some (.inl h), some (.inl B), some (.inl 0), none, none, none] [] (ol_ms N 132 24 c) (some (.inl (am (sp_al S m h) 7))) M' ∧ fr_c M M' := by
    refine ol_loop (P := fun k => ∀ N c, fr_c M N → (∀ a, 0 ≤ a → a < k → ∀ l, 0 ≤ l → l < 8 → N 153 (8 * a + l) = sp_ct S m h l a) → ∃ M', ol_T n q_X9_askOf 7 8 [some (.inr (.inr 132)), some (.inl m), some (.inl h), some (.inl B), some (.inl k), none, none, none] [] (ol_ms N 132 24 c) (some (.inl (am (sp_al S m h) 7))) M' ∧ fr_c M M') (a := 0) (b := S 0 2) nr.1 (fun k k0 k1 hk N c f hN => ?_) (fun N c f hN => ?_)
    · have zN := z.frc f
      have eN := e24 N f
      have e15 : (ol_ms N 132 24 c) 132 15 = S 0 2 := by rw [ol_ms_i _ _ _ (by decide)]; exact zN.nW
      obtain ⟨M2, q, x, g⟩ := @m_lives n _ _ (w.gone _) (zN.2.1.wo w k0 (by omega)) m (by omega) m1
      obtain ⟨g1, g2⟩ := gx (by decide) g
      rw [eN] at g1 g2
      obtain ⟨row, hrow⟩ : ∃ y, y = ol_rg (M2 153) (8 * k) (8 * k + 8) (fun j => M2 147 (8 * h + (j - 8 * k))) := ⟨_, rfl⟩
      have e153 : M2 153 = N 153 := (g 153 (by decide)).trans (ol_ms_ne _ _ _ (by decide))
      obtain ⟨M', t, g'⟩ := hk (ol_mp (ol_ms M2 132 24 0) 153 row) (1 * 2 ^ k.toNat) (f.tr (g1.c.tr (fun d _ b => ol_mp_ne _ _ b))) (fun a a0 a1 l l0 l1 => by
        rw [ol_mp_same, hrow]
        by_cases p : a = k
        · rw [p, ol_rg_in (by omega) (by omega), x.1 _ (by omega) (by omega), show 8 * h + (8 * k + l - 8 * k) = 8 * h + l by omega]
          rfl
        · rw [ol_rg_out (by omega), e153]
          exact hN a a0 (by omega) l l0 l1)
      have e3 : ol_ms (ol_mp (ol_ms M2 132 24 0) 153 row) 132 24 (1 * 2 ^ k.toNat) = ol_mp M2 153 row := by
        funext d
        by_cases p : d = 153
        · rw [p, ol_ms_ne _ _ _ (by decide), ol_mp_same, ol_mp_same]
        · rw [ol_mp_ne M2 _ p]
          by_cases p2 : d = 132
          · rw [p2, ol_ms_row, ol_mp_ne _ _ (by decide)]
            have := congrFun g2 132
            rw [ol_ms_row] at this
            exact this.symm
          · rw [ol_ms_ne _ _ _ p2, ol_mp_ne _ _ p, ol_ms_ne _ _ _ p2]
      rw [e3] at t
      refine ⟨M', fun Rt A hA hr => b_X9_askOf_8 hA m h B k _ ?_, g'⟩
      rw [e15, ol_ms_ms, ol_ms_ms]
      refine ⟨⟨by omega, by omega⟩, ⟨by omega, by omega⟩, ol_if.neg (by omega) ⟨k0, by omega, M2, q, ?_⟩⟩
      have inner : A 33 [some (.inr (.inr 132)), some (.inl m), some (.inl h), some (.inl B), some (.inl k), some (.inl 0), none, none] [] (ol_mp M2 153 (ol_rg (M2 153) (8 * k) (8 * k + 0) (fun j => M2 147 (8 * h + (j - 8 * k))))) := by
        refine ol_loop (P := fun l => A 33 [some (.inr (.inr 132)), some (.inl m), some (.inl h), some (.inl B), some (.inl k), some (.inl l), none, none] [] (ol_mp M2 153 (ol_rg (M2 153) (8 * k) (8 * k + l) (fun j => M2 147 (8 * h + (j - 8 * k)))))) (a := 0) (b := 8) (by decide) (fun l l0 l1 hl => ?_) ?_
        · refine b_X9_askOf_33 hA m h B k l _ ⟨⟨by omega, by omega⟩, ol_if.neg (by omega) ⟨by omega, by omega, by omega, by omega, ?_⟩⟩
          rw [ol_mp_ne _ _ (show (147 : Int) ≠ 153 by decide), ol_rg_ms _ _ _ _ (by omega) (by show _ = M2 147 (8 * h + (8 * k + l - 8 * k)); rw [show 8 * h + (8 * k + l - 8 * k) = 8 * h + l by omega])]
          rw [show 8 * k + l + 1 = 8 * k + (l + 1) by omega]
          exact hl
        · refine b_X9_askOf_33 hA m h B k 8 _ ⟨⟨by decide, by decide⟩, ol_if.pos (by decide) ?_⟩
          rw [← hrow]
          exact t Rt A hA hr
      rw [Int.add_zero, ol_rg_mp0] at inner
      exact inner
    · have zN := z.frc f
      have eN := e24 N f
      have e15 : (ol_ms N 132 24 c) 132 15 = S 0 2 := by rw [ol_ms_i _ _ _ (by decide)]; exact zN.nW
      have al : ∀ l, 0 ≤ l → l < 8 → ol_R (ol_lay n) 2 q_X9_mostAlike [.inr (.inr 132), .inl l, .inl B] N (some (.inl (sp_al S m h l))) N := fun l l0 l1 => by
        rw [hB]
        refine m_mostAlike zN.nW nr.1 nr.2 l0 l1 (fun a a0 a1 => ⟨hN a a0 a1 l l0 l1, ?_⟩)
        have := (rn_lv_b (w.gone (fun j => if j = a then 1 else 0)) (m + 1).toNat).1 (8 * h + l) (by omega) (by omega)
        unfold sp_ct wo
        exact ⟨by omega, by omega⟩
      have ar : ∀ l, 0 ≤ sp_al S m h l ∧ sp_al S m h l ≤ 12 := fun l => by
        have := @ma_r (sp_su S) (sp_ct S m h l) (S 0 2).toNat (S 0 2).toNat
        unfold sp_al
        omega
      refine ⟨N, fun Rt A hA hr => b_X9_askOf_8 hA m h B _ _ ?_, f⟩
      rw [e15, ol_ms_ms, ol_ms_ms, show ol_ms N 132 24 0 = N by rw [← eN, ol_ms_self]]
      refine ⟨⟨by omega, by omega⟩, ⟨by omega, by omega⟩, ol_if.pos (by omega) ⟨_, N, al 0 (by decide) (by decide), ?_⟩⟩
      show A 96 [some (.inr (.inr 132)), none, none, some (.inl B), some (.inl (am (sp_al S m h) (Int.toNat (1 - 1)))), some (.inl (sp_al S m h (am (sp_al S m h) (Int.toNat (1 - 1))))), some (.inl 1), none] [] N
      refine ol_loop (P := fun l => A 96 [some (.inr (.inr 132)), none, none, some (.inl B), some (.inl (am (sp_al S m h) (Int.toNat (l - 1)))), some (.inl (sp_al S m h (am (sp_al S m h) (Int.toNat (l - 1))))), some (.inl l), none] [] N) (a := 1) (b := 8) (by decide) (fun l l0 l1 hl => ?_) ?_
      · rw [show (l + 1 - 1).toNat = (l - 1).toNat + 1 by omega] at hl
        simp only [am] at hl
        rw [show (((l - 1).toNat + 1 : Nat) : Int) = l by omega] at hl
        have r1 := ar l
        have r2 := ar (am (sp_al S m h) (l - 1).toNat)
        refine b_X9_askOf_96 hA B _ _ l N ⟨⟨by omega, by omega⟩, ol_if.neg (by omega) ⟨_, N, al l (by omega) l1, ⟨by omega, by omega⟩, ⟨by omega, by omega⟩, ol_if.mk (fun d => ⟨⟨by omega, by omega⟩, ⟨by omega, by omega⟩, ?_⟩) (fun d => ⟨⟨by omega, by omega⟩, ⟨by omega, by omega⟩, ?_⟩)⟩⟩
        · rw [if_neg (by omega)] at hl
          rw [show ol_min (sp_al S m h l) (sp_al S m h (am (sp_al S m h) (l - 1).toNat)) = sp_al S m h (am (sp_al S m h) (l - 1).toNat) by unfold ol_min; split <;> omega]
          exact hl
        · rw [if_pos (by omega)] at hl
          rw [show ol_min (sp_al S m h l) (sp_al S m h (am (sp_al S m h) (l - 1).toNat)) = sp_al S m h l by unfold ol_min; split <;> omega]
          exact hl
      · exact b_X9_askOf_96 hA B _ _ 8 N ⟨⟨by decide, by decide⟩, ol_if.pos (by decide) hr⟩
  obtain ⟨M', t, g⟩ := key M0 0 g0.c (fun a a0 a1 => by omega)
  rw [show ol_ms M0 132 24 0 = M0 by rw [← e24 M0 g0.c, ol_ms_self]] at t
  rw [← hB] at q0
  exact ⟨M', ol_Ri (q := q_X9_askOf) (by decide +kernel) (Nat.le_of_ble_eq_true rfl) (Or.inl rfl) (fun Rt A hA hr => b_X9_askOf_0 hA m h M ⟨_, M0, q0, t Rt A hA hr⟩), g⟩
theorem fr_c.fm {M M' : ol_M} (f : fr_c M M') : fm M M' := fun k q => f k (by omega) (by omega)
theorem m_ask {n : Nat} {S M : ol_M} (i : im S M) (hs : sp_ok S) {m h : Int} (r1 : ol_r m) (r2 : ol_r h) : m_ok n 9 q_X9_ask [.inl m, .inl h] S M (sp_ask S m h) := by
  obtain ⟨M1, r, z, f⟩ := @m_find n S M i hs
  have nr := sp_nH_r hs.1
  have e7 := z.nH
  unfold sp_ask
  apply m_ok.of
  by_cases c : (0 ≤ m ∧ m ≤ 11) ∧ (0 ≤ h ∧ h < sp_nH S)
  · rw [if_pos c]
    obtain ⟨M2, q, g⟩ := @m_askOf n S M1 hs z m h c.1.1 (by omega) c.2.1 (by omega)
    refine ⟨M2, ol_Ri (q := q_X9_ask) (by decide +kernel) (Nat.le_of_ble_eq_true rfl) (Or.inl rfl) (fun Rt A hA hr => b_X9_ask_0 hA m h M ⟨M1, r, ?_⟩), (z.frc g).1, f.tr g.fm⟩
    rw [e7]
    exact ⟨r1, ol_if.pos c.1 ⟨r2, ⟨by omega, by omega⟩, ol_if.pos c.2 ⟨_, M2, q, hr⟩⟩⟩
  · rw [if_neg c]
    refine ⟨M1, ol_Ri (q := q_X9_ask) (by decide +kernel) (Nat.le_of_ble_eq_true rfl) (Or.inl rfl) (fun Rt A hA hr => b_X9_ask_0 hA m h M ⟨M1, r, ?_⟩), z.1, f⟩
    rw [e7]
    exact ⟨r1, ol_if.mk (fun d => ⟨r2, ⟨by omega, by omega⟩, ol_if.neg (fun q => c ⟨d, q⟩) hr⟩) (fun _ => hr)⟩
