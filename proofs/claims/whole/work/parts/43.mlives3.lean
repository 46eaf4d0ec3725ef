theorem m_lv_w {n : Nat} {W X0 M0 : ol_M} {E : ol_M → Prop} (w : wk W) {to m : Int} (m0 : 0 ≤ m) (m1 : m < 12) (hb : xb 1000 (X0 0)) (nx : ∀ M, mv W M → mx W (rn_ws W m (W 10 0).toNat X0) M → fr_s M0 M → ∃ M', ol_T n q_X9_lives 3 6 [some (.inr (.inr 132)), some (.inl to), some (.inl (m + 1)), none] [] M none M' ∧ E M') : ∀ M, mv W M → mx W X0 M → fr_s M0 M → ∃ M', ol_T n q_X9_lives 3 50 [some (.inr (.inr 132)), some (.inl to), some (.inl m), some (.inl 0)] [] M none M' ∧ E M' := by
  have w10 := w.2.2.2.2.2.2.2.1
  refine ol_loop (P := fun k => ∀ M, mv W M → mx W (rn_ws W m k.toNat X0) M → fr_s M0 M → ∃ M', ol_T n q_X9_lives 3 50 [some (.inr (.inr 132)), some (.inl to), some (.inl m), some (.inl k)] [] M none M' ∧ E M') (a := 0) (b := W 10 0) w10.1 (fun k k0 k1 hk M v x f => ?_) (fun M v x f => ?_)
  · have e15 : M 132 15 = W 10 0 := v.2.2.2.2.2.2.2.1
    have e145 := (v.2.2.2.2.2.2.2.2.1 k k0 k1).1
    obtain ⟨r24, g24⟩ := v.2.2.2.2.2.2.2.2.2
    have g := g24 k k0 k1
    have q := (w.2.2.2.2.2.2.2.2 k k0 k1).1
    rw [show (k + 1).toNat = k.toNat + 1 by omega] at hk
    simp only [rn_ws] at hk
    rw [Int.toNat_of_nonneg k0] at hk
    by_cases c : W 14 k = 1
    · rw [if_neg (fun z => z.1 c)] at hk
      obtain ⟨M', t, e⟩ := hk M v x f
      refine ⟨M', fun Rt A hA hr => b_X9_lives_50 hA to m k M ?_, e⟩
      rw [e15]
      exact ⟨⟨by omega, by omega⟩, ⟨by omega, by omega⟩, ol_if.neg (by omega) ⟨r24, by omega, by omega, ol_if.pos (g.mpr c) (t Rt A hA hr)⟩⟩
    · by_cases c2 : W 11 k = m
      · rw [if_pos ⟨c, c2⟩] at hk
        obtain ⟨M1, t1, x1, f1⟩ := @m_tries n W _ M w v x (rn_ws_b w _ _ (by omega) hb) k k0 k1
        obtain ⟨M', t, e⟩ := hk M1 (v.fr f1) x1 (f.tr f1)
        refine ⟨M', fun Rt A hA hr => b_X9_lives_50 hA to m k M ?_, e⟩
        rw [e15, e145]
        exact ⟨⟨by omega, by omega⟩, ⟨by omega, by omega⟩, ol_if.neg (by omega) ⟨r24, by omega, by omega, ol_if.neg (fun z => c (g.mp z)) ⟨by omega, by omega, ol_if.pos c2 ⟨M1, t1, t Rt A hA hr⟩⟩⟩⟩
      · rw [if_neg (fun z => c2 z.2)] at hk
        obtain ⟨M', t, e⟩ := hk M v x f
        refine ⟨M', fun Rt A hA hr => b_X9_lives_50 hA to m k M ?_, e⟩
        rw [e15, e145]
        exact ⟨⟨by omega, by omega⟩, ⟨by omega, by omega⟩, ol_if.neg (by omega) ⟨r24, by omega, by omega, ol_if.neg (fun z => c (g.mp z)) ⟨by omega, by omega, ol_if.neg c2 ⟨⟨by omega, by omega⟩, ⟨by omega, by omega⟩, t Rt A hA hr⟩⟩⟩⟩
  · have e15 : M 132 15 = W 10 0 := v.2.2.2.2.2.2.2.1
    obtain ⟨M', t, e⟩ := nx M v x f
    refine ⟨M', fun Rt A hA hr => b_X9_lives_50 hA to m _ M ?_, e⟩
    rw [e15]
    exact ⟨⟨by omega, by omega⟩, ⟨by omega, by omega⟩, ol_if.pos (by omega) (t Rt A hA hr)⟩
theorem m_lv_l {n : Nat} {W X0 M0 : ol_M} {E : ol_M → Prop} (w : wk W) {to m : Int} (m0 : 0 ≤ m) (m1 : m < 12) (hb : xb 900 (X0 0)) (nx : ∀ M, mv W M → mx W (ol_mp X0 0 (rn_ls W m (W 5 0).toNat (X0 0))) M → fr_s M0 M → ∃ M', ol_T n q_X9_lives 3 50 [some (.inr (.inr 132)), some (.inl to), some (.inl m), some (.inl 0)] [] M none M' ∧ E M') : ∀ M, mv W M → mx W X0 M → fr_s M0 M → ∃ M', ol_T n q_X9_lives 3 17 [some (.inr (.inr 132)), some (.inl to), some (.inl m), some (.inl 0)] [] M none M' ∧ E M' := by
  have w5 := w.2.2.2.2.2.1
  suffices key : ∀ M, mv W M → mx W (ol_mp X0 0 (rn_ls W m (Int.toNat 0) (X0 0))) M → fr_s M0 M → ∃ M', ol_T n q_X9_lives 3 17 [some (.inr (.inr 132)), some (.inl to), some (.inl m), some (.inl 0)] [] M none M' ∧ E M' by
    intro M v x f
    refine key M v ?_ f
    show mx W (ol_mp X0 0 (X0 0)) M
    rw [ol_mp_self]
    exact x
  refine ol_loop (P := fun k => ∀ M, mv W M → mx W (ol_mp X0 0 (rn_ls W m k.toNat (X0 0))) M → fr_s M0 M → ∃ M', ol_T n q_X9_lives 3 17 [some (.inr (.inr 132)), some (.inl to), some (.inl m), some (.inl k)] [] M none M' ∧ E M') (a := 0) (b := W 5 0) w5.1 (fun k k0 k1 hk M v x f => ?_) (fun M v x f => ?_)
  · have e25 : M 132 25 = W 5 0 := v.2.2.2.2.2.1
    have e146 := (v.2.2.2.2.2.2.1 k k0 k1).1
    have q := (w.2.2.2.2.2.2.1 k k0 k1).1
    rw [show (k + 1).toNat = k.toNat + 1 by omega] at hk
    simp only [rn_ls] at hk
    rw [Int.toNat_of_nonneg k0] at hk
    by_cases c2 : W 6 k = m
    · rw [if_pos c2] at hk
      obtain ⟨M1, t1, x1, f1⟩ := @m_lends n W _ M w v x (by rw [ol_mp_same]; exact (rn_ls_b w _ _ (by omega) hb).up (by omega)) k k0 k1
      rw [ol_mp_mp, ol_mp_same] at x1
      obtain ⟨M', t, e⟩ := hk M1 (v.fr f1) x1 (f.tr f1)
      refine ⟨M', fun Rt A hA hr => b_X9_lives_17 hA to m k M ?_, e⟩
      rw [e25, e146]
      exact ⟨⟨by omega, by omega⟩, ⟨by omega, by omega⟩, ol_if.neg (by omega) ⟨by omega, by omega, ol_if.pos c2 ⟨M1, t1, t Rt A hA hr⟩⟩⟩
    · rw [if_neg c2] at hk
      obtain ⟨M', t, e⟩ := hk M v x f
      refine ⟨M', fun Rt A hA hr => b_X9_lives_17 hA to m k M ?_, e⟩
      rw [e25, e146]
      exact ⟨⟨by omega, by omega⟩, ⟨by omega, by omega⟩, ol_if.neg (by omega) ⟨by omega, by omega, ol_if.neg c2 ⟨⟨by omega, by omega⟩, ⟨by omega, by omega⟩, t Rt A hA hr⟩⟩⟩
  · have e25 : M 132 25 = W 5 0 := v.2.2.2.2.2.1
    obtain ⟨M', t, e⟩ := nx M v x f
    refine ⟨M', fun Rt A hA hr => b_X9_lives_17 hA to m _ M ?_, e⟩
    rw [e25]
    exact ⟨⟨by omega, by omega⟩, ⟨by omega, by omega⟩, ol_if.pos (by omega) (t Rt A hA hr)⟩
theorem m_lives {n : Nat} {W M : ol_M} (w : wk W) (v : mv W M) {to : Int} (t0 : -1 ≤ to) (t1 : to < 12) : ∃ M', ol_R (ol_lay n) 4 q_X9_lives [.inr (.inr 132), .inl to] M none M' ∧ mx W (rn_lv W (to + 1).toNat) M' ∧ fr_s M M' := by
  obtain ⟨M1, b1, x1, f1⟩ := @m_begins n W M w v
  have w5 := w.2.2.2.2.2.1
  have key : ∀ M2, mv W M2 → mx W (rn_lv W (Int.toNat 0)) M2 → fr_s M M2 → ∃ M', ol_T n q_X9_lives 3 6 [some (.inr (.inr 132)), some (.inl to), some (.inl 0), none] [] M2 none M' ∧ mx W (rn_lv W (to + 1).toNat) M' ∧ fr_s M M' := by
    refine ol_loop (P := fun m => ∀ M2, mv W M2 → mx W (rn_lv W m.toNat) M2 → fr_s M M2 → ∃ M', ol_T n q_X9_lives 3 6 [some (.inr (.inr 132)), some (.inl to), some (.inl m), none] [] M2 none M' ∧ mx W (rn_lv W (to + 1).toNat) M' ∧ fr_s M M') (a := 0) (b := to + 1) (by omega) (fun m m0 m1 hm M2 v2 x2 f2 => ?_) (fun M2 v2 x2 f2 => ?_)
    · rw [show (m + 1).toNat = m.toNat + 1 by omega] at hm
      simp only [rn_lv] at hm
      rw [Int.toNat_of_nonneg m0] at hm
      unfold rn_mo at hm
      have b2 := rn_lv_b w m.toNat
      obtain ⟨b3, b4⟩ := rn_hand_z w (b2.1.up (by decide)) b2.2
      obtain ⟨M3, r3, x3, f3⟩ := @m_rationsOut n W _ M2 w v2 x2 (b2.1.up (by decide))
      have nw := @m_lv_w n W (ol_mp (rn_lv W m.toNat) 0 (rn_ls W m (W 5 0).toNat (rn_hand W (rn_lv W m.toNat 0)))) M _ w to m m0 (by omega) (by rw [ol_mp_same]; exact (rn_ls_b w _ _ (by omega) b3).up (by omega)) hm
      have nl := @m_lv_l n W (ol_mp (rn_lv W m.toNat) 0 (rn_hand W (rn_lv W m.toNat 0))) M _ w to m m0 (by omega) (by rw [ol_mp_same]; exact b3.up (by decide)) (by rw [ol_mp_mp, ol_mp_same]; exact nw)
      obtain ⟨M', t, e⟩ := nl M3 (v2.fr f3) x3 (f2.tr f3)
      exact ⟨M', fun Rt A hA hr => b_X9_lives_6 hA to m M2 ⟨⟨by omega, by omega⟩, ⟨by omega, by omega⟩, ol_if.neg (by omega) ⟨M3, r3, t Rt A hA hr⟩⟩, e⟩
    · exact ⟨M2, fun Rt A hA hr => b_X9_lives_6 hA to _ M2 ⟨⟨by omega, by omega⟩, ⟨by omega, by omega⟩, ol_if.pos (by omega) hr⟩, x2, f2⟩
  obtain ⟨M', t, e⟩ := key M1 (v.fr f1) x1 f1
  exact ⟨M', ol_Ri (q := q_X9_lives) (by decide +kernel) (Nat.le_of_ble_eq_true rfl) rfl (fun Rt A hA hr => b_X9_lives_0 hA to M ⟨M1, b1, t Rt A hA hr⟩), e⟩
