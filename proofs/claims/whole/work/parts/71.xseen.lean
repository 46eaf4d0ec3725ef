/-! lend, never, got, ask, post on the class's side -/
theorem lv_x2 {W : ol_M} {v : Int} (hv : ¬ (W 12 v < W 0 0 ∧ W 13 v < W 3 0)) : ∀ m : Nat, rn_lv W m 2 v = -1 := by
  intro m
  induction m with
  | zero => rfl
  | succ m ih =>
    unfold rn_lv rn_mo
    rw [ws_x2 hv, ol_mp_ne _ _ (by decide)]
    exact ih
theorem xv.row {W W' M : ol_M} (v : xv W M) (e : ∀ c, c = 0 ∨ c = 1 ∨ c = 2 ∨ c = 3 ∨ (10 ≤ c ∧ c ≤ 13) ∨ 30 ≤ c → W' c = W c) : xv W' M := by
  obtain ⟨v1, v2, v3, v4, v5, v6⟩ := v
  unfold xv
  rw [e 0 (by omega), e 1 (by omega), e 2 (by omega), e 3 (by omega), e 10 (by omega), e 11 (by omega), e 12 (by omega), e 13 (by omega)]
  refine ⟨v1, v2, v3, fun t t0 t1 => ?_, v5, v6⟩
  rw [e (30 + t) (by omega)]
  exact v4 t t0 t1
theorem clr68 {M : ol_M} {c : Int} (a : ¬ (68 ≤ c ∧ c ≤ 84)) : xclr_68 M c = M c := xclr_ne_68 (by omega) (by omega) (by omega) (by omega)
theorem fo68 {M M' : ol_M} (f : ∀ c, ¬ (68 ≤ c ∧ c ≤ 84) → M' c = M c) : fo M M' := fun c _ b _ => f c b
theorem x_goUpTo {n : Nat} {W M : ol_M} {k : Int} (w : wk W) (n12 : W 10 0 ≤ 12) (v : xv W M) (z : xz 68 69 W M) (x : xq 70 84 W rn_x0 M) (k0 : 0 ≤ k) (k1 : k < W 10 0) : ∃ M', ol_R (ol_lay n) 5 q_X3_goUpTo [.inr (.inr 68), .inl k] M none M' ∧ xs 70 (rn_ws W (W 11 k) k.toNat (mid W (W 11 k) (rn_lv W (W 11 k).toNat)) 0) M' ∧ fz 70 84 M M' := by
  have q := (w.2.2.2.2.2.2.2.2 k k0 k1).1
  have em : M 39 k = W 11 k := (v.2.2.2.2.2 k k0 k1).1
  obtain ⟨M1, r1, x1, -, f1⟩ := @x_goMonths_68 n W M (rn_lv W) 0 (W 11 k - 1) w n12 v z x (by decide) (by omega) (by omega) (fun m _ _ => rfl) (fun m _ _ => ⟨(rn_lv_b w m).1.up (by decide), (rn_lv_b w m).2⟩) (fun m _ _ k _ _ q => (lv_ge w m).1.2.2 k q)
  rw [show W 11 k - 1 + 1 = W 11 k by omega] at x1
  have v1 := v.lo w (f1.lo (by decide) (by decide))
  have z1 := z.fr f1 (by decide) (by decide) (by decide) (by decide)
  have hb := (rn_lv_b w (W 11 k).toNat).1.up (show (589 : Int) ≤ 1000 by decide)
  have hz := (rn_lv_b w (W 11 k).toNat).2
  obtain ⟨M2, r2, x2, f2⟩ := @x_open_68 n W _ M1 (W 11 k) w v1 z1 x1 hb hz q.1 (by omega)
  have v2 := v1.lo w (f2.z.lo (by decide) (by decide))
  have z2 := z1.fr f2.z (by decide) (by decide) (by decide) (by decide)
  obtain ⟨M3, r3, x3, f3⟩ := @x_writeBefore_68 n W _ M2 (W 11 k) k w v2 z2 x2 (mid_b w hb hz) (fun i _ _ hi => by unfold mid; rw [ol_mp_ne _ _ (by decide)]; exact (lv_ge w _).1.2.2 i hi) q.1 (by omega) k0 (by omega) n12
  refine ⟨M3, ol_Ri (q := q_X3_goUpTo) (by decide +kernel) (Nat.le_of_ble_eq_true rfl) rfl (fun Rt Aq hA hr => b_X3_goUpTo_68_0 hA k M ?_), x3.1, (f1.tr f2.z).tr f3.z⟩
  rw [em]
  exact ⟨k0, by omega, M1, r1, M2, r2, M3, r3, hr⟩
theorem x_lend {n : Nat} {S M : ol_M} (i : ix S M) (hs : sp_ok S) {k : Int} (r1 : ol_r k) : x_ok n 6 q_X8_lend [.inl k] S M (sp_lend S k) := by
  have w := (sp_W_k hs).nol
  have nw := hs.w.1
  have nh := sp_nH_r hs.1
  have nt := sp_nT_r S
  unfold sp_lend
  apply x_ok.of
  by_cases c : 0 ≤ k ∧ k < S 0 2
  · rw [if_pos c]
    obtain ⟨W, hW⟩ : ∃ y, y = ol_mp (sp_W S) 5 (fun _ => 0) := ⟨_, rfl⟩
    rw [← hW] at w ⊢
    have e : ∀ c, c ≠ 5 → W c = sp_W S c := fun c q => by rw [hW]; exact ol_mp_ne _ _ q
    have e5 : W 5 0 = 0 := by rw [hW, ol_mp_same]
    have q := hs.w.2 k c.1 c.2
    have e40 : M 40 k = S 5 k := (i.1.2.2.2.2.1.2 k c.1 c.2).2.1
    have e41 : M 41 k = S 6 k := (i.1.2.2.2.2.1.2 k c.1 c.2).2.2
    have e12 : W 12 k = S 5 k := by rw [e 12 (by decide)]; rfl
    have e13 : W 13 k = S 6 k := by rw [e 13 (by decide)]; rfl
    have e0 : W 0 0 = sp_nH S := by rw [e 0 (by decide)]; rfl
    have e3 : W 3 0 = sp_nT S := by rw [e 3 (by decide)]; rfl
    have e10 : W 10 0 = S 0 2 := by rw [e 10 (by decide)]; rfl
    have e14 : ∀ j, W 14 j = 0 := fun j => by rw [e 14 (by decide)]; rfl
    have e11 : W 11 k = S 4 k := by rw [e 11 (by decide)]; rfl
    by_cases d : S 5 k < sp_nH S ∧ S 6 k < sp_nT S
    · have v0 : xv W M := (i.v hs).row (fun c q => e c (by omega))
      have v1 : xv W (ol_ms (xclr_68 M) 68 7 0) := v0.lo w (fun c a b => by rw [ol_ms_ne _ _ _ (by omega)]; exact clr68 (by omega))
      have z1 : xz 68 69 W (ol_ms (xclr_68 M) 68 7 0) := by
        refine ⟨fun l l0 l1 => ?_, ?_, fun j j0 j1 => ?_, Or.inr ⟨ol_msA _ _ _ _, e5⟩⟩
        · rw [ol_ms_ne _ _ _ (by decide), xclr_r_68 l0 l1, e 4 (by decide)]
          exact i.1.2.2.2.1 l l0 l1
        · rw [ol_ms_i _ _ _ (by decide), xclr_6_68]; exact ⟨by decide, by decide⟩
        · rw [ol_ms_i _ _ _ (by decide), xclr_6_68, e14]; omega
      have x1 : xq 70 84 W rn_x0 (ol_ms (xclr_68 M) 68 7 0) := by
        have z := @xclr_q_68 W M (by omega)
        exact ⟨fun j j0 j1 => by rw [ol_ms_ne _ _ _ (by decide)]; exact z.1 j j0 j1, fun j j0 j1 => by rw [ol_ms_ne _ _ _ (by decide)]; exact z.2 j j0 j1⟩
      obtain ⟨M4, r4, x4, f4⟩ := @x_goUpTo n W _ k w (by omega) v1 z1 x1 c.1 (by omega)
      have fo4 : ∀ c, ¬ (68 ≤ c ∧ c ≤ 84) → M4 c = M c := fun c a => by rw [f4 c (by omega) (by omega) (by omega), ol_ms_ne _ _ _ (by omega)]; exact clr68 a
      have v4 := v1.lo w (f4.lo (by decide) (by decide))
      have hk : ks 70 := by unfold ks; omega
      have hb : xb 1000 (rn_ws W (W 11 k) k.toNat (mid W (W 11 k) (rn_lv W (W 11 k).toNat)) 0) := rn_ws_b w _ _ (by omega) (mid_b w ((rn_lv_b w _).1.up (by decide)) (rn_lv_b w _).2)
      have val : rn_lv W 12 2 k = rn_lack W (S 5 k) (S 6 k) 0 (rn_ws W (W 11 k) k.toNat (mid W (W 11 k) (rn_lv W (W 11 k).toNat)) 0) := by
        have l2 := @lv_2 W w k.toNat (by omega) (by rw [e14]; decide) 12
        rw [show ((k.toNat : Nat) : Int) = k by omega] at l2
        rw [l2, if_neg (by omega), rn_try_r2, if_pos (by rw [e12, e13, e0, e3]; exact d), ol_rsA, e12, e13]
        rfl
      refine ⟨M4, ol_Ri (q := q_X8_lend) (by decide +kernel) (Nat.le_of_ble_eq_true rfl) (Or.inl rfl) (fun Rt Aq hA hr => b_X8_lend_0 hA k M ?_), i.fo hs.1 (fo68 fo4), (fo68 fo4).fx⟩
      rw [i.nW]
      refine ⟨r1, ⟨by omega, by omega⟩, ol_if.pos c (b_X8_lend_17 hA k M ?_)⟩
      rw [e40, e41, i.nH, i.nT]
      exact ⟨c.1, by omega, c.1, by omega, ⟨by omega, by omega⟩, ⟨by omega, by omega⟩, ol_if.pos (by omega) ⟨⟨by omega, by omega⟩, ⟨by omega, by omega⟩, ol_if.pos (by omega) ⟨_, x_clear_68, M4, r4, _, M4, x_lacking w v4 hk q.2.1.1 (by omega) q.2.2.1 (by omega) x4 hb, ol_rt hr val⟩⟩⟩
    · have val : rn_lv W 12 2 k = -1 := lv_x2 (by rw [e12, e13, e0, e3]; exact d) 12
      refine ⟨M, ol_Ri (q := q_X8_lend) (by decide +kernel) (Nat.le_of_ble_eq_true rfl) (Or.inl rfl) (fun Rt Aq hA hr => b_X8_lend_0 hA k M ?_), i, fx.rf⟩
      rw [i.nW]
      refine ⟨r1, ⟨by omega, by omega⟩, ol_if.pos c (b_X8_lend_17 hA k M ?_)⟩
      rw [e40, e41, i.nH, i.nT]
      rw [val] at hr
      exact ⟨c.1, by omega, c.1, by omega, ⟨by omega, by omega⟩, ⟨by omega, by omega⟩, ol_if.mk (fun d1 => ⟨⟨by omega, by omega⟩, ⟨by omega, by omega⟩, ol_if.neg (fun d2 => d ⟨d1.2, d2.2⟩) hr⟩) (fun _ => hr)⟩
  · rw [if_neg c]
    refine ⟨M, ol_Ri (q := q_X8_lend) (by decide +kernel) (Nat.le_of_ble_eq_true rfl) (Or.inl rfl) (fun Rt Aq hA hr => b_X8_lend_0 hA k M ?_), i, fx.rf⟩
    rw [i.nW]
    exact ⟨r1, ⟨by omega, by omega⟩, ol_if.neg c hr⟩
/-- the latest of the first months -/
def lsm (f : Int → Int) : Nat → Int
  | 0 => -1
  | k + 1 => ol_max (lsm f k) (f k)
theorem lsm_r {f : Int → Int} : ∀ (k : Nat), (∀ i : Int, 0 ≤ i → i < k → 0 ≤ f i ∧ f i ≤ 11) → (-1 ≤ lsm f k ∧ lsm f k ≤ 11) ∧ ∀ i : Int, 0 ≤ i → i < k → f i ≤ lsm f k := by
  intro k
  induction k with
  | zero => intro _; exact ⟨⟨Int.le_refl _, (by decide : (-1 : Int) ≤ 11)⟩, fun i a b => by omega⟩
  | succ k ih =>
    intro h
    obtain ⟨a, b⟩ := ih (fun i p q => h i p (by omega))
    have q := h k (by omega) (by omega)
    unfold lsm ol_max
    refine ⟨by split <;> omega, fun i p r => ?_⟩
    by_cases c : i = k
    · rw [c]; split <;> omega
    · have := b i p (by omega)
      split <;> omega
def sp_ls (S : ol_M) : Int := lsm (S 11) (S 0 4).toNat
theorem sp_ls_r {S : ol_M} (hs : sp_ok S) : (-1 ≤ sp_ls S ∧ sp_ls S ≤ 11) ∧ ∀ k, 0 ≤ k → k < S 0 4 → S 11 k ≤ sp_ls S := by
  have o := hs.2.2.2.2.1
  have o1 := o.1
  have := @lsm_r (S 11) (S 0 4).toNat (fun i a b => (o.2 i a (by omega)).1)
  exact ⟨this.1, fun k a b => this.2 k a (by omega)⟩
theorem x_lastSight {n : Nat} {S M : ol_M} (i : ix S M) (hs : sp_ok S) : ol_R (ol_lay n) 2 q_X7_lastSightMonth [.inr (.inr 37)] M (some (.inl (sp_ls S))) M := by
  have o := hs.2.2.2.2.1
  have o1 := o.1
  refine ol_Ri (q := q_X7_lastSightMonth) (by decide +kernel) (Nat.le_of_ble_eq_true rfl) (Or.inl rfl) (fun Rt Aq hA hr => b_X7_lastSightMonth_0 hA M ?_)
  show Aq 4 [some (.inr (.inr 37)), some (.inl (lsm (S 11) (Int.toNat 0))), some (.inl 0)] [] M
  refine ol_loop (P := fun k => Aq 4 [some (.inr (.inr 37)), some (.inl (lsm (S 11) k.toNat)), some (.inl k)] [] M) (a := 0) (b := S 0 4) o1.1 (fun k k0 k1 hk => ?_) ?_
  · rw [show (k + 1).toNat = k.toNat + 1 by omega] at hk
    simp only [lsm] at hk
    rw [Int.toNat_of_nonneg k0] at hk
    have lr := (@lsm_r (S 11) k.toNat (fun j a b => (o.2 j a (by omega)).1)).1
    have q := (o.2 k k0 k1).1
    refine b_X7_lastSightMonth_4 hA _ k M ?_
    rw [i.s.1, (i.s.2 k k0 k1).1]
    exact ⟨⟨by omega, by omega⟩, ⟨by omega, by omega⟩, ol_if.neg (by omega) ⟨k0, by omega, ⟨by omega, by omega⟩, ⟨by omega, by omega⟩, hk⟩⟩
  · refine b_X7_lastSightMonth_4 hA _ (S 0 4) M ?_
    rw [i.s.1]
    exact ⟨⟨by omega, by omega⟩, ⟨by omega, by omega⟩, ol_if.pos (by omega) hr⟩
theorem x_isAsSeen {n : Nat} {S W M : ol_M} (w : wk W) (i : ix_s S M) (hs : sp_ok S) (e7 : M 1 3 = W 0 0) (hx : ∀ k, 0 ≤ k → k < S 0 4 → xs (72 + S 11 k) (rn_lv W (S 11 k + 1).toNat 0) M) : ol_R (ol_lay n) 1 q_X3_isAsSeen [.inr (.inr 68)] M (some (.inl (ol_c (sn S W)))) M := by
  have o := hs.2.2.2.2.1
  have o1 := o.1
  have w0 := w.1
  refine ol_Ri (q := q_X3_isAsSeen) (by decide +kernel) (Nat.le_of_ble_eq_true rfl) (Or.inr ⟨rfl, ol_c01⟩) (fun Rt Aq hA hr => b_X3_isAsSeen_68_0 hA M ?_)
  suffices key : (∀ j, 0 ≤ j → j < 0 → sn1 S W j) → Aq 2 [some (.inr (.inr 68)), some (.inl 0), none, none] [] M from key (fun j a b => by omega)
  refine ol_loop (P := fun k => (∀ j, 0 ≤ j → j < k → sn1 S W j) → Aq 2 [some (.inr (.inr 68)), some (.inl k), none, none] [] M) (a := 0) (b := S 0 4) o1.1 (fun k k0 k1 hk hj => ?_) (fun hj => ?_)
  · obtain ⟨b1, b2, b3, b4⟩ := o.2 k k0 k1
    obtain ⟨a1, a2, a3, a4⟩ := i.2 k k0 k1
    have hb := (rn_lv_b w (S 11 k + 1).toNat).1 (8 * S 12 k + S 13 k) (by omega) (by omega)
    have no : ¬ sn1 S W k → Rt (some (.inl 0)) M := fun d => by
      rw [ol_c0 (fun q : sn S W => d (q k k0 k1))] at hr; exact hr
    refine b_X3_isAsSeen_68_2 hA k M ?_
    rw [i.1, a1, a2, a3, a4, e7, Int.mul_comm (S 12 k) 8, hx k k0 k1 (8 * S 12 k + S 13 k) (by omega) (by omega)]
    have eh : rn_has W (S 11 k) (S 12 k) (S 13 k) = rn_lv W (S 11 k + 1).toNat 0 (8 * S 12 k + S 13 k) := by
      unfold rn_has
      rw [if_neg (by omega)]
    refine ⟨⟨by omega, by omega⟩, ⟨by omega, by omega⟩, ol_if.neg (by omega) ⟨k0, by omega, k0, by omega, by omega, by omega, k0, by omega, by omega, by omega, ⟨by omega, by omega⟩, ⟨by omega, by omega⟩, ol_if.mk (fun d => no (fun q => by have := q.1; omega)) (fun d => ⟨k0, by omega, ol_if.mk (fun d2 => hk (fun j j0 j1 => ?_)) (fun d2 => ⟨⟨by omega, by omega⟩, ⟨by omega, by omega⟩, no (fun q => d2 (by rw [← eh]; exact q.2))⟩)⟩)⟩⟩
    by_cases p : j = k
    · rw [p]; exact ⟨by omega, eh.trans d2⟩
    · exact hj j j0 (by omega)
  · rw [ol_c1 (show sn S W from hj)] at hr
    refine b_X3_isAsSeen_68_2 hA (S 0 4) M ?_
    rw [i.1]
    exact ⟨⟨by omega, by omega⟩, ⟨by omega, by omega⟩, ol_if.pos (by omega) hr⟩
/-- months of another world -/
theorem x_other {n : Nat} {S M : ol_M} (i : ix S M) (hs : sp_ok S) {W N : ol_M} {b : Int} (w : wk W) (n12 : W 10 0 ≤ 12) (b0 : -1 ≤ b) (b1 : b < 12) (e : ∀ c, c = 0 ∨ c = 1 ∨ c = 2 ∨ c = 3 ∨ (10 ≤ c ∧ c ≤ 13) ∨ 30 ≤ c → W c = sp_W S c) (e5 : ∀ c, 5 ≤ c → c ≤ 9 → W c = sp_W S c) (hN : ∀ c, c ≠ 68 → c ≠ 69 → N c = xclr_68 M c) (z7 : N 68 7 = 1) (z6 : ol_r (N 68 6)) (z14 : ∀ k, 0 ≤ k → k < W 10 0 → (k = N 68 6 ↔ W 14 k = 1)) (z4 : ∀ l, 0 ≤ l → l < 8 → N 69 l = W 4 l) : ∃ M', ol_R (ol_lay n) 4 q_X3_goMonths [.inr (.inr 68), .inl 0, .inl b] N none M' ∧ xs 70 (rn_lv W (b + 1).toNat 0) M' ∧ (∀ m, 0 ≤ m → m ≤ b → xs (72 + m) (rn_lv W (m + 1).toNat 0) M') ∧ (∀ c, ¬ (68 ≤ c ∧ c ≤ 84) → M' c = M c) := by
  have cl : ∀ c, ¬ (68 ≤ c ∧ c ≤ 84) → N c = M c := fun c a => by rw [hN c (by omega) (by omega)]; exact clr68 a
  have v1 : xv W N := ((i.v hs).row e).lo w (fun c a b => cl c (by omega))
  have z1 : xz 68 69 W N := by
    refine ⟨z4, z6, z14, Or.inl ⟨z7, ?_⟩⟩
    have l0 := i.l.lo (M' := N) (fun c a b => cl c (by omega))
    unfold xl at l0 ⊢
    rw [e5 5 (by decide) (by decide), e5 6 (by decide) (by decide), e5 7 (by decide) (by decide), e5 8 (by decide) (by decide), e5 9 (by decide) (by decide)]
    exact l0
  have x1 : xq 70 84 W rn_x0 N := by
    have z := @xclr_q_68 W M n12
    exact ⟨fun j j0 j1 => by rw [hN 70 (by decide) (by decide)]; exact z.1 j j0 j1, fun j j0 j1 => by rw [hN 84 (by decide) (by decide)]; exact z.2 j j0 j1⟩
  obtain ⟨M', r, x', b', f'⟩ := @x_goMonths_68 n W N (rn_lv W) 0 b w n12 v1 z1 x1 (by decide) (by omega) b1 (fun m _ _ => rfl) (fun m _ _ => ⟨(rn_lv_b w m).1.up (by decide), (rn_lv_b w m).2⟩) (fun m _ _ k _ _ q => (lv_ge w m).1.2.2 k q)
  refine ⟨M', r, x'.1, fun m m0 m1 => ?_, fun c a => by rw [f' c (by omega) (by omega) (by omega)]; exact cl c a⟩
  have q := b' m.toNat (by omega) (by omega)
  rw [show ((m.toNat : Nat) : Int) = m by omega, show m.toNat + 1 = (m + 1).toNat by omega] at q
  exact q
theorem wo_e {W : ol_M} {k c : Int} (h : c ≠ 14) : wo W k c = W c := ol_mp_ne _ _ h
/-- without the writing k -/
theorem x_without {n : Nat} {S M : ol_M} (i : ix S M) (hs : sp_ok S) {k b : Int} (k0 : 0 ≤ k) (k1 : k < S 0 2) (b0 : -1 ≤ b) (b1 : b < 12) : ∃ M', ol_R (ol_lay n) 4 q_X3_goMonths [.inr (.inr 68), .inl 0, .inl b] (ol_ms (xclr_68 M) 68 6 k) none M' ∧ xs 70 (rn_lv (wo (sp_W S) k) (b + 1).toNat 0) M' ∧ (∀ m, 0 ≤ m → m ≤ b → xs (72 + m) (rn_lv (wo (sp_W S) k) (m + 1).toNat 0) M') ∧ (∀ c, ¬ (68 ≤ c ∧ c ≤ 84) → M' c = M c) := by
  have nw := hs.w.1
  refine @x_other n S M i hs (wo (sp_W S) k) _ b ((sp_W_k hs).gone _) (by rw [wo_e (by decide)]; exact nw.2) b0 b1 (fun c q => wo_e (by omega)) (fun c a b => wo_e (by omega)) (fun c a _ => ol_ms_ne _ _ _ a) (by rw [ol_ms_i _ _ _ (by decide)]; exact xclr_7_68) (by rw [ol_msA]; exact ⟨by omega, by omega⟩) (fun j j0 j1 => ?_) (fun l l0 l1 => ?_)
  · rw [ol_msA]
    unfold wo
    rw [ol_mp_same]
    by_cases c : j = k
    · rw [if_pos c]; exact ⟨fun _ => rfl, fun _ => c⟩
    · rw [if_neg c]; exact ⟨fun q => absurd q c, fun q => absurd q (by decide)⟩
  · rw [ol_ms_ne _ _ _ (by decide), xclr_r_68 l0 l1, wo_e (by decide)]
    exact i.1.2.2.2.1 l l0 l1
theorem x_neverNow {n : Nat} {S M : ol_M} (i : ix S M) (hs : sp_ok S) : ∃ M', ol_R (ol_lay n) 5 q_X8_never [.inr (.inr 0)] M (some (.inl (bs (sp_su S) (S 0 2).toNat))) M' ∧ (∀ c, ¬ (68 ≤ c ∧ c ≤ 84) → M' c = M c) := by
  have nw := hs.w.1
  have lr := sp_ls_r hs
  have key : ∀ N, (∀ c, ¬ (68 ≤ c ∧ c ≤ 84) → N c = M c) → ∃ M', ol_T n q_X8_never 4 12 [some (.inr (.inr 0)), some (.inl (bs (sp_su S) (Int.toNat 0))), some (.inl (sp_ls S)), some (.inl 0)] [] N (some (.inl (bs (sp_su S) (S 0 2).toNat))) M' ∧ (∀ c, ¬ (68 ≤ c ∧ c ≤ 84) → M' c = M c) := by
    refine ol_loop (P := fun k => ∀ N, (∀ c, ¬ (68 ≤ c ∧ c ≤ 84) → N c = M c) → ∃ M', ol_T n q_X8_never 4 12 [some (.inr (.inr 0)), some (.inl (bs (sp_su S) k.toNat)), some (.inl (sp_ls S)), some (.inl k)] [] N (some (.inl (bs (sp_su S) (S 0 2).toNat))) M' ∧ (∀ c, ¬ (68 ≤ c ∧ c ≤ 84) → M' c = M c)) (a := 0) (b := S 0 2) nw.1 (fun k k0 k1 hk N f => ?_) (fun N f => ?_)
    · have iN := i.fo hs.1 (fo68 f)
      obtain ⟨M4, r4, x4, b4, f4⟩ := @x_without n S N iN hs k (sp_ls S) k0 k1 lr.1.1 (by omega)
      have w := (sp_W_k hs).gone (fun j => if j = k then 1 else 0)
      have i4 := iN.fo hs.1 (fo68 f4)
      have sn4 := @x_isAsSeen n S _ M4 w i4.s hs (by rw [i4.nH]; rfl) (fun j j0 j1 => b4 (S 11 j) (hs.2.2.2.2.1.2 j j0 j1).1.1 (lr.2 j j0 j1))
      obtain ⟨M', t, ee⟩ := hk M4 (fun c a => by rw [f4 c a]; exact f c a)
      rw [show (k + 1).toNat = k.toNat + 1 by omega] at t
      have ek : ((k.toNat : Nat) : Int) = k := Int.toNat_of_nonneg k0
      refine ⟨M', fun Rt Aq hA hr => b_X8_never_12 hA _ _ k N ?_, ee⟩
      rw [iN.nW]
      refine ⟨⟨by omega, by omega⟩, ⟨by omega, by omega⟩, ol_if.neg (by omega) ⟨_, x_clear_68, M4, r4, _, M4, sn4, ol_if.mk (fun d => ?_) (fun d => ⟨?_, k0, by omega, ?_⟩)⟩⟩
      · rw [← bs_0 (by omega) (by rw [ek]; exact d), ol_or_0 (@bs_r _ _).1 (by have := @bs_r (sp_su S) k.toNat; have := @pw_le k.toNat 31 (by omega); omega)] at t
        exact t Rt Aq hA hr
      · rcases @ol_c01 (sn S (ol_mp (sp_W S) 14 (fun j => if j = k then 1 else 0))) with h | h <;> rw [h] <;> exact ⟨by decide, by decide⟩
      · rw [bs_1 (by omega) (by rw [ek]; exact d)]
        exact t Rt Aq hA hr
    · have iN := i.fo hs.1 (fo68 f)
      refine ⟨N, fun Rt Aq hA hr => b_X8_never_12 hA _ _ _ N ?_, f⟩
      rw [iN.nW]
      exact ⟨⟨by omega, by omega⟩, ⟨by omega, by omega⟩, ol_if.pos (by omega) hr⟩
  obtain ⟨M', t, ee⟩ := key M (fun _ _ => rfl)
  exact ⟨M', ol_Ri (q := q_X8_never) (by decide +kernel) (Nat.le_of_ble_eq_true rfl) (Or.inl rfl) (fun Rt Aq hA hr => b_X8_never_0 hA M ⟨_, M, x_lastSight i hs, t Rt Aq hA hr⟩), ee⟩
theorem x_never {n : Nat} {S M : ol_M} (i : ix S M) (hs : sp_ok S) : x_ok n 5 q_X8_never [] S M (sp_never S) := by
  obtain ⟨M', r, f⟩ := @x_neverNow n S M i hs
  exact ⟨M', r, i.fo hs.1 (fo68 f), (fo68 f).fx⟩
theorem x_got {n : Nat} {S M : ol_M} (i : ix S M) (hs : sp_ok S) {l : Int} (r1 : ol_r l) : x_ok n 5 q_X8_got [.inl l] S M (sp_got S l) := by
  have nw := hs.w.1
  have lr := sp_ls_r hs
  unfold sp_got
  apply x_ok.of
  by_cases c : 0 ≤ l ∧ l ≤ 7
  · rw [if_pos c]
    have key : ∀ N, (∀ c, ¬ (68 ≤ c ∧ c ≤ 84) → N c = M c) → ∃ M', ol_T n q_X8_got 4 25 [some (.inr (.inr 0)), some (.inl l), some (.inl (bs (sp_rs S l) (Int.toNat 0))), some (.inl (sp_ls S)), some (.inl 0)] [] N (some (.inl (bs (sp_rs S l) 10))) M' ∧ (∀ c, ¬ (68 ≤ c ∧ c ≤ 84) → M' c = M c) := by
      refine ol_loop (P := fun k => ∀ N, (∀ c, ¬ (68 ≤ c ∧ c ≤ 84) → N c = M c) → ∃ M', ol_T n q_X8_got 4 25 [some (.inr (.inr 0)), some (.inl l), some (.inl (bs (sp_rs S l) k.toNat)), some (.inl (sp_ls S)), some (.inl k)] [] N (some (.inl (bs (sp_rs S l) 10))) M' ∧ (∀ c, ¬ (68 ≤ c ∧ c ≤ 84) → M' c = M c)) (a := 0) (b := 10) (by decide) (fun k k0 k1 hk N f => ?_) (fun N f => ?_)
      · have iN := i.fo hs.1 (fo68 f)
        have e : ∀ c, c ≠ 4 → ol_mp (sp_W S) 4 (ol_rs (sp_W S 4) l k) c = sp_W S c := fun c q => ol_mp_ne _ _ q
        have w : wk (ol_mp (sp_W S) 4 (ol_rs (sp_W S 4) l k)) := (sp_W_k hs).rat ⟨k0, by omega⟩
        obtain ⟨M4, r4, x4, b4, f4⟩ := @x_other n S N iN hs (ol_mp (sp_W S) 4 (ol_rs (sp_W S 4) l k)) (ol_ms (xclr_68 N) 69 l k) (sp_ls S) w (by rw [e 10 (by decide)]; exact nw.2) lr.1.1 (by omega) (fun c q => e c (by omega)) (fun c a b => e c (by omega)) (fun c _ a => ol_ms_ne _ _ _ a) (by rw [ol_ms_ne _ _ _ (by decide)]; exact xclr_7_68) (by rw [ol_ms_ne _ _ _ (by decide), xclr_6_68]; exact ⟨by decide, by decide⟩) (fun j j0 j1 => by
          rw [ol_ms_ne _ _ _ (by decide), xclr_6_68, e 14 (by decide)]
          show j = -1 ↔ (0 : Int) = 1
          omega) (fun j j0 j1 => by
          rw [ol_ms_row, ol_mp_same]
          by_cases p : j = l
          · rw [p, ol_rsA, ol_rsA]
          · rw [ol_rsN _ _ p, ol_rsN _ _ p, xclr_r_68 j0 j1]
            exact iN.1.2.2.2.1 j j0 j1)
        have i4 := iN.fo hs.1 (fo68 f4)
        have sn4 := @x_isAsSeen n S _ M4 w i4.s hs (by rw [i4.nH, e 0 (by decide)]; rfl) (fun j j0 j1 => b4 (S 11 j) (hs.2.2.2.2.1.2 j j0 j1).1.1 (lr.2 j j0 j1))
        obtain ⟨M', t, ee⟩ := hk M4 (fun c a => by rw [f4 c a]; exact f c a)
        rw [show (k + 1).toNat = k.toNat + 1 by omega] at t
        have ek : ((k.toNat : Nat) : Int) = k := Int.toNat_of_nonneg k0
        refine ⟨M', fun Rt Aq hA hr => b_X8_got_25 hA l _ _ k N ?_, ee⟩
        refine ⟨⟨by omega, by omega⟩, ol_if.neg (by omega) ⟨_, x_clear_68, c.1, by omega, M4, r4, _, M4, sn4, ol_if.mk (fun d => ?_) (fun d => ⟨?_, k0, by omega, ?_⟩)⟩⟩
        · rw [← bs_0 (by omega) (by rw [ek]; exact d), ol_or_0 (@bs_r _ _).1 (by have := @bs_r (sp_rs S l) k.toNat; have := @pw_le k.toNat 31 (by omega); omega)] at t
          exact t Rt Aq hA hr
        · rcases @ol_c01 (sn S (ol_mp (sp_W S) 4 (ol_rs (sp_W S 4) l k))) with h | h <;> rw [h] <;> exact ⟨by decide, by decide⟩
        · rw [bs_1 (by omega) (by rw [ek]; exact d)]
          exact t Rt Aq hA hr
      · exact ⟨N, fun Rt Aq hA hr => b_X8_got_25 hA l _ _ 10 N ⟨⟨by decide, by decide⟩, ol_if.pos (by decide) hr⟩, f⟩
    obtain ⟨M', t, f⟩ := key M (fun _ _ => rfl)
    exact ⟨M', ol_Ri (q := q_X8_got) (by decide +kernel) (Nat.le_of_ble_eq_true rfl) (Or.inl rfl) (fun Rt Aq hA hr => b_X8_got_0 hA l M ⟨r1, ol_if.pos (by omega) ⟨_, M, x_lastSight i hs, t Rt Aq hA hr⟩⟩), i.fo hs.1 (fo68 f), (fo68 f).fx⟩
  · rw [if_neg c]
    exact ⟨M, ol_Ri (q := q_X8_got) (by decide +kernel) (Nat.le_of_ble_eq_true rfl) (Or.inl rfl) (fun Rt Aq hA hr => b_X8_got_0 hA l M ⟨r1, ol_if.neg (by omega) hr⟩), i, fx.rf⟩
