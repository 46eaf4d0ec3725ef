theorem hc_ct {f : Int → Int} : ∀ (k : Nat), (∀ i : Int, 0 ≤ i → i < k → 0 ≤ f i ∧ f i ≤ 7) → hc f k = ct f 1 k + ct f 2 k + ct f 3 k + ct f 5 k + ct f 6 k + ct f 7 k := by
  intro k
  induction k with
  | zero => intro _; rfl
  | succ k ih =>
    intro h
    have i1 := ih (fun i a b => h i a (by omega))
    have q := h k (by omega) (by omega)
    unfold hc ct
    rw [i1]
    by_cases c0 : f k = 0
    · simp [c0]
    by_cases c1 : f k = 1
    · simp [c1]; omega
    by_cases c2 : f k = 2
    · simp [c2]; omega
    by_cases c3 : f k = 3
    · simp [c3]; omega
    by_cases c4 : f k = 4
    · simp [c4]
    by_cases c5 : f k = 5
    · simp [c5]; omega
    by_cases c6 : f k = 6
    · simp [c6]; omega
    · have c7 : f k = 7 := by omega
      simp [c7]; omega
theorem ix.v {S M : ol_M} (h : ix S M) (hs : sp_ok S) : xv (sp_W S) M := by
  obtain ⟨h1, ⟨p1, p2, p3⟩, ⟨q1, q2, q3⟩, h4, ⟨w1, w2⟩, h6, h7, h8, h9⟩ := h.1
  refine ⟨p1, p3, q1, fun t t0 t1 => ?_, w1, w2⟩
  obtain ⟨a1, a2, a3, a4, a5, a6⟩ := q3 t t0 t1
  obtain ⟨b1, b2, b3⟩ := sp_term t0 t1
  have b1' : 1 ≤ (sp_pt S).2.2 0 t ∧ (sp_pt S).2.2 0 t ≤ 6 := b1
  have e := @hc_ct ((sp_pt S).2.2 (10 + t)) ((sp_pt S).2.2 0 t).toNat (fun i i0 i1 => b3 i i0 (by show i < (sp_pt S).2.2 0 t; omega))
  have r1 := @ct_r ((sp_pt S).2.2 (10 + t)) 1 ((sp_pt S).2.2 0 t).toNat
  have r2 := @ct_r ((sp_pt S).2.2 (10 + t)) 2 ((sp_pt S).2.2 0 t).toNat
  have r3 := @ct_r ((sp_pt S).2.2 (10 + t)) 3 ((sp_pt S).2.2 0 t).toNat
  have r5 := @ct_r ((sp_pt S).2.2 (10 + t)) 5 ((sp_pt S).2.2 0 t).toNat
  have r6 := @ct_r ((sp_pt S).2.2 (10 + t)) 6 ((sp_pt S).2.2 0 t).toNat
  have r7 := @ct_r ((sp_pt S).2.2 (10 + t)) 7 ((sp_pt S).2.2 0 t).toNat
  have hr : ∀ k : Nat, 0 ≤ hc ((sp_pt S).2.2 (10 + t)) k ∧ hc ((sp_pt S).2.2 (10 + t)) k ≤ k := by
    intro k
    induction k with
    | zero => exact ⟨Int.le_refl _, Int.le_refl _⟩
    | succ k ih => unfold hc; split <;> omega
  have hr' := hr ((sp_pt S).2.2 0 t).toNat
  rw [sp_W_need t0]
  refine ⟨a4, a5, by rw [a6]; omega, ?_⟩
  rw [a6]
  show 0 < hc ((sp_pt S).2.2 (10 + t)) ((sp_pt S).2.2 0 t).toNat ↔ (0 < ct ((sp_pt S).2.2 (10 + t)) 1 ((sp_pt S).2.2 0 t).toNat ∨ 0 < ct ((sp_pt S).2.2 (10 + t)) 2 ((sp_pt S).2.2 0 t).toNat ∨ 0 < ct ((sp_pt S).2.2 (10 + t)) 3 ((sp_pt S).2.2 0 t).toNat ∨ 0 < ct ((sp_pt S).2.2 (10 + t)) 5 ((sp_pt S).2.2 0 t).toNat ∨ 0 < ct ((sp_pt S).2.2 (10 + t)) 6 ((sp_pt S).2.2 0 t).toNat ∨ 0 < ct ((sp_pt S).2.2 (10 + t)) 7 ((sp_pt S).2.2 0 t).toNat)
  omega
theorem ix.l {S M : ol_M} (h : ix S M) : xl (sp_W S) M := h.1.2.2.2.2.2.1
theorem iy.lo {S M M' : ol_M} (h : iy S M) (e : ∀ c, 1 ≤ c → c ≤ 50 → M' c = M c) (e9 : M' 0 9 = M 0 9) (eh : ∀ c, 111 ≤ c → c ≤ 131 → M' c = M c) : iy S M' := by
  obtain ⟨h1, h2, h3, h4, h5, h6, h7, h8, h9⟩ := h
  exact ⟨h1.keep (fun _ _ _ => rfl) rfl rfl (e _ (by decide) (by decide)) (e _ (by decide) (by decide)) (e _ (by decide) (by decide)) (e _ (by decide) (by decide)), h2.keep rfl rfl rfl rfl (e _ (by decide) (by decide)) (e _ (by decide) (by decide)) (e _ (by decide) (by decide)), h3.keep rfl (e _ (by decide) (by decide)) (fun c a b => e c (by omega) (by omega)), h4.keep rfl (e _ (by decide) (by decide)), h5.keep rfl rfl rfl rfl (by rw [e _ (by decide) (by decide)]) (e _ (by decide) (by decide)) (e _ (by decide) (by decide)) (e _ (by decide) (by decide)), h6.keep rfl rfl rfl rfl rfl (by rw [e _ (by decide) (by decide)]) (e _ (by decide) (by decide)) (e _ (by decide) (by decide)) (e _ (by decide) (by decide)) (e _ (by decide) (by decide)), h7.keep rfl rfl rfl rfl rfl (by rw [e _ (by decide) (by decide)]) (e _ (by decide) (by decide)) (e _ (by decide) (by decide)) (e _ (by decide) (by decide)) (e _ (by decide) (by decide)), h8.keep rfl e9 (fun c a b => eh c (by omega) b), h9.keep (fun _ _ => rfl) (fun c a b => eh c a (by omega))⟩
/-- months as told go by, if they have not -/
theorem x_refresh {n : Nat} {S M : ol_M} (h : ix S M) (hs : sp_ok S) : ∃ M', ol_R (ol_lay n) 5 q_X8_refreshRun [.inr (.inr 0)] M none M' ∧ ix S M' ∧ xrun S M' ∧ fx M M' := by
  have w := sp_W_k hs
  have nw := hs.w.1
  rcases id h.2.1 with c | c
  · have v := h.v hs
    have cl := fun (c : Int) (a : c ≠ 51) (b : c ≠ 52) (d : c ≠ 53) (e : c ≠ 67) => xclr_ne_51 (M := M) a b d e
    have v1 : xv (sp_W S) (xclr_51 M) := v.lo w (fun c a b => cl c (by omega) (by omega) (by omega) (by omega))
    have z1 : xz 51 52 (sp_W S) (xclr_51 M) := by
      refine ⟨fun l l0 l1 => by rw [xclr_r_51 l0 l1]; exact h.1.2.2.2.1 l l0 l1, by rw [xclr_6_51]; exact ⟨by decide, by decide⟩, fun k k0 k1 => ?_, Or.inl ⟨xclr_7_51, h.l.lo (fun c a b => cl c (by omega) (by omega) (by omega) (by omega))⟩⟩
      rw [xclr_6_51]
      show k = -1 ↔ (0 : Int) = 1
      omega
    obtain ⟨M4, r4, x4, b4, f4⟩ := @x_goMonths_51 n (sp_W S) (xclr_51 M) (rn_lv (sp_W S)) 0 11 w nw.2 v1 z1 (xclr_q_51 nw.2) (by decide) (by decide) (by decide) (fun m _ _ => rfl) (fun m _ _ => ⟨(rn_lv_b w m).1.up (by decide), (rn_lv_b w m).2⟩) (fun m _ _ k _ _ q => (lv_ge w m).1.2.2 k q)
    have e : ∀ c, c ≠ 0 → ¬ (51 ≤ c ∧ c ≤ 67) → ol_ms M4 0 10 0 c = M c := fun c a b => by rw [ol_ms_ne _ _ _ a, f4 c (by omega) (by omega) (by omega), cl c (by omega) (by omega) (by omega) (by omega)]
    have e0 : ∀ j, j ≠ 10 → ol_ms M4 0 10 0 0 j = M 0 j := fun j a => by rw [ol_ms_i _ _ _ a, f4 0 (by decide) (by decide) (by decide), cl 0 (by decide) (by decide) (by decide) (by decide)]
    have xr : xrun S (ol_ms M4 0 10 0) := by
      refine ⟨fun m m0 m1 j j0 j1 => ?_, fun k k0 k1 => ?_⟩
      · rw [ol_ms_ne _ _ _ (by omega)]
        have q := b4 m.toNat (by omega) (by omega) j j0 j1
        rw [show ((m.toNat : Nat) : Int) = m by omega] at q
        rw [q, show (m + 1).toNat = m.toNat + 1 by omega]
      · rw [ol_ms_ne _ _ _ (by decide)]
        exact x4.2 k k0 k1
    refine ⟨ol_ms M4 0 10 0, ol_Ri (q := q_X8_refreshRun) (by decide +kernel) (Nat.le_of_ble_eq_true rfl) rfl (fun Rt Aq hA hr => b_X8_refreshRun_0 hA M (ol_if.neg (by omega) ⟨⟨by omega, by omega⟩, _, x_clear_51, M4, r4, hr⟩)), ⟨h.1.lo (fun c a b => e c (by omega) (by omega)) (e0 9 (by decide)) (fun c a b => e c (by omega) (by omega)), Or.inr ⟨ol_msA _ _ _ _, xr⟩, h.2.2.keep hs.1 ws.rf (e0 11 (by decide)) (e 85 (by decide) (by decide)) (fun c a b => e c (by omega) (by omega))⟩, xr, fun k q => e k (by omega) (by omega)⟩
  · exact ⟨M, ol_Ri (q := q_X8_refreshRun) (by decide +kernel) (Nat.le_of_ble_eq_true rfl) rfl (fun Rt Aq hA hr => b_X8_refreshRun_0 hA M (ol_if.pos c.1 hr)), h, c.2, fx.rf⟩
theorem xrun.s {S M : ol_M} (x : xrun S M) {m : Int} (m0 : 0 ≤ m) (m1 : m < 12) : xs (55 + m) (rn_lv (sp_W S) (m + 1).toNat 0) M := x.1 m m0 m1
theorem ks_b {m : Int} (m0 : 0 ≤ m) (m1 : m < 12) : ks (55 + m) := by unfold ks; omega
theorem x_has {n : Nat} {S M : ol_M} (i : ix S M) (hs : sp_ok S) {m h l : Int} (r1 : ol_r m) (r2 : ol_r h) (r3 : ol_r l) : x_ok n 6 q_X8_has [.inl m, .inl h, .inl l] S M (sp_has S m h l) := by
  have nr := sp_nH_r hs.1
  have e7 := i.nH
  unfold sp_has
  apply x_ok.of
  by_cases c : (0 ≤ m ∧ m ≤ 11) ∧ (0 ≤ h ∧ h < sp_nH S) ∧ (-1 ≤ l ∧ l ≤ 7)
  · rw [if_pos c]
    obtain ⟨M1, r, i1, x, f⟩ := @x_refresh n S M i hs
    refine ⟨M1, ol_Ri (q := q_X8_has) (by decide +kernel) (Nat.le_of_ble_eq_true rfl) (Or.inl rfl) (fun Rt Aq hA hr => b_X8_has_0 hA m h l M ?_), i1, f⟩
    rw [e7]
    refine ⟨r1, ol_if.pos (by omega) ⟨r2, ⟨by omega, by omega⟩, ol_if.pos c.2.1 (b_X8_has_26 hA m h l M ?_)⟩⟩
    unfold rn_has at hr
    refine ol_if.mk (fun d => ⟨M1, r, by omega, by omega, ol_if.pos d ⟨_, M1, x_allOf (ks_b (by omega) (by omega)) c.2.1.1 (by omega) (x.s (by omega) (by omega)), ?_⟩⟩) (fun d => ⟨r3, r3, ol_if.pos (by omega) ⟨M1, r, by omega, by omega, ol_if.neg d ⟨r3, by omega, by omega, ?_⟩⟩⟩)
    · rw [if_pos d] at hr; exact hr
    · rw [if_neg d] at hr
      rw [Int.mul_comm h 8, x.s (by omega) (by omega) (8 * h + l) (by omega) (by omega)]
      exact hr
  · rw [if_neg c]
    refine ⟨M, ol_Ri (q := q_X8_has) (by decide +kernel) (Nat.le_of_ble_eq_true rfl) (Or.inl rfl) (fun Rt Aq hA hr => b_X8_has_0 hA m h l M ?_), i, fx.rf⟩
    rw [e7]
    exact ⟨r1, ol_if.mk (fun d1 => ⟨r2, ⟨by omega, by omega⟩, ol_if.mk (fun d2 => b_X8_has_26 hA m h l M (ol_if.mk (fun d3 => absurd ⟨⟨d1.1, by omega⟩, d2, by omega⟩ c) (fun d3 => ⟨r3, r3, ol_if.neg (fun d4 => c ⟨⟨d1.1, by omega⟩, d2, by omega⟩) hr⟩))) (fun _ => hr)⟩) (fun _ => hr)⟩
theorem x_became {n : Nat} {S M : ol_M} (i : ix S M) (hs : sp_ok S) {k : Int} (r1 : ol_r k) : x_ok n 6 q_X8_became [.inl k] S M (sp_became S k) := by
  have nr := hs.w.1
  have e := i.nW
  unfold sp_became
  apply x_ok.of
  by_cases c : 0 ≤ k ∧ k < S 0 2
  · rw [if_pos c]
    obtain ⟨M1, r, i1, x, f⟩ := @x_refresh n S M i hs
    refine ⟨M1, ol_Ri (q := q_X8_became) (by decide +kernel) (Nat.le_of_ble_eq_true rfl) (Or.inl rfl) (fun Rt Aq hA hr => b_X8_became_0 hA k M ?_), i1, f⟩
    rw [e]
    exact ⟨r1, ⟨by omega, by omega⟩, ol_if.pos c ⟨M1, r, by omega, by omega, ol_rt hr (x.2 k c.1 c.2).symm⟩⟩
  · rw [if_neg c]
    refine ⟨M, ol_Ri (q := q_X8_became) (by decide +kernel) (Nat.le_of_ble_eq_true rfl) (Or.inl rfl) (fun Rt Aq hA hr => b_X8_became_0 hA k M ?_), i, fx.rf⟩
    rw [e]
    exact ⟨r1, ⟨by omega, by omega⟩, ol_if.neg c hr⟩
/-- fines by what became of the writings -/
def fno (h x hw : Int) : Int := if x = 3 ∧ (h = -1 ∨ hw = h) then 1 else 0
theorem x_finesOf {n : Nat} {S M : ol_M} (i : ix S M) (hs : sp_ok S) (x : xrun S M) {h : Int} (rh : ol_r h) : ol_R (ol_lay n) 1 q_X3_finesOf [.inr (.inr 51), .inl h] M (some (.inl (sm (fun k => fno h (rn_lv (sp_W S) 12 1 k) (S 5 k)) (S 0 2).toNat))) M := by
  have nw := hs.w.1
  have e := i.nW
  refine ol_Ri (q := q_X3_finesOf) (by decide +kernel) (Nat.le_of_ble_eq_true rfl) (Or.inl rfl) (fun Rt Aq hA hr => b_X3_finesOf_51_0 hA h M ?_)
  obtain ⟨fn, hfn⟩ : ∃ y : Int → Int, y = fun k => fno h (rn_lv (sp_W S) 12 1 k) (S 5 k) := ⟨_, rfl⟩
  rw [← hfn] at hr
  show Aq 4 [some (.inr (.inr 51)), some (.inl h), some (.inl (sm fn (Int.toNat 0))), some (.inl 0)] [] M
  refine ol_loop (P := fun k => Aq 4 [some (.inr (.inr 51)), some (.inl h), some (.inl (sm fn k.toNat)), some (.inl k)] [] M) (a := 0) (b := S 0 2) nw.1 (fun k k0 k1 hk => ?_) ?_
  · rw [show (k + 1).toNat = k.toNat + 1 by omega] at hk
    simp only [sm] at hk
    rw [Int.toNat_of_nonneg k0, hfn] at hk
    simp only [] at hk
    rw [← hfn] at hk
    have q := (hs.w.2 k k0 k1).2.1
    have rr := @rn_lv_1 (sp_W S) k 12
    refine b_X3_finesOf_51_4 hA h _ k M ?_
    rw [e, x.2 k k0 k1, (i.1.2.2.2.2.1.2 k k0 k1).2.1]
    unfold fno at hk
    refine ⟨⟨by omega, by omega⟩, ⟨by omega, by omega⟩, ol_if.neg (by omega) ⟨k0, by omega, ol_if.mk (fun c => ol_if.mk (fun d => ?_) (fun d => ⟨rh, k0, by omega, ol_if.mk (fun g => ?_) (fun g => ⟨⟨by omega, by omega⟩, rh, ?_⟩)⟩)) (fun c => ⟨⟨by omega, by omega⟩, ?_⟩)⟩⟩
    · rw [if_pos ⟨c, Or.inl d⟩] at hk; exact hk
    · rw [if_pos ⟨c, Or.inr g⟩] at hk; exact hk
    · rw [if_neg (fun z => z.2.elim d g), Int.add_zero] at hk; exact hk
    · rw [if_neg (fun z => c z.1), Int.add_zero] at hk; exact hk
  · refine b_X3_finesOf_51_4 hA h _ (S 0 2) M ?_
    rw [e]
    exact ⟨⟨by omega, by omega⟩, ⟨by omega, by omega⟩, ol_if.pos (by omega) hr⟩
theorem fines_h {S : ol_M} (hs : sp_ok S) {h : Int} (h0 : 0 ≤ h) : sm (fun k => fno h (rn_lv (sp_W S) 12 1 k) (S 5 k)) (S 0 2).toNat = rn_lv (sp_W S) 12 3 h := by
  rw [(lv_ge (sp_W_k hs) 12).1.1 h]
  refine sm_congr _ (fun k _ _ => ?_)
  show fno h (rn_lv (sp_W S) 12 1 k) (S 5 k) = if rn_lv (sp_W S) 12 1 k = 3 ∧ S 5 k = h then 1 else 0
  unfold fno
  by_cases c : rn_lv (sp_W S) 12 1 k = 3 ∧ S 5 k = h
  · rw [if_pos c, if_pos ⟨c.1, Or.inr c.2⟩]
  · rw [if_neg c, if_neg (fun q => c ⟨q.1, q.2.resolve_left (by omega)⟩)]
theorem sm_add {f g : Int → Int} : ∀ (n : Nat), sm (fun k => f k + g k) n = sm f n + sm g n := by
  intro n
  induction n with
  | zero => rfl
  | succ n ih => unfold sm; rw [ih]; omega
theorem sm_zero : ∀ (n : Nat), sm (fun _ => 0) n = 0 := by
  intro n
  induction n with
  | zero => rfl
  | succ n ih => unfold sm; rw [ih]; rfl
theorem sm_swap {f : Int → Int → Int} {n : Nat} : ∀ (m : Nat), sm (fun h => sm (f h) n) m = sm (fun k => sm (fun h => f h k) m) n := by
  intro m
  induction m with
  | zero => exact (sm_zero n).symm
  | succ m ih =>
    show sm (fun h => sm (f h) n) m + sm (f m) n = _
    rw [ih, ← sm_add]
    rfl
theorem sm_one {m : Nat} {i v : Int} (i0 : 0 ≤ i) (i1 : i < m) : sm (fun h => if i = h then v else 0) m = v := by
  have u := @sm_upd (fun _ => 0) (fun h => if i = h then v else 0) i i0 m i1 (fun k _ _ d => if_neg (fun q => d q.symm))
  rw [u, sm_zero, if_pos rfl]
  omega
theorem fines_all {S : ol_M} (hs : sp_ok S) : sm (fun k => fno (-1) (rn_lv (sp_W S) 12 1 k) (S 5 k)) (S 0 2).toNat = rn_fines (sp_W S) := by
  have w := sp_W_k hs
  have g := (lv_ge w 12).1
  have nh := sp_nH_r hs.1
  unfold rn_fines
  rw [show rn_lv (sp_W S) 12 3 = fun h => sm (wfn (sp_W S) (rn_lv (sp_W S) 12) h) (sp_W S 10 0).toNat from funext g.1]
  rw [sm_swap]
  refine sm_congr _ (fun k k0 k1 => ?_)
  show fno (-1) (rn_lv (sp_W S) 12 1 k) (S 5 k) = sm (fun h => if rn_lv (sp_W S) 12 1 k = 3 ∧ S 5 k = h then 1 else 0) (sp_nH S).toNat
  have kk : k < S 0 2 := by have := hs.w.1; omega
  have q := (hs.w.2 k k0 kk).2.1
  unfold fno
  by_cases c : rn_lv (sp_W S) 12 1 k = 3
  · have va : S 5 k < sp_nH S := by
      by_cases d : sp_W S 12 k < sp_W S 0 0 ∧ sp_W S 13 k < sp_W S 3 0
      · exact d.1
      · have := g.2.2 k d
        omega
    rw [if_pos ⟨c, Or.inl rfl⟩, sm_congr (g := fun h => if S 5 k = h then 1 else 0) _ (fun h _ _ => by simp [c]), sm_one q.1 (by omega)]
  · rw [if_neg (fun z => c z.1), sm_congr (g := fun _ => 0) _ (fun h _ _ => if_neg (fun z => c z.1)), sm_zero]
theorem x_fines {n : Nat} {S M : ol_M} (i : ix S M) (hs : sp_ok S) {h : Int} (r1 : ol_r h) : x_ok n 6 q_X8_fines [.inl h] S M (sp_fines S h) := by
  have nr := sp_nH_r hs.1
  have e7 := i.nH
  unfold sp_fines
  apply x_ok.of
  by_cases c : 0 ≤ h ∧ h < sp_nH S
  · rw [if_pos c]
    obtain ⟨M1, r, i1, x, f⟩ := @x_refresh n S M i hs
    refine ⟨M1, ol_Ri (q := q_X8_fines) (by decide +kernel) (Nat.le_of_ble_eq_true rfl) (Or.inl rfl) (fun Rt Aq hA hr => b_X8_fines_0 hA h M ?_), i1, f⟩
    rw [e7]
    exact ⟨r1, ⟨by omega, by omega⟩, ol_if.pos c ⟨M1, r, _, M1, x_finesOf i1 hs x r1, ol_rt hr (fines_h hs c.1).symm⟩⟩
  · rw [if_neg c]
    refine ⟨M, ol_Ri (q := q_X8_fines) (by decide +kernel) (Nat.le_of_ble_eq_true rfl) (Or.inl rfl) (fun Rt Aq hA hr => b_X8_fines_0 hA h M ?_), i, fx.rf⟩
    rw [e7]
    exact ⟨r1, ⟨by omega, by omega⟩, ol_if.neg c hr⟩
theorem x_spent {n : Nat} {S M : ol_M} (i : ix S M) (hs : sp_ok S) {l : Int} (r1 : ol_r l) : x_ok n 6 q_X8_spent [.inl l] S M (sp_spent S l) := by
  have w := sp_W_k hs
  have nw := hs.w.1
  unfold sp_spent
  apply x_ok.of
  by_cases c : 0 ≤ l ∧ l ≤ 7
  · rw [if_pos c]
    obtain ⟨M1, r, i1, x, f⟩ := @x_refresh n S M i hs
    have g := (lv_ge w 12).1
    have e := i1.nW
    have v := i1.v hs
    refine ⟨M1, ol_Ri (q := q_X8_spent) (by decide +kernel) (Nat.le_of_ble_eq_true rfl) (Or.inl rfl) (fun Rt Aq hA hr => b_X8_spent_0 hA l M ⟨r1, ol_if.pos (by omega) ⟨M1, r, ?_⟩⟩), i1, f⟩
    rw [g.2.1 l c.1 (by omega)] at hr
    show Aq 20 [some (.inr (.inr 0)), some (.inl l), some (.inl (sm (wsp (sp_W S) (rn_lv (sp_W S) 12) l) (Int.toNat 0))), some (.inl 0), none] [] M1
    refine ol_loop (P := fun k => Aq 20 [some (.inr (.inr 0)), some (.inl l), some (.inl (sm (wsp (sp_W S) (rn_lv (sp_W S) 12) l) k.toNat)), some (.inl k), none] [] M1) (a := 0) (b := S 0 2) nw.1 (fun k k0 k1 hk => ?_) ?_
    · rw [show (k + 1).toNat = k.toNat + 1 by omega] at hk
      simp only [sm] at hk
      rw [Int.toNat_of_nonneg k0] at hk
      have q := (hs.w.2 k k0 k1).2.2
      have rr := @rn_lv_1 (sp_W S) k 12
      have va : rn_lv (sp_W S) 12 1 k ≠ 0 → S 6 k < sp_nT S := fun d => by
        by_cases z : sp_W S 12 k < sp_W S 0 0 ∧ sp_W S 13 k < sp_W S 3 0
        · exact z.2
        · exact absurd (g.2.2 k z) d
      refine b_X8_spent_20 hA l _ k M1 ?_
      rw [e, x.2 k k0 k1, (i1.1.2.2.2.2.1.2 k k0 k1).2.2]
      unfold wsp at hk
      refine ⟨⟨by omega, by omega⟩, ⟨by omega, by omega⟩, ol_if.neg (by omega) ⟨k0, by omega, k0, by omega, ol_if.mk (fun d => ⟨q.1, by omega, c.1, by omega, ?_⟩) (fun d => ⟨⟨by omega, by omega⟩, k0, by omega, ol_if.mk (fun d2 => ⟨q.1, by omega, c.1, by omega, ?_⟩) (fun d2 => ⟨⟨by omega, by omega⟩, ?_⟩)⟩)⟩⟩
      · rw [if_pos d] at hk
        rw [(v.2.2.2.1 (S 6 k) q.1 (va (by omega))).1 l c.1 (by omega)]
        exact hk
      · rw [if_neg d, if_pos d2] at hk
        rw [(v.2.2.2.1 (S 6 k) q.1 (va (by omega))).2.1 l c.1 (by omega)]
        unfold rn_tk at hk
        by_cases d3 : l = 0 ∨ l = 4
        · rw [if_pos ⟨by decide, d3⟩] at hk
          rw [if_pos d3]; exact hk
        · rw [if_neg (fun z => d3 z.2)] at hk
          rw [if_neg d3]; exact hk
      · rw [if_neg d, if_neg d2, Int.add_zero] at hk
        exact hk
    · refine b_X8_spent_20 hA l _ (S 0 2) M1 ?_
      rw [e]
      exact ⟨⟨by omega, by omega⟩, ⟨by omega, by omega⟩, ol_if.pos (by omega) hr⟩
  · rw [if_neg c]
    exact ⟨M, ol_Ri (q := q_X8_spent) (by decide +kernel) (Nat.le_of_ble_eq_true rfl) (Or.inl rfl) (fun Rt Aq hA hr => b_X8_spent_0 hA l M ⟨r1, ol_if.neg (by omega) hr⟩), i, fx.rf⟩
theorem x_bare {n : Nat} {S M : ol_M} (i : ix S M) (hs : sp_ok S) {e : Int} (r1 : ol_r e) : x_ok n 6 q_X8_bare [.inl e] S M (sp_bare S e) := by
  have w := sp_W_k hs
  have nh := sp_nH_r hs.1
  unfold sp_bare
  apply x_ok.of
  by_cases c : 0 ≤ e ∧ e ≤ 1
  · rw [if_pos c]
    obtain ⟨M1, r, i1, x, f⟩ := @x_refresh n S M i hs
    have e7 := i1.nH
    refine ⟨M1, ol_Ri (q := q_X8_bare) (by decide +kernel) (Nat.le_of_ble_eq_true rfl) (Or.inl rfl) (fun Rt Aq hA hr => b_X8_bare_0 hA e M ⟨r1, ol_if.pos (by omega) ⟨M1, r, ?_⟩⟩), i1, f⟩
    have inner : ∀ (m : Int), 0 ≤ m → m < 12 → ∀ (u : Nat) (h : Int), 0 ≤ h → h + u = 8 → (if br_h (rn_all (rn_lv (sp_W S) (m + 1).toNat 0)) (sp_nH S) u h = -1 then Aq 17 [some (.inr (.inr 0)), some (.inl e), some (.inl (m + 1)), none] [] M1 else Rt (some (.inl (if e = 0 then m else br_h (rn_all (rn_lv (sp_W S) (m + 1).toNat 0)) (sp_nH S) u h))) M1) → Aq 25 [some (.inr (.inr 0)), some (.inl e), some (.inl m), some (.inl h)] [] M1 := by
      intro m m0 m1 u
      have hb := (rn_lv_b w (m + 1).toNat).1.up (show (589 : Int) ≤ 1000 by decide)
      induction u with
      | zero =>
        intro h h0 hu t
        refine b_X8_bare_25 hA e m h M1 ?_
        rw [e7]
        exact ⟨⟨by omega, by omega⟩, ⟨by omega, by omega⟩, ol_if.pos (by omega) t⟩
      | succ u ih =>
        intro h h0 hu t
        refine b_X8_bare_25 hA e m h M1 ?_
        rw [e7]
        unfold br_h at t
        refine ⟨⟨by omega, by omega⟩, ⟨by omega, by omega⟩, ol_if.mk (fun d => ?_) (fun d => ⟨m0, m1, _, M1, x_allOf (ks_b m0 m1) h0 (by omega) (x.s m0 m1), ?_⟩)⟩
        · rw [if_pos d, if_pos rfl] at t
          exact t
        · rw [if_neg d] at t
          refine ol_if.mk (fun d2 => ?_) (fun d2 => ⟨?_, ?_⟩)
          · rw [if_pos d2, if_neg (by omega)] at t
            refine ol_if.mk (fun g => ?_) (fun g => ⟨r1, ?_⟩)
            · rw [if_pos g] at t; exact t
            · rw [if_neg g] at t; exact t
          · have := rn_all_r hb h0 (show h < 8 by omega)
            exact ⟨by omega, by omega⟩
          · rw [if_neg d2] at t
            exact ih (h + 1) (by omega) (by omega) t
    have outer : ∀ (u : Nat) (m : Int), 0 ≤ m → m + u = 12 → Rt (some (.inl (br_m (sp_W S) e u m))) M1 → Aq 17 [some (.inr (.inr 0)), some (.inl e), some (.inl m), none] [] M1 := by
      intro u
      induction u with
      | zero =>
        intro m m0 hu t
        exact b_X8_bare_17 hA e m M1 ⟨⟨by omega, by omega⟩, ol_if.pos (by omega) t⟩
      | succ u ih =>
        intro m m0 hu t
        refine b_X8_bare_17 hA e m M1 ⟨⟨by omega, by omega⟩, ol_if.neg (by omega) (inner m m0 (by omega) 8 0 (by decide) (by decide) ?_)⟩
        unfold br_m at t
        by_cases d : br_h (rn_all (rn_lv (sp_W S) (m + 1).toNat 0)) (sp_nH S) 8 0 = -1
        · rw [if_pos d]
          rw [if_pos (show br_h (rn_all (rn_lv (sp_W S) (m + 1).toNat 0)) (sp_W S 0 0) 8 0 = -1 from d)] at t
          exact ih (m + 1) (by omega) (by omega) t
        · rw [if_neg d]
          rw [if_neg (show ¬ br_h (rn_all (rn_lv (sp_W S) (m + 1).toNat 0)) (sp_W S 0 0) 8 0 = -1 from d)] at t
          exact t
    exact outer 12 0 (by decide) (by decide) hr
  · rw [if_neg c]
    exact ⟨M, ol_Ri (q := q_X8_bare) (by decide +kernel) (Nat.le_of_ble_eq_true rfl) (Or.inl rfl) (fun Rt Aq hA hr => b_X8_bare_0 hA e M ⟨r1, ol_if.neg (by omega) hr⟩), i, fx.rf⟩
