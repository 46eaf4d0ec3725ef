/-! THE CLASS'S RULES -/
theorem ol_weak {own : String} {cc : ByteArray} {d : Nat} {lay : ol_L} {Rt : Option ol_V → ol_M → Prop} {A : Nat → ol_Ls → ol_St → ol_M → Prop} (hA : ol_C own cc d lay Rt A) {pc : Nat} {ls0 ls : ol_Ls} {st : ol_St} {M : ol_M} (h : ol_le ls0 ls) (a : A pc ls0 st M) : A pc ls st M := hA [] pc ls st M rfl ⟨ls0, h, a⟩
def isW (l : Int) : Prop := l = 0 ∨ l = 4
/-- the class's cells hold a world: houses, terms, writings; lendings -/
def xv (W M : ol_M) : Prop := M 1 3 = W 0 0 ∧ (∀ h, 0 ≤ h → h < W 0 0 → M 3 h = W 1 h ∧ M 4 h = W 2 h) ∧ M 5 3 = W 3 0 ∧ (∀ t, 0 ≤ t → t < W 3 0 → (∀ l, 0 ≤ l → l < 8 → M (17 + t) l = W (30 + t) l) ∧ (∀ l, 0 ≤ l → l < 8 → M (26 + t) l = if l = 0 ∨ l = 4 then 0 else W (30 + t) l) ∧ (0 ≤ M 35 t ∧ M 35 t ≤ 6) ∧ (0 < M 35 t ↔ hoth (W (30 + t)))) ∧ M 37 4 = W 10 0 ∧ ∀ k, 0 ≤ k → k < W 10 0 → M 39 k = W 11 k ∧ M 40 k = W 12 k ∧ M 41 k = W 13 k
def xl (W M : ol_M) : Prop := M 37 9 = W 5 0 ∧ ∀ k, 0 ≤ k → k < W 5 0 → M 42 k = W 6 k ∧ M 43 k = W 7 k ∧ M 44 k = W 8 k ∧ M 45 k = W 9 k
/-- a cell that holds a stock -/
def ks (k : Int) : Prop := k = 53 ∨ k = 70 ∨ (55 ≤ k ∧ k ≤ 66) ∨ (72 ≤ k ∧ k ≤ 83) ∨ (88 ≤ k ∧ k ≤ 100)
theorem ks.lay {n : Nat} {k : Int} (h : ks k) : ol_lay n k = some (.inl 64) := by
  rcases h with h | h | h | h | h
  · rw [h]; exact ly_53
  · rw [h]; exact ly_70
  · have := @lr_54 n (k - 55) (by omega) (by omega)
    rwa [show 55 + (k - 55) = k by omega] at this
  · have := @lr_71 n (k - 72) (by omega) (by omega)
    rwa [show 72 + (k - 72) = k by omega] at this
  · have := @lr_87 n (k - 88) (by omega) (by omega)
    rwa [show 88 + (k - 88) = k by omega] at this
theorem ks.gt {k : Int} (h : ks k) : 52 < k := by unfold ks at h; omega
def xs (k : Int) (st : Int → Int) (M : ol_M) : Prop := ∀ j, 0 ≤ j → j < 64 → M k j = st j
/-- only the cell k has changed -/
def fk (k : Int) (M M' : ol_M) : Prop := ∀ c, c ≠ k → M' c = M c
theorem fk.rf {k : Int} {M : ol_M} : fk k M M := fun _ _ => rfl
theorem fk.tr {k : Int} {M M' M'' : ol_M} (h : fk k M M') (h' : fk k M' M'') : fk k M M'' := fun c q => (h' c q).trans (h c q)
theorem fk.mp {k : Int} {M : ol_M} {f : Int → Int} : fk k M (ol_mp M k f) := fun _ q => ol_mp_ne _ _ q
theorem xv.lo {W M M' : ol_M} (w : wk W) (v : xv W M) (f : ∀ c, 0 ≤ c → c ≤ 50 → M' c = M c) : xv W M' := by
  have w2 := w.2.2.1
  obtain ⟨v1, v2, v3, v4, v5, v6⟩ := v
  unfold xv
  rw [f 1 (by decide) (by decide), f 3 (by decide) (by decide), f 4 (by decide) (by decide), f 5 (by decide) (by decide), f 37 (by decide) (by decide), f 39 (by decide) (by decide), f 40 (by decide) (by decide), f 41 (by decide) (by decide), f 35 (by decide) (by decide)]
  refine ⟨v1, v2, v3, fun t t0 t1 => ?_, v5, v6⟩
  rw [f (17 + t) (by omega) (by omega), f (26 + t) (by omega) (by omega)]
  exact v4 t t0 t1
theorem xl.lo {W M M' : ol_M} (v : xl W M) (f : ∀ c, 0 ≤ c → c ≤ 50 → M' c = M c) : xl W M' := by
  unfold xl at *
  rw [f 37 (by decide) (by decide), f 42 (by decide) (by decide), f 43 (by decide) (by decide), f 44 (by decide) (by decide), f 45 (by decide) (by decide)]
  exact v
theorem fk.lo {k : Int} {M M' : ol_M} (h : fk k M M') (hk : ks k) : ∀ c, 0 ≤ c → c ≤ 50 → M' c = M c := fun c _ q => h c (by have := hk.gt; omega)
theorem x_handOut {n : Nat} {W M : ol_M} {st : Int → Int} {k k2 : Int} (w : wk W) (v : xv W M) (hk : ks k) (h2 : ol_lay n k2 = some (.inl 8)) (p2 : 0 ≤ k2) (d2 : k2 ≠ k) (hr4 : ∀ l, 0 ≤ l → l < 8 → M k2 l = W 4 l) (x : xs k st M) (hb : xb 1000 st) : ∃ M', ol_R (ol_lay n) 1 q_X2_handOut [.inr (.inr 50), .inr (.inr k), .inr (.inr k2)] M none M' ∧ xs k (rn_hand W st) M' ∧ fk k M M' := by
  obtain ⟨v1, v2, -⟩ := v
  obtain ⟨w0, w1, -⟩ := w
  have kg := hk.gt
  have hkl := @ks.lay n k hk
  refine ⟨ol_mp M k (ol_rg (M k) 0 (8 * W 0 0) (rn_hand W st)), ol_Ri (q := q_X2_handOut) (by decide +kernel) (Nat.le_of_ble_eq_true rfl) rfl (fun Rt A hA hr => b_X2_handOut_0 hA k k2 M hkl (by omega) h2 p2 ?_), ?_, fk.mp⟩
  · have z1 : A 2 [some (.inr (.inr 50)), some (.inr (.inr k)), some (.inr (.inr k2)), some (.inl 0), none, none, none, none] [] (ol_mp M k (ol_rg (M k) 0 (8 * 0) (rn_hand W st))) := by
      refine ol_loop (P := fun h => A 2 [some (.inr (.inr 50)), some (.inr (.inr k)), some (.inr (.inr k2)), some (.inl h), none, none, none, none] [] (ol_mp M k (ol_rg (M k) 0 (8 * h) (rn_hand W st)))) (a := 0) (b := W 0 0) w0.1 (fun h h0 h1 hh => ?_) ?_
      · have kk := w1 h h0 h1
        refine b_X2_handOut_2 hA k k2 h _ hkl (by omega) h2 p2 ?_
        rw [ol_mp_ne _ _ (show (1 : Int) ≠ k by omega), ol_mp_ne _ _ (show (3 : Int) ≠ k by omega), v1, (v2 h h0 h1).1]
        have inner : ∀ b : Int, b = (if W 1 h = 1 then 1 else 0) → A 36 [some (.inr (.inr 50)), some (.inr (.inr k)), some (.inr (.inr k2)), some (.inl h), some (.inl b), some (.inl 0), none, none] [] (ol_mp M k (ol_rg (M k) 0 (8 * h) (rn_hand W st))) := by
          intro b hbb
          have z2 : A 36 [some (.inr (.inr 50)), some (.inr (.inr k)), some (.inr (.inr k2)), some (.inl h), some (.inl b), some (.inl 0), none, none] [] (ol_mp M k (ol_rg (M k) 0 (8 * h + 0) (rn_hand W st))) := by
            refine ol_loop (P := fun l => A 36 [some (.inr (.inr 50)), some (.inr (.inr k)), some (.inr (.inr k2)), some (.inl h), some (.inl b), some (.inl l), none, none] [] (ol_mp M k (ol_rg (M k) 0 (8 * h + l) (rn_hand W st)))) (a := 0) (b := 8) (by decide) (fun l l0 l1 hl => ?_) ?_
            · have k2' := hb (8 * h + l) (by omega) (by omega)
              have es : M k (8 * h + l) = st (8 * h + l) := x _ (by omega) (by omega)
              have eg : rn_hand W st (8 * h + l) = (if W 1 h = 1 then st (8 * h + l) / 2 else 0) + W 4 l * W 2 h := by
                unfold rn_hand
                rw [if_pos ⟨by omega, by omega⟩, show (8 * h + l) / 8 = h by omega, show (8 * h + l) % 8 = l by omega]
              refine b_X2_handOut_36 hA k k2 h b l _ hkl (by omega) h2 p2 ?_
              rw [Int.mul_comm h 8, ol_mp_ne _ _ d2, ol_mp_ne _ _ (show (4 : Int) ≠ k by omega), ol_mp_same, ol_rg_out (show ¬ (0 ≤ 8 * h + l ∧ 8 * h + l < 8 * h + l) by omega), hr4 l l0 l1, (v2 h h0 h1).2, es]
              refine ⟨⟨by omega, by omega⟩, ol_if.neg (by omega) (ol_if.mk (fun c => ⟨l0, l1, h0, by omega, by omega, by omega, ?_⟩) (fun c => ⟨by rw [hbb]; split <;> exact ⟨by decide, by decide⟩, by omega, by omega, ⟨by omega, by omega⟩, l0, l1, h0, by omega, by omega, by omega, ?_⟩))⟩
              · have c' : ¬ W 1 h = 1 := fun q => by rw [if_pos q] at hbb; omega
                rw [ol_rg_ms M k _ _ (by omega) (by rw [eg, if_neg c']), Int.add_assoc]
                exact hl
              · have c' : W 1 h = 1 := by
                  by_cases q : W 1 h = 1
                  · exact q
                  · rw [if_neg q] at hbb; exact absurd hbb c
                rw [ol_rg_ms M k _ _ (by omega) (by rw [eg, if_pos c', Int.tdiv_eq_ediv_of_nonneg k2'.1]), Int.add_assoc]
                exact hl
            · refine b_X2_handOut_36 hA k k2 h b 8 _ hkl (by omega) h2 p2 ⟨⟨by decide, by decide⟩, ol_if.pos (by decide) ?_⟩
              rw [show 8 * h + 8 = 8 * (h + 1) by omega]
              exact hh
          rw [Int.add_zero] at z2
          exact z2
        exact ⟨⟨by omega, by omega⟩, ⟨by omega, by omega⟩, ol_if.neg (by omega) ⟨h0, by omega, ol_if.mk (fun c => inner 1 (by rw [if_pos c])) (fun c => ⟨⟨by omega, by omega⟩, inner 0 (by rw [if_neg c])⟩)⟩⟩
      · refine b_X2_handOut_2 hA k k2 (W 0 0) _ hkl (by omega) h2 p2 ?_
        rw [ol_mp_ne _ _ (show (1 : Int) ≠ k by omega), v1]
        exact ⟨⟨by omega, by omega⟩, ⟨by omega, by omega⟩, ol_if.pos (by omega) hr⟩
    rw [show (8 * 0 : Int) = 0 by decide, ol_rg_mp0] at z1
    exact z1
  · intro j j0 j1
    rw [ol_mp_same]
    by_cases q : j < 8 * W 0 0
    · rw [ol_rg_in j0 q]
    · rw [ol_rg_out (fun z => q z.2), x j j0 j1]
      unfold rn_hand
      rw [if_neg (fun z => q z.2)]
theorem x_moveOne {n : Nat} {M : ol_M} {st : Int → Int} {k a b l : Int} (hk : ks k) (a0 : 0 ≤ a) (a1 : a < 8) (b0 : 0 ≤ b) (b1 : b < 8) (l0 : 0 ≤ l) (l1 : l < 8) (ab : a ≠ b) (x : xs k st M) (hb : xb 1000 st) : ∃ M', ol_R (ol_lay n) 1 q_X2_moveOne [.inr (.inr 50), .inr (.inr k), .inl a, .inl b, .inl l] M none M' ∧ xs k (if 0 < st (8 * a + l) then ol_rs (ol_rs st (8 * a + l) (st (8 * a + l) - 1)) (8 * b + l) (st (8 * b + l) + 1) else st) M' ∧ fk k M M' := by
  have kg := hk.gt
  have hkl := @ks.lay n k hk
  have ea : M k (8 * a + l) = st (8 * a + l) := x _ (by omega) (by omega)
  have eb : M k (8 * b + l) = st (8 * b + l) := x _ (by omega) (by omega)
  have kb := hb (8 * a + l) (by omega) (by omega)
  by_cases c : 0 < st (8 * a + l)
  · rw [if_pos c]
    refine ⟨ol_ms (ol_ms M k (8 * a + l) (st (8 * a + l) - 1)) k (8 * b + l) (st (8 * b + l) + 1), ol_Ri (q := q_X2_moveOne) (by decide +kernel) (Nat.le_of_ble_eq_true rfl) rfl (fun Rt A hA hr => ?_), ?_, fun d q => by rw [ol_ms_ne _ _ _ q, ol_ms_ne _ _ _ q]⟩
    · refine ol_weak hA (ls0 := [none, some (.inr (.inr k)), some (.inl a), some (.inl b), some (.inl l)]) ⟨rfl, rfl, rfl, rfl, trivial⟩ (b_X2_moveOne_0 hA k a b l M hkl (by omega) ?_)
      rw [Int.mul_comm a 8, Int.mul_comm b 8, ea, ol_ms_i _ _ _ (show 8 * b + l ≠ 8 * a + l by omega), eb]
      exact ⟨by omega, by omega, ⟨by omega, by omega⟩, ol_if.neg (by omega) ⟨by omega, by omega, by omega, by omega, by omega, by omega, by omega, by omega, hr⟩⟩
    · intro j j0 j1
      rw [ol_ms_row, ol_ms_row]
      by_cases p : j = 8 * b + l
      · rw [p, ol_rsA, ol_rsA]
      · rw [ol_rsN _ _ p, ol_rsN _ _ p]
        by_cases p2 : j = 8 * a + l
        · rw [p2, ol_rsA, ol_rsA]
        · rw [ol_rsN _ _ p2, ol_rsN _ _ p2]; exact x j j0 j1
  · rw [if_neg c]
    refine ⟨M, ol_Ri (q := q_X2_moveOne) (by decide +kernel) (Nat.le_of_ble_eq_true rfl) rfl (fun Rt A hA hr => ?_), x, fk.rf⟩
    refine ol_weak hA (ls0 := [none, some (.inr (.inr k)), some (.inl a), some (.inl b), some (.inl l)]) ⟨rfl, rfl, rfl, rfl, trivial⟩ (b_X2_moveOne_0 hA k a b l M hkl (by omega) ?_)
    rw [Int.mul_comm a 8, ea]
    exact ⟨by omega, by omega, ⟨by omega, by omega⟩, ol_if.pos (by omega) hr⟩
theorem x_moveLent {n : Nat} {W M : ol_M} {st : Int → Int} {k m : Int} (w : wk W) (v : xv W M) (y : xl W M) (hk : ks k) (m0 : 0 ≤ m) (m1 : m < 12) (x : xs k st M) (hb : xb 900 st) : ∃ M', ol_R (ol_lay n) 2 q_X2_moveLent [.inr (.inr 50), .inr (.inr k), .inl m] M none M' ∧ xs k (rn_ls W m (W 5 0).toNat st) M' ∧ fk k M M' := by
  have kg := hk.gt
  have hkl := @ks.lay n k hk
  obtain ⟨v1, v2, -⟩ := v
  obtain ⟨y1, y2⟩ := y
  have w0 := w.1
  have w5 := w.2.2.2.2.2.1
  have key : ∀ Mi, fk k M Mi → xs k (rn_ls W m (Int.toNat 0) st) Mi → ∃ M', ol_T n q_X2_moveLent 1 2 [some (.inr (.inr 50)), some (.inr (.inr k)), some (.inl m), some (.inl 0), none, none] [] Mi none M' ∧ xs k (rn_ls W m (W 5 0).toNat st) M' ∧ fk k M M' := by
    refine ol_loop (P := fun j => ∀ Mi, fk k M Mi → xs k (rn_ls W m j.toNat st) Mi → ∃ M', ol_T n q_X2_moveLent 1 2 [some (.inr (.inr 50)), some (.inr (.inr k)), some (.inl m), some (.inl j), none, none] [] Mi none M' ∧ xs k (rn_ls W m (W 5 0).toNat st) M' ∧ fk k M M') (a := 0) (b := W 5 0) w5.1 (fun j j0 j1 hj Mi f xi => ?_) (fun Mi f xi => ?_)
    · obtain ⟨q1, q2, q3, q4, q5⟩ := w.2.2.2.2.2.2.1 j j0 j1
      obtain ⟨e1, e2, e3, e4⟩ := y2 j j0 j1
      rw [show (j + 1).toNat = j.toNat + 1 by omega] at hj
      simp only [rn_ls] at hj
      rw [Int.toNat_of_nonneg j0] at hj
      have cells : ∀ c, 0 ≤ c → c ≤ 50 → Mi c = M c := f.lo hk
      have wp : ∀ {M' : ol_M}, (∀ (Rt : Option ol_V → ol_M → Prop) (A : Nat → ol_Ls → ol_St → ol_M → Prop), ol_C q_X2_moveLent.1.cls q_X2_moveLent.2.1 1 (ol_lay n) Rt A → Rt none M' → ol_if (W 6 j = m) (ol_if (W 0 0 ≤ W 7 j) (A 2 [some (.inr (.inr 50)), some (.inr (.inr k)), some (.inl m), some (.inl (j + 1)), none, none] [] Mi) (ol_if (W 0 0 ≤ W 8 j) (A 2 [some (.inr (.inr 50)), some (.inr (.inr k)), some (.inl m), some (.inl (j + 1)), none, none] [] Mi) (∃ M1, ol_R (ol_lay n) 1 q_X2_moveOne [.inr (.inr 50), .inr (.inr k), .inl (W 7 j), .inl (W 8 j), .inl (W 9 j)] Mi none M1 ∧ A 2 [some (.inr (.inr 50)), some (.inr (.inr k)), some (.inl m), some (.inl (j + 1)), none, none] [] M1))) (A 2 [some (.inr (.inr 50)), some (.inr (.inr k)), some (.inl m), some (.inl (j + 1)), none, none] [] Mi)) → ol_T n q_X2_moveLent 1 2 [some (.inr (.inr 50)), some (.inr (.inr k)), some (.inl m), some (.inl j), none, none] [] Mi none M' := by
        intro M' h Rt A hA hr
        have g := h Rt A hA hr
        refine b_X2_moveLent_2 hA k m j Mi hkl (by omega) ?_
        rw [cells 37 (by decide) (by decide), cells 42 (by decide) (by decide), cells 43 (by decide) (by decide), cells 44 (by decide) (by decide), cells 45 (by decide) (by decide), cells 1 (by decide) (by decide), y1, e1, e2, e3, e4, v1]
        exact ⟨⟨by omega, by omega⟩, ⟨by omega, by omega⟩, ol_if.neg (by omega) ⟨j0, by omega, j0, by omega, j0, by omega, ol_if.mk (fun c => ⟨⟨by omega, by omega⟩, ⟨by omega, by omega⟩, ol_if.mk (fun d => (g.1 c).1 d) (fun d => ⟨⟨by omega, by omega⟩, ⟨by omega, by omega⟩, ol_if.mk (fun e => ((g.1 c).2 d).1 e) (fun e => ⟨j0, by omega, ((g.1 c).2 d).2 e⟩)⟩)⟩) (fun c => ⟨⟨by omega, by omega⟩, ⟨by omega, by omega⟩, g.2 c⟩)⟩⟩
      by_cases c : W 6 j = m
      · rw [if_pos c] at hj
        unfold rn_l1 at hj
        by_cases d : W 7 j < W 0 0 ∧ W 8 j < W 0 0
        · obtain ⟨M1, r1, x1, f1⟩ := @x_moveOne n Mi (rn_ls W m j.toNat st) k (W 7 j) (W 8 j) (W 9 j) hk q2.1 (by omega) q3.1 (by omega) q4.1 (by omega) q5 xi ((rn_ls_b w _ _ (by omega) hb).up (by omega))
          obtain ⟨M', t, e⟩ := hj M1 (f.tr f1) (by
            by_cases z : 0 < rn_ls W m j.toNat st (8 * W 7 j + W 9 j)
            · rw [if_pos z] at x1
              rw [if_pos ⟨d.1, d.2, z⟩]; exact x1
            · rw [if_neg z] at x1
              rw [if_neg (fun q => z q.2.2)]; exact x1)
          exact ⟨M', wp (fun Rt A hA hr => ol_if.pos c (ol_if.neg (by omega) (ol_if.neg (by omega) ⟨M1, r1, t Rt A hA hr⟩))), e⟩
        · obtain ⟨M', t, e⟩ := hj Mi f (by rw [if_neg (fun q => d ⟨q.1, q.2.1⟩)]; exact xi)
          exact ⟨M', wp (fun Rt A hA hr => ol_if.pos c (ol_if.mk (fun _ => t Rt A hA hr) (fun z => ol_if.pos (by omega) (t Rt A hA hr)))), e⟩
      · rw [if_neg c] at hj
        obtain ⟨M', t, e⟩ := hj Mi f xi
        exact ⟨M', wp (fun Rt A hA hr => ol_if.neg c (t Rt A hA hr)), e⟩
    · refine ⟨Mi, fun Rt A hA hr => b_X2_moveLent_2 hA k m _ Mi hkl (by omega) ?_, xi, f⟩
      rw [f.lo hk 37 (by decide) (by decide), y1]
      exact ⟨⟨by omega, by omega⟩, ⟨by omega, by omega⟩, ol_if.pos (by omega) hr⟩
  obtain ⟨M', t, e⟩ := key M fk.rf x
  exact ⟨M', ol_Ri (q := q_X2_moveLent) (by decide +kernel) (Nat.le_of_ble_eq_true rfl) rfl (fun Rt A hA hr => b_X2_moveLent_0 hA k m M hkl (by omega) (t Rt A hA hr)), e⟩
theorem x_tookAll {n : Nat} {M : ol_M} {st f : Int → Int} {k k3 h : Int} (hk : ks k) (h3 : ol_lay n k3 = some (.inl 8)) (p3 : 0 ≤ k3) (d3 : k3 ≠ k) (h0 : 0 ≤ h) (h1 : h < 8) (hf : ∀ l, 0 ≤ l → l < 8 → M k3 l = f l ∧ 0 ≤ f l ∧ f l ≤ 6) (x : xs k st M) (hb : xb 1000 st) :
    ((∀ l, 0 ≤ l → l < 8 → f l ≤ st (8 * h + l)) → ∃ M', ol_R (ol_lay n) 1 q_X2_tookAll [.inr (.inr 50), .inr (.inr k), .inl h, .inr (.inr k3)] M (some (.inl 1)) M' ∧ xs k (ol_rg st (8 * h) (8 * h + 8) (fun j => st j - f (j - 8 * h))) M' ∧ fk k M M') ∧
    (¬ (∀ l, 0 ≤ l → l < 8 → f l ≤ st (8 * h + l)) → ol_R (ol_lay n) 1 q_X2_tookAll [.inr (.inr 50), .inr (.inr k), .inl h, .inr (.inr k3)] M (some (.inl 0)) M) := by
  have kg := hk.gt
  have hkl := @ks.lay n k hk
  refine ⟨fun c => ?_, fun c => ?_⟩
  · refine ⟨ol_mp M k (ol_rg (M k) (8 * h) (8 * h + 8) (fun j => M k j - f (j - 8 * h))), ol_Ri (q := q_X2_tookAll) (by decide +kernel) (Nat.le_of_ble_eq_true rfl) (Or.inr ⟨rfl, Or.inr rfl⟩) (fun Rt A hA hr => ol_weak hA (ls0 := [none, some (.inr (.inr k)), some (.inl h), some (.inr (.inr k3)), none]) ⟨rfl, rfl, rfl, trivial⟩ (b_X2_tookAll_0 hA k h k3 M hkl (by omega) h3 p3 ?_)), ?_, fk.mp⟩
    · have z2 : A 37 [none, some (.inr (.inr k)), some (.inl h), some (.inr (.inr k3)), some (.inl 0)] [] (ol_mp M k (ol_rg (M k) (8 * h) (8 * h + 0) (fun j => M k j - f (j - 8 * h)))) := by
        refine ol_loop (P := fun l => A 37 [none, some (.inr (.inr k)), some (.inl h), some (.inr (.inr k3)), some (.inl l)] [] (ol_mp M k (ol_rg (M k) (8 * h) (8 * h + l) (fun j => M k j - f (j - 8 * h))))) (a := 0) (b := 8) (by decide) (fun l l0 l1 hl => ?_) ?_
        · refine b_X2_tookAll_37 hA k h k3 l _ hkl (by omega) h3 p3 ?_
          rw [Int.mul_comm h 8, ol_mp_same, ol_mp_ne _ _ d3, (hf l l0 l1).1, ol_rg_out (show ¬ (8 * h ≤ 8 * h + l ∧ 8 * h + l < 8 * h + l) by omega)]
          refine ⟨⟨by omega, by omega⟩, ol_if.neg (by omega) ⟨by omega, by omega, l0, l1, by omega, by omega, ?_⟩⟩
          rw [ol_rg_ms M k _ _ (by omega) (by rw [show 8 * h + l - 8 * h = l by omega]), Int.add_assoc]
          exact hl
        · exact b_X2_tookAll_37 hA k h k3 8 _ hkl (by omega) h3 p3 ⟨⟨by decide, by decide⟩, ol_if.pos (by decide) hr⟩
      rw [Int.add_zero, ol_rg_mp0] at z2
      refine ol_loop (P := fun l => A 3 [none, some (.inr (.inr k)), some (.inl h), some (.inr (.inr k3)), some (.inl l)] [] M) (a := 0) (b := 8) (by decide) (fun l l0 l1 hl => ?_) ?_
      · have g := hf l l0 l1
        have s := hb (8 * h + l) (by omega) (by omega)
        have cl := c l l0 l1
        refine b_X2_tookAll_3 hA k h k3 l _ hkl (by omega) h3 p3 ?_
        rw [Int.mul_comm h 8, g.1, x (8 * h + l) (by omega) (by omega)]
        exact ⟨⟨by omega, by omega⟩, ol_if.neg (by omega) ⟨by omega, by omega, l0, l1, ⟨by omega, by omega⟩, ⟨by omega, by omega⟩, ol_if.pos cl hl⟩⟩
      · exact b_X2_tookAll_3 hA k h k3 8 _ hkl (by omega) h3 p3 ⟨⟨by decide, by decide⟩, ol_if.pos (by decide) z2⟩
    · intro j j0 j1
      rw [ol_mp_same]
      by_cases q : 8 * h ≤ j ∧ j < 8 * h + 8
      · rw [ol_rg_in q.1 q.2, ol_rg_in q.1 q.2, x j j0 j1]
      · rw [ol_rg_out q, ol_rg_out q, x j j0 j1]
  · refine ol_Ri (q := q_X2_tookAll) (by decide +kernel) (Nat.le_of_ble_eq_true rfl) (Or.inr ⟨rfl, Or.inl rfl⟩) (fun Rt A hA hr => ol_weak hA (ls0 := [none, some (.inr (.inr k)), some (.inl h), some (.inr (.inr k3)), none]) ⟨rfl, rfl, rfl, trivial⟩ (b_X2_tookAll_0 hA k h k3 M hkl (by omega) h3 p3 ?_))
    suffices key : (∀ l', 0 ≤ l' → l' < 0 → f l' ≤ st (8 * h + l')) → A 3 [none, some (.inr (.inr k)), some (.inl h), some (.inr (.inr k3)), some (.inl 0)] [] M from key (fun l' a b => by omega)
    refine ol_loop (P := fun l => (∀ l', 0 ≤ l' → l' < l → f l' ≤ st (8 * h + l')) → A 3 [none, some (.inr (.inr k)), some (.inl h), some (.inr (.inr k3)), some (.inl l)] [] M) (a := 0) (b := 8) (by decide) (fun l l0 l1 hl hf' => ?_) (fun hf' => absurd hf' c)
    have g := hf l l0 l1
    have s := hb (8 * h + l) (by omega) (by omega)
    refine b_X2_tookAll_3 hA k h k3 l _ hkl (by omega) h3 p3 ?_
    rw [Int.mul_comm h 8, g.1, x (8 * h + l) (by omega) (by omega)]
    refine ⟨⟨by omega, by omega⟩, ol_if.neg (by omega) ⟨by omega, by omega, l0, l1, ⟨by omega, by omega⟩, ⟨by omega, by omega⟩, ol_if.mk (fun d => hl (fun l' a b => ?_)) (fun _ => hr)⟩⟩
    by_cases e : l' = l
    · rw [e]; exact d
    · exact hf' l' a (by omega)
theorem lk_0' {nd st : Int → Int} {b : Int} : ∀ (k : Nat), (∀ l : Int, 0 ≤ l → l < k → ¬ (b ≠ 0 ∧ (l = 0 ∨ l = 4)) → nd l ≤ st l) → lk nd st b k = 0 := by
  intro k
  induction k with
  | zero => intro _; rfl
  | succ k ih =>
    intro h
    unfold lk
    rw [ih (fun l a c => h l a (by omega))]
    by_cases c : ¬ (b ≠ 0 ∧ ((k : Int) = 0 ∨ (k : Int) = 4))
    · have := h k (by omega) (by omega) c
      rw [if_neg (fun q => by omega)]; rfl
    · rw [if_neg (fun q => c q.2)]; rfl
/-- a writing is in full where all is there -/
theorem rn_lack_0 {W : ol_M} {h t : Int} {st : Int → Int} : rn_lack W h t 0 st = 0 ↔ ∀ l, 0 ≤ l → l < 8 → W (30 + t) l ≤ st (8 * h + l) :=
  ⟨fun q l l0 l1 => lk_0 8 q l l0 l1 (fun z => z.1 rfl), fun q => lk_0' 8 (fun l l0 l1 _ => q l l0 l1)⟩
theorem rn_lack_1 {W : ol_M} {h t : Int} {st : Int → Int} (h0 : 0 ≤ h) (h1 : h < 8) (hb : xb 1000 st) : rn_lack W h t 1 st = 0 ↔ ∀ l, 0 ≤ l → l < 8 → (if l = 0 ∨ l = 4 then 0 else W (30 + t) l) ≤ st (8 * h + l) := by
  refine ⟨fun q l l0 l1 => ?_, fun q => lk_0' 8 (fun l l0 l1 c => ?_)⟩
  · by_cases d : l = 0 ∨ l = 4
    · rw [if_pos d]; exact (hb _ (by omega) (by omega)).1
    · rw [if_neg d]; exact lk_0 8 q l l0 l1 (fun z => d z.2)
  · have z := q l l0 l1
    have d : ¬ (l = 0 ∨ l = 4) := fun e => c ⟨by decide, e⟩
    rw [if_neg d] at z
    exact z
theorem x_settle {n : Nat} {W M : ol_M} {st : Int → Int} {k h t : Int} (w : wk W) (v : xv W M) (hk : ks k) (h0 : 0 ≤ h) (h1 : h < 8) (t0 : 0 ≤ t) (t1 : t < 8) (x : xs k st M) (hb : xb 1000 st) : ∃ M', ol_R (ol_lay n) 2 q_X2_settle [.inr (.inr 50), .inr (.inr k), .inl h, .inl t] M (some (.inl (rn_out W h t st))) M' ∧ xs k (rn_set W h t st) M' ∧ fk k M M' := by
  have kg := hk.gt
  have hkl := @ks.lay n k hk
  have w0 := w.1
  have w2 := w.2.2.1
  obtain ⟨v1, v2, v3, v4, -⟩ := v
  unfold rn_out rn_set
  by_cases c : h < W 0 0 ∧ t < W 3 0
  · rw [if_pos c]
    obtain ⟨a1, a2, a3, a4⟩ := v4 t t0 c.2
    have nd := w.2.2.2.1 t t0 c.2
    have kd := (w.2.1 h h0 c.1).1
    have go : ∀ {Rt : Option ol_V → ol_M → Prop} {A : Nat → ol_Ls → ol_St → ol_M → Prop} (hA : ol_C q_X2_settle.1.cls q_X2_settle.2.1 1 (ol_lay n) Rt A), A 24 [some (.inr (.inr 50)), some (.inr (.inr k)), some (.inl h), some (.inl t)] [] M → A 0 [some (.inr (.inr 50)), some (.inr (.inr k)), some (.inl h), some (.inl t)] [] M := fun hA hr => b_X2_settle_0 hA k h t M hkl (by omega) (by
      rw [v1, v3]
      exact ⟨⟨by omega, by omega⟩, ⟨by omega, by omega⟩, ol_if.neg (by omega) ⟨⟨by omega, by omega⟩, ⟨by omega, by omega⟩, ol_if.pos c.2 hr⟩⟩)
    obtain ⟨f1, f2⟩ := @x_tookAll n M st (W (30 + t)) k (17 + t) h hk (lr_16 t t0 t1) (by omega) (by omega) h0 h1 (fun l l0 l1 => ⟨a1 l l0 l1, nd l l0 l1⟩) x hb
    obtain ⟨g1, g2⟩ := @x_tookAll n M st (fun l => if l = 0 ∨ l = 4 then 0 else W (30 + t) l) k (26 + t) h hk (lr_25 t t0 t1) (by omega) (by omega) h0 h1 (fun l l0 l1 => ⟨a2 l l0 l1, by
      have := nd l l0 l1
      show 0 ≤ (if l = 0 ∨ l = 4 then 0 else W (30 + t) l) ∧ (if l = 0 ∨ l = 4 then 0 else W (30 + t) l) ≤ 6
      split <;> omega⟩) x hb
    unfold rn_res
    by_cases d : rn_lack W h t 0 st = 0
    · rw [if_pos d, if_pos ⟨c.1, c.2, by decide⟩]
      obtain ⟨M', r, x', f'⟩ := f1 (rn_lack_0.mp d)
      refine ⟨M', ol_Ri (q := q_X2_settle) (by decide +kernel) (Nat.le_of_ble_eq_true rfl) (Or.inl rfl) (fun Rt A hA hr => go hA (b_X2_settle_24 hA k h t M hkl (by omega) ⟨t0, t1, _, M', r, ol_if.neg (by decide) ⟨⟨by decide, by decide⟩, hr⟩⟩)), fun j j0 j1 => ?_, f'⟩
      rw [x' j j0 j1]
      unfold rn_sp rn_tk
      by_cases q : 8 * h ≤ j ∧ j < 8 * h + 8
      · rw [ol_rg_in q.1 q.2, ol_rg_in q.1 q.2, if_neg (fun z => z.1 rfl)]
      · rw [ol_rg_out q, ol_rg_out q]
    · rw [if_neg d]
      have r0 := f2 (fun q => d (rn_lack_0.mpr q))
      by_cases e : rn_sh W h t st
      · rw [if_pos e, if_pos ⟨c.1, c.2, by decide⟩]
        obtain ⟨e1, e2, e3⟩ := e
        obtain ⟨M', r, x', f'⟩ := g1 ((rn_lack_1 h0 h1 hb).mp e3)
        have hp : 0 < M 35 t := a4.mpr e2
        refine ⟨M', ol_Ri (q := q_X2_settle) (by decide +kernel) (Nat.le_of_ble_eq_true rfl) (Or.inl rfl) (fun Rt A hA hr => go hA (b_X2_settle_24 hA k h t M hkl (by omega) ⟨t0, t1, _, M, r0, ol_if.pos rfl ⟨h0, h1, ol_if.pos (by rw [(v2 h h0 c.1).1]; exact e1) ⟨t0, t1, ⟨by omega, by omega⟩, ol_if.neg (by omega) ⟨t0, t1, _, M', r, ol_if.neg (by decide) ⟨⟨by decide, by decide⟩, hr⟩⟩⟩⟩⟩)), fun j j0 j1 => ?_, f'⟩
        rw [x' j j0 j1]
        unfold rn_sp rn_tk
        by_cases q : 8 * h ≤ j ∧ j < 8 * h + 8
        · rw [ol_rg_in q.1 q.2, ol_rg_in q.1 q.2]
          by_cases z : j - 8 * h = 0 ∨ j - 8 * h = 4
          · rw [if_pos z, if_pos ⟨by decide, z⟩]
          · rw [if_neg z, if_neg (fun y => z y.2)]
        · rw [ol_rg_out q, ol_rg_out q]
      · rw [if_neg e, if_neg (fun q => q.2.2 rfl)]
        refine ⟨M, ol_Ri (q := q_X2_settle) (by decide +kernel) (Nat.le_of_ble_eq_true rfl) (Or.inl rfl) (fun Rt A hA hr => go hA (b_X2_settle_24 hA k h t M hkl (by omega) ⟨t0, t1, _, M, r0, ol_if.pos rfl ⟨h0, h1, ?_⟩⟩)), x, fk.rf⟩
        rw [(v2 h h0 c.1).1]
        refine ol_if.mk (fun e1 => ⟨t0, t1, ⟨by omega, by omega⟩, ol_if.mk (fun _ => hr) (fun e2 => ⟨t0, t1, _, M, g2 (fun q => e ⟨e1, a4.mp (by omega), (rn_lack_1 h0 h1 hb).mpr q⟩), ol_if.pos rfl hr⟩)⟩) (fun e1 => ⟨⟨by omega, by omega⟩, hr⟩)
  · rw [if_neg c, if_neg (fun q => c ⟨q.1, q.2.1⟩)]
    refine ⟨M, ol_Ri (q := q_X2_settle) (by decide +kernel) (Nat.le_of_ble_eq_true rfl) (Or.inl rfl) (fun Rt A hA hr => b_X2_settle_0 hA k h t M hkl (by omega) ?_), x, fk.rf⟩
    rw [v1, v3]
    exact ⟨⟨by omega, by omega⟩, ⟨by omega, by omega⟩, ol_if.mk (fun _ => hr) (fun d => ⟨⟨by omega, by omega⟩, ⟨by omega, by omega⟩, ol_if.neg (by omega) hr⟩)⟩
theorem x_lacking {n : Nat} {W M : ol_M} {st : Int → Int} {k h t : Int} (w : wk W) (v : xv W M) (hk : ks k) (h0 : 0 ≤ h) (h1 : h < 8) (t0 : 0 ≤ t) (t1 : t < W 3 0) (x : xs k st M) (hb : xb 1000 st) : ol_R (ol_lay n) 2 q_X2_lacking [.inr (.inr 50), .inr (.inr k), .inl h, .inl t] M (some (.inl (rn_lack W h t 0 st))) M := by
  have kg := hk.gt
  have hkl := @ks.lay n k hk
  have w2 := w.2.2.1
  refine ol_Ri (q := q_X2_lacking) (by decide +kernel) (Nat.le_of_ble_eq_true rfl) (Or.inl rfl) (fun Rt A hA hr => b_X2_lacking_0 hA k h t M hkl (by omega) ?_)
  show A 6 [some (.inr (.inr 50)), some (.inr (.inr k)), some (.inl h), some (.inl t), some (.inl (lk (W (30 + t)) (fun l => st (8 * h + l)) 0 (Int.toNat 0))), some (.inl 0)] [] M
  refine ol_loop (P := fun l => A 6 [some (.inr (.inr 50)), some (.inr (.inr k)), some (.inl h), some (.inl t), some (.inl (lk (W (30 + t)) (fun l => st (8 * h + l)) 0 l.toNat)), some (.inl l)] [] M) (a := 0) (b := 8) (by decide) (fun l l0 l1 hl => ?_) ?_
  · rw [show (l + 1).toNat = l.toNat + 1 by omega] at hl
    simp only [lk] at hl
    rw [Int.toNat_of_nonneg l0] at hl
    have a1 := w.2.2.2.1 t t0 t1 l l0 l1
    have a2 := hb (8 * h + l) (by omega) (by omega)
    refine b_X2_lacking_6 hA k h t _ l M hkl (by omega) ?_
    rw [Int.mul_comm h 8, x (8 * h + l) (by omega) (by omega), (v.2.2.2.1 t t0 t1).1 l l0 l1]
    refine ⟨⟨by omega, by omega⟩, ol_if.neg (by omega) ⟨t0, by omega, l0, l1, by omega, by omega, ⟨by omega, by omega⟩, ?_⟩⟩
    unfold ol_max
    by_cases c : 0 < W (30 + t) l - st (8 * h + l)
    · rw [if_pos ⟨c, fun q => q.1 rfl⟩] at hl
      rw [if_pos c]; exact hl
    · rw [if_neg (fun q => c q.1)] at hl
      rw [if_neg c]; exact hl
  · exact b_X2_lacking_6 hA k h t _ 8 M hkl (by omega) ⟨⟨by decide, by decide⟩, ol_if.pos (by decide) hr⟩
theorem x_allOf {n : Nat} {M : ol_M} {st : Int → Int} {k h : Int} (hk : ks k) (h0 : 0 ≤ h) (h1 : h < 8) (x : xs k st M) : ol_R (ol_lay n) 1 q_X2_allOf [.inr (.inr 50), .inr (.inr k), .inl h] M (some (.inl (rn_all st h))) M := by
  have kg := hk.gt
  have hkl := @ks.lay n k hk
  refine ol_Ri (q := q_X2_allOf) (by decide +kernel) (Nat.le_of_ble_eq_true rfl) (Or.inl rfl) (fun Rt A hA hr => ol_weak hA (ls0 := [none, some (.inr (.inr k)), some (.inl h), none, none]) ⟨rfl, rfl, trivial⟩ (b_X2_allOf_0 hA k h M hkl (by omega) ?_))
  show A 5 [none, some (.inr (.inr k)), some (.inl h), some (.inl (sm (fun l => st (8 * h + l)) (Int.toNat 0))), some (.inl 0)] [] M
  refine ol_loop (P := fun l => A 5 [none, some (.inr (.inr k)), some (.inl h), some (.inl (sm (fun l => st (8 * h + l)) l.toNat)), some (.inl l)] [] M) (a := 0) (b := 8) (by decide) (fun l l0 l1 hl => ?_) ?_
  · rw [show (l + 1).toNat = l.toNat + 1 by omega] at hl
    simp only [sm] at hl
    rw [Int.toNat_of_nonneg l0] at hl
    refine b_X2_allOf_5 hA k h _ l M hkl (by omega) ?_
    rw [Int.mul_comm h 8, x (8 * h + l) (by omega) (by omega)]
    exact ⟨⟨by omega, by omega⟩, ol_if.neg (by omega) ⟨by omega, by omega, hl⟩⟩
  · exact b_X2_allOf_5 hA k h _ 8 M hkl (by omega) ⟨⟨by decide, by decide⟩, ol_if.pos (by decide) hr⟩
theorem x_sumOf {n : Nat} {W M : ol_M} (w : wk W) (v : xv W M) {s l : Int} (rs : ol_r s) (l0 : 0 ≤ l) (l1 : l < 8) : ol_R (ol_lay n) 1 q_X5_sumOf [.inr (.inr 5), .inl s, .inl l] M (some (.inl (al W s l (W 3 0).toNat))) M := by
  have nr := w.2.2.1
  refine ol_Ri (q := q_X5_sumOf) (by decide +kernel) (Nat.le_of_ble_eq_true rfl) (Or.inl rfl) (fun Rt A hA hr => b_X5_sumOf_0 hA s l M ?_)
  show A 5 [some (.inr (.inr 5)), some (.inl s), some (.inl l), some (.inl (al W s l (Int.toNat 0))), some (.inl 0)] [] M
  refine ol_loop (P := fun t => A 5 [some (.inr (.inr 5)), some (.inl s), some (.inl l), some (.inl (al W s l t.toNat)), some (.inl t)] [] M) (a := 0) (b := W 3 0) nr.1 (fun t t0 t1 ht => ?_) ?_
  · rw [show (t + 1).toNat = t.toNat + 1 by omega] at ht
    simp only [al] at ht
    rw [Int.toNat_of_nonneg t0] at ht
    refine b_X5_sumOf_5 hA s l _ t M ?_
    rw [v.2.2.1, (v.2.2.2.1 t t0 t1).1 l l0 l1, ol_and1]
    refine ⟨⟨by omega, by omega⟩, ⟨by omega, by omega⟩, ol_if.neg (by omega) ⟨rs, t0, by omega, ol_if.mk (fun c => ?_) (fun c => ⟨⟨by omega, by omega⟩, t0, by omega, l0, l1, ?_⟩)⟩⟩
    · rw [if_neg (by omega), Int.add_zero] at ht; exact ht
    · rw [if_pos (by omega)] at ht; exact ht
  · refine b_X5_sumOf_5 hA s l _ (W 3 0) M ?_
    rw [v.2.2.1]
    exact ⟨⟨by omega, by omega⟩, ⟨by omega, by omega⟩, ol_if.pos (by omega) hr⟩
theorem x_canWriteAll {n : Nat} {W M : ol_M} {st : Int → Int} {k h s : Int} (w : wk W) (v : xv W M) (hk : ks k) (h0 : 0 ≤ h) (h1 : h < 8) (rs : ol_r s) (x : xs k st M) (hb : xb 1000 st) : ol_R (ol_lay n) 2 q_X2_canWriteAll [.inr (.inr 50), .inr (.inr k), .inl h, .inl s] M (some (.inl (ol_c (fits W st h s)))) M := by
  have kg := hk.gt
  have hkl := @ks.lay n k hk
  have nr := w.2.2.1
  refine ol_Ri (q := q_X2_canWriteAll) (by decide +kernel) (Nat.le_of_ble_eq_true rfl) (Or.inr ⟨rfl, ol_c01⟩) (fun Rt A hA hr => b_X2_canWriteAll_0 hA k h s M hkl (by omega) ?_)
  suffices key : (∀ l', 0 ≤ l' → l' < 0 → al W s l' (W 3 0).toNat ≤ st (8 * h + l')) → A 3 [some (.inr (.inr 50)), some (.inr (.inr k)), some (.inl h), some (.inl s), some (.inl 0)] [] M from key (fun l' a b => by omega)
  refine ol_loop (P := fun l => (∀ l', 0 ≤ l' → l' < l → al W s l' (W 3 0).toNat ≤ st (8 * h + l')) → A 3 [some (.inr (.inr 50)), some (.inr (.inr k)), some (.inl h), some (.inl s), some (.inl l)] [] M) (a := 0) (b := 8) (by decide) (fun l l0 l1 hl hf => ?_) (fun hf => ?_)
  · have ar := @al_r W w s l l0 l1 (W 3 0).toNat (by omega)
    have sb := hb (8 * h + l) (by omega) (by omega)
    refine b_X2_canWriteAll_3 hA k h s l M hkl (by omega) ⟨⟨by omega, by omega⟩, ol_if.neg (by omega) ⟨_, M, x_sumOf w v rs l0 l1, by omega, by omega, ⟨by omega, by omega⟩, ?_⟩⟩
    rw [Int.mul_comm h 8, x (8 * h + l) (by omega) (by omega)]
    refine ⟨⟨by omega, by omega⟩, ol_if.mk (fun d => hl (fun l' a b => ?_)) (fun d => ?_)⟩
    · by_cases e : l' = l
      · rw [e]; exact d
      · exact hf l' a (by omega)
    · rw [ol_c0 (fun q : fits W st h s => d (q l l0 l1))] at hr
      exact hr
  · rw [ol_c1 (show fits W st h s from hf)] at hr
    exact b_X2_canWriteAll_3 hA k h s 8 M hkl (by omega) ⟨⟨by decide, by decide⟩, ol_if.pos (by decide) hr⟩
theorem x_canBeCut {n : Nat} {W M : ol_M} (w : wk W) (v : xv W M) {t s : Int} (t0 : 0 ≤ t) (t1 : t < W 3 0) (rs : ol_r s) : ol_R (ol_lay n) 2 q_X5_canBeCutFrom [.inr (.inr 5), .inl t, .inl s] M (some (.inl (ol_c (gives W t s)))) M := by
  have nr := w.2.2.1
  refine ol_Ri (q := q_X5_canBeCutFrom) (by decide +kernel) (Nat.le_of_ble_eq_true rfl) (Or.inr ⟨rfl, ol_c01⟩) (fun Rt A hA hr => b_X5_canBeCutFrom_0 hA t s M ?_)
  suffices key : (∀ l', 0 ≤ l' → l' < 0 → W (30 + t) l' ≤ al W s l' (W 3 0).toNat) → A 2 [some (.inr (.inr 5)), some (.inl t), some (.inl s), some (.inl 0)] [] M from key (fun l' a b => by omega)
  refine ol_loop (P := fun l => (∀ l', 0 ≤ l' → l' < l → W (30 + t) l' ≤ al W s l' (W 3 0).toNat) → A 2 [some (.inr (.inr 5)), some (.inl t), some (.inl s), some (.inl l)] [] M) (a := 0) (b := 8) (by decide) (fun l l0 l1 hl hf => ?_) (fun hf => ?_)
  · have ar := @al_r W w s l l0 l1 (W 3 0).toNat (by omega)
    have sb := w.2.2.2.1 t t0 t1 l l0 l1
    refine b_X5_canBeCutFrom_2 hA t s l M ⟨⟨by omega, by omega⟩, ol_if.neg (by omega) ⟨_, M, x_sumOf w v rs l0 l1, t0, by omega, l0, l1, ⟨by omega, by omega⟩, ?_⟩⟩
    rw [(v.2.2.2.1 t t0 t1).1 l l0 l1]
    refine ⟨⟨by omega, by omega⟩, ol_if.mk (fun d => hl (fun l' a b => ?_)) (fun d => ?_)⟩
    · by_cases e : l' = l
      · rw [e]; exact d
      · exact hf l' a (by omega)
    · rw [ol_c0 (fun q : gives W t s => d (q l l0 l1))] at hr
      exact hr
  · rw [ol_c1 (show gives W t s from hf)] at hr
    exact b_X5_canBeCutFrom_2 hA t s 8 M ⟨⟨by decide, by decide⟩, ol_if.pos (by decide) hr⟩
