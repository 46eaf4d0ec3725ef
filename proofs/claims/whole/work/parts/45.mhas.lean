/-- a sum -/
def sm (f : Int → Int) : Nat → Int
  | 0 => 0
  | k + 1 => sm f k + f k
theorem sm_r {f : Int → Int} {B : Int} (B0 : 0 ≤ B) : ∀ (k : Nat), (∀ i : Int, 0 ≤ i → i < k → 0 ≤ f i ∧ f i ≤ B) → 0 ≤ sm f k ∧ sm f k ≤ k * B := by
  intro k
  induction k with
  | zero => intro _; show (0 : Int) ≤ 0 ∧ (0 : Int) ≤ 0 * B; omega
  | succ k ih =>
    intro h
    have i1 := ih (fun l a b => h l a (by omega))
    have i2 := h k (by omega) (by omega)
    have e : ((k + 1 : Nat) : Int) * B = k * B + B := by rw [show ((k + 1 : Nat) : Int) = k + 1 by omega, Int.add_mul, Int.one_mul]
    unfold sm
    rw [e]
    omega
def rn_all (st : Int → Int) (h : Int) : Int := sm (fun l => st (8 * h + l)) 8
noncomputable def rn_has (W : ol_M) (m h l : Int) : Int := if l = -1 then rn_all (rn_lv W (m + 1).toNat 0) h else rn_lv W (m + 1).toNat 0 (8 * h + l)
theorem rn_all_r {st : Int → Int} (hb : xb 1000 st) {h : Int} (h0 : 0 ≤ h) (h1 : h < 8) : 0 ≤ rn_all st h ∧ rn_all st h ≤ 8000 := @sm_r (fun l => st (8 * h + l)) 1000 (by decide) 8 (fun i i0 i1 => hb _ (by omega) (by omega))
theorem mz.fr {S M M' : ol_M} (h : mz S M) (f : fr_s M M') : mz S M' := by
  obtain ⟨⟨h1, h2, h3, h4, h5, h6, h7, h8⟩, h9, hA⟩ := h
  refine ⟨⟨h1.keep rfl rfl rfl rfl (f _ (by decide)) (f _ (by decide)), h2.keep rfl (f _ (by decide)), h3.keep rfl rfl rfl rfl (by rw [f _ (by decide)]) (f _ (by decide)), h4.keep rfl rfl rfl rfl rfl (by rw [f _ (by decide)]) (f _ (by decide)), h5.keep rfl rfl rfl rfl rfl (by rw [f _ (by decide)]) (f _ (by decide)), h6.keep rfl (by rw [f _ (by decide)]), by unfold im_g; rw [f _ (by decide)]; exact h7, ?_⟩, h9.fr f, ?_⟩
  · intro s s0 s1
    rw [f 133 (by decide), f 134 (by decide), f 135 (by decide)]
    exact h8 s s0 s1
  · intro t t0 t1
    have z := hA t t0 t1
    unfold m_tm at z ⊢
    rw [f 140 (by decide), f 141 (by decide), f 142 (by decide), f 143 (by decide)]
    exact z
theorem fr_s.fm {M M' : ol_M} (f : fr_s M M') : fm M M' := fun k q => f k (by omega)
theorem m_allOf {n : Nat} {W X M : ol_M} (x : mx W X M) {h : Int} (h0 : 0 ≤ h) (h1 : h < 8) : ol_R (ol_lay n) 1 q_X9_allOf [.inr (.inr 132), .inl h] M (some (.inl (rn_all (X 0) h))) M := by
  refine ol_Ri (q := q_X9_allOf) (by decide +kernel) (Nat.le_of_ble_eq_true rfl) (Or.inl rfl) (fun Rt A hA hr => b_X9_allOf_0 hA h M ?_)
  show A 4 [some (.inr (.inr 132)), some (.inl h), some (.inl (sm (fun l => X 0 (8 * h + l)) (Int.toNat 0))), some (.inl 0)] [] M
  refine ol_loop (P := fun l => A 4 [some (.inr (.inr 132)), some (.inl h), some (.inl (sm (fun l => X 0 (8 * h + l)) l.toNat)), some (.inl l)] [] M) (a := 0) (b := 8) (by decide) (fun l l0 l1 hl => ?_) ?_
  · rw [show (l + 1).toNat = l.toNat + 1 by omega] at hl
    simp only [sm] at hl
    rw [Int.toNat_of_nonneg l0] at hl
    refine b_X9_allOf_4 hA h _ l M ⟨⟨by omega, by omega⟩, ol_if.neg (by omega) ⟨by omega, by omega, ?_⟩⟩
    rw [x.1 _ (by omega) (by omega)]
    exact hl
  · exact b_X9_allOf_4 hA h _ 8 M ⟨⟨by decide, by decide⟩, ol_if.pos (by decide) hr⟩
theorem m_hasOf {n : Nat} {W M : ol_M} (w : wk W) (v : mv W M) {m h l : Int} (m0 : 0 ≤ m) (m1 : m < 12) (h0 : 0 ≤ h) (h1 : h < 8) (l0 : -1 ≤ l) (l1 : l < 8) : ∃ M', ol_R (ol_lay n) 5 q_X9_hasOf [.inr (.inr 132), .inl m, .inl h, .inl l] M (some (.inl (rn_has W m h l))) M' ∧ fr_s M M' := by
  obtain ⟨M1, r, x, f⟩ := @m_lives n W M w v m (by omega) m1
  refine ⟨M1, ol_Ri (q := q_X9_hasOf) (by decide +kernel) (Nat.le_of_ble_eq_true rfl) (Or.inl rfl) (fun Rt A hA hr => b_X9_hasOf_0 hA m h l M ⟨M1, r, ?_⟩), f⟩
  unfold rn_has at hr
  refine ol_if.mk (fun c => ?_) (fun c => ⟨⟨by omega, by omega⟩, by omega, by omega, ?_⟩)
  · rw [if_pos c] at hr
    exact ⟨_, M1, m_allOf x h0 h1, hr⟩
  · rw [if_neg c] at hr
    rw [x.1 _ (by omega) (by omega)]
    exact hr
noncomputable def sp_has (S : ol_M) (m h l : Int) : Int × ol_M := (if (0 ≤ m ∧ m ≤ 11) ∧ (0 ≤ h ∧ h < sp_nH S) ∧ (-1 ≤ l ∧ l ≤ 7) then rn_has (sp_W S) m h l else -2, S)
noncomputable def sp_became (S : ol_M) (k : Int) : Int × ol_M := (if 0 ≤ k ∧ k < S 0 2 then rn_lv (sp_W S) 12 1 k else -2, S)
noncomputable def sp_fines (S : ol_M) (h : Int) : Int × ol_M := (if 0 ≤ h ∧ h < sp_nH S then rn_lv (sp_W S) 12 3 h else -2, S)
noncomputable def sp_spent (S : ol_M) (l : Int) : Int × ol_M := (if 0 ≤ l ∧ l ≤ 7 then rn_lv (sp_W S) 12 4 l else -2, S)
theorem mz.nH {S M : ol_M} (z : mz S M) : M 132 7 = sp_nH S := z.2.1.1
theorem mz.nT {S M : ol_M} (z : mz S M) : M 132 9 = sp_nT S := z.2.1.2.2.1
theorem mz.nW {S M : ol_M} (z : mz S M) : M 132 15 = S 0 2 := z.1.2.2.1.1
theorem m_has {n : Nat} {S M : ol_M} (i : im S M) (hs : sp_ok S) {m h l : Int} (r1 : ol_r m) (r2 : ol_r h) (r3 : ol_r l) : m_ok n 6 q_X9_has [.inl m, .inl h, .inl l] S M (sp_has S m h l) := by
  obtain ⟨M1, r, z, f⟩ := @m_find n S M i hs
  have nr := sp_nH_r hs.1
  have e7 := z.nH
  unfold sp_has
  apply m_ok.of
  by_cases c : (0 ≤ m ∧ m ≤ 11) ∧ (0 ≤ h ∧ h < sp_nH S) ∧ (-1 ≤ l ∧ l ≤ 7)
  · rw [if_pos c]
    obtain ⟨M2, q, g⟩ := @m_hasOf n _ M1 (sp_W_k hs) z.2.1 m h l c.1.1 (by omega) c.2.1.1 (by omega) c.2.2.1 (by omega)
    refine ⟨M2, ol_Ri (q := q_X9_has) (by decide +kernel) (Nat.le_of_ble_eq_true rfl) (Or.inl rfl) (fun Rt A hA hr => b_X9_has_0 hA m h l M ⟨M1, r, ?_⟩), (z.fr g).1, f.tr g.fm⟩
    rw [e7]
    exact ⟨r1, ol_if.pos c.1 ⟨r2, ⟨by omega, by omega⟩, ol_if.pos c.2.1 ⟨r3, ol_r_l r3, ol_if.pos c.2.2 ⟨_, M2, q, hr⟩⟩⟩⟩
  · rw [if_neg c]
    refine ⟨M1, ol_Ri (q := q_X9_has) (by decide +kernel) (Nat.le_of_ble_eq_true rfl) (Or.inl rfl) (fun Rt A hA hr => b_X9_has_0 hA m h l M ⟨M1, r, ?_⟩), z.1, f⟩
    rw [e7]
    exact ⟨r1, ol_if.mk (fun d1 => ⟨r2, ⟨by omega, by omega⟩, ol_if.mk (fun d2 => ⟨r3, ol_r_l r3, ol_if.neg (fun d3 => c ⟨d1, d2, d3⟩) hr⟩) (fun _ => hr)⟩) (fun _ => hr)⟩
theorem m_became {n : Nat} {S M : ol_M} (i : im S M) (hs : sp_ok S) {k : Int} (r1 : ol_r k) : m_ok n 6 q_X9_became [.inl k] S M (sp_became S k) := by
  obtain ⟨M1, r, z, f⟩ := @m_find n S M i hs
  have nr := hs.w.1
  have e := z.nW
  unfold sp_became
  apply m_ok.of
  by_cases c : 0 ≤ k ∧ k < S 0 2
  · rw [if_pos c]
    obtain ⟨M2, q, x, g⟩ := @m_lives n _ M1 (sp_W_k hs) z.2.1 11 (by decide) (by decide)
    refine ⟨M2, ol_Ri (q := q_X9_became) (by decide +kernel) (Nat.le_of_ble_eq_true rfl) (Or.inl rfl) (fun Rt A hA hr => b_X9_became_0 hA k M ⟨M1, r, ?_⟩), (z.fr g).1, f.tr g.fm⟩
    rw [e]
    refine ⟨r1, ⟨by omega, by omega⟩, ol_r_l r1, ol_r_l ⟨by omega, by omega⟩, ol_if.pos ⟨c.1, by omega⟩ ⟨_, M2, ol_Ri (q := q_X9_becameOf) (by decide +kernel) (Nat.le_of_ble_eq_true rfl) (Or.inl rfl) (fun Rt A hA hr => b_X9_becameOf_0 hA k M1 ⟨M2, q, by omega, by omega, ?_⟩), hr⟩⟩
    rw [(x.2.1 k c.1 c.2).1]
    exact hr
  · rw [if_neg c]
    refine ⟨M1, ol_Ri (q := q_X9_became) (by decide +kernel) (Nat.le_of_ble_eq_true rfl) (Or.inl rfl) (fun Rt A hA hr => b_X9_became_0 hA k M ⟨M1, r, ?_⟩), z.1, f⟩
    rw [e]
    exact ⟨r1, ⟨by omega, by omega⟩, ol_r_l r1, ol_r_l ⟨by omega, by omega⟩, ol_if.neg (by omega) hr⟩
theorem m_finesOf {n : Nat} {W M : ol_M} (w : wk W) (v : mv W M) {h : Int} (h0 : 0 ≤ h) (h1 : h < 8) : ∃ M', ol_R (ol_lay n) 5 q_X9_finesOf [.inr (.inr 132), .inl h] M (some (.inl (rn_lv W 12 3 h))) M' ∧ fr_s M M' := by
  obtain ⟨M2, q, x, g⟩ := @m_lives n _ M w v 11 (by decide) (by decide)
  refine ⟨M2, ol_Ri (q := q_X9_finesOf) (by decide +kernel) (Nat.le_of_ble_eq_true rfl) (Or.inl rfl) (fun Rt A hA hr => b_X9_finesOf_0 hA h M ⟨M2, q, by omega, by omega, ?_⟩), g⟩
  rw [(x.2.2 h h0 h1).1]
  exact hr
theorem m_fines {n : Nat} {S M : ol_M} (i : im S M) (hs : sp_ok S) {h : Int} (r1 : ol_r h) : m_ok n 6 q_X9_fines [.inl h] S M (sp_fines S h) := by
  obtain ⟨M1, r, z, f⟩ := @m_find n S M i hs
  have nr := sp_nH_r hs.1
  have e7 := z.nH
  unfold sp_fines
  apply m_ok.of
  by_cases c : 0 ≤ h ∧ h < sp_nH S
  · rw [if_pos c]
    obtain ⟨M2, q, g⟩ := @m_finesOf n _ M1 (sp_W_k hs) z.2.1 h c.1 (by omega)
    refine ⟨M2, ol_Ri (q := q_X9_fines) (by decide +kernel) (Nat.le_of_ble_eq_true rfl) (Or.inl rfl) (fun Rt A hA hr => b_X9_fines_0 hA h M ⟨M1, r, ?_⟩), (z.fr g).1, f.tr g.fm⟩
    rw [e7]
    exact ⟨r1, ⟨by omega, by omega⟩, ol_if.pos c ⟨_, M2, q, hr⟩⟩
  · rw [if_neg c]
    refine ⟨M1, ol_Ri (q := q_X9_fines) (by decide +kernel) (Nat.le_of_ble_eq_true rfl) (Or.inl rfl) (fun Rt A hA hr => b_X9_fines_0 hA h M ⟨M1, r, ?_⟩), z.1, f⟩
    rw [e7]
    exact ⟨r1, ⟨by omega, by omega⟩, ol_if.neg c hr⟩
theorem m_spent {n : Nat} {S M : ol_M} (i : im S M) (hs : sp_ok S) {l : Int} (r1 : ol_r l) : m_ok n 6 q_X9_spent [.inl l] S M (sp_spent S l) := by
  obtain ⟨M1, r, z, f⟩ := @m_find n S M i hs
  unfold sp_spent
  apply m_ok.of
  by_cases c : 0 ≤ l ∧ l ≤ 7
  · rw [if_pos c]
    obtain ⟨M2, q, x, g⟩ := @m_lives n _ M1 (sp_W_k hs) z.2.1 11 (by decide) (by decide)
    refine ⟨M2, ol_Ri (q := q_X9_spent) (by decide +kernel) (Nat.le_of_ble_eq_true rfl) (Or.inl rfl) (fun Rt A hA hr => b_X9_spent_0 hA l M ⟨M1, r, r1, ol_if.pos c ⟨_, M2, ol_Ri (q := q_X9_spentOf) (by decide +kernel) (Nat.le_of_ble_eq_true rfl) (Or.inl rfl) (fun Rt A hA hr => b_X9_spentOf_0 hA l M1 ⟨M2, q, by omega, by omega, ?_⟩), hr⟩⟩), (z.fr g).1, f.tr g.fm⟩
    rw [(x.2.2 l c.1 (by omega)).2]
    exact hr
  · rw [if_neg c]
    exact ⟨M1, ol_Ri (q := q_X9_spent) (by decide +kernel) (Nat.le_of_ble_eq_true rfl) (Or.inl rfl) (fun Rt A hA hr => b_X9_spent_0 hA l M ⟨M1, r, r1, ol_if.neg c hr⟩), z.1, f⟩
/-! the first house that is bare -/
def br_h (f : Int → Int) (n : Int) : Nat → Int → Int
  | 0, _ => -1
  | u + 1, h => if n ≤ h then -1 else if f h = 0 then h else br_h f n u (h + 1)
noncomputable def br_m (W : ol_M) (what : Int) : Nat → Int → Int
  | 0, _ => -1
  | u + 1, m => if br_h (rn_all (rn_lv W (m + 1).toNat 0)) (W 0 0) 8 0 = -1 then br_m W what u (m + 1) else if what = 0 then m else br_h (rn_all (rn_lv W (m + 1).toNat 0)) (W 0 0) 8 0
noncomputable def sp_bare (S : ol_M) (what : Int) : Int × ol_M := (if 0 ≤ what ∧ what ≤ 1 then br_m (sp_W S) what 12 0 else -2, S)
theorem m_br_h {n : Nat} {W X M E : ol_M} {what m : Int} (w : wk W) (v : mv W M) (x : mx W X M) (hb : xb 1000 (X 0)) (rw : ol_r what) (r : Int) : ∀ (u : Nat) (h : Int), 0 ≤ h → h + u = 8 → (if br_h (rn_all (X 0)) (W 0 0) u h = -1 then (ol_T n q_X9_bareOf 4 2 [some (.inr (.inr 132)), some (.inl what), some (.inl (m + 1)), none] [] M (some (.inl r)) E) else r = (if what = 0 then m else br_h (rn_all (X 0)) (W 0 0) u h) ∧ E = M) → ol_T n q_X9_bareOf 4 15 [some (.inr (.inr 132)), some (.inl what), some (.inl m), some (.inl h)] [] M (some (.inl r)) E := by
  have e7 : M 132 7 = W 0 0 := v.1
  have w0 := w.1
  intro u
  induction u with
  | zero =>
    intro h h0 hu t Rt A hA hr
    refine b_X9_bareOf_15 hA what m h M ?_
    rw [e7]
    exact ⟨⟨by omega, by omega⟩, ⟨by omega, by omega⟩, ol_if.pos (by omega) (t Rt A hA hr)⟩
  | succ u ih =>
    intro h h0 hu t Rt A hA hr
    refine b_X9_bareOf_15 hA what m h M ?_
    rw [e7]
    unfold br_h at t
    refine ⟨⟨by omega, by omega⟩, ⟨by omega, by omega⟩, ol_if.mk (fun c => ?_) (fun c => ⟨_, M, m_allOf x h0 (by omega), ?_⟩)⟩
    · rw [if_pos c, if_pos rfl] at t
      exact t Rt A hA hr
    · rw [if_neg c] at t
      refine ol_if.mk (fun d => ?_) (fun d => ⟨?_, ?_⟩)
      · rw [if_pos d, if_neg (by omega)] at t
        obtain ⟨t1, t2⟩ := t
        rw [t1, t2] at hr
        refine ol_if.mk (fun e => ?_) (fun e => ⟨rw, ?_⟩)
        · rw [if_pos e] at hr; exact hr
        · rw [if_neg e] at hr; exact hr
      · have := rn_all_r hb h0 (by omega)
        exact ⟨by omega, by omega⟩
      · rw [if_neg d] at t
        exact ih (h + 1) (by omega) (by omega) t Rt A hA hr
theorem m_bareOf {n : Nat} {W M : ol_M} (w : wk W) {what : Int} (rw : ol_r what) : ∀ (u : Nat) (m : Int) (M1 : ol_M), 0 ≤ m → m + u = 12 → mv W M1 → fr_s M M1 → ∃ M', ol_T n q_X9_bareOf 4 2 [some (.inr (.inr 132)), some (.inl what), some (.inl m), none] [] M1 (some (.inl (br_m W what u m))) M' ∧ fr_s M M' := by
  intro u
  induction u with
  | zero =>
    intro m M1 m0 hu v f
    exact ⟨M1, fun Rt A hA hr => b_X9_bareOf_2 hA what m M1 ⟨⟨by omega, by omega⟩, ol_if.pos (by omega) hr⟩, f⟩
  | succ u ih =>
    intro m M1 m0 hu v f
    obtain ⟨M2, q, x, g⟩ := @m_lives n _ M1 w v m (by omega) (by omega)
    have hb := (rn_lv_b w (m + 1).toNat).1.up (show (589 : Int) ≤ 1000 by decide)
    unfold br_m
    by_cases c : br_h (rn_all (rn_lv W (m + 1).toNat 0)) (W 0 0) 8 0 = -1
    · rw [if_pos c]
      obtain ⟨M3, t, g3⟩ := ih (m + 1) M2 (by omega) (by omega) (v.fr g) (f.tr g)
      refine ⟨M3, fun Rt A hA hr => b_X9_bareOf_2 hA what m M1 ⟨⟨by omega, by omega⟩, ol_if.neg (by omega) ⟨M2, q, m_br_h w (v.fr g) x hb rw _ 8 0 (by decide) (by decide) ?_ Rt A hA hr⟩⟩, g3⟩
      rw [if_pos c]
      exact t
    · rw [if_neg c]
      refine ⟨M2, fun Rt A hA hr => b_X9_bareOf_2 hA what m M1 ⟨⟨by omega, by omega⟩, ol_if.neg (by omega) ⟨M2, q, m_br_h w (v.fr g) x hb rw _ 8 0 (by decide) (by decide) ?_ Rt A hA hr⟩⟩, f.tr g⟩
      rw [if_neg c]
      exact ⟨rfl, rfl⟩
theorem m_bare {n : Nat} {S M : ol_M} (i : im S M) (hs : sp_ok S) {what : Int} (r1 : ol_r what) : m_ok n 6 q_X9_bare [.inl what] S M (sp_bare S what) := by
  obtain ⟨M1, r, z, f⟩ := @m_find n S M i hs
  unfold sp_bare
  apply m_ok.of
  by_cases c : 0 ≤ what ∧ what ≤ 1
  · rw [if_pos c]
    obtain ⟨M2, t, g⟩ := @m_bareOf n _ M1 (sp_W_k hs) what r1 12 0 M1 (by decide) (by decide) z.2.1 fr_s.rf
    exact ⟨M2, ol_Ri (q := q_X9_bare) (by decide +kernel) (Nat.le_of_ble_eq_true rfl) (Or.inl rfl) (fun Rt A hA hr => b_X9_bare_0 hA what M ⟨M1, r, r1, ol_if.pos c ⟨_, M2, ol_Ri (q := q_X9_bareOf) (by decide +kernel) (Nat.le_of_ble_eq_true rfl) (Or.inl rfl) (fun Rt A hA hr => b_X9_bareOf_0 hA what M1 (t Rt A hA hr)), hr⟩⟩), (z.fr g).1, f.tr g.fm⟩
  · rw [if_neg c]
    exact ⟨M1, ol_Ri (q := q_X9_bare) (by decide +kernel) (Nat.le_of_ble_eq_true rfl) (Or.inl rfl) (fun Rt A hA hr => b_X9_bare_0 hA what M ⟨M1, r, r1, ol_if.neg c hr⟩), z.1, f⟩
