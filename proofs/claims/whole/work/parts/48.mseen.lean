/-- the truth of anything -/
noncomputable def ol_c (P : Prop) : Int := @ite Int P (Classical.propDecidable P) 1 0
theorem ol_c1 {P : Prop} (h : P) : ol_c P = 1 := if_pos h
theorem ol_c0 {P : Prop} (h : ¬ P) : ol_c P = 0 := if_neg h
theorem ol_c01 {P : Prop} : ol_c P = 0 ∨ ol_c P = 1 := by
  by_cases h : P
  · exact Or.inr (ol_c1 h)
  · exact Or.inl (ol_c0 h)
theorem ol_ms_ms (M : ol_M) (k i v v' : Int) : ol_ms (ol_ms M k i v) k i v' = ol_ms M k i v' := by
  funext c
  by_cases q : c = k
  · subst q
    rw [ol_ms_row, ol_ms_row, ol_ms_row]
    funext j
    by_cases p : j = i
    · subst p; rw [ol_rsA, ol_rsA]
    · rw [ol_rsN _ _ p, ol_rsN _ _ p, ol_rsN _ _ p]
  · rw [ol_ms_ne _ _ _ q, ol_ms_ne _ _ _ q, ol_ms_ne _ _ _ q]
/-- one item that was changed for a while is put back -/
theorem gx {N M2 : ol_M} {c i s : Int} (hc : ¬ (147 ≤ c ∧ c ≤ 151)) (f : fr_s (ol_ms N c i s) M2) : fr_s N (ol_ms M2 c i (N c i)) ∧ M2 = ol_ms (ol_ms M2 c i (N c i)) c i s := by
  have e : M2 c = ol_rs (N c) i s := (f c hc).trans (ol_ms_row _ _ _ _)
  refine ⟨fun d hd => ?_, ?_⟩
  · by_cases q : d = c
    · subst q
      rw [ol_ms_row, e]
      funext j
      by_cases p : j = i
      · subst p; rw [ol_rsA]
      · rw [ol_rsN _ _ p, ol_rsN _ _ p]
    · rw [ol_ms_ne _ _ _ q, f d hd, ol_ms_ne _ _ _ q]
  · rw [ol_ms_ms]
    have : M2 c i = s := by rw [e, ol_rsA]
    rw [← this, ol_ms_self]
theorem wk.gone {W : ol_M} (w : wk W) (g : Int → Int) : wk (ol_mp W 14 g) := by
  have e : ∀ c : Int, c ≠ 14 → ol_mp W 14 g c = W c := fun c q => ol_mp_ne _ _ q
  unfold wk
  rw [e 0 (by decide), e 1 (by decide), e 2 (by decide), e 3 (by decide), e 4 (by decide), e 5 (by decide), e 6 (by decide), e 7 (by decide), e 8 (by decide), e 9 (by decide), e 10 (by decide), e 11 (by decide), e 12 (by decide), e 13 (by decide)]
  obtain ⟨w0, w1, w2, w3, w4⟩ := w
  refine ⟨w0, w1, w2, fun t t0 t1 l l0 l1 => ?_, w4⟩
  rw [e (30 + t) (by omega)]
  exact w3 t t0 t1 l l0 l1
theorem mv.gone {W M : ol_M} (v : mv W M) {s : Int} {g : Int → Int} (rs : ol_r s) (hg : ∀ k, 0 ≤ k → k < W 10 0 → (s / 2 ^ k.toNat % 2 = 1 ↔ g k = 1)) : mv (ol_mp W 14 g) (ol_ms M 132 24 s) := by
  have e : ∀ c : Int, c ≠ 14 → ol_mp W 14 g c = W c := fun c q => ol_mp_ne _ _ q
  have n : ∀ c : Int, c ≠ 132 → ol_ms M 132 24 s c = M c := fun c q => ol_ms_ne _ _ _ q
  have p : ∀ j : Int, j ≠ 24 → ol_ms M 132 24 s 132 j = M 132 j := fun j q => ol_ms_i _ _ _ q
  obtain ⟨v1, v2, v3, v4, v5, v6, v7, v8, v9, v10⟩ := v
  unfold mv
  rw [e 0 (by decide), e 1 (by decide), e 2 (by decide), e 3 (by decide), e 4 (by decide), e 5 (by decide), e 6 (by decide), e 7 (by decide), e 8 (by decide), e 9 (by decide), e 10 (by decide), e 11 (by decide), e 12 (by decide), e 13 (by decide), n 139 (by decide), n 143 (by decide), n 144 (by decide), n 145 (by decide), n 146 (by decide), p 7 (by decide), p 9 (by decide), p 25 (by decide), p 15 (by decide), ol_msA, ol_mp_same]
  refine ⟨v1, v2, v3, fun t t0 t1 l l0 l1 => ?_, v5, v6, v7, v8, v9, rs, hg⟩
  rw [e (30 + t) (by omega)]
  exact v4 t t0 t1 l l0 l1
theorem wk.rat {W : ol_M} (w : wk W) {l v : Int} (h : 0 ≤ v ∧ v ≤ 9) : wk (ol_mp W 4 (ol_rs (W 4) l v)) := by
  have e : ∀ c : Int, c ≠ 4 → ol_mp W 4 (ol_rs (W 4) l v) c = W c := fun c q => ol_mp_ne _ _ q
  unfold wk
  rw [e 0 (by decide), e 1 (by decide), e 2 (by decide), e 3 (by decide), ol_mp_same, e 5 (by decide), e 6 (by decide), e 7 (by decide), e 8 (by decide), e 9 (by decide), e 10 (by decide), e 11 (by decide), e 12 (by decide), e 13 (by decide)]
  obtain ⟨w0, w1, w2, w3, w4, w5⟩ := w
  refine ⟨w0, w1, w2, fun t t0 t1 l l0 l1 => ?_, fun j j0 j1 => ?_, w5⟩
  · rw [e (30 + t) (by omega)]
    exact w3 t t0 t1 l l0 l1
  · by_cases q : j = l
    · rw [q, ol_rsA]; exact h
    · rw [ol_rsN _ _ q]; exact w4 j j0 j1
theorem mv.rat {W M : ol_M} (v : mv W M) {l x : Int} : mv (ol_mp W 4 (ol_rs (W 4) l x)) (ol_ms M 144 l x) := by
  have e : ∀ c : Int, c ≠ 4 → ol_mp W 4 (ol_rs (W 4) l x) c = W c := fun c q => ol_mp_ne _ _ q
  have n : ∀ c : Int, c ≠ 144 → ol_ms M 144 l x c = M c := fun c q => ol_ms_ne _ _ _ q
  obtain ⟨v1, v2, v3, v4, v5, v6⟩ := v
  unfold mv
  rw [e 0 (by decide), e 1 (by decide), e 2 (by decide), e 3 (by decide), ol_mp_same, e 5 (by decide), e 6 (by decide), e 7 (by decide), e 8 (by decide), e 9 (by decide), e 10 (by decide), e 11 (by decide), e 12 (by decide), e 13 (by decide), e 14 (by decide), n 139 (by decide), n 143 (by decide), n 132 (by decide), n 145 (by decide), n 146 (by decide), ol_ms_row]
  refine ⟨v1, v2, v3, fun t t0 t1 l l0 l1 => ?_, fun j j0 j1 => ?_, v6⟩
  · rw [e (30 + t) (by omega)]
    exact v4 t t0 t1 l l0 l1
  · by_cases q : j = l
    · rw [q, ol_rsA, ol_rsA]
    · rw [ol_rsN _ _ q, ol_rsN _ _ q]; exact v5 j j0 j1
theorem wk.nol {W : ol_M} (w : wk W) : wk (ol_mp W 5 (fun _ => 0)) := by
  have e : ∀ c : Int, c ≠ 5 → ol_mp W 5 (fun _ => 0) c = W c := fun c q => ol_mp_ne _ _ q
  unfold wk
  rw [e 0 (by decide), e 1 (by decide), e 2 (by decide), e 3 (by decide), e 4 (by decide), ol_mp_same, e 6 (by decide), e 7 (by decide), e 8 (by decide), e 9 (by decide), e 10 (by decide), e 11 (by decide), e 12 (by decide), e 13 (by decide)]
  obtain ⟨w0, w1, w2, w3, w4, w5, w6, w7⟩ := w
  refine ⟨w0, w1, w2, fun t t0 t1 l l0 l1 => ?_, w4, ⟨by decide, by decide⟩, fun k k0 k1 => by omega, w7⟩
  rw [e (30 + t) (by omega)]
  exact w3 t t0 t1 l l0 l1
theorem mv.nol {W M : ol_M} (v : mv W M) : mv (ol_mp W 5 (fun _ => 0)) (ol_ms M 132 25 0) := by
  have e : ∀ c : Int, c ≠ 5 → ol_mp W 5 (fun _ => 0) c = W c := fun c q => ol_mp_ne _ _ q
  have n : ∀ c : Int, c ≠ 132 → ol_ms M 132 25 0 c = M c := fun c q => ol_ms_ne _ _ _ q
  have p : ∀ j : Int, j ≠ 25 → ol_ms M 132 25 0 132 j = M 132 j := fun j q => ol_ms_i _ _ _ q
  obtain ⟨v1, v2, v3, v4, v5, v6, v7, v8⟩ := v
  unfold mv
  rw [e 0 (by decide), e 1 (by decide), e 2 (by decide), e 3 (by decide), e 4 (by decide), ol_mp_same, e 6 (by decide), e 7 (by decide), e 8 (by decide), e 9 (by decide), e 10 (by decide), e 11 (by decide), e 12 (by decide), e 13 (by decide), e 14 (by decide), n 139 (by decide), n 143 (by decide), n 144 (by decide), n 145 (by decide), n 146 (by decide), p 7 (by decide), p 9 (by decide), ol_msA, p 15 (by decide), p 24 (by decide)]
  refine ⟨v1, v2, v3, fun t t0 t1 l l0 l1 => ?_, v5, rfl, fun k k0 k1 => by omega, v8⟩
  rw [e (30 + t) (by omega)]
  exact v4 t t0 t1 l l0 l1
/-! lend -/
noncomputable def sp_lend (S : ol_M) (k : Int) : Int × ol_M := (if 0 ≤ k ∧ k < S 0 2 then rn_lv (ol_mp (sp_W S) 5 (fun _ => 0)) 12 2 k else -2, S)
theorem m_lend {n : Nat} {S M : ol_M} (i : im S M) (hs : sp_ok S) {k : Int} (r1 : ol_r k) : m_ok n 6 q_X9_lend [.inl k] S M (sp_lend S k) := by
  obtain ⟨M1, r, z, f⟩ := @m_find n S M i hs
  have nr := hs.w.1
  have e := z.nW
  unfold sp_lend
  apply m_ok.of
  by_cases c : 0 ≤ k ∧ k < S 0 2
  · rw [if_pos c]
    obtain ⟨M2, q, x, g⟩ := @m_lives n _ _ (sp_W_k hs).nol z.2.1.nol 11 (by decide) (by decide)
    have e17 : M2 132 17 = M1 132 25 := by
      rw [g 132 (by decide), ol_ms_i _ _ _ (by decide)]
      exact z.1.2.2.2.1.1.trans z.2.1.2.2.2.2.2.1.symm
    obtain ⟨g1, -⟩ := gx (by decide) g
    refine ⟨ol_ms M2 132 25 (M1 132 25), ol_Ri (q := q_X9_lend) (by decide +kernel) (Nat.le_of_ble_eq_true rfl) (Or.inl rfl) (fun Rt A hA hr => b_X9_lend_0 hA k M ⟨M1, r, ?_⟩), (z.fr g1).1, f.tr g1.fm⟩
    rw [e]
    refine ⟨r1, ⟨by omega, by omega⟩, ol_r_l r1, ol_r_l ⟨by omega, by omega⟩, ol_if.pos ⟨c.1, by omega⟩ ⟨_, _, ol_Ri (q := q_X9_lendOf) (by decide +kernel) (Nat.le_of_ble_eq_true rfl) (Or.inl rfl) (fun Rt A hA hr => b_X9_lendOf_0 hA k M1 ⟨M2, q, by omega, by omega, ?_⟩), hr⟩⟩
    rw [(x.2.1 k c.1 (by rw [ol_mp_ne _ _ (by decide)]; exact c.2)).2, e17]
    exact hr
  · rw [if_neg c]
    refine ⟨M1, ol_Ri (q := q_X9_lend) (by decide +kernel) (Nat.le_of_ble_eq_true rfl) (Or.inl rfl) (fun Rt A hA hr => b_X9_lend_0 hA k M ⟨M1, r, ?_⟩), z.1, f⟩
    rw [e]
    exact ⟨r1, ⟨by omega, by omega⟩, ol_r_l r1, ol_r_l ⟨by omega, by omega⟩, ol_if.neg (by omega) hr⟩
/-! what was seen -/
def sn1 (S W : ol_M) (k : Int) : Prop := S 12 k < W 0 0 ∧ rn_has W (S 11 k) (S 12 k) (S 13 k) = S 14 k
def sn (S W : ol_M) : Prop := ∀ k, 0 ≤ k → k < S 0 4 → sn1 S W k
theorem im_s.fr {S M M' : ol_M} (h : im_s S M) (f : fr_s M M') : im_s S M' := h.keep rfl rfl rfl rfl rfl (by rw [f _ (by decide)]) (f _ (by decide))
theorem rn_has_r {W : ol_M} (w : wk W) {m h l : Int} (h0 : 0 ≤ h) (h1 : h < 8) (l0 : -1 ≤ l) (l1 : l < 8) : 0 ≤ rn_has W m h l ∧ rn_has W m h l ≤ 8000 := by
  have hb := (rn_lv_b w (m + 1).toNat).1.up (show (589 : Int) ≤ 1000 by decide)
  unfold rn_has
  split
  · exact rn_all_r hb h0 h1
  · have := hb (8 * h + l) (by omega) (by omega)
    omega
theorem m_isSeen {n : Nat} {S W M : ol_M} (w : wk W) (v : mv W M) (i : im_s S M) (hs : sp_ok_s S) : ∃ M', ol_R (ol_lay n) 6 q_X9_isSeen [.inr (.inr 132)] M (some (.inl (ol_c (sn S W)))) M' ∧ fr_s M M' := by
  have w0 := w.1
  have hs8 := hs.1
  have key : ∀ M1, fr_s M M1 → (∀ j, 0 ≤ j → j < 0 → sn1 S W j) → ∃ M', ol_T n q_X9_isSeen 5 4 [some (.inr (.inr 132)), some (.inl 1), some (.inl 0), none] [] M1 (some (.inl (ol_c (sn S W)))) M' ∧ fr_s M M' := by
    refine ol_loop (P := fun k => ∀ M1, fr_s M M1 → (∀ j, 0 ≤ j → j < k → sn1 S W j) → ∃ M', ol_T n q_X9_isSeen 5 4 [some (.inr (.inr 132)), some (.inl 1), some (.inl k), none] [] M1 (some (.inl (ol_c (sn S W)))) M' ∧ fr_s M M') (a := 0) (b := S 0 4) hs.1.1 (fun k k0 k1 hk M1 f hj => ?_) (fun M1 f hj => ?_)
    · have v1 := v.fr f
      have i1 := i.fr f
      have e26 : M1 132 26 = S 0 4 := i1.1
      have e7 : M1 132 7 = W 0 0 := v1.1
      obtain ⟨a1, a2, a3, a4⟩ := i1.2 k k0 k1
      obtain ⟨b1, b2, b3, b4⟩ := hs.2 k k0 k1
      have fail : ∀ M2, fr_s M M2 → ¬ sn1 S W k → ol_T n q_X9_isSeen 5 4 [some (.inr (.inr 132)), some (.inl 0), some (.inl (k + 1)), none] [] M2 (some (.inl (ol_c (sn S W)))) M2 := fun M2 f2 c Rt A hA hr => by
        rw [ol_c0 (fun q : sn S W => c (q k k0 k1))] at hr
        have e : M2 132 26 = S 0 4 := (i.fr f2).1
        refine b_X9_isSeen_4 hA 0 (k + 1) M2 ?_
        rw [e]
        exact ⟨⟨by omega, by omega⟩, ⟨by omega, by omega⟩, ol_if.mk (fun _ => hr) (fun _ => ol_if.pos rfl hr)⟩
      by_cases c : S 12 k < W 0 0
      · obtain ⟨M2, q, g⟩ := @m_hasOf n W M1 w v1 (S 11 k) (S 12 k) (S 13 k) b1.1 (by omega) b2.1 (by omega) (by omega) (by omega)
        have hr2 := @rn_has_r W w (S 11 k) (S 12 k) (S 13 k) b2.1 (by omega) (by omega) (by omega)
        have e152 : M2 152 (4 * k + 3) = S 14 k := by rw [g 152 (by decide)]; exact a4
        by_cases d : rn_has W (S 11 k) (S 12 k) (S 13 k) = S 14 k
        · obtain ⟨M', t, g'⟩ := hk M2 (f.tr g) (fun j j0 j1 => by
            by_cases p : j = k
            · rw [p]; exact ⟨c, d⟩
            · exact hj j j0 (by omega))
          refine ⟨M', fun Rt A hA hr => b_X9_isSeen_4 hA 1 k M1 ?_, g'⟩
          rw [e26, e7, a1, a2, a3]
          refine ⟨⟨by omega, by omega⟩, ⟨by omega, by omega⟩, ol_if.neg (by omega) (ol_if.neg (by decide) ⟨⟨by decide, by decide⟩, by omega, by omega, ⟨by omega, by omega⟩, ⟨by omega, by omega⟩, ol_if.pos ⟨b2.1, c⟩ ⟨by omega, by omega, by omega, by omega, _, M2, q, by omega, by omega, ?_⟩⟩)⟩
          rw [e152]
          exact ol_if.pos d (t Rt A hA hr)
        · refine ⟨M2, fun Rt A hA hr => b_X9_isSeen_4 hA 1 k M1 ?_, f.tr g⟩
          rw [e26, e7, a1, a2, a3]
          refine ⟨⟨by omega, by omega⟩, ⟨by omega, by omega⟩, ol_if.neg (by omega) (ol_if.neg (by decide) ⟨⟨by decide, by decide⟩, by omega, by omega, ⟨by omega, by omega⟩, ⟨by omega, by omega⟩, ol_if.pos ⟨b2.1, c⟩ ⟨by omega, by omega, by omega, by omega, _, M2, q, by omega, by omega, ?_⟩⟩)⟩
          rw [e152]
          exact ol_if.neg d ⟨⟨by omega, by omega⟩, ⟨by omega, by omega⟩, fail M2 (f.tr g) (fun z => d z.2) Rt A hA hr⟩
      · refine ⟨M1, fun Rt A hA hr => b_X9_isSeen_4 hA 1 k M1 ?_, f⟩
        rw [e26, e7, a1, a2, a3]
        exact ⟨⟨by omega, by omega⟩, ⟨by omega, by omega⟩, ol_if.neg (by omega) (ol_if.neg (by decide) ⟨⟨by decide, by decide⟩, by omega, by omega, ⟨by omega, by omega⟩, ⟨by omega, by omega⟩, ol_if.neg (fun z => c z.2) (fail M1 f (fun z => c z.1) Rt A hA hr)⟩)⟩
    · have e26 : M1 132 26 = S 0 4 := (i.fr f).1
      have h8 := hs.1
      refine ⟨M1, fun Rt A hA hr => b_X9_isSeen_4 hA 1 (S 0 4) M1 ?_, f⟩
      rw [ol_c1 (show sn S W from hj)] at hr
      rw [e26]
      exact ⟨⟨by omega, by omega⟩, ⟨by omega, by omega⟩, ol_if.pos (by omega) hr⟩
  obtain ⟨M', t, g⟩ := key M fr_s.rf (fun j j0 j1 => by omega)
  exact ⟨M', ol_Ri (q := q_X9_isSeen) (by decide +kernel) (Nat.le_of_ble_eq_true rfl) (Or.inr ⟨rfl, ol_c01⟩) (fun Rt A hA hr => b_X9_isSeen_0 hA M (t Rt A hA hr)), g⟩
/-- a world without the writing k -/
def wo (W : ol_M) (k : Int) : ol_M := ol_mp W 14 (fun j => if j = k then 1 else 0)
theorem pw_bit {k j : Nat} (hk : k < 31) : (1 * 2 ^ k : Int) / 2 ^ j % 2 = 1 ↔ j = k := by
  rw [Int.one_mul]
  by_cases c : j = k
  · subst c
    have p := (@pw_le j j (Nat.le_refl _)).1
    rw [Int.ediv_self (by omega)]
    exact ⟨fun _ => rfl, fun _ => by decide⟩
  · refine ⟨fun h => ?_, fun h => absurd h c⟩
    have p := (@pw_le k k (Nat.le_refl _)).1
    by_cases d : j < k
    · obtain ⟨e, he⟩ : ∃ e, k = j + 1 + e := ⟨k - j - 1, by omega⟩
      have p2 := (@pw_le j j (Nat.le_refl _)).1
      rw [he, Int.pow_add, Int.pow_succ, Int.mul_assoc, Int.mul_ediv_cancel_left _ (by omega)] at h
      omega
    · obtain ⟨e, he⟩ : ∃ e, j = k + 1 + e := ⟨j - k - 1, by omega⟩
      have p2 := (@pw_le e e (Nat.le_refl _)).1
      have q : (2 : Int) ^ k < 2 ^ j := by
        have : 2 ^ k < 2 ^ j := Nat.pow_lt_pow_right (by decide) (by omega)
        exact_mod_cast this
      rw [Int.ediv_eq_zero_of_lt (by omega) q] at h
      omega
theorem mv.wo {W M : ol_M} (v : mv W M) (w : wk W) {k : Int} (k0 : 0 ≤ k) (k1 : k < 31) : mv (wo W k) (ol_ms M 132 24 (1 * 2 ^ k.toNat)) := by
  have p := @pw_le k.toNat 30 (by omega)
  refine v.gone ⟨by omega, by omega⟩ (fun j j0 j1 => ?_)
  rw [pw_bit (by omega)]
  by_cases c : j = k
  · rw [if_pos c, c]; simp
  · rw [if_neg c]
    exact ⟨fun q => by omega, fun q => by omega⟩
noncomputable def sp_su (S : ol_M) (k : Int) : Int := ol_c (sn S (wo (sp_W S) k))
noncomputable def sp_never (S : ol_M) : Int × ol_M := (bs (sp_su S) (S 0 2).toNat, S)
theorem m_neverNow {n : Nat} {S M : ol_M} (hs : sp_ok S) (z : mz S M) : ∃ M', ol_R (ol_lay n) 7 q_X9_neverNow [.inr (.inr 132)] M (some (.inl (bs (sp_su S) (S 0 2).toNat))) M' ∧ fr_s M M' := by
  have w := sp_W_k hs
  have nr := hs.w.1
  have e24 : M 132 24 = 0 := z.1.2.2.2.2.2.2.1
  have key : ∀ N c, fr_s M N → ∃ M', ol_T n q_X9_neverNow 6 4 [some (.inr (.inr 132)), some (.inl (bs (sp_su S) (Int.toNat 0))), some (.inl 0)] [] (ol_ms N 132 24 c) (some (.inl (bs (sp_su S) (S 0 2).toNat))) M' ∧ fr_s M M' := by
    refine ol_loop (P := fun k => ∀ N c, fr_s M N → ∃ M', ol_T n q_X9_neverNow 6 4 [some (.inr (.inr 132)), some (.inl (bs (sp_su S) k.toNat)), some (.inl k)] [] (ol_ms N 132 24 c) (some (.inl (bs (sp_su S) (S 0 2).toNat))) M' ∧ fr_s M M') (a := 0) (b := S 0 2) nr.1 (fun k k0 k1 hk N c f => ?_) (fun N c f => ?_)
    · have zN := z.fr f
      have eN : N 132 24 = 0 := by rw [f 132 (by decide)]; exact e24
      have e15 : (ol_ms N 132 24 c) 132 15 = S 0 2 := by rw [ol_ms_i _ _ _ (by decide)]; exact zN.nW
      obtain ⟨M2, q, g⟩ := @m_isSeen n S _ _ (w.gone _) (zN.2.1.wo w k0 (by omega)) (zN.1.2.2.2.2.1.keep rfl rfl rfl rfl rfl (ol_ms_i _ _ _ (by decide)) (ol_ms_ne _ _ _ (by decide))) hs.2.2.2.2.1
      obtain ⟨g1, g2⟩ := gx (by decide) g
      rw [eN] at g1 g2
      obtain ⟨M', t, g'⟩ := hk (ol_ms M2 132 24 0) (1 * 2 ^ k.toNat) (f.tr g1)
      rw [← g2, show (k + 1).toNat = k.toNat + 1 by omega] at t
      refine ⟨M', fun Rt A hA hr => b_X9_neverNow_4 hA _ k _ ?_, g'⟩
      rw [e15, ol_ms_ms, ol_ms_ms]
      have ek : ((k.toNat : Nat) : Int) = k := Int.toNat_of_nonneg k0
      refine ⟨⟨by omega, by omega⟩, ⟨by omega, by omega⟩, ol_if.neg (by omega) ⟨k0, by omega, _, M2, q, ol_if.mk (fun d => ?_) (fun d => ⟨?_, k0, by omega, ?_⟩)⟩⟩
      · rw [bs_0 (by omega) (by rw [ek]; exact d)]
        exact t Rt A hA hr
      · rcases @ol_c01 (sn S (ol_mp (sp_W S) 14 (fun j => if j = k then 1 else 0))) with h | h <;> rw [h] <;> exact ⟨by decide, by decide⟩
      · rw [bs_1 (by omega) (by rw [ek]; exact d)]
        exact t Rt A hA hr
    · have zN := z.fr f
      have eN : N 132 24 = 0 := by rw [f 132 (by decide)]; exact e24
      have e15 : (ol_ms N 132 24 c) 132 15 = S 0 2 := by rw [ol_ms_i _ _ _ (by decide)]; exact zN.nW
      refine ⟨N, fun Rt A hA hr => b_X9_neverNow_4 hA _ _ _ ?_, f⟩
      rw [e15, ol_ms_ms]
      have e : ol_ms N 132 24 0 = N := by rw [← eN, ol_ms_self]
      rw [e]
      exact ⟨⟨by omega, by omega⟩, ⟨by omega, by omega⟩, ol_if.pos (by omega) hr⟩
  obtain ⟨M', t, g⟩ := key M 0 fr_s.rf
  have e : ol_ms M 132 24 0 = M := by rw [← e24, ol_ms_self]
  rw [e] at t
  exact ⟨M', ol_Ri (q := q_X9_neverNow) (by decide +kernel) (Nat.le_of_ble_eq_true rfl) (Or.inl rfl) (fun Rt A hA hr => b_X9_neverNow_0 hA M (t Rt A hA hr)), g⟩
theorem m_never {n : Nat} {S M : ol_M} (i : im S M) (hs : sp_ok S) : m_ok n 8 q_X9_never [] S M (sp_never S) := by
  obtain ⟨M1, r, z, f⟩ := @m_find n S M i hs
  obtain ⟨M2, q, g⟩ := @m_neverNow n S M1 hs z
  exact ⟨M2, ol_Ri (q := q_X9_never) (by decide +kernel) (Nat.le_of_ble_eq_true rfl) (Or.inl rfl) (fun Rt A hA hr => b_X9_never_0 hA M ⟨M1, r, _, M2, q, hr⟩), (z.fr g).1, f.tr g.fm⟩
noncomputable def sp_rs (S : ol_M) (l v : Int) : Int := ol_c (sn S (ol_mp (sp_W S) 4 (ol_rs (sp_W S 4) l v)))
noncomputable def sp_got (S : ol_M) (l : Int) : Int × ol_M := (if 0 ≤ l ∧ l ≤ 7 then bs (sp_rs S l) 10 else -2, S)
theorem m_gotOf {n : Nat} {S M : ol_M} (hs : sp_ok S) (z : mz S M) {l : Int} (l0 : 0 ≤ l) (l1 : l < 8) : ∃ M', ol_R (ol_lay n) 7 q_X9_gotOf [.inr (.inr 132), .inl l] M (some (.inl (bs (sp_rs S l) 10))) M' ∧ fr_s M M' := by
  have w := sp_W_k hs
  have key : ∀ N c, fr_s M N → ∃ M', ol_T n q_X9_gotOf 6 12 [some (.inr (.inr 132)), some (.inl l), some (.inl (M 144 l)), some (.inl (bs (sp_rs S l) (Int.toNat 0))), some (.inl 0)] [] (ol_ms N 144 l c) (some (.inl (bs (sp_rs S l) 10))) M' ∧ fr_s M M' := by
    refine ol_loop (P := fun k => ∀ N c, fr_s M N → ∃ M', ol_T n q_X9_gotOf 6 12 [some (.inr (.inr 132)), some (.inl l), some (.inl (M 144 l)), some (.inl (bs (sp_rs S l) k.toNat)), some (.inl k)] [] (ol_ms N 144 l c) (some (.inl (bs (sp_rs S l) 10))) M' ∧ fr_s M M') (a := 0) (b := 10) (by decide) (fun k k0 k1 hk N c f => ?_) (fun N c f => ?_)
    · have zN := z.fr f
      obtain ⟨M2, q, g⟩ := @m_isSeen n S _ _ (w.rat (l := l) (v := k) ⟨k0, by omega⟩) (zN.2.1.rat (l := l) (x := k)) (zN.1.2.2.2.2.1.keep rfl rfl rfl rfl rfl (by rw [ol_ms_ne _ _ _ (by decide)]) (ol_ms_ne _ _ _ (by decide))) hs.2.2.2.2.1
      obtain ⟨g1, g2⟩ := gx (by decide) g
      obtain ⟨M', t, g'⟩ := hk (ol_ms M2 144 l (N 144 l)) k (f.tr g1)
      rw [← g2, show (k + 1).toNat = k.toNat + 1 by omega] at t
      refine ⟨M', fun Rt A hA hr => b_X9_gotOf_12 hA l _ _ k _ ?_, g'⟩
      rw [ol_ms_ms, ol_ms_ms]
      have ek : ((k.toNat : Nat) : Int) = k := Int.toNat_of_nonneg k0
      refine ⟨⟨by omega, by omega⟩, ol_if.neg (by omega) ⟨l0, l1, _, M2, q, ol_if.mk (fun d => ?_) (fun d => ⟨?_, k0, by omega, ?_⟩)⟩⟩
      · rw [bs_0 (by omega) (by rw [ek]; exact d)]
        exact t Rt A hA hr
      · rcases @ol_c01 (sn S (ol_mp (sp_W S) 4 (ol_rs (sp_W S 4) l k))) with h | h <;> rw [h] <;> exact ⟨by decide, by decide⟩
      · rw [bs_1 (by omega) (by rw [ek]; exact d)]
        exact t Rt A hA hr
    · refine ⟨N, fun Rt A hA hr => b_X9_gotOf_12 hA l _ _ 10 _ ⟨⟨by decide, by decide⟩, ol_if.pos (by decide) ⟨l0, l1, ?_⟩⟩, f⟩
      rw [ol_ms_ms, ← f 144 (by decide), ol_ms_self]
      exact hr
  obtain ⟨M', t, g⟩ := key M (M 144 l) fr_s.rf
  rw [ol_ms_self] at t
  exact ⟨M', ol_Ri (q := q_X9_gotOf) (by decide +kernel) (Nat.le_of_ble_eq_true rfl) (Or.inl rfl) (fun Rt A hA hr => b_X9_gotOf_0 hA l M ⟨l0, l1, t Rt A hA hr⟩), g⟩
theorem m_got {n : Nat} {S M : ol_M} (i : im S M) (hs : sp_ok S) {l : Int} (r1 : ol_r l) : m_ok n 8 q_X9_got [.inl l] S M (sp_got S l) := by
  obtain ⟨M1, r, z, f⟩ := @m_find n S M i hs
  unfold sp_got
  apply m_ok.of
  by_cases c : 0 ≤ l ∧ l ≤ 7
  · rw [if_pos c]
    obtain ⟨M2, q, g⟩ := @m_gotOf n S M1 hs z l c.1 (by omega)
    exact ⟨M2, ol_Ri (q := q_X9_got) (by decide +kernel) (Nat.le_of_ble_eq_true rfl) (Or.inl rfl) (fun Rt A hA hr => b_X9_got_0 hA l M ⟨M1, r, r1, ol_if.pos c ⟨_, M2, q, hr⟩⟩), (z.fr g).1, f.tr g.fm⟩
  · rw [if_neg c]
    exact ⟨M1, ol_Ri (q := q_X9_got) (by decide +kernel) (Nat.le_of_ble_eq_true rfl) (Or.inl rfl) (fun Rt A hA hr => b_X9_got_0 hA l M ⟨M1, r, r1, ol_if.neg c hr⟩), z.1, f⟩
