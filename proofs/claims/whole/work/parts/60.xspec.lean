/-! THE CLASS'S CELLS HOLD THE STATE -/
/-- how many of the first k letters are no vowels -/
def hc (f : Int → Int) : Nat → Int
  | 0 => 0
  | k + 1 => hc f k + (if f k = 0 ∨ f k = 4 then 0 else 1)
def x_tm (P M : ol_M) (t : Int) : Prop := M 34 t = P 0 t ∧ M 36 t = P 1 t ∧ (∀ i, 0 ≤ i → i < P 0 t → M (8 + t) i = P (10 + t) i) ∧ (∀ l, 0 ≤ l → l < 8 → M (17 + t) l = ct (P (10 + t)) l (P 0 t).toNat) ∧ (∀ l, 0 ≤ l → l < 8 → M (26 + t) l = if l = 0 ∨ l = 4 then 0 else ct (P (10 + t)) l (P 0 t).toNat) ∧ M 35 t = hc (P (10 + t)) (P 0 t).toNat
def ix_t (S M : ol_M) : Prop := M 1 1 = 23 ∧ M 5 1 = 55 ∧ M 1 2 = S 0 0 ∧ M 5 2 = S 0 1 ∧ (∀ j, 0 ≤ j → j < S 0 0 → M 2 j = S 1 j) ∧ (∀ j, 0 ≤ j → j < S 0 1 → M 6 j = S 2 j)
def ix_p (S M : ol_M) : Prop := M 1 3 = sp_nH S ∧ M 1 4 = sp_hf S ∧ ∀ h, 0 ≤ h → h < sp_nH S → M 3 h = sp_kd S h ∧ M 4 h = sp_hd S h
def ix_q (S M : ol_M) : Prop := M 5 3 = sp_nT S ∧ M 5 4 = sp_tf S ∧ ∀ t, 0 ≤ t → t < sp_nT S → x_tm (sp_pt S).2.2 M t
def ix_r (S M : ol_M) : Prop := ∀ l, 0 ≤ l → l < 8 → M 38 l = S 3 l
def ix_w (S M : ol_M) : Prop := M 37 4 = S 0 2 ∧ ∀ k, 0 ≤ k → k < S 0 2 → M 39 k = S 4 k ∧ M 40 k = S 5 k ∧ M 41 k = S 6 k
def ix_l (S M : ol_M) : Prop := M 37 9 = S 0 3 ∧ ∀ k, 0 ≤ k → k < S 0 3 → M 42 k = S 7 k ∧ M 43 k = S 8 k ∧ M 44 k = S 9 k ∧ M 45 k = S 10 k
def ix_s (S M : ol_M) : Prop := M 37 14 = S 0 4 ∧ ∀ k, 0 ≤ k → k < S 0 4 → M 46 k = S 11 k ∧ M 47 k = S 12 k ∧ M 48 k = S 13 k ∧ M 49 k = S 14 k
/-- rows that are read without being looked at -/
def ix_o (M : ol_M) : Prop := ∀ w, 0 ≤ w → w < 12 → ∀ l, 0 ≤ l → l < 8 → ol_r (M (120 + w) l)
def ix_f (S M : ol_M) : Prop := M 0 9 = S 0 5 ∧ ix_o M
def ix_h (S M : ol_M) : Prop := ∀ s, 0 ≤ s → s < 4 → (0 ≤ M 112 s ∧ M 112 s ≤ 2) ∧ (S 15 s < 0 → M 113 s = -1) ∧ (0 ≤ S 15 s → M 112 s = S 15 s ∧ M 113 s = S 16 s ∧ ∀ i, 0 ≤ i → i < S 16 s → M (115 + s) i = S (20 + s) i)
def iy (S M : ol_M) : Prop := ix_t S M ∧ ix_p S M ∧ ix_q S M ∧ ix_r S M ∧ ix_w S M ∧ ix_l S M ∧ ix_s S M ∧ ix_f S M ∧ ix_h S M
/-! the censor's ways: live writings in their order, the branches of letting through or not -/
def lm (W : ol_M) (m : Int) : Nat → List Int
  | 0 => []
  | k + 1 => if W 11 k = m ∧ W 12 k < W 0 0 ∧ W 13 k < W 3 0 then lm W m k ++ [(k : Int)] else lm W m k
def la (W : ol_M) : Nat → List Int
  | 0 => []
  | m + 1 => la W m ++ lm W m (W 10 0).toNat
def lvl (W : ol_M) : List Int := la W 12
/-- u months go by from month a on, with nothing written -/
def av (W : ol_M) : Nat → Int → (Int → Int) → Int → Int
  | 0, _, st => st
  | u + 1, a, st => av W u (a + 1) (rn_ls W a (W 5 0).toNat (rn_hand W st))
/-- what becomes of a writing, and of the stock -/
noncomputable def rn_out (W : ol_M) (h t : Int) (st : Int → Int) : Int := if h < W 0 0 ∧ t < W 3 0 then rn_res W h t st else 0
noncomputable def rn_set (W : ol_M) (h t : Int) (st : Int → Int) : Int → Int := if h < W 0 0 ∧ t < W 3 0 ∧ rn_res W h t st ≠ 3 then rn_sp (W (30 + t)) h (rn_res W h t st - 1) st else st
/-- how many ways there are, behind these writings, to g that went through and f fines of the house h -/
noncomputable def nb (W : ol_M) (h : Int) : List Int → Int → Int → (Int → Int) → Int → Int → Int → Int
  | [], _, g, _, f, g', f' => if g = g' ∧ f = f' then 1 else 0
  | k :: r, p, g, st, f, g', f' => nb W h r (W 11 k) g (av W (W 11 k - p).toNat (p + 1) st) f g' f' + nb W h r (W 11 k) (g + 1) (rn_set W (W 12 k) (W 13 k) (av W (W 11 k - p).toNat (p + 1) st)) (if rn_out W (W 12 k) (W 13 k) (av W (W 11 k - p).toNat (p + 1) st) = 3 ∧ W 12 k = h then f + 1 else f) g' f'
/-- what is kept: the months as told, the censor's ways -/
def xrun (S M : ol_M) : Prop := (∀ m, 0 ≤ m → m < 12 → ∀ j, 0 ≤ j → j < 64 → M (55 + m) j = rn_lv (sp_W S) (m + 1).toNat 0 j) ∧ ∀ k, 0 ≤ k → k < S 0 2 → M 67 k = rn_lv (sp_W S) 12 1 k
def xch (S M : ol_M) : Prop := M 85 6 = (lvl (sp_W S)).length ∧ ∀ h, 0 ≤ h → h < sp_nH S → ∀ g f, 0 ≤ g → g ≤ 12 → 0 ≤ f → f ≤ 12 → M (103 + h) (g * 13 + f) = nb (sp_W S) h (lvl (sp_W S)) (-1) 0 (fun _ => 0) 0 g f
def ix_a (S M : ol_M) : Prop := M 0 10 = 1 ∨ (M 0 10 = 0 ∧ xrun S M)
def ix_b (S M : ol_M) : Prop := M 0 11 = 1 ∨ (M 0 11 = 0 ∧ xch S M)
def ix (S M : ol_M) : Prop := iy S M ∧ ix_a S M ∧ ix_b S M
/-- what the world is made of is the same -/
def ws (S S' : ol_M) : Prop := (∀ j, 0 ≤ j → j ≤ 3 → S' 0 j = S 0 j) ∧ ∀ k, 1 ≤ k → k ≤ 10 → S' k = S k
theorem ws.pt {S S' : ol_M} (h : ws S S') : sp_pt S' = sp_pt S := by
  unfold sp_pt
  rw [h.1 1 (by decide) (by decide), h.2 2 (by decide) (by decide)]
theorem ws.hf {S S' : ol_M} (h : ws S S') : sp_hf S' = sp_hf S := by
  unfold sp_hf
  rw [h.1 0 (by decide) (by decide), h.2 1 (by decide) (by decide)]
theorem ws.nH {S S' : ol_M} (h : ws S S') : sp_nH S' = sp_nH S := by
  unfold sp_nH
  rw [h.hf, h.1 0 (by decide) (by decide)]
theorem ws.nT {S S' : ol_M} (h : ws S S') : sp_nT S' = sp_nT S := by unfold sp_nT; rw [h.pt]
theorem ws.tf {S S' : ol_M} (h : ws S S') : sp_tf S' = sp_tf S := by unfold sp_tf; rw [h.pt]
theorem ws.kd {S S' : ol_M} (h : ws S S') : sp_kd S' = sp_kd S := by
  funext k; unfold sp_kd; rw [h.2 1 (by decide) (by decide)]
theorem ws.hd {S S' : ol_M} (h : ws S S') : sp_hd S' = sp_hd S := by
  funext k; unfold sp_hd; rw [h.2 1 (by decide) (by decide)]
theorem ws.need {S S' : ol_M} (h : ws S S') (t : Int) : sp_need S' t = sp_need S t := by
  funext l; unfold sp_need sp_sp sp_ln; rw [h.pt]
theorem ws.W {S S' : ol_M} (h : ws S S') : sp_W S' = sp_W S := by
  funext c
  unfold sp_W
  by_cases c1 : 30 ≤ c
  · rw [if_pos c1, if_pos c1, h.need]
  rw [if_neg c1, if_neg c1]
  by_cases c2 : c = 0
  · rw [if_pos c2, if_pos c2, h.nH]
  rw [if_neg c2, if_neg c2]
  by_cases c3 : c = 1
  · rw [if_pos c3, if_pos c3, h.kd]
  rw [if_neg c3, if_neg c3]
  by_cases c4 : c = 2
  · rw [if_pos c4, if_pos c4, h.hd]
  rw [if_neg c4, if_neg c4]
  by_cases c5 : c = 3
  · rw [if_pos c5, if_pos c5, h.nT]
  rw [if_neg c5, if_neg c5]
  by_cases c6 : c = 4
  · rw [if_pos c6, if_pos c6, h.2 3 (by decide) (by decide)]
  rw [if_neg c6, if_neg c6]
  by_cases c7 : c = 5
  · rw [if_pos c7, if_pos c7, h.1 3 (by decide) (by decide)]
  rw [if_neg c7, if_neg c7]
  by_cases c8 : 0 ≤ c ∧ c ≤ 9
  · rw [if_pos c8, if_pos c8, h.2 (c + 1) (by omega) (by omega)]
  rw [if_neg c8, if_neg c8]
  by_cases c9 : c = 10
  · rw [if_pos c9, if_pos c9, h.1 2 (by decide) (by decide)]
  rw [if_neg c9, if_neg c9]
  by_cases cA : 0 ≤ c ∧ c ≤ 13
  · rw [if_pos cA, if_pos cA, h.2 (c - 7) (by omega) (by omega)]
  rw [if_neg cA, if_neg cA]
theorem ws.rf {S : ol_M} : ws S S := ⟨fun _ _ _ => rfl, fun _ _ _ => rfl⟩
theorem ix_t.keep {S M S' M' : ol_M} (h : ix_t S M) (a : ∀ j, 0 ≤ j → j ≤ 1 → S' 0 j = S 0 j) (b : S' 1 = S 1) (c : S' 2 = S 2) (e1 : M' 1 = M 1) (e2 : M' 2 = M 2) (e5 : M' 5 = M 5) (e6 : M' 6 = M 6) : ix_t S' M' := by
  unfold ix_t at *
  rw [a 0 (by decide) (by decide), a 1 (by decide) (by decide), b, c, e1, e2, e5, e6]
  exact h
theorem ix_p.keep {S M S' M' : ol_M} (h : ix_p S M) (a : sp_nH S' = sp_nH S) (b : sp_hf S' = sp_hf S) (c : sp_kd S' = sp_kd S) (d : sp_hd S' = sp_hd S) (e1 : M' 1 = M 1) (e3 : M' 3 = M 3) (e4 : M' 4 = M 4) : ix_p S' M' := by
  unfold ix_p at *
  rw [a, b, c, d, e1, e3, e4]
  exact h
theorem x_tm.keep {P M M' : ol_M} {t : Int} (t0 : 0 ≤ t) (t1 : t < 8) (h : x_tm P M t) (e : ∀ c, 8 ≤ c → c ≤ 36 → M' c = M c) : x_tm P M' t := by
  unfold x_tm at *
  rw [e 34 (by decide) (by decide), e 35 (by decide) (by decide), e 36 (by decide) (by decide), e (8 + t) (by omega) (by omega), e (17 + t) (by omega) (by omega), e (26 + t) (by omega) (by omega)]
  exact h
theorem ix_q.keep {S M S' M' : ol_M} (h : ix_q S M) (a : sp_pt S' = sp_pt S) (e5 : M' 5 = M 5) (e : ∀ c, 8 ≤ c → c ≤ 36 → M' c = M c) : ix_q S' M' := by
  have nr := sp_nT_r S
  unfold ix_q sp_nT sp_tf at *
  rw [a, e5]
  exact ⟨h.1, h.2.1, fun t t0 t1 => (h.2.2 t t0 t1).keep t0 (by omega) e⟩
theorem ix_r.keep {S M S' M' : ol_M} (h : ix_r S M) (c : S' 3 = S 3) (e : M' 38 = M 38) : ix_r S' M' := by
  unfold ix_r at *
  rw [c, e]
  exact h
theorem ix_w.keep {S M S' M' : ol_M} (h : ix_w S M) (a : S' 0 2 = S 0 2) (b : S' 4 = S 4) (c : S' 5 = S 5) (d : S' 6 = S 6) (e : M' 37 4 = M 37 4) (f : M' 39 = M 39) (g : M' 40 = M 40) (i : M' 41 = M 41) : ix_w S' M' := by
  unfold ix_w at *
  rw [a, b, c, d, e, f, g, i]
  exact h
theorem ix_l.keep {S M S' M' : ol_M} (h : ix_l S M) (a : S' 0 3 = S 0 3) (b : S' 7 = S 7) (c : S' 8 = S 8) (d : S' 9 = S 9) (d' : S' 10 = S 10) (e : M' 37 9 = M 37 9) (f : M' 42 = M 42) (g : M' 43 = M 43) (i : M' 44 = M 44) (j : M' 45 = M 45) : ix_l S' M' := by
  unfold ix_l at *
  rw [a, b, c, d, d', e, f, g, i, j]
  exact h
theorem ix_s.keep {S M S' M' : ol_M} (h : ix_s S M) (a : S' 0 4 = S 0 4) (b : S' 11 = S 11) (c : S' 12 = S 12) (d : S' 13 = S 13) (d' : S' 14 = S 14) (e : M' 37 14 = M 37 14) (f : M' 46 = M 46) (g : M' 47 = M 47) (i : M' 48 = M 48) (j : M' 49 = M 49) : ix_s S' M' := by
  unfold ix_s at *
  rw [a, b, c, d, d', e, f, g, i, j]
  exact h
theorem ix_f.keep {S M S' M' : ol_M} (h : ix_f S M) (a : S' 0 5 = S 0 5) (e : M' 0 9 = M 0 9) (o : ∀ c, 120 ≤ c → c ≤ 131 → M' c = M c) : ix_f S' M' := by
  unfold ix_f at *
  rw [a, e]
  exact ⟨h.1, fun w w0 w1 l l0 l1 => by rw [o (120 + w) (by omega) (by omega)]; exact h.2 w w0 w1 l l0 l1⟩
theorem ix_h.keep {S M S' M' : ol_M} (h : ix_h S M) (a : ∀ k, 15 ≤ k → S' k = S k) (b : ∀ c, 111 ≤ c → c ≤ 118 → M' c = M c) : ix_h S' M' := by
  intro s h0 h1
  rw [a 15 (by omega), a 16 (by omega), a (20 + s) (by omega), b 112 (by decide) (by decide), b 113 (by decide) (by decide), b (115 + s) (by omega) (by omega)]
  exact h s h0 h1
theorem xrun.keep {S M S' M' : ol_M} (h : xrun S M) (a : ws S S') (e : ∀ c, 55 ≤ c → c ≤ 67 → M' c = M c) : xrun S' M' := by
  unfold xrun at *
  rw [a.W, a.1 2 (by decide) (by decide), e 67 (by decide) (by decide)]
  exact ⟨fun m m0 m1 j j0 j1 => by rw [e (55 + m) (by omega) (by omega)]; exact h.1 m m0 m1 j j0 j1, h.2⟩
theorem xch.keep {S M S' M' : ol_M} (hs : sp_ok_t S) (h : xch S M) (a : ws S S') (e5 : M' 85 = M 85) (e : ∀ c, 103 ≤ c → c ≤ 110 → M' c = M c) : xch S' M' := by
  have nr := sp_nH_r hs
  unfold xch at *
  rw [a.W, a.nH, e5]
  exact ⟨h.1, fun t t0 t1 g f g0 g1 f0 f1 => by rw [e (103 + t) (by omega) (by omega)]; exact h.2 t t0 t1 g f g0 g1 f0 f1⟩
theorem ix_a.keep {S M S' M' : ol_M} (h : ix_a S M) (a : ws S S') (e0 : M' 0 10 = M 0 10) (e : ∀ c, 55 ≤ c → c ≤ 67 → M' c = M c) : ix_a S' M' := by
  unfold ix_a at *
  rw [e0]
  exact h.imp id (fun z => ⟨z.1, z.2.keep a e⟩)
theorem ix_b.keep {S M S' M' : ol_M} (hs : sp_ok_t S) (h : ix_b S M) (a : ws S S') (e0 : M' 0 11 = M 0 11) (e5 : M' 85 = M 85) (e : ∀ c, 103 ≤ c → c ≤ 110 → M' c = M c) : ix_b S' M' := by
  unfold ix_b at *
  rw [e0]
  exact h.imp id (fun z => ⟨z.1, z.2.keep hs a e5 e⟩)
/-- the months that are kept are thrown away -/
def xw (M : ol_M) : ol_M := ol_ms (ol_ms M 0 10 1) 0 11 1
theorem xw_ne {M : ol_M} {c : Int} (h : c ≠ 0) : xw M c = M c := by
  unfold xw
  rw [ol_ms_ne _ _ _ h, ol_ms_ne _ _ _ h]
theorem xw_9 {M : ol_M} : xw M 0 9 = M 0 9 := by
  unfold xw
  rw [ol_ms_i _ _ _ (by decide), ol_ms_i _ _ _ (by decide)]
theorem iy_xw {S M : ol_M} (h : iy S M) : ix S (xw M) := by
  obtain ⟨h1, h2, h3, h4, h5, h6, h7, h8, h9⟩ := h
  have n : ∀ c : Int, c ≠ 0 → xw M c = M c := fun c q => xw_ne q
  refine ⟨⟨h1.keep (fun _ _ _ => rfl) rfl rfl (n _ (by decide)) (n _ (by decide)) (n _ (by decide)) (n _ (by decide)), h2.keep rfl rfl rfl rfl (n _ (by decide)) (n _ (by decide)) (n _ (by decide)), h3.keep rfl (n _ (by decide)) (fun c q _ => n c (by omega)), h4.keep rfl (n _ (by decide)), h5.keep rfl rfl rfl rfl (by rw [n _ (by decide)]) (n _ (by decide)) (n _ (by decide)) (n _ (by decide)), h6.keep rfl rfl rfl rfl rfl (by rw [n _ (by decide)]) (n _ (by decide)) (n _ (by decide)) (n _ (by decide)) (n _ (by decide)), h7.keep rfl rfl rfl rfl rfl (by rw [n _ (by decide)]) (n _ (by decide)) (n _ (by decide)) (n _ (by decide)) (n _ (by decide)), h8.keep rfl xw_9 (fun c q _ => n c (by omega)), h9.keep (fun _ _ => rfl) (fun c q _ => n c (by omega))⟩, Or.inl ?_, Or.inl ?_⟩
  · unfold xw
    rw [ol_ms_i _ _ _ (by decide), ol_msA]
  · unfold xw
    rw [ol_msA]
theorem fx_xw {M M' : ol_M} (h : fx M M') : fx M (xw M') := (h.ms).ms
/-- cells that are only for a while have changed -/
def fo (M M' : ol_M) : Prop := ∀ c, ¬ (51 ≤ c ∧ c ≤ 53) → ¬ (68 ≤ c ∧ c ≤ 84) → ¬ (86 ≤ c ∧ c ≤ 101) → M' c = M c
theorem fo.rf {M : ol_M} : fo M M := fun _ _ _ _ => rfl
theorem fo.tr {M M' M'' : ol_M} (h : fo M M') (h' : fo M' M'') : fo M M'' := fun c a b d => (h' c a b d).trans (h c a b d)
theorem fo.fx {M M' : ol_M} (h : fo M M') : fx M M' := fun k q => h k (by omega) (by omega) (by omega)
theorem fo.mp {M M' : ol_M} (h : fo M M') {k : Int} {f : Int → Int} (hk : (51 ≤ k ∧ k ≤ 53) ∨ (68 ≤ k ∧ k ≤ 84) ∨ (86 ≤ k ∧ k ≤ 101) := by decide) : fo M (ol_mp M' k f) := fun c a b d => (ol_mp_ne _ _ (by omega)).trans (h c a b d)
theorem fo.ms {M M' : ol_M} (h : fo M M') {k i v : Int} (hk : (51 ≤ k ∧ k ≤ 53) ∨ (68 ≤ k ∧ k ≤ 84) ∨ (86 ≤ k ∧ k ≤ 101) := by decide) : fo M (ol_ms M' k i v) := h.mp hk
/-- no cell of the state but the sheets' and the sights', and the latest finding, has changed -/
def fw (M M' : ol_M) : Prop := (∀ c, 0 < c → c < 111 → c ≠ 37 → ¬ (46 ≤ c ∧ c ≤ 49) → M' c = M c) ∧ (∀ j, j ≠ 14 → M' 37 j = M 37 j) ∧ ∀ j, j ≠ 9 → M' 0 j = M 0 j
theorem ix.same {S M S' M' : ol_M} (hs : sp_ok_t S) (h : ix S M) (a : ws S S') (f : fw M M') (hs' : ix_s S' M') (hf : ix_f S' M') (hh : ix_h S' M') : ix S' M' := by
  obtain ⟨⟨h1, h2, h3, h4, h5, h6, -, -, -⟩, hA, hB⟩ := h
  obtain ⟨f1, f2, f3⟩ := f
  have n : ∀ c : Int, 0 < c → c < 111 → c ≠ 37 → ¬ (46 ≤ c ∧ c ≤ 49) → M' c = M c := f1
  exact ⟨⟨h1.keep (fun j j0 j1 => a.1 j j0 (by omega)) (a.2 1 (by decide) (by decide)) (a.2 2 (by decide) (by decide)) (n _ (by decide) (by decide) (by decide) (by decide)) (n _ (by decide) (by decide) (by decide) (by decide)) (n _ (by decide) (by decide) (by decide) (by decide)) (n _ (by decide) (by decide) (by decide) (by decide)), h2.keep a.nH a.hf a.kd a.hd (n _ (by decide) (by decide) (by decide) (by decide)) (n _ (by decide) (by decide) (by decide) (by decide)) (n _ (by decide) (by decide) (by decide) (by decide)), h3.keep a.pt (n _ (by decide) (by decide) (by decide) (by decide)) (fun c q r => n c (by omega) (by omega) (by omega) (by omega)), h4.keep (a.2 3 (by decide) (by decide)) (n _ (by decide) (by decide) (by decide) (by decide)), h5.keep (a.1 2 (by decide) (by decide)) (a.2 4 (by decide) (by decide)) (a.2 5 (by decide) (by decide)) (a.2 6 (by decide) (by decide)) (f2 _ (by decide)) (n _ (by decide) (by decide) (by decide) (by decide)) (n _ (by decide) (by decide) (by decide) (by decide)) (n _ (by decide) (by decide) (by decide) (by decide)), h6.keep (a.1 3 (by decide) (by decide)) (a.2 7 (by decide) (by decide)) (a.2 8 (by decide) (by decide)) (a.2 9 (by decide) (by decide)) (a.2 10 (by decide) (by decide)) (f2 _ (by decide)) (n _ (by decide) (by decide) (by decide) (by decide)) (n _ (by decide) (by decide) (by decide) (by decide)) (n _ (by decide) (by decide) (by decide) (by decide)) (n _ (by decide) (by decide) (by decide) (by decide)), hs', hf, hh⟩, hA.keep a (f3 _ (by decide)) (fun c q r => n c (by omega) (by omega) (by omega) (by omega)), hB.keep hs a (f3 _ (by decide)) (n _ (by decide) (by decide) (by decide) (by decide)) (fun c q r => n c (by omega) (by omega) (by omega) (by omega))⟩
theorem ix.fo {S M M' : ol_M} (h : ix S M) (hs : sp_ok_t S) (f : fo M M') : ix S M' := by
  obtain ⟨⟨h1, h2, h3, h4, h5, h6, h7, h8, h9⟩, hA, hB⟩ := h
  have n : ∀ c : Int, ¬ (51 ≤ c ∧ c ≤ 53) → ¬ (68 ≤ c ∧ c ≤ 84) → ¬ (86 ≤ c ∧ c ≤ 101) → M' c = M c := f
  refine ⟨⟨h1.keep (fun _ _ _ => rfl) rfl rfl (n _ (by decide) (by decide) (by decide)) (n _ (by decide) (by decide) (by decide)) (n _ (by decide) (by decide) (by decide)) (n _ (by decide) (by decide) (by decide)), h2.keep rfl rfl rfl rfl (n _ (by decide) (by decide) (by decide)) (n _ (by decide) (by decide) (by decide)) (n _ (by decide) (by decide) (by decide)), h3.keep rfl (n _ (by decide) (by decide) (by decide)) (fun c q r => n c (by omega) (by omega) (by omega)), h4.keep rfl (n _ (by decide) (by decide) (by decide)), h5.keep rfl rfl rfl rfl (by rw [n _ (by decide) (by decide) (by decide)]) (n _ (by decide) (by decide) (by decide)) (n _ (by decide) (by decide) (by decide)) (n _ (by decide) (by decide) (by decide)), h6.keep rfl rfl rfl rfl rfl (by rw [n _ (by decide) (by decide) (by decide)]) (n _ (by decide) (by decide) (by decide)) (n _ (by decide) (by decide) (by decide)) (n _ (by decide) (by decide) (by decide)) (n _ (by decide) (by decide) (by decide)), h7.keep rfl rfl rfl rfl rfl (by rw [n _ (by decide) (by decide) (by decide)]) (n _ (by decide) (by decide) (by decide)) (n _ (by decide) (by decide) (by decide)) (n _ (by decide) (by decide) (by decide)) (n _ (by decide) (by decide) (by decide)), h8.keep rfl (by rw [n _ (by decide) (by decide) (by decide)]) (fun c q r => n c (by omega) (by omega) (by omega)), h9.keep (fun _ _ => rfl) (fun c q r => n c (by omega) (by omega) (by omega))⟩, ?_, ?_⟩
  · exact hA.keep ws.rf (by rw [n _ (by decide) (by decide) (by decide)]) (fun c q r => n c (by omega) (by omega) (by omega))
  · exact hB.keep hs ws.rf (by rw [n _ (by decide) (by decide) (by decide)]) (n _ (by decide) (by decide) (by decide)) (fun c q r => n c (by omega) (by omega) (by omega))
/-- a call of the class with this answer -/
def x_ok (n d : Nat) (q : ol_MD) (as : List ol_V) (S M : ol_M) (r : Int × ol_M) : Prop := ∃ M', ol_R (ol_lay n) d q (.inr (.inr 0) :: as) M (some (.inl r.1)) M' ∧ ix r.2 M' ∧ fx M M'
theorem x_ok.of {n d : Nat} {q : ol_MD} {as : List ol_V} {S M S' : ol_M} {v : Int} (h : ∃ M', ol_R (ol_lay n) d q (.inr (.inr 0) :: as) M (some (.inl v)) M' ∧ ix S' M' ∧ fx M M') : x_ok n d q as S M (v, S') := h
def x_okl (n d : Nat) (q : ol_MD) (as : List ol_V) (S M : ol_M) (r : Int × ol_M) : Prop := ∃ M', ol_R (ol_lay n) d q (.inr (.inr 0) :: as) M (some (.inr (.inl r.1))) M' ∧ ix r.2 M' ∧ fx M M'
