/-! what the terms of a set need -/
def al (W : ol_M) (s l : Int) : Nat → Int
  | 0 => 0
  | k + 1 => al W s l k + (if s / 2 ^ k % 2 = 1 then W (30 + (k : Int)) l else 0)
theorem al_r {W : ol_M} (w : wk W) {s l : Int} (l0 : 0 ≤ l) (l1 : l < 8) : ∀ k : Nat, (k : Int) ≤ W 3 0 → 0 ≤ al W s l k ∧ al W s l k ≤ 6 * k := by
  intro k
  induction k with
  | zero => intro _; exact ⟨Int.le_refl 0, (by decide : (0 : Int) ≤ 6 * (0 : Nat))⟩
  | succ k ih =>
    intro hk
    have i := ih (by omega)
    have a := w.2.2.2.1 k (by omega) (by omega) l l0 l1
    unfold al
    split <;> omega
theorem m_all {n : Nat} {W M : ol_M} (w : wk W) (v : mv W M) {s l : Int} (rs : ol_r s) (l0 : 0 ≤ l) (l1 : l < 8) : ol_R (ol_lay n) 2 q_X9_all [.inr (.inr 132), .inl s, .inl l] M (some (.inl (al W s l (W 3 0).toNat))) M := by
  have nr := w.2.2.1
  have e9 : M 132 9 = W 3 0 := v.2.2.1
  refine ol_Ri (q := q_X9_all) (by decide +kernel) (Nat.le_of_ble_eq_true rfl) (Or.inl rfl) (fun Rt A hA hr => b_X9_all_0 hA s l M ?_)
  show A 5 [some (.inr (.inr 132)), some (.inl s), some (.inl l), some (.inl (al W s l (Int.toNat 0))), some (.inl 0)] [] M
  refine ol_loop (P := fun t => A 5 [some (.inr (.inr 132)), some (.inl s), some (.inl l), some (.inl (al W s l t.toNat)), some (.inl t)] [] M) (a := 0) (b := W 3 0) nr.1 (fun t t0 t1 ht => ?_) ?_
  · rw [show (t + 1).toNat = t.toNat + 1 by omega] at ht
    simp only [al] at ht
    rw [Int.toNat_of_nonneg t0] at ht
    refine b_X9_all_5 hA s l _ t M ?_
    rw [e9, v.2.2.2.1 t t0 t1 l l0 l1]
    refine ⟨⟨by omega, by omega⟩, ⟨by omega, by omega⟩, ol_if.neg (by omega) ⟨rs, t0, by omega, ol_if.mk (fun c => ⟨by omega, by omega, ?_⟩) (fun c => ?_)⟩⟩
    · rw [if_pos c] at ht; exact ht
    · rw [if_neg c] at ht; exact ht
  · refine b_X9_all_5 hA s l _ (W 3 0) M ?_
    rw [e9]
    exact ⟨⟨by omega, by omega⟩, ⟨by omega, by omega⟩, ol_if.pos (by omega) hr⟩
noncomputable def mo (P : Int → Prop) : Nat → Int
  | 0 => 0
  | k + 1 => @ite Int (ol_pop (mo P k) < ol_pop k ∧ P k) (Classical.propDecidable _) k (mo P k)
theorem mo_r {P : Int → Prop} : ∀ k : Nat, 0 ≤ mo P k ∧ (mo P k = 0 ∨ mo P k < k) := by
  intro k
  induction k with
  | zero => exact ⟨Int.le_refl 0, Or.inl rfl⟩
  | succ k ih => unfold mo; split <;> omega
theorem mo_1 {P : Int → Prop} : mo P 1 = 0 := if_neg (fun q => absurd q.1 (Int.lt_irrefl _))
def fits (W : ol_M) (st : Int → Int) (h s : Int) : Prop := ∀ l, 0 ≤ l → l < 8 → al W s l (W 3 0).toNat ≤ st (8 * h + l)
noncomputable def rn_most (W : ol_M) (st : Int → Int) (h : Int) : Int := mo (fits W st h) (2 ^ (W 3 0).toNat)
noncomputable def sp_most (S : ol_M) (m h e : Int) : Int × ol_M := (if (0 ≤ m ∧ m ≤ 11) ∧ (0 ≤ h ∧ h < sp_nH S) ∧ (0 ≤ e ∧ e ≤ 1) then (if e = 0 then ol_pop (rn_most (sp_W S) (rn_lv (sp_W S) (m + 1).toNat 0) h) else rn_most (sp_W S) (rn_lv (sp_W S) (m + 1).toNat 0) h) else -2, S)
theorem ol_pop_r {a : Int} : 0 ≤ ol_pop a ∧ ol_pop a ≤ 12 := by unfold ol_pop; omega
theorem m_mostOf {n : Nat} {W M : ol_M} (w : wk W) (v : mv W M) {m h e : Int} (m0 : 0 ≤ m) (m1 : m < 12) (h0 : 0 ≤ h) (h1 : h < 8) (re : ol_r e) : ∃ M', ol_R (ol_lay n) 5 q_X9_mostOf [.inr (.inr 132), .inl m, .inl h, .inl e] M (some (.inl (if e = 0 then ol_pop (rn_most W (rn_lv W (m + 1).toNat 0) h) else rn_most W (rn_lv W (m + 1).toNat 0) h))) M' ∧ fr_s M M' := by
  obtain ⟨M1, r, x, f⟩ := @m_lives n _ M w v m (by omega) m1
  obtain ⟨st, hst⟩ : ∃ y, y = rn_lv W (m + 1).toNat := ⟨_, rfl⟩
  have hb := (rn_lv_b w (m + 1).toNat).1.up (show (589 : Int) ≤ 1000 by decide)
  rw [← hst] at x hb ⊢
  have v1 := v.fr f
  have e9 : M1 132 9 = W 3 0 := v1.2.2.1
  have nr := w.2.2.1
  have pw := @pw_le (W 3 0).toNat 8 (by omega)
  have pc : ((2 ^ (W 3 0).toNat : Nat) : Int) = 2 ^ (W 3 0).toNat := by exact_mod_cast rfl
  refine ⟨M1, ol_Ri (q := q_X9_mostOf) (by decide +kernel) (Nat.le_of_ble_eq_true rfl) (Or.inl rfl) (fun Rt A hA hr => b_X9_mostOf_0 hA m h e M ⟨M1, r, ?_⟩), f⟩
  suffices key : A 11 [some (.inr (.inr 132)), none, some (.inl h), some (.inl e), some (.inl (mo (fits W (st 0) h) (Int.toNat 1))), some (.inl 1), none, none] [] M1 by
    rw [show mo (fits W (st 0) h) (Int.toNat 1) = 0 from mo_1] at key
    exact key
  refine ol_loop (P := fun s => A 11 [some (.inr (.inr 132)), none, some (.inl h), some (.inl e), some (.inl (mo (fits W (st 0) h) s.toNat)), some (.inl s), none, none] [] M1) (a := 1) (b := 2 ^ (W 3 0).toNat) pw.1 (fun s s0 s1 hk => ?_) ?_
  · rw [show (s + 1).toNat = s.toNat + 1 by omega] at hk
    simp only [mo] at hk
    rw [Int.toNat_of_nonneg (by omega : 0 ≤ s)] at hk
    have yr := @mo_r (fits W (st 0) h) s.toNat
    obtain ⟨b, hbb⟩ : ∃ y, y = mo (fits W (st 0) h) s.toNat := ⟨_, rfl⟩
    rw [← hbb] at hk yr ⊢
    have pr := @ol_pop_r s
    have pr2 := @ol_pop_r b
    have rs : ol_r s := ⟨by omega, by omega⟩
    have no : ∀ l, 0 ≤ l → l ≤ 8 → ¬ (ol_pop b < ol_pop s ∧ fits W (st 0) h s) → A 45 [some (.inr (.inr 132)), none, some (.inl h), some (.inl e), some (.inl b), some (.inl s), some (.inl 0), some (.inl l)] [] M1 := fun l l0 l1 c => by
      rw [if_neg c] at hk
      exact b_X9_mostOf_45 hA h e b s 0 l M1 ⟨⟨by omega, by omega⟩, ol_if.mk (fun _ => ol_if.pos rfl hk) (fun _ => ol_if.pos rfl (ol_if.pos rfl hk))⟩
    refine b_X9_mostOf_11 hA h e b s M1 ?_
    rw [e9, Int.one_mul]
    refine ⟨by omega, by omega, rs, ⟨by omega, by omega⟩, ol_if.neg (by omega) ⟨by omega, by omega, by omega, by omega, ⟨by omega, by omega⟩, ⟨by omega, by omega⟩, ol_if.mk (fun c => no 0 (by decide) (by decide) (fun q => by omega)) (fun c => ?_)⟩⟩
    suffices key : (∀ l', 0 ≤ l' → l' < 0 → al W s l' (W 3 0).toNat ≤ st 0 (8 * h + l')) → A 45 [some (.inr (.inr 132)), none, some (.inl h), some (.inl e), some (.inl b), some (.inl s), some (.inl 1), some (.inl 0)] [] M1 from key (fun _ _ _ => by omega)
    refine ol_loop (P := fun l => (∀ l', 0 ≤ l' → l' < l → al W s l' (W 3 0).toNat ≤ st 0 (8 * h + l')) → A 45 [some (.inr (.inr 132)), none, some (.inl h), some (.inl e), some (.inl b), some (.inl s), some (.inl 1), some (.inl l)] [] M1) (a := 0) (b := 8) (by decide) (fun l l0 l1 hl hf => ?_) (fun hf => ?_)
    · refine b_X9_mostOf_45 hA h e b s 1 l M1 ⟨⟨by omega, by omega⟩, ol_if.neg (by omega) (ol_if.neg (by decide) ⟨⟨by decide, by decide⟩, _, M1, m_all w v1 rs l0 l1, by omega, by omega, ?_⟩)⟩
      rw [x.1 _ (by omega) (by omega)]
      have ar := @al_r W w s l l0 l1 (W 3 0).toNat (by omega)
      have sb := hb (8 * h + l) (by omega) (by omega)
      refine ⟨⟨by omega, by omega⟩, ⟨by omega, by omega⟩, ol_if.mk (fun d => no (l + 1) (by omega) (by omega) (fun q => ?_)) (fun d => hl (fun l' a1 a2 => ?_))⟩
      · have := q.2 l l0 l1
        omega
      · by_cases g : l' = l
        · rw [g]; omega
        · exact hf l' a1 (by omega)
    · rw [if_pos ⟨by omega, hf⟩] at hk
      exact b_X9_mostOf_45 hA h e b s 1 8 M1 ⟨⟨by decide, by decide⟩, ol_if.pos (by decide) (ol_if.neg (by decide) ⟨⟨by decide, by decide⟩, hk⟩)⟩
  · have yr := @mo_r (fits W (st 0) h) (2 ^ (W 3 0).toNat)
    rw [pc] at yr
    refine b_X9_mostOf_11 hA h e _ _ M1 ?_
    rw [e9, Int.one_mul]
    rw [show ((2 : Int) ^ (W 3 0).toNat).toNat = 2 ^ (W 3 0).toNat by omega]
    unfold rn_most at hr
    refine ⟨by omega, by omega, ⟨by omega, by omega⟩, ⟨by omega, by omega⟩, ol_if.pos (Int.le_refl _) (ol_if.mk (fun c => ⟨yr.1, by omega, ?_⟩) (fun c => ⟨re, ?_⟩))⟩
    · rw [if_pos c] at hr; exact hr
    · rw [if_neg c] at hr; exact hr
theorem m_most {n : Nat} {S M : ol_M} (i : im S M) (hs : sp_ok S) {m h e : Int} (r1 : ol_r m) (r2 : ol_r h) (r3 : ol_r e) : m_ok n 6 q_X9_most [.inl m, .inl h, .inl e] S M (sp_most S m h e) := by
  obtain ⟨M1, r, z, f⟩ := @m_find n S M i hs
  have nr := sp_nH_r hs.1
  have e7 := z.nH
  unfold sp_most
  apply m_ok.of
  by_cases c : (0 ≤ m ∧ m ≤ 11) ∧ (0 ≤ h ∧ h < sp_nH S) ∧ (0 ≤ e ∧ e ≤ 1)
  · rw [if_pos c]
    obtain ⟨M2, q, g⟩ := @m_mostOf n _ M1 (sp_W_k hs) z.2.1 m h e c.1.1 (by omega) c.2.1.1 (by omega) r3
    refine ⟨M2, ol_Ri (q := q_X9_most) (by decide +kernel) (Nat.le_of_ble_eq_true rfl) (Or.inl rfl) (fun Rt A hA hr => b_X9_most_0 hA m h e M ⟨M1, r, ?_⟩), (z.fr g).1, f.tr g.fm⟩
    rw [e7]
    exact ⟨r1, ol_if.pos c.1 ⟨r2, ⟨by omega, by omega⟩, ol_if.pos c.2.1 ⟨r3, ol_if.pos c.2.2 ⟨_, M2, q, hr⟩⟩⟩⟩
  · rw [if_neg c]
    refine ⟨M1, ol_Ri (q := q_X9_most) (by decide +kernel) (Nat.le_of_ble_eq_true rfl) (Or.inl rfl) (fun Rt A hA hr => b_X9_most_0 hA m h e M ⟨M1, r, ?_⟩), z.1, f⟩
    rw [e7]
    exact ⟨r1, ol_if.mk (fun d1 => ⟨r2, ⟨by omega, by omega⟩, ol_if.mk (fun d2 => ⟨r3, ol_if.neg (fun d3 => c ⟨d1, d2, d3⟩) hr⟩) (fun _ => hr)⟩) (fun _ => hr)⟩
/-! papers -/
noncomputable def pa (P : Int → Prop) (w : Int) : Nat → Int
  | 0 => -1
  | k + 1 => @ite Int ((¬ (k : Int) / 2 ^ w.toNat % 2 = 1) ∧ (pa P w k = -1 ∨ ol_pop k < ol_pop (pa P w k)) ∧ P k) (Classical.propDecidable _) k (pa P w k)
theorem pa_r {P : Int → Prop} {w : Int} : ∀ k : Nat, -1 ≤ pa P w k ∧ pa P w k < k := by
  intro k
  induction k with
  | zero => exact ⟨Int.le_refl _, (by decide : (-1 : Int) < (0 : Nat))⟩
  | succ k ih => unfold pa; split <;> omega
def gives (W : ol_M) (t s : Int) : Prop := ∀ l, 0 ≤ l → l < 8 → W (30 + t) l ≤ al W s l (W 3 0).toNat
noncomputable def rn_papers (W : ol_M) (t : Int) : Int := pa (gives W t) t (2 ^ (W 3 0).toNat)
noncomputable def sp_papers (S : ol_M) (t e : Int) : Int × ol_M := (if (0 ≤ t ∧ t < sp_nT S) ∧ (0 ≤ e ∧ e ≤ 1) then (if rn_papers (sp_W S) t = -1 ∨ e = 1 then rn_papers (sp_W S) t else ol_pop (rn_papers (sp_W S) t)) else -2, S)
theorem m_papersOf {n : Nat} {W M : ol_M} (w : wk W) (v : mv W M) {t e : Int} (t0 : 0 ≤ t) (t1 : t < W 3 0) (re : ol_r e) : ol_R (ol_lay n) 3 q_X9_papersOf [.inr (.inr 132), .inl t, .inl e] M (some (.inl (if rn_papers W t = -1 ∨ e = 1 then rn_papers W t else ol_pop (rn_papers W t)))) M := by
  have e9 : M 132 9 = W 3 0 := v.2.2.1
  have nr := w.2.2.1
  have pw := @pw_le (W 3 0).toNat 8 (by omega)
  have pc : ((2 ^ (W 3 0).toNat : Nat) : Int) = 2 ^ (W 3 0).toNat := by exact_mod_cast rfl
  refine ol_Ri (q := q_X9_papersOf) (by decide +kernel) (Nat.le_of_ble_eq_true rfl) (Or.inl rfl) (fun Rt A hA hr => b_X9_papersOf_0 hA t e M ?_)
  show A 5 [some (.inr (.inr 132)), some (.inl t), some (.inl e), some (.inl (pa (gives W t) t (Int.toNat 0))), some (.inl 0), none, none] [] M
  refine ol_loop (P := fun s => A 5 [some (.inr (.inr 132)), some (.inl t), some (.inl e), some (.inl (pa (gives W t) t s.toNat)), some (.inl s), none, none] [] M) (a := 0) (b := 2 ^ (W 3 0).toNat) (by omega) (fun s s0 s1 hk => ?_) ?_
  · rw [show (s + 1).toNat = s.toNat + 1 by omega] at hk
    simp only [pa] at hk
    rw [Int.toNat_of_nonneg s0] at hk
    have yr := @pa_r (gives W t) t s.toNat
    obtain ⟨b, hbb⟩ : ∃ y, y = pa (gives W t) t s.toNat := ⟨_, rfl⟩
    rw [← hbb] at hk yr ⊢
    have pr := @ol_pop_r s
    have pr2 := @ol_pop_r b
    have rs : ol_r s := ⟨by omega, by omega⟩
    have no : ∀ l, 0 ≤ l → l ≤ 8 → ¬ ((¬ s / 2 ^ t.toNat % 2 = 1) ∧ (b = -1 ∨ ol_pop s < ol_pop b) ∧ gives W t s) → A 52 [some (.inr (.inr 132)), some (.inl t), some (.inl e), some (.inl b), some (.inl s), some (.inl 0), some (.inl l)] [] M := fun l l0 l1 c => by
      rw [if_neg c] at hk
      exact b_X9_papersOf_52 hA t e b s 0 l M ⟨⟨by omega, by omega⟩, ol_if.mk (fun _ => ol_if.pos rfl hk) (fun _ => ol_if.pos rfl (ol_if.pos rfl hk))⟩
    have yes : (¬ s / 2 ^ t.toNat % 2 = 1) → (b = -1 ∨ ol_pop s < ol_pop b) → A 52 [some (.inr (.inr 132)), some (.inl t), some (.inl e), some (.inl b), some (.inl s), some (.inl 1), some (.inl 0)] [] M := by
      intro c1 c2
      suffices key : (∀ l', 0 ≤ l' → l' < 0 → W (30 + t) l' ≤ al W s l' (W 3 0).toNat) → A 52 [some (.inr (.inr 132)), some (.inl t), some (.inl e), some (.inl b), some (.inl s), some (.inl 1), some (.inl 0)] [] M from key (fun _ _ _ => by omega)
      refine ol_loop (P := fun l => (∀ l', 0 ≤ l' → l' < l → W (30 + t) l' ≤ al W s l' (W 3 0).toNat) → A 52 [some (.inr (.inr 132)), some (.inl t), some (.inl e), some (.inl b), some (.inl s), some (.inl 1), some (.inl l)] [] M) (a := 0) (b := 8) (by decide) (fun l l0 l1 hl hf => ?_) (fun hf => ?_)
      · refine b_X9_papersOf_52 hA t e b s 1 l M ⟨⟨by omega, by omega⟩, ol_if.neg (by omega) (ol_if.neg (by decide) ⟨⟨by decide, by decide⟩, _, M, m_all w v rs l0 l1, by omega, by omega, ?_⟩)⟩
        rw [v.2.2.2.1 t t0 t1 l l0 l1]
        have ar := @al_r W w s l l0 l1 (W 3 0).toNat (by omega)
        have sb := w.2.2.2.1 t t0 t1 l l0 l1
        refine ⟨⟨by omega, by omega⟩, ⟨by omega, by omega⟩, ol_if.mk (fun d => no (l + 1) (by omega) (by omega) (fun q => ?_)) (fun d => hl (fun l' a1 a2 => ?_))⟩
        · have := q.2.2 l l0 l1
          omega
        · by_cases g : l' = l
          · rw [g]; omega
          · exact hf l' a1 (by omega)
      · rw [if_pos ⟨c1, c2, hf⟩] at hk
        exact b_X9_papersOf_52 hA t e b s 1 8 M ⟨⟨by decide, by decide⟩, ol_if.pos (by decide) (ol_if.neg (by decide) ⟨⟨by decide, by decide⟩, hk⟩)⟩
    refine b_X9_papersOf_5 hA t e b s M ?_
    rw [e9, Int.one_mul]
    exact ⟨by omega, by omega, rs, ⟨by omega, by omega⟩, ol_if.neg (by omega) ⟨rs, t0, by omega, ol_if.mk (fun c => no 0 (by decide) (by decide) (fun q => q.1 c)) (fun c => ol_if.mk (fun d => yes c (Or.inl d)) (fun d => ⟨⟨by omega, by omega⟩, by omega, by omega, by omega, by omega, ⟨by omega, by omega⟩, ⟨by omega, by omega⟩, ol_if.mk (fun g => no 0 (by decide) (by decide) (fun q => by omega)) (fun g => yes c (Or.inr (by omega)))⟩))⟩⟩
  · have yr := @pa_r (gives W t) t (2 ^ (W 3 0).toNat)
    rw [pc] at yr
    refine b_X9_papersOf_5 hA t e _ _ M ?_
    rw [e9, Int.one_mul]
    rw [show ((2 : Int) ^ (W 3 0).toNat).toNat = 2 ^ (W 3 0).toNat by omega]
    unfold rn_papers at hr
    refine ⟨by omega, by omega, ⟨by omega, by omega⟩, ⟨by omega, by omega⟩, ol_if.pos (Int.le_refl _) (ol_if.mk (fun c => ?_) (fun c => ⟨⟨by omega, by omega⟩, ol_if.mk (fun d => ?_) (fun d => ⟨re, by omega, by omega, ?_⟩)⟩))⟩
    · rw [if_pos (Or.inl c)] at hr; exact hr
    · rw [if_pos (Or.inr d)] at hr; exact hr
    · rw [if_neg (fun q => q.elim c d)] at hr; exact hr
theorem m_papers {n : Nat} {S M : ol_M} (i : im S M) (hs : sp_ok S) {t e : Int} (r1 : ol_r t) (r2 : ol_r e) : m_ok n 6 q_X9_papers [.inl t, .inl e] S M (sp_papers S t e) := by
  obtain ⟨M1, r, z, f⟩ := @m_find n S M i hs
  have nr := sp_nT_r S
  have e9 := z.nT
  unfold sp_papers
  apply m_ok.of
  by_cases c : (0 ≤ t ∧ t < sp_nT S) ∧ (0 ≤ e ∧ e ≤ 1)
  · rw [if_pos c]
    refine ⟨M1, ol_Ri (q := q_X9_papers) (by decide +kernel) (Nat.le_of_ble_eq_true rfl) (Or.inl rfl) (fun Rt A hA hr => b_X9_papers_0 hA t e M ⟨M1, r, ?_⟩), z.1, f⟩
    rw [e9]
    exact ⟨r1, ⟨by omega, by omega⟩, ol_if.pos c.1 ⟨r2, ol_if.pos c.2 ⟨_, M1, m_papersOf (sp_W_k hs) z.2.1 c.1.1 c.1.2 r2, hr⟩⟩⟩
  · rw [if_neg c]
    refine ⟨M1, ol_Ri (q := q_X9_papers) (by decide +kernel) (Nat.le_of_ble_eq_true rfl) (Or.inl rfl) (fun Rt A hA hr => b_X9_papers_0 hA t e M ⟨M1, r, ?_⟩), z.1, f⟩
    rw [e9]
    exact ⟨r1, ⟨by omega, by omega⟩, ol_if.mk (fun d => ⟨r2, ol_if.neg (fun q => c ⟨d, q⟩) hr⟩) (fun _ => hr)⟩
