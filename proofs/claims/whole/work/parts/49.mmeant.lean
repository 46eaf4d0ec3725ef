/-! meant -/
/-- the letter i, of those that are no vowels, from place j on, where k of them lie before -/
def ot (f : Int → Int) (n i : Int) : Nat → Int → Int → Int
  | 0, _, _ => -1
  | u + 1, j, k => if n ≤ j then -1 else if f j = 0 ∨ f j = 4 then ot f n i u (j + 1) k else if k = i then f j else ot f n i u (j + 1) (k + 1)
def sp_ot (S : ol_M) (t i : Int) : Int := ot (sp_sp S t) (sp_ln S t) i 7 0 0
def sp_alike (S : ol_M) (v t : Int) : Prop := ∀ i, 0 ≤ i → i < 6 → sp_ot S v i = sp_ot S t i
noncomputable def sp_mb (S : ol_M) (t v : Int) : Int := ol_c (hoth (sp_need S t) ∧ sp_alike S v t)
noncomputable def sp_meant (S : ol_M) (t : Int) : Int × ol_M := (if 0 ≤ t ∧ t < sp_nT S then bs (sp_mb S t) (sp_nT S).toNat else -2, S)
theorem ot_r {f : Int → Int} {n i : Int} (hf : ∀ j, 0 ≤ j → j < n → 0 ≤ f j ∧ f j ≤ 7) : ∀ (u : Nat) (j k : Int), 0 ≤ j → -1 ≤ ot f n i u j k ∧ ot f n i u j k ≤ 7 := by
  intro u
  induction u with
  | zero => intro j k _; exact ⟨Int.le_refl _, (by decide : (-1 : Int) ≤ 7)⟩
  | succ u ih =>
    intro j k j0
    unfold ot
    split
    · omega
    · split
      · exact ih _ _ (by omega)
      · split
        · have := hf j j0 (by omega)
          omega
        · exact ih _ _ (by omega)
theorem m_other {n : Nat} {S M : ol_M} (z : mz S M) {t i : Int} (t0 : 0 ≤ t) (t1 : t < sp_nT S) (i0 : 0 ≤ i) (i1 : i < 6) : ol_R (ol_lay n) 2 q_X9_other [.inr (.inr 132), .inl t, .inl i] M (some (.inl (sp_ot S t i))) M := by
  have nr := sp_nT_r S
  obtain ⟨a1, a2, a3, a4⟩ := z.2.2 t t0 t1
  obtain ⟨b1, b2, b3⟩ := sp_term t0 t1
  have e1 : M 141 t = sp_ln S t := a1
  have e0 : ∀ j, 0 ≤ j → j < sp_ln S t → M 140 (6 * t + j) = sp_sp S t j := a3
  refine ol_Ri (q := q_X9_other) (by decide +kernel) (Nat.le_of_ble_eq_true rfl) (Or.inl rfl) (fun Rt A hA hr => b_X9_other_0 hA t i M ?_)
  have key : ∀ (u : Nat) (j k : Int), 0 ≤ j → j + u = 7 → 0 ≤ k → k ≤ j → Rt (some (.inl (ot (sp_sp S t) (sp_ln S t) i u j k))) M → A 5 [some (.inr (.inr 132)), some (.inl t), some (.inl i), some (.inl k), some (.inl j), none] [] M := by
    intro u
    induction u with
    | zero =>
      intro j k j0 ju k0 kj h
      refine b_X9_other_5 hA t i k j M ?_
      rw [e1]
      exact ⟨t0, by omega, ⟨by omega, by omega⟩, ⟨by omega, by omega⟩, ol_if.pos (by omega) h⟩
    | succ u ih =>
      intro j k j0 ju k0 kj h
      refine b_X9_other_5 hA t i k j M ?_
      rw [e1]
      unfold ot at h
      refine ⟨t0, by omega, ⟨by omega, by omega⟩, ⟨by omega, by omega⟩, ol_if.mk (fun c => ?_) (fun c => ?_)⟩
      · rw [if_pos c] at h; exact h
      · rw [if_neg c] at h
        have q := b3 j j0 (by omega)
        rw [e0 j j0 (by omega)]
        refine ⟨by omega, by omega, ⟨by omega, by omega⟩, ol_if.mk (fun d => ?_) (fun d => ol_if.mk (fun e => ?_) (fun e => ⟨⟨by omega, by omega⟩, ⟨by omega, by omega⟩, ?_⟩))⟩
        · rw [if_pos d] at h
          exact ih (j + 1) k (by omega) (by omega) k0 (by omega) h
        · rw [if_neg d, if_pos e] at h
          exact h
        · rw [if_neg d, if_neg e] at h
          exact ih (j + 1) (k + 1) (by omega) (by omega) (by omega) (by omega) h
  exact key 7 0 0 (by decide) (by decide) (by decide) (by decide) hr
theorem m_readsAlike {n : Nat} {S M : ol_M} (z : mz S M) {v t : Int} (v0 : 0 ≤ v) (v1 : v < sp_nT S) (t0 : 0 ≤ t) (t1 : t < sp_nT S) : ol_R (ol_lay n) 3 q_X9_readsAlike [.inr (.inr 132), .inl v, .inl t] M (some (.inl (ol_c (sp_alike S v t)))) M := by
  have nr := sp_nT_r S
  have bv := (sp_term v0 v1).2.2
  have bt := (sp_term t0 t1).2.2
  refine ol_Ri (q := q_X9_readsAlike) (by decide +kernel) (Nat.le_of_ble_eq_true rfl) (Or.inr ⟨rfl, ol_c01⟩) (fun Rt A hA hr => b_X9_readsAlike_0 hA v t M ?_)
  have bad : ¬ sp_alike S v t → A 5 [some (.inr (.inr 132)), some (.inl v), some (.inl t), some (.inl 0), some (.inl 0)] [] M ∧ ∀ i, 0 ≤ i → i ≤ 6 → A 5 [some (.inr (.inr 132)), some (.inl v), some (.inl t), some (.inl 0), some (.inl i)] [] M := by
    intro c
    rw [ol_c0 c] at hr
    have all : ∀ i, 0 ≤ i → i ≤ 6 → A 5 [some (.inr (.inr 132)), some (.inl v), some (.inl t), some (.inl 0), some (.inl i)] [] M := by
      intro i i0 i1
      refine ol_loop (P := fun i => A 5 [some (.inr (.inr 132)), some (.inl v), some (.inl t), some (.inl 0), some (.inl i)] [] M) (a := i) (b := 6) i1 (fun j j0 j1 hj => ?_) ?_
      · exact b_X9_readsAlike_5 hA v t 0 j M ⟨⟨by omega, by omega⟩, ol_if.neg (by omega) (ol_if.pos rfl hj)⟩
      · exact b_X9_readsAlike_5 hA v t 0 6 M ⟨⟨by decide, by decide⟩, ol_if.pos (by decide) hr⟩
    exact ⟨all 0 (by decide) (by decide), all⟩
  suffices key : (∀ j, 0 ≤ j → j < 0 → sp_ot S v j = sp_ot S t j) → A 5 [some (.inr (.inr 132)), some (.inl v), some (.inl t), some (.inl 1), some (.inl 0)] [] M from key (fun j j0 j1 => by omega)
  refine ol_loop (P := fun i => (∀ j, 0 ≤ j → j < i → sp_ot S v j = sp_ot S t j) → A 5 [some (.inr (.inr 132)), some (.inl v), some (.inl t), some (.inl 1), some (.inl i)] [] M) (a := 0) (b := 6) (by decide) (fun i i0 i1 hi hj => ?_) (fun hj => ?_)
  · have r1 : -1 ≤ sp_ot S v i ∧ sp_ot S v i ≤ 7 := ot_r bv 7 0 0 (by decide)
    have r2 : -1 ≤ sp_ot S t i ∧ sp_ot S t i ≤ 7 := ot_r bt 7 0 0 (by decide)
    refine b_X9_readsAlike_5 hA v t 1 i M ⟨⟨by omega, by omega⟩, ol_if.neg (by omega) (ol_if.neg (by decide) ⟨⟨by decide, by decide⟩, _, M, m_other z v0 v1 i0 i1, _, M, m_other z t0 t1 i0 i1, ol_if.mk (fun c => hi (fun j j0 j1 => ?_)) (fun c => ⟨⟨by omega, by omega⟩, ⟨by omega, by omega⟩, (bad (fun q => c (q i i0 i1))).2 (i + 1) (by omega) (by omega)⟩)⟩)⟩
    by_cases p : j = i
    · rw [p]; exact c
    · exact hj j j0 (by omega)
  · rw [ol_c1 (show sp_alike S v t from hj)] at hr
    exact b_X9_readsAlike_5 hA v t 1 6 M ⟨⟨by decide, by decide⟩, ol_if.pos (by decide) hr⟩
theorem m_meantOf {n : Nat} {S M : ol_M} (hs : sp_ok S) (z : mz S M) {t : Int} (t0 : 0 ≤ t) (t1 : t < sp_nT S) : ol_R (ol_lay n) 4 q_X9_meantOf [.inr (.inr 132), .inl t] M (some (.inl (bs (sp_mb S t) (sp_nT S).toNat))) M := by
  have w := sp_W_k hs
  have nr := sp_nT_r S
  have e9 := z.nT
  refine ol_Ri (q := q_X9_meantOf) (by decide +kernel) (Nat.le_of_ble_eq_true rfl) (Or.inl rfl) (fun Rt A hA hr => b_X9_meantOf_0 hA t M ?_)
  show A 4 [some (.inr (.inr 132)), some (.inl t), some (.inl (bs (sp_mb S t) (Int.toNat 0))), some (.inl 0)] [] M
  refine ol_loop (P := fun v => A 4 [some (.inr (.inr 132)), some (.inl t), some (.inl (bs (sp_mb S t) v.toNat)), some (.inl v)] [] M) (a := 0) (b := sp_nT S) nr.1 (fun v v0 v1 hv => ?_) ?_
  · rw [show (v + 1).toNat = v.toNat + 1 by omega] at hv
    have ek : ((v.toNat : Nat) : Int) = v := Int.toNat_of_nonneg v0
    have ho := @m_hasOthers n _ M w z.2.1 t t0 t1
    rw [sp_W_need t0] at ho
    refine b_X9_meantOf_4 hA t _ v M ?_
    rw [e9]
    refine ⟨⟨by omega, by omega⟩, ⟨by omega, by omega⟩, ol_if.neg (by omega) ⟨_, M, ho, ?_⟩⟩
    by_cases c : hoth (sp_need S t)
    · rw [ol_b1 (show (0 < sp_need S t 1 ∨ 0 < sp_need S t 2 ∨ 0 < sp_need S t 3 ∨ 0 < sp_need S t 5 ∨ 0 < sp_need S t 6 ∨ 0 < sp_need S t 7) from c)]
      refine ol_if.neg (by decide) ⟨⟨by decide, by decide⟩, _, M, m_readsAlike z v0 v1 t0 t1, ?_⟩
      by_cases d : sp_alike S v t
      · rw [ol_c1 d]
        refine ol_if.neg (by decide) ⟨⟨by decide, by decide⟩, v0, by omega, ?_⟩
        rw [bs_1 (by omega) (by rw [ek]; unfold sp_mb; rw [ol_c1 ⟨c, d⟩]; decide)]
        exact hv
      · rw [ol_c0 d]
        refine ol_if.pos rfl ?_
        rw [bs_0 (by omega) (by rw [ek]; exact ol_c0 (fun q => d q.2))]
        exact hv
    · rw [ol_b0 (show ¬ (0 < sp_need S t 1 ∨ 0 < sp_need S t 2 ∨ 0 < sp_need S t 3 ∨ 0 < sp_need S t 5 ∨ 0 < sp_need S t 6 ∨ 0 < sp_need S t 7) from c)]
      refine ol_if.pos rfl ?_
      rw [bs_0 (by omega) (by rw [ek]; exact ol_c0 (fun q => c q.1))]
      exact hv
  · refine b_X9_meantOf_4 hA t _ (sp_nT S) M ?_
    rw [e9]
    exact ⟨⟨by omega, by omega⟩, ⟨by omega, by omega⟩, ol_if.pos (by omega) hr⟩
theorem m_meant {n : Nat} {S M : ol_M} (i : im S M) (hs : sp_ok S) {t : Int} (r1 : ol_r t) : m_ok n 6 q_X9_meant [.inl t] S M (sp_meant S t) := by
  obtain ⟨M1, r, z, f⟩ := @m_find n S M i hs
  have nr := sp_nT_r S
  have e9 := z.nT
  unfold sp_meant
  apply m_ok.of
  by_cases c : 0 ≤ t ∧ t < sp_nT S
  · rw [if_pos c]
    refine ⟨M1, ol_Ri (q := q_X9_meant) (by decide +kernel) (Nat.le_of_ble_eq_true rfl) (Or.inl rfl) (fun Rt A hA hr => b_X9_meant_0 hA t M ⟨M1, r, ?_⟩), z.1, f⟩
    rw [e9]
    exact ⟨r1, ⟨by omega, by omega⟩, ol_if.pos c ⟨_, M1, m_meantOf hs z c.1 c.2, hr⟩⟩
  · rw [if_neg c]
    refine ⟨M1, ol_Ri (q := q_X9_meant) (by decide +kernel) (Nat.le_of_ble_eq_true rfl) (Or.inl rfl) (fun Rt A hA hr => b_X9_meant_0 hA t M ⟨M1, r, ?_⟩), z.1, f⟩
    rw [e9]
    exact ⟨r1, ⟨by omega, by omega⟩, ol_if.neg c hr⟩
/-! ask -/
def ac (f c : Int → Int) (a : Int) : Nat → Int
  | 0 => 0
  | k + 1 => ac f c a k + (if f a ≠ 0 ∧ f k ≠ 0 ∧ c a = c k then 1 else 0)
def ma (f c : Int → Int) (n : Nat) : Nat → Int
  | 0 => 0
  | k + 1 => if ma f c n k < ac f c k n then ac f c k n else ma f c n k
def am (g : Int → Int) : Nat → Int
  | 0 => 0
  | k + 1 => if g (k + 1 : Nat) < g (am g k) then (k + 1 : Nat) else am g k
theorem ac_r {f c : Int → Int} {a : Int} : ∀ k : Nat, 0 ≤ ac f c a k ∧ ac f c a k ≤ k := by
  intro k
  induction k with
  | zero => exact ⟨Int.le_refl _, Int.le_refl _⟩
  | succ k ih => unfold ac; split <;> omega
theorem ma_r {f c : Int → Int} {n : Nat} : ∀ k : Nat, 0 ≤ ma f c n k ∧ ma f c n k ≤ n := by
  intro k
  induction k with
  | zero => exact ⟨Int.le_refl _, by show (0 : Int) ≤ n; omega⟩
  | succ k ih =>
    have := @ac_r f c k n
    unfold ma; split <;> omega
theorem am_r {g : Int → Int} : ∀ k : Nat, 0 ≤ am g k ∧ am g k ≤ k := by
  intro k
  induction k with
  | zero => exact ⟨Int.le_refl _, Int.le_refl _⟩
  | succ k ih => unfold am; split <;> omega
noncomputable def sp_ct (S : ol_M) (m h l k : Int) : Int := rn_lv (wo (sp_W S) k) (m + 1).toNat 0 (8 * h + l)
noncomputable def sp_al (S : ol_M) (m h l : Int) : Int := ma (sp_su S) (sp_ct S m h l) (S 0 2).toNat (S 0 2).toNat
noncomputable def sp_ask (S : ol_M) (m h : Int) : Int × ol_M := (if (0 ≤ m ∧ m ≤ 11) ∧ (0 ≤ h ∧ h < sp_nH S) then am (sp_al S m h) 7 else -2, S)
def fr_c (M M' : ol_M) : Prop := ∀ c, ¬ (147 ≤ c ∧ c ≤ 151) → c ≠ 153 → M' c = M c
theorem fr_c.tr {M M' M'' : ol_M} (h : fr_c M M') (h' : fr_c M' M'') : fr_c M M'' := fun c a b => (h' c a b).trans (h c a b)
theorem fr_s.c {M M' : ol_M} (h : fr_s M M') : fr_c M M' := fun c a _ => h c a
theorem mz.frc {S M M' : ol_M} (h : mz S M) (f : fr_c M M') : mz S M' := by
  have e : mz S (ol_mp M' 153 (M 153)) := h.fr (fun c a => by
    by_cases q : c = 153
    · rw [q, ol_mp_same]
    · rw [ol_mp_ne _ _ q]; exact f c a q)
  obtain ⟨⟨h1, h2, h3, h4, h5, h6, h7, h8⟩, h9, hA⟩ := e
  have n : ∀ c : Int, c ≠ 153 → ol_mp M' 153 (M 153) c = M' c := fun c q => ol_mp_ne _ _ q
  unfold im_g at h7
  unfold im_h at h8
  unfold mv at h9
  unfold m_tm at hA
  rw [n 132 (by decide)] at h7 h9
  rw [n 133 (by decide), n 134 (by decide), n 135 (by decide)] at h8
  rw [n 139 (by decide), n 143 (by decide), n 144 (by decide), n 145 (by decide), n 146 (by decide)] at h9
  rw [n 140 (by decide), n 141 (by decide), n 142 (by decide), n 143 (by decide)] at hA
  exact ⟨⟨h1.keep rfl rfl rfl rfl (n _ (by decide)).symm (n _ (by decide)).symm, h2.keep rfl (n _ (by decide)).symm, h3.keep rfl rfl rfl rfl (by rw [n _ (by decide)]) (n _ (by decide)).symm, h4.keep rfl rfl rfl rfl rfl (by rw [n _ (by decide)]) (n _ (by decide)).symm, h5.keep rfl rfl rfl rfl rfl (by rw [n _ (by decide)]) (n _ (by decide)).symm, h6.keep rfl (by rw [n _ (by decide)]), h7, h8⟩, h9, hA⟩
