/-! THE HOUSES' TEXT -/
/-- what a byte tells at its place; -9: it cannot stand there -/
def ph_v (k b : Int) : Int := if k = 0 then (if b = 114 then 0 else if b = 109 then 1 else if b = 118 then 2 else -9) else if k = 1 then (if 49 ≤ b ∧ b ≤ 57 then b - 48 else -9) else if b = 59 then 0 else -9
/-- the fault of a text of n bytes, from its place i on -/
def ph_ft (f : Int → Int) (n : Int) : Nat → Int → Int
  | 0, _ => -1
  | u + 1, i => if n ≤ i then (if 0 < n ∧ n % 3 ≠ 2 then n else -1) else if ph_v (i % 3) (f i) = -9 then i else ph_ft f n u (i + 1)
def sp_hf (S : ol_M) : Int := ph_ft (S 1) (S 0 0) 24 0
def sp_nH (S : ol_M) : Int := if sp_hf S = -1 then (S 0 0 + 1) / 3 else 0
def sp_kd (S : ol_M) (h : Int) : Int := ph_v 0 (S 1 (3 * h))
def sp_hd (S : ol_M) (h : Int) : Int := ph_v 1 (S 1 (3 * h + 1))
/-- from this place on the method answers v and leaves M' -/
def ol_T (n : Nat) (q : ol_MD) (d pc : Nat) (ls : ol_Ls) (st : ol_St) (M : ol_M) (v : Option ol_V) (M' : ol_M) : Prop := ∀ (Rt : Option ol_V → ol_M → Prop) (A : Nat → ol_Ls → ol_St → ol_M → Prop), ol_C q.1.cls q.2.1 d (ol_lay n) Rt A → Rt v M' → A pc ls st M
theorem p_houseOf {lay : ol_L} {k b : Int} {M : ol_M} (r1 : ol_r k) (r2 : ol_r b) : ol_R lay 2 q_X9_houseOf [.inl k, .inl b] M (some (.inl (ph_v k b))) M := by
  refine ol_Ri (q := q_X9_houseOf) (by decide +kernel) (Nat.le_of_ble_eq_true rfl) (Or.inl rfl) (fun Rt A hA hr => b_X9_houseOf_0 hA k b M ?_)
  unfold ph_v at hr
  by_cases c0 : k = 0
  · rw [if_pos c0] at hr
    refine ol_if.pos c0 ?_
    by_cases c1 : b = 114
    · rw [if_pos c1] at hr; exact ol_if.pos c1 hr
    rw [if_neg c1] at hr
    refine ol_if.neg c1 ⟨r2, ?_⟩
    by_cases c2 : b = 109
    · rw [if_pos c2] at hr; exact ol_if.pos c2 hr
    rw [if_neg c2] at hr
    refine ol_if.neg c2 ⟨r2, ?_⟩
    by_cases c3 : b = 118
    · rw [if_pos c3] at hr; exact ol_if.pos c3 hr
    rw [if_neg c3] at hr
    exact ol_if.neg c3 ⟨r2, hr⟩
  rw [if_neg c0] at hr
  refine ol_if.neg c0 ⟨r1, ?_⟩
  by_cases c1 : k = 1
  · rw [if_pos c1] at hr
    refine ol_if.pos c1 ⟨r2, ol_r_l r2, ?_⟩
    by_cases c2 : 49 ≤ b ∧ b ≤ 57
    · rw [if_pos c2] at hr; exact ol_if.pos c2 hr
    rw [if_neg c2] at hr
    exact ol_if.neg c2 hr
  rw [if_neg c1] at hr
  refine ol_if.neg c1 ⟨r1, ?_⟩
  by_cases c2 : b = 59
  · rw [if_pos c2] at hr; exact ol_if.pos c2 hr
  rw [if_neg c2] at hr
  exact ol_if.neg c2 ⟨r2, hr⟩
theorem ph_v_r {k b : Int} : -9 ≤ ph_v k b ∧ ph_v k b ≤ 9 := by
  unfold ph_v
  repeat' split
  all_goals omega
/-- only the number of houses, and the houses, have changed -/
def fr_h (M M' : ol_M) : Prop := (∀ c, c ≠ 132 → c ≠ 139 → M' c = M c) ∧ ∀ j, j ≠ 7 → M' 132 j = M 132 j
theorem fr_h.rf {M : ol_M} : fr_h M M := ⟨fun _ _ _ => rfl, fun _ _ => rfl⟩
theorem fr_h.tr {M M' M'' : ol_M} (h : fr_h M M') (h' : fr_h M' M'') : fr_h M M'' := ⟨fun c a b => (h'.1 c a b).trans (h.1 c a b), fun j a => (h'.2 j a).trans (h.2 j a)⟩
theorem fr_h.s7 {M M' : ol_M} (h : fr_h M M') {v : Int} : fr_h M (ol_ms M' 132 7 v) := ⟨fun c a b => (ol_ms_ne _ _ _ a).trans (h.1 c a b), fun j a => (ol_ms_i _ _ _ a).trans (h.2 j a)⟩
theorem fr_h.s139 {M M' : ol_M} (h : fr_h M M') {i v : Int} : fr_h M (ol_ms M' 139 i v) := ⟨fun c a b => (ol_ms_ne _ _ _ b).trans (h.1 c a b), fun j a => by rw [ol_ms_ne _ _ _ (by decide)]; exact h.2 j a⟩
theorem tm3 {i : Int} (h : 0 ≤ i) : Int.tmod i 3 = i % 3 := Int.tmod_eq_emod_of_nonneg h
theorem td3 {i : Int} (h : 0 ≤ i) : Int.tdiv i 3 = i / 3 := Int.tdiv_eq_ediv_of_nonneg h
theorem m_readsHouses {n : Nat} {S M : ol_M} (h : im_t S M) (hs : sp_ok_t S) : ∃ M', ol_R (ol_lay n) 3 q_X9_readsHouses [.inr (.inr 132)] M (some (.inl (sp_hf S))) M' ∧ fr_h M M' ∧ M' 132 7 = sp_nH S ∧ ∀ k, 0 ≤ k → k < sp_nH S → M' 139 (2 * k) = sp_kd S k ∧ M' 139 (2 * k + 1) = sp_hd S k := by
  obtain ⟨o1, o2, o3, o4⟩ := hs
  obtain ⟨g1, g2, g3, g4⟩ := h
  obtain ⟨N, hN⟩ : ∃ x, x = S 0 0 := ⟨_, rfl⟩
  rw [← hN] at o1 g1 g3 o3
  have rN : ol_r N := ⟨by omega, by omega⟩
  have key : ∀ (u : Nat) (i : Int) (Mi : ol_M), 0 ≤ i → i ≤ N → i + u = 24 → fr_h M Mi → Mi 132 7 = (i + 1) / 3 → (∀ a k, 0 ≤ a → 0 ≤ k → k ≤ 1 → 3 * a + k < i → Mi 139 (2 * a + k) = ph_v k (S 1 (3 * a + k))) → ∃ M', ol_T n q_X9_readsHouses 2 14 [some (.inr (.inr 132)), some (.inl N), some (.inl i), none, none] [] Mi (some (.inl (ph_ft (S 1) N u i))) M' ∧ fr_h M M' ∧ (if ph_ft (S 1) N u i = -1 then M' 132 7 = (N + 1) / 3 ∧ ∀ a k, 0 ≤ a → 0 ≤ k → k ≤ 1 → 3 * a + k < N → M' 139 (2 * a + k) = ph_v k (S 1 (3 * a + k)) else M' 132 7 = 0) := by
    intro u
    induction u with
    | zero => intro i Mi i0 i1 i2; omega
    | succ u ih =>
      intro i Mi i0 i1 i2 fr e7 e9
      have ri : ol_r i := ⟨by omega, by omega⟩
      unfold ph_ft
      by_cases c1 : N ≤ i
      · rw [if_pos c1]
        have hiN : i = N := by omega
        by_cases c2 : 0 < N ∧ N % 3 ≠ 2
        · rw [if_pos c2]
          refine ⟨ol_ms Mi 132 7 0, fun Rt A hA hr => b_X9_readsHouses_14 hA N i Mi ⟨ri, rN, ol_if.pos c1 ⟨rN, ol_if.neg (by omega) ⟨rN, ?_⟩⟩⟩, fr.s7, ?_⟩
          · rw [tm3 o1.1]
            exact ol_if.neg c2.2 ⟨⟨by omega, by omega⟩, hr⟩
          · rw [if_neg (by omega), ol_msA]
        · rw [if_neg c2]
          refine ⟨Mi, fun Rt A hA hr => b_X9_readsHouses_14 hA N i Mi ⟨ri, rN, ol_if.pos c1 ⟨rN, ?_⟩⟩, fr, ?_⟩
          · by_cases c3 : N ≤ 0
            · exact ol_if.pos c3 hr
            · refine ol_if.neg c3 ⟨rN, ?_⟩
              rw [tm3 o1.1]
              exact ol_if.pos (by omega) hr
          · rw [if_pos rfl, e7, hiN]
            exact ⟨rfl, fun a k a0 k0 k1 hk => e9 a k a0 k0 k1 (by omega)⟩
      · rw [if_neg c1]
        have eb : Mi 137 i = S 1 i := by rw [fr.1 137 (by decide) (by decide)]; exact g3 i i0 (by omega)
        have rb : ol_r (S 1 i) := by have := o3 i i0 (by omega); exact ⟨by omega, by omega⟩
        have pv := @ph_v_r (i % 3) (S 1 i)
        by_cases c2 : ph_v (i % 3) (S 1 i) = -9
        · rw [if_pos c2]
          refine ⟨ol_ms Mi 132 7 0, fun Rt A hA hr => b_X9_readsHouses_14 hA N i Mi ⟨ri, rN, ol_if.neg c1 ⟨ri, i0, by omega, _, _, by rw [tm3 i0, eb]; exact p_houseOf ⟨by omega, by omega⟩ rb, ol_if.pos c2 hr⟩⟩, fr.s7, ?_⟩
          rw [if_neg (by omega), ol_msA]
        · rw [if_neg c2]
          have step : ∀ (M1 : ol_M), fr_h M M1 → M1 132 7 = (i + 1 + 1) / 3 → (∀ a k, 0 ≤ a → 0 ≤ k → k ≤ 1 → 3 * a + k < i + 1 → M1 139 (2 * a + k) = ph_v k (S 1 (3 * a + k))) → (∀ (Rt : Option ol_V → ol_M → Prop) (A : Nat → ol_Ls → ol_St → ol_M → Prop), ol_C q_X9_readsHouses.1.cls q_X9_readsHouses.2.1 2 (ol_lay n) Rt A → A 14 [some (.inr (.inr 132)), some (.inl N), some (.inl (i + 1)), none, none] [] M1 → A 49 [some (.inr (.inr 132)), some (.inl N), some (.inl i), some (.inl (i % 3)), some (.inl (ph_v (i % 3) (S 1 i)))] [] Mi) → ∃ M', ol_T n q_X9_readsHouses 2 14 [some (.inr (.inr 132)), some (.inl N), some (.inl i), none, none] [] Mi (some (.inl (ph_ft (S 1) N u (i + 1)))) M' ∧ fr_h M M' ∧ (if ph_ft (S 1) N u (i + 1) = -1 then M' 132 7 = (N + 1) / 3 ∧ ∀ a k, 0 ≤ a → 0 ≤ k → k ≤ 1 → 3 * a + k < N → M' 139 (2 * a + k) = ph_v k (S 1 (3 * a + k)) else M' 132 7 = 0) := by
            intro M1 f1 e1 e2 hgo
            obtain ⟨M', hT, hf, hP⟩ := ih (i + 1) M1 (by omega) (by omega) (by omega) f1 e1 e2
            refine ⟨M', fun Rt A hA hr => b_X9_readsHouses_14 hA N i Mi ⟨ri, rN, ol_if.neg c1 ⟨ri, i0, by omega, _, _, by rw [tm3 i0, eb]; exact p_houseOf ⟨by omega, by omega⟩ rb, ol_if.neg c2 ⟨⟨by omega, by omega⟩, ?_⟩⟩⟩, hf, hP⟩
            rw [tm3 i0]
            exact hgo Rt A hA (hT Rt A hA hr)
          have hr3 : ol_r (i % 3) := ⟨by omega, by omega⟩
          rcases (show i % 3 = 0 ∨ i % 3 = 1 ∨ i % 3 = 2 by omega) with m3 | m3 | m3
          · refine step (ol_ms (ol_ms Mi 139 (2 * (i / 3) + i % 3) (ph_v (i % 3) (S 1 i))) 132 7 (Mi 132 7 + 0)) fr.s139.s7 (by rw [ol_msA]; omega) (fun a k a0 k0 k1 hk => ?_) (fun Rt A hA hr => ?_)
            · rw [ol_ms_ne _ _ _ (by decide), ol_ms_row]
              by_cases q : 3 * a + k = i
              · rw [show 2 * a + k = 2 * (i / 3) + i % 3 by omega, ol_rsA, q, show k = i % 3 by omega]
              · rw [ol_rsN _ _ (by omega)]
                exact e9 a k a0 k0 k1 (by omega)
            · refine b_X9_readsHouses_49 hA N i _ _ Mi ⟨hr3, ol_if.neg (by omega) ⟨ri, ?_⟩⟩
              rw [td3 i0]
              exact ⟨by omega, by omega, ol_if.neg (by omega) ⟨hr3, hr⟩⟩
          · refine step (ol_ms (ol_ms Mi 139 (2 * (i / 3) + i % 3) (ph_v (i % 3) (S 1 i))) 132 7 (Mi 132 7 + 1)) fr.s139.s7 (by rw [ol_msA]; omega) (fun a k a0 k0 k1 hk => ?_) (fun Rt A hA hr => ?_)
            · rw [ol_ms_ne _ _ _ (by decide), ol_ms_row]
              by_cases q : 3 * a + k = i
              · rw [show 2 * a + k = 2 * (i / 3) + i % 3 by omega, ol_rsA, q, show k = i % 3 by omega]
              · rw [ol_rsN _ _ (by omega)]
                exact e9 a k a0 k0 k1 (by omega)
            · refine b_X9_readsHouses_49 hA N i _ _ Mi ⟨hr3, ol_if.neg (by omega) ⟨ri, ?_⟩⟩
              rw [td3 i0]
              exact ⟨by omega, by omega, ol_if.pos m3 hr⟩
          · refine step (ol_ms Mi 132 7 (Mi 132 7 + 0)) fr.s7 (by rw [ol_msA]; omega) (fun a k a0 k0 k1 hk => ?_) (fun Rt A hA hr => ?_)
            · rw [ol_ms_ne _ _ _ (by decide)]
              exact e9 a k a0 k0 k1 (by omega)
            · exact b_X9_readsHouses_49 hA N i _ _ Mi ⟨hr3, ol_if.pos (by omega) (ol_if.neg (by omega) ⟨hr3, hr⟩)⟩
  obtain ⟨M', hT, hf, hP⟩ := key 24 0 (ol_ms M 132 7 0) (by decide) (by omega) (by decide) fr_h.rf.s7 (by rw [ol_msA]; decide) (fun a k a0 k0 k1 hk => by omega)
  have ehf : sp_hf S = ph_ft (S 1) N 24 0 := by unfold sp_hf; rw [← hN]
  refine ⟨M', ol_Ri (q := q_X9_readsHouses) (by decide +kernel) (Nat.le_of_ble_eq_true rfl) (Or.inl rfl) (fun Rt A hA hr => b_X9_readsHouses_0 hA M ?_), hf, ?_, ?_⟩
  · rw [g1]
    rw [ehf] at hr
    exact hT Rt A hA hr
  · unfold sp_nH
    rw [ehf, ← hN]
    by_cases q : ph_ft (S 1) N 24 0 = -1
    · rw [if_pos q] at hP ⊢
      exact hP.1
    · rw [if_neg q] at hP ⊢
      exact hP
  · intro k k0 k1
    unfold sp_nH at k1
    rw [ehf, ← hN] at k1
    by_cases q : ph_ft (S 1) N 24 0 = -1
    · rw [if_pos q] at hP k1
      have z0 := hP.2 k 0 k0 (by decide) (by decide) (by omega)
      have z1 := hP.2 k 1 k0 (by decide) (by decide) (by omega)
      rw [Int.add_zero, Int.add_zero] at z0
      exact ⟨z0, z1⟩
    · rw [if_neg q] at k1
      omega
