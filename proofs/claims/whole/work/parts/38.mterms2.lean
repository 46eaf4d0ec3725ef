/-- what is known of a term that has been read -/
def pt_g (P : ol_M) (t : Int) : Prop := (1 ≤ P 0 t ∧ P 0 t ≤ 6) ∧ (0 ≤ P 1 t ∧ P 1 t ≤ 9) ∧ ∀ i, 0 ≤ i → i < P 0 t → 0 ≤ P (10 + t) i ∧ P (10 + t) i ≤ 7
def pt_i (t l e : Int) (P : ol_M) : Prop := (0 ≤ t ∧ t ≤ 8) ∧ (0 ≤ l ∧ l ≤ 6) ∧ (e = 0 ∨ e = 1) ∧ (e = 1 → l = 0) ∧ (t = 8 → l = 0) ∧ (∀ k, 0 ≤ k → k < t → pt_g P k) ∧ ∀ i, 0 ≤ i → i < l → 0 ≤ P (10 + t) i ∧ P (10 + t) i ≤ 7
theorem pt_i.letter {t l b : Int} {P : ol_M} (h : pt_i t l 0 P) (c : (97 ≤ b ∧ b ≤ 104) ∧ l < 6 ∧ t < 8) : pt_i t (l + 1) 0 (ol_ms P (10 + t) l (b - 97)) := by
  obtain ⟨h1, h2, h3, h4, h5, h6, h7⟩ := h
  refine ⟨h1, by omega, Or.inl rfl, fun q => by omega, fun q => by omega, fun k k0 k1 => ?_, fun i i0 i1 => ?_⟩
  · unfold pt_g
    rw [ol_ms_ne _ _ _ (by omega), ol_ms_ne _ _ _ (by omega), ol_ms_ne _ _ _ (by omega)]
    exact h6 k k0 k1
  · rw [ol_ms_row]
    by_cases q : i = l
    · rw [q, ol_rsA]; omega
    · rw [ol_rsN _ _ q]; exact h7 i i0 (by omega)
theorem pt_i.figure {t l b : Int} {P : ol_M} (h : pt_i t l 0 P) (c : (48 ≤ b ∧ b ≤ 57) ∧ 0 < l) : pt_i (t + 1) 0 1 (ol_ms (ol_ms P 0 t l) 1 t (b - 48)) := by
  obtain ⟨h1, h2, h3, h4, h5, h6, h7⟩ := h
  have t8 : t ≠ 8 := fun q => by have := h5 q; omega
  refine ⟨by omega, by omega, Or.inr rfl, fun q => rfl, fun q => rfl, fun k k0 k1 => ?_, fun i i0 i1 => by omega⟩
  unfold pt_g
  rw [ol_ms_ne _ _ _ (show (0 : Int) ≠ 1 by decide), ol_ms_row, ol_ms_row, ol_ms_ne _ _ _ (show (1 : Int) ≠ 0 by decide), ol_ms_ne _ _ _ (show (10 + k : Int) ≠ 1 by omega), ol_ms_ne _ _ _ (show (10 + k : Int) ≠ 0 by omega)]
  by_cases q : k = t
  · rw [q, ol_rsA, ol_rsA]
    exact ⟨by omega, by omega, fun i i0 i1 => h7 i i0 i1⟩
  · rw [ol_rsN _ _ q, ol_rsN _ _ q]
    exact h6 k k0 (by omega)
theorem pt_i.next {t l : Int} {P : ol_M} (h : pt_i t l 1 P) : pt_i t l 0 P := by
  obtain ⟨h1, h2, h3, h4, h5, h6, h7⟩ := h
  exact ⟨h1, h2, Or.inl rfl, fun q => by omega, h5, h6, h7⟩
theorem pt_ok {g : Int → Int} {n : Int} : ∀ (u : Nat) (i t l e : Int) (P : ol_M), pt_i t l e P → (0 ≤ (pt g n u i t l e P).2.1 ∧ (pt g n u i t l e P).2.1 ≤ 8) ∧ ∀ k, 0 ≤ k → k < (pt g n u i t l e P).2.1 → pt_g (pt g n u i t l e P).2.2 k := by
  intro u
  induction u with
  | zero => intro i t l e P h; exact ⟨h.1, h.2.2.2.2.2.1⟩
  | succ u ih =>
    intro i t l e P h
    unfold pt
    by_cases c0 : n ≤ i
    · rw [if_pos c0]
      split
      · exact ⟨⟨Int.le_refl 0, (by decide : (0 : Int) ≤ 8)⟩, fun k k0 k1 => absurd k1 (by show ¬ k < 0; omega)⟩
      · exact ⟨h.1, h.2.2.2.2.2.1⟩
    rw [if_neg c0]
    by_cases c1 : e = 0 ∧ (97 ≤ g i ∧ g i ≤ 104) ∧ l < 6 ∧ t < 8
    · rw [if_pos c1]
      obtain ⟨rfl, c1⟩ := c1
      exact ih _ _ _ _ _ (h.letter c1)
    rw [if_neg c1]
    by_cases c2 : e = 0 ∧ (48 ≤ g i ∧ g i ≤ 57) ∧ 0 < l
    · rw [if_pos c2]
      obtain ⟨rfl, c2⟩ := c2
      exact ih _ _ _ _ _ (h.figure c2)
    rw [if_neg c2]
    by_cases c3 : e = 1 ∧ g i = 59
    · rw [if_pos c3]
      obtain ⟨rfl, c3⟩ := c3
      exact ih _ _ _ _ _ h.next
    rw [if_neg c3]
    exact ⟨⟨Int.le_refl 0, (by decide : (0 : Int) ≤ 8)⟩, fun k k0 k1 => absurd k1 (by show ¬ k < 0; omega)⟩
theorem pt_i0 : pt_i 0 0 0 (fun _ _ => 0) := ⟨⟨by decide, by decide⟩, ⟨by decide, by decide⟩, Or.inl rfl, fun _ => rfl, fun _ => rfl, fun k k0 k1 => by omega, fun i i0 i1 => by omega⟩
theorem sp_nT_r (S : ol_M) : 0 ≤ sp_nT S ∧ sp_nT S ≤ 8 := (pt_ok 56 0 0 0 0 _ pt_i0).1
theorem sp_term {S : ol_M} {t : Int} (h0 : 0 ≤ t) (h1 : t < sp_nT S) : (1 ≤ sp_ln S t ∧ sp_ln S t ≤ 6) ∧ (0 ≤ sp_mn S t ∧ sp_mn S t ≤ 9) ∧ ∀ i, 0 ≤ i → i < sp_ln S t → 0 ≤ sp_sp S t i ∧ sp_sp S t i ≤ 7 := (pt_ok 56 0 0 0 0 _ pt_i0).2 t h0 h1
theorem sp_need_r {S : ol_M} {t l : Int} (h0 : 0 ≤ t) (h1 : t < sp_nT S) : 0 ≤ sp_need S t l ∧ sp_need S t l ≤ 6 := by
  have := @ct_r (sp_sp S t) l (sp_ln S t).toNat
  have := (sp_term h0 h1).1
  unfold sp_need
  omega
/-- only the terms have changed -/
def fr_t (M M' : ol_M) : Prop := (∀ c, c ≠ 132 → ¬ (140 ≤ c ∧ c ≤ 143) → M' c = M c) ∧ ∀ j, j ≠ 9 → M' 132 j = M 132 j
theorem fr_t.rf {M : ol_M} : fr_t M M := ⟨fun _ _ _ => rfl, fun _ _ => rfl⟩
theorem fr_t.tr {M M' M'' : ol_M} (h : fr_t M M') (h' : fr_t M' M'') : fr_t M M'' := ⟨fun c a b => (h'.1 c a b).trans (h.1 c a b), fun j a => (h'.2 j a).trans (h.2 j a)⟩
theorem fr_t.s9 {M M' : ol_M} (h : fr_t M M') {v : Int} : fr_t M (ol_ms M' 132 9 v) := ⟨fun c a b => (ol_ms_ne _ _ _ a).trans (h.1 c a b), fun j a => (ol_ms_i _ _ _ a).trans (h.2 j a)⟩
theorem fr_t.mp {M M' : ol_M} (h : fr_t M M') {k : Int} {f : Int → Int} (hk : 140 ≤ k ∧ k ≤ 143 := by decide) : fr_t M (ol_mp M' k f) := ⟨fun c a b => (ol_mp_ne _ _ (by omega)).trans (h.1 c a b), fun j a => by rw [ol_mp_ne _ _ (by omega)]; exact h.2 j a⟩
theorem fr_t.ms {M M' : ol_M} (h : fr_t M M') {k i v : Int} (hk : 140 ≤ k ∧ k ≤ 143 := by decide) : fr_t M (ol_ms M' k i v) := h.mp hk
/-- the reference's cells hold a term -/
def m_tm (P M : ol_M) (t : Int) : Prop := M 141 t = P 0 t ∧ M 142 t = P 1 t ∧ (∀ i, 0 ≤ i → i < P 0 t → M 140 (6 * t + i) = P (10 + t) i) ∧ ∀ x, 0 ≤ x → x < 8 → M 143 (8 * t + x) = ct (P (10 + t)) x (P 0 t).toNat
theorem m_readsTerms {n : Nat} {S M : ol_M} (h : im_t S M) (hs : sp_ok_t S) : ∃ M', ol_R (ol_lay n) 2 q_X9_readsTerms [.inr (.inr 132)] M (some (.inl (sp_tf S))) M' ∧ fr_t M M' ∧ M' 132 9 = sp_nT S ∧ ∀ t, 0 ≤ t → t < sp_nT S → m_tm (sp_pt S).2.2 M' t := by
  obtain ⟨o1, o2, o3, o4⟩ := hs
  obtain ⟨g1, g2, g3, g4⟩ := h
  obtain ⟨N, hN⟩ : ∃ x, x = S 0 1 := ⟨_, rfl⟩
  rw [← hN] at o2 g2 g4 o4
  have rN : ol_r N := ⟨by omega, by omega⟩
  have key : ∀ (u : Nat) (i t l e : Int) (P Mi : ol_M), 0 ≤ i → i ≤ N → i + u = 56 → pt_i t l e P → fr_t M Mi → Mi 132 9 = t → (∀ k, 0 ≤ k → k < t → m_tm P Mi k) → (∀ j, 0 ≤ j → j < l → Mi 140 (6 * t + j) = P (10 + t) j) → ∃ M', ol_T n q_X9_readsTerms 1 19 [some (.inr (.inr 132)), some (.inl N), some (.inl l), some (.inl e), some (.inl i), none, none, none, none] [] Mi (some (.inl (pt (S 2) N u i t l e P).1)) M' ∧ fr_t M M' ∧ M' 132 9 = (pt (S 2) N u i t l e P).2.1 ∧ ∀ k, 0 ≤ k → k < (pt (S 2) N u i t l e P).2.1 → m_tm (pt (S 2) N u i t l e P).2.2 M' k := by
    intro u
    induction u with
    | zero => intro i t l e P Mi i0 i1 i2; omega
    | succ u ih =>
      intro i t l e P Mi i0 i1 i2 hp fr e9 ht hc
      obtain ⟨p1, p2, p3, p4, p5, p6, p7⟩ := id hp
      have ri : ol_r i := ⟨by omega, by omega⟩
      unfold pt
      by_cases c0 : N ≤ i
      · rw [if_pos c0]
        by_cases c1 : 0 < N ∧ e = 0
        · rw [if_pos c1]
          exact ⟨ol_ms Mi 132 9 0, fun Rt A hA hr => b_X9_readsTerms_19 hA N l e i Mi ⟨ri, rN, ol_if.pos c0 ⟨rN, ol_if.neg (by omega) (ol_if.pos c1.2 hr)⟩⟩, fr.s9, ol_msA _ _ _ _, fun k k0 k1 => absurd k1 (by show ¬ k < 0; omega)⟩
        · rw [if_neg c1]
          refine ⟨Mi, fun Rt A hA hr => b_X9_readsTerms_19 hA N l e i Mi ⟨ri, rN, ol_if.pos c0 ⟨rN, ol_if.mk (fun _ => hr) (fun d => ol_if.neg (fun q => c1 ⟨by omega, q⟩) ⟨by rcases p3 with rfl | rfl <;> exact ⟨by decide, by decide⟩, hr⟩)⟩⟩, fr, e9, ht⟩
      rw [if_neg c0]
      have eb : Mi 137 (56 + i) = S 2 i := by rw [fr.1 137 (by decide) (by decide)]; exact g4 i i0 (by omega)
      have rb := o4 i i0 (by omega)
      by_cases c1 : e = 0 ∧ (97 ≤ S 2 i ∧ S 2 i ≤ 104) ∧ l < 6 ∧ t < 8
      · rw [if_pos c1]
        obtain ⟨rfl, c1⟩ := c1
        obtain ⟨M', hT, hf, h9, hP⟩ := ih (i + 1) t (l + 1) 0 (ol_ms P (10 + t) l (S 2 i - 97)) (ol_ms Mi 140 (6 * t + l) (S 2 i - 97)) (by omega) (by omega) (by omega) (hp.letter c1) fr.ms (by rw [ol_ms_ne _ _ _ (by decide)]; exact e9) (fun k k0 k1 => by
          obtain ⟨a1, a2, a3, a4⟩ := ht k k0 k1
          have gk := p6 k k0 k1
          unfold m_tm
          rw [ol_ms_ne P _ _ (show (0 : Int) ≠ 10 + t by omega), ol_ms_ne P _ _ (show (1 : Int) ≠ 10 + t by omega), ol_ms_ne P _ _ (show (10 + k : Int) ≠ 10 + t by omega), ol_ms_ne Mi _ _ (show (141 : Int) ≠ 140 by decide), ol_ms_ne Mi _ _ (show (142 : Int) ≠ 140 by decide), ol_ms_ne Mi _ _ (show (143 : Int) ≠ 140 by decide), ol_ms_row]
          refine ⟨a1, a2, fun j j0 j1 => ?_, a4⟩
          have := gk.1
          rw [ol_rsN _ _ (by omega)]
          exact a3 j j0 j1) (fun j j0 j1 => by
          rw [ol_ms_row, ol_ms_row]
          by_cases q : j = l
          · rw [q, ol_rsA, ol_rsA]
          · rw [ol_rsN _ _ (by omega), ol_rsN _ _ q]
            exact hc j j0 (by omega))
        refine ⟨M', fun Rt A hA hr => m_rt_letter hA o2 (by omega) p2 (by omega) eb rb rfl (by rw [e9]; exact c1) ?_, hf, h9, hP⟩
        rw [e9]
        exact hT Rt A hA hr
      rw [if_neg c1]
      by_cases c2 : e = 0 ∧ (48 ≤ S 2 i ∧ S 2 i ≤ 57) ∧ 0 < l
      · rw [if_pos c2]
        obtain ⟨rfl, c2⟩ := c2
        have t8 : t ≠ 8 := fun q => by have := p5 q; omega
        obtain ⟨M1, hM1⟩ : ∃ x, x = ol_ms (ol_ms Mi 141 t l) 142 t (S 2 i - 48) := ⟨_, rfl⟩
        have q0 : M1 140 = Mi 140 := by rw [hM1]; simp [ol_ms, ol_mp, ol_rs]
        have q1 : M1 141 = ol_rs (Mi 141) t l := by rw [hM1]; simp [ol_ms, ol_mp, ol_rs]
        have q2 : M1 142 = ol_rs (Mi 142) t (S 2 i - 48) := by rw [hM1]; simp [ol_ms, ol_mp, ol_rs]
        have q3 : M1 143 = Mi 143 := by rw [hM1]; simp [ol_ms, ol_mp, ol_rs]
        have q4 : M1 132 = Mi 132 := by rw [hM1]; simp [ol_ms, ol_mp, ol_rs]
        have l1 : M1 141 t = l := by rw [q1, ol_rsA]
        obtain ⟨M2, hM2⟩ : ∃ x, x = ol_mp M1 143 (ol_rg (M1 143) (8 * t) (8 * t + 8) (fun j => ct (fun i => M1 140 (6 * t + i)) (j - 8 * t) (M1 141 t).toNat)) := ⟨_, rfl⟩
        have hcnt : ol_R (ol_lay n) 1 q_X9_counts [.inr (.inr 132), .inl t] M1 none M2 := by
          rw [hM2]
          exact m_counts (by omega) (by omega) (by omega) (by omega) (fun j j0 j1 => by rw [q0, hc j j0 (by omega)]; exact p7 j j0 (by omega))
        have s0 : M2 140 = Mi 140 := by rw [hM2, ol_mp_ne _ _ (by decide)]; exact q0
        have s1 : M2 141 = ol_rs (Mi 141) t l := by rw [hM2, ol_mp_ne _ _ (by decide)]; exact q1
        have s2 : M2 142 = ol_rs (Mi 142) t (S 2 i - 48) := by rw [hM2, ol_mp_ne _ _ (by decide)]; exact q2
        have s3 : M2 143 = ol_rg (Mi 143) (8 * t) (8 * t + 8) (fun j => ct (fun i => Mi 140 (6 * t + i)) (j - 8 * t) l.toNat) := by rw [hM2, ol_mp_same, q3, q0, l1]
        have s4 : M2 132 = Mi 132 := by rw [hM2, ol_mp_ne _ _ (by decide)]; exact q4
        have fr2 : fr_t M M2 := by rw [hM2, hM1]; exact fr.ms.ms.mp
        obtain ⟨M', hT, hf, h9, hP⟩ := ih (i + 1) (t + 1) 0 1 (ol_ms (ol_ms P 0 t l) 1 t (S 2 i - 48)) (ol_ms M2 132 9 (M2 132 9 + 1)) (by omega) (by omega) (by omega) (hp.figure c2) fr2.s9 (by rw [ol_msA, s4, e9]) (fun k k0 k1 => by
          unfold m_tm
          rw [ol_ms_ne M2 _ _ (show (141 : Int) ≠ 132 by decide), ol_ms_ne M2 _ _ (show (142 : Int) ≠ 132 by decide), ol_ms_ne M2 _ _ (show (140 : Int) ≠ 132 by decide), ol_ms_ne M2 _ _ (show (143 : Int) ≠ 132 by decide), s0, s1, s2, s3]
          rw [ol_ms_ne _ _ _ (show (0 : Int) ≠ 1 by decide), ol_ms_row, ol_ms_row, ol_ms_ne _ _ _ (show (1 : Int) ≠ 0 by decide), ol_ms_ne _ _ _ (show (10 + k : Int) ≠ 1 by omega), ol_ms_ne _ _ _ (show (10 + k : Int) ≠ 0 by omega)]
          by_cases q : k = t
          · rw [q, ol_rsA, ol_rsA, ol_rsA, ol_rsA]
            refine ⟨rfl, rfl, fun j j0 j1 => hc j j0 j1, fun x x0 x1 => ?_⟩
            rw [ol_rg_in (by omega) (by omega), show 8 * t + x - 8 * t = x by omega]
            exact ct_congr (fun j hj => hc j (by omega) (by omega))
          · rw [ol_rsN _ _ q, ol_rsN _ _ q, ol_rsN _ _ q, ol_rsN _ _ q]
            obtain ⟨a1, a2, a3, a4⟩ := ht k k0 (by omega)
            refine ⟨a1, a2, a3, fun x x0 x1 => ?_⟩
            rw [ol_rg_out (by omega)]
            exact a4 x x0 x1) (fun j j0 j1 => by omega)
        refine ⟨M', fun Rt A hA hr => m_rt_figure hA o2 (by omega) (by omega) (by omega) eb rfl c2.1 (M1 := M2) ?_ (hT Rt A hA hr), hf, h9, hP⟩
        rw [e9, ← hM1]
        exact hcnt
      rw [if_neg c2]
      by_cases c3 : e = 1 ∧ S 2 i = 59
      · rw [if_pos c3]
        obtain ⟨rfl, c3⟩ := c3
        obtain ⟨M', hT, hf, h9, hP⟩ := ih (i + 1) t l 0 P Mi (by omega) (by omega) (by omega) hp.next fr e9 ht hc
        exact ⟨M', fun Rt A hA hr => m_rt_next hA o2 (by omega) eb rfl c3 (hT Rt A hA hr), hf, h9, hP⟩
      rw [if_neg c3]
      exact ⟨ol_ms Mi 132 9 0, fun Rt A hA hr => m_rt_bad hA o2 (by omega) p2 (by omega) eb rb p3 (by rw [e9]; exact c1) c2 c3 hr, fr.s9, ol_msA _ _ _ _, fun k k0 k1 => absurd k1 (by show ¬ k < 0; omega)⟩
  obtain ⟨M', hT, hf, h9, hP⟩ := key 56 0 0 0 0 (fun _ _ => 0) (ol_ms M 132 9 0) (by decide) (by omega) (by decide) pt_i0 fr_t.rf.s9 (ol_msA _ _ _ _) (fun k k0 k1 => by omega) (fun j j0 j1 => by omega)
  have ept : sp_pt S = pt (S 2) N 56 0 0 0 0 (fun _ _ => 0) := by unfold sp_pt; rw [← hN]
  refine ⟨M', ol_Ri (q := q_X9_readsTerms) (by decide +kernel) (Nat.le_of_ble_eq_true rfl) (Or.inl rfl) (fun Rt A hA hr => b_X9_readsTerms_0 hA M ?_), hf, ?_, ?_⟩
  · rw [g2]
    unfold sp_tf at hr
    rw [ept] at hr
    exact hT Rt A hA hr
  · unfold sp_nT
    rw [ept]
    exact h9
  · unfold sp_nT
    rw [ept]
    exact hP
