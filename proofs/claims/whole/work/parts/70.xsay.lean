theorem x_say {n : Nat} {S M : ol_M} (i : ix S M) (hs : sp_ok S) {m h e : Int} (r1 : ol_r m) (r2 : ol_r h) (r3 : ol_r e) : x_ok n 6 q_X8_say [.inl m, .inl h, .inl e] S M (sp_say S m h e) := by
  have w := sp_W_k hs
  have nr := sp_nH_r hs.1
  have nt := sp_nT_r S
  have e7 := i.nH
  unfold sp_say
  apply x_ok.of
  by_cases c : (0 ≤ m ∧ m ≤ 11) ∧ (0 ≤ h ∧ h < sp_nH S) ∧ (0 ≤ e ∧ e ≤ 9)
  · rw [if_pos c]
    obtain ⟨M1, r, i1, x, f⟩ := @x_refresh n S M i hs
    have v := i1.v hs
    have e9 := i1.nT
    obtain ⟨st, hst⟩ : ∃ y, y = rn_lv (sp_W S) (m + 1).toNat 0 := ⟨_, rfl⟩
    have hb := (rn_lv_b w (m + 1).toNat).1.up (show (589 : Int) ≤ 1000 by decide)
    have xm := x.s (m := m) (by omega) (by omega)
    rw [← hst] at hb xm ⊢
    refine ⟨M1, ol_Ri (q := q_X8_say) (by decide +kernel) (Nat.le_of_ble_eq_true rfl) (Or.inl rfl) (fun Rt Aq hA hr => b_X8_say_0 hA m h e M ?_), i1, f⟩
    rw [e7]
    refine ⟨r1, ol_if.pos (by omega) ⟨r2, ⟨by omega, by omega⟩, ol_if.pos c.2.1 ⟨r3, ol_if.pos (by omega) ⟨M1, r, ?_⟩⟩⟩⟩
    show Aq 45 [some (.inr (.inr 0)), some (.inl m), some (.inl h), some (.inl e), some (.inl (sy S st h e (Int.toNat 0))), some (.inl 0), none] [] M1
    refine ol_loop (P := fun t => Aq 45 [some (.inr (.inr 0)), some (.inl m), some (.inl h), some (.inl e), some (.inl (sy S st h e t.toNat)), some (.inl t), none] [] M1) (a := 0) (b := sp_nT S) nt.1 (fun t t0 t1 ht => ?_) ?_
    · rw [show (t + 1).toNat = t.toNat + 1 by omega] at ht
      simp only [sy] at ht
      rw [Int.toNat_of_nonneg t0] at ht
      have yr := @sy_r S st h e t.toNat
      obtain ⟨b, hbb⟩ : ∃ y, y = sy S st h e t.toNat := ⟨_, rfl⟩
      rw [← hbb] at ht yr ⊢
      obtain ⟨a1, a2, -⟩ := i1.1.2.2.1.2.2 t t0 t1
      have a1' : M1 34 t = sp_ln S t := a1
      have a2' : M1 36 t = sp_mn S t := a2
      have g := sp_term t0 t1
      have lr := @rn_lack_r (sp_W S) w h t 0 st hb c.2.1.1 (by omega) t0 t1
      have no : ¬ ((sp_mn S t = e ∧ rn_lack (sp_W S) h t 0 st = 0) ∧ (b = -1 ∨ sp_ln S t < sp_ln S b)) → Aq 45 [some (.inr (.inr 0)), some (.inl m), some (.inl h), some (.inl e), some (.inl b), some (.inl (t + 1)), none] [] M1 := fun d => by
        rw [if_neg d] at ht; exact ht
      have yes : ((sp_mn S t = e ∧ rn_lack (sp_W S) h t 0 st = 0) ∧ (b = -1 ∨ sp_ln S t < sp_ln S b)) → Aq 45 [some (.inr (.inr 0)), some (.inl m), some (.inl h), some (.inl e), some (.inl t), some (.inl (t + 1)), none] [] M1 := fun d => by
        rw [if_pos d] at ht; exact ht
      have zero : ¬ (sp_mn S t = e ∧ rn_lack (sp_W S) h t 0 st = 0) → Aq 98 [some (.inr (.inr 0)), some (.inl m), some (.inl h), some (.inl e), some (.inl b), some (.inl t), none] [.inl 0] M1 := fun d => b_X8_say_98 hA m h e b t 0 M1 (ol_if.pos rfl (no (fun q => d q.1)))
      refine b_X8_say_45 hA m h e b t M1 ?_
      rw [e9, a2']
      refine ⟨⟨by omega, by omega⟩, ⟨by omega, by omega⟩, ol_if.neg (by omega) ⟨t0, by omega, ol_if.mk (fun d => ⟨by omega, by omega, _, M1, x_lacking w v (ks_b (by omega) (by omega)) c.2.1.1 (by omega) t0 t1 xm hb, ol_if.mk (fun d2 => ?_) (fun d2 => ⟨⟨by omega, by omega⟩, zero (fun q => d2 q.2)⟩)⟩) (fun d => ⟨⟨by omega, by omega⟩, r3, zero (fun q => d q.1)⟩)⟩⟩
      refine b_X8_say_98 hA m h e b t 1 M1 (ol_if.neg (by decide) ⟨⟨by decide, by decide⟩, ol_if.mk (fun d3 => yes ⟨⟨d, d2⟩, Or.inl d3⟩) (fun d3 => ⟨⟨by omega, by omega⟩, t0, by omega, by omega, by omega, ?_⟩)⟩)
      have b0 : 0 ≤ b := by omega
      have b1 : b < sp_nT S := by omega
      have a3' : M1 34 b = sp_ln S b := (i1.1.2.2.1.2.2 b b0 b1).1
      have g2 := sp_term b0 b1
      rw [a1', a3']
      exact ⟨⟨by omega, by omega⟩, ⟨by omega, by omega⟩, ol_if.mk (fun d4 => no (fun q => by omega)) (fun d4 => yes ⟨⟨d, d2⟩, Or.inr (by omega)⟩)⟩
    · refine b_X8_say_45 hA m h e _ (sp_nT S) M1 ?_
      rw [e9]
      exact ⟨⟨by omega, by omega⟩, ⟨by omega, by omega⟩, ol_if.pos (by omega) hr⟩
  · rw [if_neg c]
    refine ⟨M, ol_Ri (q := q_X8_say) (by decide +kernel) (Nat.le_of_ble_eq_true rfl) (Or.inl rfl) (fun Rt Aq hA hr => b_X8_say_0 hA m h e M ?_), i, fx.rf⟩
    rw [e7]
    exact ⟨r1, ol_if.mk (fun d1 => ⟨r2, ⟨by omega, by omega⟩, ol_if.mk (fun d2 => ⟨r3, ol_if.neg (fun d3 => c ⟨⟨d1.1, by omega⟩, d2, by omega⟩) hr⟩) (fun _ => hr)⟩) (fun _ => hr)⟩
theorem x_most {n : Nat} {S M : ol_M} (i : ix S M) (hs : sp_ok S) {m h e : Int} (r1 : ol_r m) (r2 : ol_r h) (r3 : ol_r e) : x_ok n 6 q_X8_most [.inl m, .inl h, .inl e] S M (sp_most S m h e) := by
  have w := sp_W_k hs
  have nr := sp_nH_r hs.1
  have nt := sp_nT_r S
  have e7 := i.nH
  unfold sp_most
  apply x_ok.of
  by_cases c : (0 ≤ m ∧ m ≤ 11) ∧ (0 ≤ h ∧ h < sp_nH S) ∧ (0 ≤ e ∧ e ≤ 1)
  · rw [if_pos c]
    obtain ⟨M1, r, i1, x, f⟩ := @x_refresh n S M i hs
    have v := i1.v hs
    have e9 := i1.nT
    obtain ⟨st, hst⟩ : ∃ y, y = rn_lv (sp_W S) (m + 1).toNat 0 := ⟨_, rfl⟩
    have hb := (rn_lv_b w (m + 1).toNat).1.up (show (589 : Int) ≤ 1000 by decide)
    have xm := x.s (m := m) (by omega) (by omega)
    rw [← hst] at hb xm ⊢
    have pw := @pw_le (sp_nT S).toNat 8 (by omega)
    have pc : ((2 ^ (sp_nT S).toNat : Nat) : Int) = 2 ^ (sp_nT S).toNat := by exact_mod_cast rfl
    refine ⟨M1, ol_Ri (q := q_X8_most) (by decide +kernel) (Nat.le_of_ble_eq_true rfl) (Or.inl rfl) (fun Rt Aq hA hr => b_X8_most_0 hA m h e M ?_), i1, f⟩
    rw [e7]
    refine ⟨r1, ol_if.pos (by omega) ⟨r2, ⟨by omega, by omega⟩, ol_if.pos c.2.1 ⟨r3, ol_if.pos (by omega) ⟨M1, r, ?_⟩⟩⟩⟩
    suffices key : Aq 44 [some (.inr (.inr 0)), some (.inl m), some (.inl h), some (.inl e), some (.inl (mo (fits (sp_W S) st h) (Int.toNat 1))), some (.inl 1)] [] M1 by
      rw [show mo (fits (sp_W S) st h) (Int.toNat 1) = 0 from mo_1] at key
      exact key
    refine ol_loop (P := fun s => Aq 44 [some (.inr (.inr 0)), some (.inl m), some (.inl h), some (.inl e), some (.inl (mo (fits (sp_W S) st h) s.toNat)), some (.inl s)] [] M1) (a := 1) (b := 2 ^ (sp_nT S).toNat) pw.1 (fun s s0 s1 hk => ?_) ?_
    · rw [show (s + 1).toNat = s.toNat + 1 by omega] at hk
      simp only [mo] at hk
      rw [Int.toNat_of_nonneg (by omega : 0 ≤ s)] at hk
      have yr := @mo_r (fits (sp_W S) st h) s.toNat
      obtain ⟨b, hbb⟩ : ∃ y, y = mo (fits (sp_W S) st h) s.toNat := ⟨_, rfl⟩
      rw [← hbb] at hk yr ⊢
      have pr := @ol_pop_r s
      have pr2 := @ol_pop_r b
      have rs : ol_r s := ⟨by omega, by omega⟩
      refine b_X8_most_44 hA m h e b s M1 ?_
      rw [e9, Int.one_mul]
      refine ⟨by omega, by omega, rs, ⟨by omega, by omega⟩, ol_if.neg (by omega) ⟨by omega, by omega, by omega, by omega, ⟨by omega, by omega⟩, ⟨by omega, by omega⟩, ol_if.mk (fun d => ?_) (fun d => ⟨by omega, by omega, _, M1, x_canWriteAll w v (ks_b (by omega) (by omega)) c.2.1.1 (by omega) rs xm hb, ?_⟩)⟩⟩
      · rw [if_neg (fun q => by omega)] at hk; exact hk
      · by_cases d2 : fits (sp_W S) st h s
        · rw [if_pos ⟨by omega, d2⟩] at hk
          rw [ol_c1 d2]
          exact ol_if.neg (by decide) ⟨⟨by decide, by decide⟩, hk⟩
        · rw [if_neg (fun q => d2 q.2)] at hk
          rw [ol_c0 d2]
          exact ol_if.pos rfl hk
    · have yr := @mo_r (fits (sp_W S) st h) (2 ^ (sp_nT S).toNat)
      rw [pc] at yr
      refine b_X8_most_44 hA m h e _ _ M1 ?_
      rw [e9, Int.one_mul]
      rw [show ((2 : Int) ^ (sp_nT S).toNat).toNat = 2 ^ (sp_nT S).toNat by omega]
      unfold rn_most at hr
      refine ⟨by omega, by omega, ⟨by omega, by omega⟩, ⟨by omega, by omega⟩, ol_if.pos (Int.le_refl _) (ol_if.mk (fun d => ⟨yr.1, by omega, ?_⟩) (fun d => ⟨r3, ?_⟩))⟩
      · rw [if_pos d] at hr; exact hr
      · rw [if_neg d] at hr; exact hr
  · rw [if_neg c]
    refine ⟨M, ol_Ri (q := q_X8_most) (by decide +kernel) (Nat.le_of_ble_eq_true rfl) (Or.inl rfl) (fun Rt Aq hA hr => b_X8_most_0 hA m h e M ?_), i, fx.rf⟩
    rw [e7]
    exact ⟨r1, ol_if.mk (fun d1 => ⟨r2, ⟨by omega, by omega⟩, ol_if.mk (fun d2 => ⟨r3, ol_if.neg (fun d3 => c ⟨⟨d1.1, by omega⟩, d2, by omega⟩) hr⟩) (fun _ => hr)⟩) (fun _ => hr)⟩
theorem ct_pos {f : Int → Int} : ∀ (k : Nat), 0 < k → 1 ≤ ct f (f 0) k := by
  intro k
  induction k with
  | zero => intro h; omega
  | succ k ih =>
    intro _
    have := @ct_r f (f 0) k
    unfold ct
    by_cases c : k = 0
    · subst c
      rw [if_pos (by rfl)]
      omega
    · have := ih (by omega)
      split <;> omega
theorem no_paper {S : ol_M} {t : Int} (t0 : 0 ≤ t) (t1 : t < sp_nT S) : ¬ gives (sp_W S) t 0 := by
  intro h
  obtain ⟨b1, b2, b3⟩ := sp_term t0 t1
  have q := b3 0 (by decide) (by omega)
  have g := h (sp_sp S t 0) q.1 (by omega)
  rw [sp_W_need t0] at g
  have p : 1 ≤ sp_need S t (sp_sp S t 0) := ct_pos _ (by omega)
  have z : ∀ (k : Nat) (l : Int), al (sp_W S) 0 l k = 0 := by
    intro k l
    induction k with
    | zero => rfl
    | succ k ih =>
      unfold al
      rw [ih, Int.zero_ediv, if_neg (by decide)]
      rfl
  rw [z] at g
  omega
theorem x_papers {n : Nat} {S M : ol_M} (i : ix S M) (hs : sp_ok S) {t e : Int} (r1 : ol_r t) (r2 : ol_r e) : x_ok n 3 q_X8_papers [.inl t, .inl e] S M (sp_papers S t e) := by
  have w := sp_W_k hs
  have nt := sp_nT_r S
  have e9 := i.nT
  have v := i.v hs
  unfold sp_papers
  apply x_ok.of
  by_cases c : (0 ≤ t ∧ t < sp_nT S) ∧ (0 ≤ e ∧ e ≤ 1)
  · rw [if_pos c]
    have pw := @pw_le (sp_nT S).toNat 8 (by omega)
    have pc : ((2 ^ (sp_nT S).toNat : Nat) : Int) = 2 ^ (sp_nT S).toNat := by exact_mod_cast rfl
    refine ⟨M, ol_Ri (q := q_X8_papers) (by decide +kernel) (Nat.le_of_ble_eq_true rfl) (Or.inl rfl) (fun Rt Aq hA hr => b_X8_papers_0 hA t e M ?_), i, fx.rf⟩
    rw [e9]
    refine ⟨r1, ⟨by omega, by omega⟩, ol_if.pos c.1 ⟨r2, ol_if.pos (by omega) ?_⟩⟩
    have p1 : pa (gives (sp_W S) t) t (Int.toNat 1) = -1 := by
      show pa (gives (sp_W S) t) t 1 = -1
      show @ite Int ((¬ ((0 : Nat) : Int) / 2 ^ t.toNat % 2 = 1) ∧ (pa (gives (sp_W S) t) t 0 = -1 ∨ ol_pop ((0 : Nat) : Int) < ol_pop (pa (gives (sp_W S) t) t 0)) ∧ gives (sp_W S) t ((0 : Nat) : Int)) (Classical.propDecidable _) ((0 : Nat) : Int) (pa (gives (sp_W S) t) t 0) = -1
      rw [if_neg (fun q => no_paper c.1.1 c.1.2 q.2.2)]
      rfl
    suffices key : Aq 30 [some (.inr (.inr 0)), some (.inl t), some (.inl e), some (.inl (pa (gives (sp_W S) t) t (Int.toNat 1))), some (.inl 1), none] [] M by
      rw [p1] at key
      exact key
    refine ol_loop (P := fun s => Aq 30 [some (.inr (.inr 0)), some (.inl t), some (.inl e), some (.inl (pa (gives (sp_W S) t) t s.toNat)), some (.inl s), none] [] M) (a := 1) (b := 2 ^ (sp_nT S).toNat) pw.1 (fun s s0 s1 hk => ?_) ?_
    · rw [show (s + 1).toNat = s.toNat + 1 by omega] at hk
      simp only [pa] at hk
      rw [Int.toNat_of_nonneg (by omega : 0 ≤ s)] at hk
      have yr := @pa_r (gives (sp_W S) t) t s.toNat
      obtain ⟨b, hbb⟩ : ∃ y, y = pa (gives (sp_W S) t) t s.toNat := ⟨_, rfl⟩
      rw [← hbb] at hk yr ⊢
      have pr := @ol_pop_r s
      have pr2 := @ol_pop_r b
      have rs : ol_r s := ⟨by omega, by omega⟩
      have no : ¬ ((¬ s / 2 ^ t.toNat % 2 = 1) ∧ (b = -1 ∨ ol_pop s < ol_pop b) ∧ gives (sp_W S) t s) → Aq 30 [some (.inr (.inr 0)), some (.inl t), some (.inl e), some (.inl b), some (.inl (s + 1)), none] [] M := fun d => by
        rw [if_neg d] at hk; exact hk
      have one : (b = -1 ∨ ol_pop s < ol_pop b) → Aq 66 [some (.inr (.inr 0)), some (.inl t), some (.inl e), some (.inl b), some (.inl s), none] [.inl 1] M := by
        intro d
        refine b_X8_papers_66 hA t e b s 1 M (ol_if.neg (by decide) ⟨⟨by decide, by decide⟩, rs, c.1.1, by omega, ?_⟩)
        rw [ol_and1]
        refine ol_if.mk (fun d2 => ⟨_, M, x_canBeCut w v c.1.1 c.1.2 rs, ?_⟩) (fun d2 => ⟨⟨by omega, by omega⟩, no (fun q => by omega)⟩)
        by_cases d3 : gives (sp_W S) t s
        · rw [if_pos ⟨by omega, d, d3⟩] at hk
          rw [ol_c1 d3]
          exact ol_if.neg (by decide) ⟨⟨by decide, by decide⟩, hk⟩
        · rw [ol_c0 d3]
          exact ol_if.pos rfl (no (fun q => d3 q.2.2))
      have zero : ¬ (b = -1 ∨ ol_pop s < ol_pop b) → Aq 66 [some (.inr (.inr 0)), some (.inl t), some (.inl e), some (.inl b), some (.inl s), none] [.inl 0] M := fun d => b_X8_papers_66 hA t e b s 0 M (ol_if.pos rfl (no (fun q => d q.2.1)))
      refine b_X8_papers_30 hA t e b s M ?_
      rw [e9, Int.one_mul]
      exact ⟨by omega, by omega, rs, ⟨by omega, by omega⟩, ol_if.neg (by omega) (ol_if.mk (fun d => one (Or.inl d)) (fun d => ⟨⟨by omega, by omega⟩, by omega, by omega, by omega, by omega, ⟨by omega, by omega⟩, ⟨by omega, by omega⟩, ol_if.mk (fun d2 => zero (fun q => by omega)) (fun d2 => one (Or.inr (by omega)))⟩))⟩
    · have yr := @pa_r (gives (sp_W S) t) t (2 ^ (sp_nT S).toNat)
      rw [pc] at yr
      refine b_X8_papers_30 hA t e _ _ M ?_
      rw [e9, Int.one_mul]
      rw [show ((2 : Int) ^ (sp_nT S).toNat).toNat = 2 ^ (sp_nT S).toNat by omega]
      unfold rn_papers at hr
      rw [show sp_W S 3 0 = sp_nT S from rfl] at hr
      refine ⟨by omega, by omega, ⟨by omega, by omega⟩, ⟨by omega, by omega⟩, ol_if.pos (Int.le_refl _) (ol_if.mk (fun d => ?_) (fun d => ⟨⟨by omega, by omega⟩, ol_if.mk (fun d2 => ?_) (fun d2 => ⟨r2, by omega, by omega, ?_⟩)⟩))⟩
      · rw [if_pos (Or.inl d)] at hr; exact hr
      · rw [if_pos (Or.inr d2)] at hr; exact hr
      · rw [if_neg (fun q => q.elim d d2)] at hr; exact hr
  · rw [if_neg c]
    refine ⟨M, ol_Ri (q := q_X8_papers) (by decide +kernel) (Nat.le_of_ble_eq_true rfl) (Or.inl rfl) (fun Rt Aq hA hr => b_X8_papers_0 hA t e M ?_), i, fx.rf⟩
    rw [e9]
    exact ⟨r1, ⟨by omega, by omega⟩, ol_if.mk (fun d => ⟨r2, ol_if.neg (fun q => c ⟨d, by omega⟩) hr⟩) (fun _ => hr)⟩
theorem x_write {n : Nat} {S M : ol_M} (i : ix S M) (hs : sp_ok S) {m h s : Int} (r1 : ol_r m) (r2 : ol_r h) (r3 : ol_r s) : x_ok n 6 q_X8_write [.inl m, .inl h, .inl s] S M (sp_write S m h s) := by
  have nr := sp_nH_r hs.1
  have e7 := i.nH
  unfold sp_write
  by_cases c : (0 ≤ m ∧ m ≤ 11) ∧ (0 ≤ h ∧ h < sp_nH S) ∧ (0 ≤ s ∧ s ≤ 3)
  · rw [if_neg (fun q => q c)]
    obtain ⟨z1, z2, z3⟩ := ix_sz hs i (s := s) (by omega) (by omega)
    by_cases d : S 15 s < 0
    · rw [if_pos d]
      refine x_ok.of ⟨ol_ms M 0 9 1, ol_Ri (q := q_X8_write) (by decide +kernel) (Nat.le_of_ble_eq_true rfl) (Or.inl rfl) (fun Rt Aq hA hr => b_X8_write_0 hA m h s M ?_), ix_find hs i 1, fx.rf.ms⟩
      rw [e7]
      exact ⟨r1, ol_if.pos (by omega) ⟨r2, ⟨by omega, by omega⟩, ol_if.pos c.2.1 ⟨r3, ol_if.pos (by omega) ⟨by omega, by omega, ⟨by omega, by omega⟩, ol_if.pos (by omega) hr⟩⟩⟩⟩
    · rw [if_neg d]
      obtain ⟨M1, r, i1, x, f⟩ := @x_refresh n S M i hs
      obtain ⟨g0, g1, g2⟩ := i1.h s (by omega) (by omega)
      obtain ⟨g3, g4, g5⟩ := g2 (by omega)
      obtain ⟨b1, b2⟩ := hs.h s (by omega) (by omega)
      obtain ⟨b3, b4⟩ := b2 (by omega)
      obtain ⟨K, hK⟩ : ∃ y, y = ol_min (S 16 s) 8 := ⟨_, rfl⟩
      have kr : 0 ≤ K ∧ K ≤ 8 ∧ K ≤ S 16 s := by rw [hK]; unfold ol_min; split <;> omega
      rw [← hK]
      have xm := x.s (m := m) (by omega) (by omega)
      obtain ⟨st, hst⟩ : ∃ y, y = rn_lv (sp_W S) (m + 1).toNat 0 := ⟨_, rfl⟩
      rw [← hst] at xm ⊢
      refine x_ok.of ⟨ol_mp M1 (115 + s) (ol_rg (M1 (115 + s)) 0 K (fun l => ol_cut (S 15 s) (st (8 * h + l)))), ol_Ri (q := q_X8_write) (by decide +kernel) (Nat.le_of_ble_eq_true rfl) (Or.inl rfl) (fun Rt Aq hA hr => b_X8_write_0 hA m h s M ?_), ?_, f.mp (by omega)⟩
      · rw [e7]
        refine ⟨r1, ol_if.pos (by omega) ⟨r2, ⟨by omega, by omega⟩, ol_if.pos c.2.1 ⟨r3, ol_if.pos (by omega) ⟨by omega, by omega, ⟨by omega, by omega⟩, ol_if.neg (by omega) ⟨M1, r, by omega, by omega, ?_⟩⟩⟩⟩⟩
        rw [g4, ← hK]
        refine ⟨⟨by omega, by omega⟩, ?_⟩
        have inner : Aq 74 [some (.inr (.inr 0)), some (.inl m), some (.inl h), some (.inl s), some (.inl K), some (.inl 0)] [] (ol_mp M1 (115 + s) (ol_rg (M1 (115 + s)) 0 0 (fun l => ol_cut (S 15 s) (st (8 * h + l))))) := by
          refine ol_loop (P := fun l => Aq 74 [some (.inr (.inr 0)), some (.inl m), some (.inl h), some (.inl s), some (.inl K), some (.inl l)] [] (ol_mp M1 (115 + s) (ol_rg (M1 (115 + s)) 0 l (fun l => ol_cut (S 15 s) (st (8 * h + l)))))) (a := 0) (b := K) kr.1 (fun l l0 l1 hl => ?_) ?_
          · refine b_X8_write_74 hA m h s K l _ ⟨⟨by omega, by omega⟩, ⟨by omega, by omega⟩, ol_if.neg (by omega) ⟨by omega, by omega, by omega, by omega, _, x_put (by omega) (by omega) l0 (by omega) (by rw [ol_mp_ne _ _ (by omega)]; exact ⟨by omega, by omega⟩), ?_⟩⟩
            rw [ol_mp_ne _ _ (show (112 : Int) ≠ 115 + s by omega), ol_mp_ne _ _ (show (55 + m : Int) ≠ 115 + s by omega), g3, Int.mul_comm h 8, xm (8 * h + l) (by omega) (by omega), ol_rg_ms _ _ _ _ l0 rfl]
            exact hl
          · exact b_X8_write_74 hA m h s K K _ ⟨⟨by omega, by omega⟩, ⟨by omega, by omega⟩, ol_if.pos (by omega) hr⟩
        rw [ol_rg_mp0] at inner
        exact inner
      · refine i1.newi hs (by omega) (by omega) (by omega) (fun j j0 j1 => ?_) (fun k q => ol_mp_ne _ _ q)
        rw [ol_mp_same]
        by_cases p : j < K
        · rw [ol_rg_in j0 p, ol_rg_in j0 p]
        · rw [ol_rg_out (by omega), ol_rg_out (by omega)]
          exact g5 j j0 j1
  · rw [if_pos c]
    refine x_ok.of ⟨M, ol_Ri (q := q_X8_write) (by decide +kernel) (Nat.le_of_ble_eq_true rfl) (Or.inl rfl) (fun Rt Aq hA hr => b_X8_write_0 hA m h s M ?_), i, fx.rf⟩
    rw [e7]
    exact ⟨r1, ol_if.mk (fun d1 => ⟨r2, ⟨by omega, by omega⟩, ol_if.mk (fun d2 => ⟨r3, ol_if.neg (fun d3 => c ⟨⟨d1.1, by omega⟩, d2, by omega⟩) hr⟩) (fun _ => hr)⟩) (fun _ => hr)⟩
theorem x_count {n : Nat} {S M : ol_M} (i : ix S M) (hs : sp_ok S) {w : Int} (r1 : ol_r w) : x_ok n 6 q_X8_count [.inl w] S M (sp_count S w) := by
  unfold sp_count
  apply x_ok.of
  by_cases c : w = 6
  · obtain ⟨M1, r, i1, x, f⟩ := @x_refresh n S M i hs
    refine ⟨M1, ol_Ri (q := q_X8_count) (by decide +kernel) (Nat.le_of_ble_eq_true rfl) (Or.inl rfl) (fun Rt Aq hA hr => b_X8_count_0 hA w M ?_), i1, f⟩
    subst c
    refine ⟨r1, fun h => absurd h (by decide), fun h => absurd h (by decide), fun h => absurd h (by decide), fun h => absurd h (by decide), fun h => absurd h (by decide), fun h => absurd h (by decide), fun h => absurd h (by decide), fun _ => ⟨M1, r, _, M1, x_finesOf i1 hs x ⟨by decide, by decide⟩, ol_rt hr ?_⟩, fun h => absurd h (by decide), fun h => absurd h (by decide)⟩
    rw [fines_all hs]
    rfl
  · refine ⟨M, ol_Ri (q := q_X8_count) (by decide +kernel) (Nat.le_of_ble_eq_true rfl) (Or.inl rfl) (fun Rt Aq hA hr => b_X8_count_0 hA w M ?_), i, fx.rf⟩
    rw [i.nH, i.nT, i.nW, show M 1 2 = S 0 0 from i.1.1.2.2.1, show M 5 2 = S 0 1 from i.1.1.2.2.2.1, show M 37 9 = S 0 3 from i.l.1, show M 37 14 = S 0 4 from i.s.1, show M 0 9 = S 0 5 from i.f.1]
    refine ⟨r1, fun h => ?_, fun h => ?_, fun h => ?_, fun h => ?_, fun h => ?_, fun h => ?_, fun h => ?_, fun h => absurd h c, fun h => ?_, fun h => ?_⟩
    · unfold sp_cnt at hr
      rw [if_neg (by omega), if_neg (by omega), if_neg (by omega), if_neg (by omega), if_neg (by omega), if_neg (by omega), if_neg (by omega), if_neg (by omega), if_neg (by omega)] at hr
      exact hr
    all_goals (subst h; exact hr)
