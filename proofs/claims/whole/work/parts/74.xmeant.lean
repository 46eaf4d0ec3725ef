/-! meant -/
theorem hc_mono {f : Int → Int} : ∀ (j k : Nat), j ≤ k → hc f j ≤ hc f k := by
  intro j k h
  induction k with
  | zero => rw [show j = 0 by omega]; exact Int.le_refl _
  | succ k ih =>
    by_cases c : j = k + 1
    · rw [c]; exact Int.le_refl _
    · have := ih (by omega)
      show hc f j ≤ hc f k + (if f k = 0 ∨ f k = 4 then 0 else 1)
      split <;> omega
theorem ot_hc {f : Int → Int} {n i : Int} (hf : ∀ j, 0 ≤ j → j < n → 0 ≤ f j ∧ f j ≤ 7) : ∀ (u : Nat) (j : Nat), (j : Int) ≤ n → n < j + u → hc f j ≤ i → (ot f n i u j (hc f j) = -1 ↔ hc f n.toNat ≤ i) := by
  intro u
  induction u with
  | zero => intro j a b; omega
  | succ u ih =>
    intro j a b hi
    unfold ot
    by_cases c : n ≤ j
    · rw [if_pos c]
      have e : n.toNat = j := by omega
      rw [e]
      exact ⟨fun _ => hi, fun _ => rfl⟩
    · rw [if_neg c]
      have e : hc f (j + 1) = hc f j + (if f j = 0 ∨ f j = 4 then 0 else 1) := rfl
      by_cases d : f j = 0 ∨ f j = 4
      · rw [if_pos d]
        rw [if_pos d, Int.add_zero] at e
        have q := ih (j + 1) (by omega) (by omega) (by omega)
        rw [e] at q
        exact q
      · rw [if_neg d]
        rw [if_neg d] at e
        by_cases g : hc f j = i
        · rw [if_pos g]
          have q := hf j (by omega) (by omega)
          have m := @hc_mono f (j + 1) n.toNat (by omega)
          exact ⟨fun z => by omega, fun z => by omega⟩
        · rw [if_neg g]
          have q := ih (j + 1) (by omega) (by omega) (by omega)
          rw [e] at q
          exact q
def sp_hc (S : ol_M) (t : Int) : Int := hc (sp_sp S t) (sp_ln S t).toNat
theorem sp_ot_end {S : ol_M} {t i : Int} (t0 : 0 ≤ t) (t1 : t < sp_nT S) (i0 : 0 ≤ i) : sp_ot S t i = -1 ↔ sp_hc S t ≤ i := by
  obtain ⟨b1, b2, b3⟩ := sp_term t0 t1
  exact @ot_hc (sp_sp S t) (sp_ln S t) i b3 7 0 (by omega) (by omega) i0
theorem sp_hc_r {S : ol_M} {t : Int} (t0 : 0 ≤ t) (t1 : t < sp_nT S) : 0 ≤ sp_hc S t ∧ sp_hc S t ≤ 6 := by
  obtain ⟨b1, b2, b3⟩ := sp_term t0 t1
  have hr : ∀ k : Nat, 0 ≤ hc (sp_sp S t) k ∧ hc (sp_sp S t) k ≤ k := by
    intro k
    induction k with
    | zero => exact ⟨Int.le_refl _, Int.le_refl _⟩
    | succ k ih => unfold hc; split <;> omega
  have := hr (sp_ln S t).toNat
  unfold sp_hc
  omega
theorem sp_alike_hc {S : ol_M} {v t : Int} (v0 : 0 ≤ v) (v1 : v < sp_nT S) (t0 : 0 ≤ t) (t1 : t < sp_nT S) : sp_alike S v t ↔ sp_hc S t = sp_hc S v ∧ ∀ i, 0 ≤ i → i < sp_hc S t → sp_ot S t i = sp_ot S v i := by
  have rv := sp_hc_r v0 v1
  have rt := sp_hc_r t0 t1
  refine ⟨fun h => ?_, fun h i i0 i1 => ?_⟩
  · refine ⟨?_, fun i i0 i1 => (h i i0 (by omega)).symm⟩
    by_cases c : sp_hc S t < sp_hc S v
    · have a := (sp_ot_end t0 t1 (i := sp_hc S t) rt.1).mpr (Int.le_refl _)
      have b := h (sp_hc S t) rt.1 (by omega)
      have d := (sp_ot_end v0 v1 (i := sp_hc S t) rt.1).mp (b.trans a)
      omega
    · by_cases c2 : sp_hc S v < sp_hc S t
      · have a := (sp_ot_end v0 v1 (i := sp_hc S v) rv.1).mpr (Int.le_refl _)
        have b := h (sp_hc S v) rv.1 (by omega)
        have d := (sp_ot_end t0 t1 (i := sp_hc S v) rv.1).mp (b.symm.trans a)
        omega
      · omega
  · by_cases c : i < sp_hc S t
    · exact (h.2 i i0 c).symm
    · rw [(sp_ot_end v0 v1 i0).mpr (by omega), (sp_ot_end t0 t1 i0).mpr (by omega)]
theorem x_hardLetter {n : Nat} {S M : ol_M} (z : ix S M) {t i : Int} (t0 : 0 ≤ t) (t1 : t < sp_nT S) (i0 : 0 ≤ i) (i1 : i < 6) : ol_R (ol_lay n) 2 q_X5_hardLetter [.inr (.inr 5), .inl t, .inl i] M (some (.inl (sp_ot S t i))) M := by
  have nr := sp_nT_r S
  obtain ⟨a1, a2, a3, a4, a5, a6⟩ := z.1.2.2.1.2.2 t t0 t1
  obtain ⟨b1, b2, b3⟩ := sp_term t0 t1
  have e1 : M 34 t = sp_ln S t := a1
  have e0 : ∀ j, 0 ≤ j → j < sp_ln S t → M (8 + t) j = sp_sp S t j := a3
  refine ol_Ri (q := q_X5_hardLetter) (by decide +kernel) (Nat.le_of_ble_eq_true rfl) (Or.inl rfl) (fun Rt Aq hA hr => b_X5_hardLetter_0 hA t i M ?_)
  have key : ∀ (u : Nat) (j k : Int), 0 ≤ j → j + u = 7 → 0 ≤ k → k ≤ j → Rt (some (.inl (ot (sp_sp S t) (sp_ln S t) i u j k))) M → Aq 5 [some (.inr (.inr 5)), some (.inl t), some (.inl i), some (.inl k), some (.inl j)] [] M := by
    intro u
    induction u with
    | zero =>
      intro j k j0 ju k0 kj h
      refine b_X5_hardLetter_5 hA t i k j M ?_
      rw [e1]
      exact ⟨t0, by omega, ⟨by omega, by omega⟩, ⟨by omega, by omega⟩, ol_if.pos (by omega) h⟩
    | succ u ih =>
      intro j k j0 ju k0 kj h
      refine b_X5_hardLetter_5 hA t i k j M ?_
      rw [e1]
      unfold ot at h
      refine ⟨t0, by omega, ⟨by omega, by omega⟩, ⟨by omega, by omega⟩, ol_if.mk (fun c => ?_) (fun c => ?_)⟩
      · rw [if_pos c] at h; exact h
      · rw [if_neg c] at h
        have q := b3 j j0 (by omega)
        rw [e0 j j0 (by omega)]
        refine ⟨t0, by omega, by omega, by omega, ⟨by omega, by omega⟩, ol_if.mk (fun d => ?_) (fun d => ol_if.mk (fun e => ⟨t0, by omega, by omega, by omega, ?_⟩) (fun e => ⟨⟨by omega, by omega⟩, ⟨by omega, by omega⟩, ?_⟩))⟩
        · rw [if_pos d] at h
          exact ih (j + 1) k (by omega) (by omega) k0 (by omega) h
        · rw [if_neg d, if_pos e] at h
          exact h
        · rw [if_neg d, if_neg e] at h
          exact ih (j + 1) (k + 1) (by omega) (by omega) (by omega) (by omega) h
  exact key 7 0 0 (by decide) (by decide) (by decide) (by decide) hr
theorem x_readAlike {n : Nat} {S M : ol_M} (z : ix S M) {t v : Int} (t0 : 0 ≤ t) (t1 : t < sp_nT S) (v0 : 0 ≤ v) (v1 : v < sp_nT S) : ol_R (ol_lay n) 3 q_X5_readAlike [.inr (.inr 5), .inl t, .inl v] M (some (.inl (ol_c (sp_alike S v t)))) M := by
  have nr := sp_nT_r S
  have rv := sp_hc_r v0 v1
  have rt := sp_hc_r t0 t1
  have et : M 35 t = sp_hc S t := (z.1.2.2.1.2.2 t t0 t1).2.2.2.2.2
  have ev : M 35 v = sp_hc S v := (z.1.2.2.1.2.2 v v0 v1).2.2.2.2.2
  have bv := (sp_term v0 v1).2.2
  have bt := (sp_term t0 t1).2.2
  refine ol_Ri (q := q_X5_readAlike) (by decide +kernel) (Nat.le_of_ble_eq_true rfl) (Or.inr ⟨rfl, ol_c01⟩) (fun Rt Aq hA hr => b_X5_readAlike_0 hA t v M ?_)
  rw [et, ev]
  refine ⟨t0, by omega, v0, by omega, ol_if.mk (fun c => ?_) (fun c => ⟨⟨by omega, by omega⟩, ⟨by omega, by omega⟩, ?_⟩)⟩
  · suffices key : (∀ j, 0 ≤ j → j < 0 → sp_ot S t j = sp_ot S v j) → Aq 19 [some (.inr (.inr 5)), some (.inl t), some (.inl v), some (.inl 0)] [] M from key (fun j a b => by omega)
    refine ol_loop (P := fun i => (∀ j, 0 ≤ j → j < i → sp_ot S t j = sp_ot S v j) → Aq 19 [some (.inr (.inr 5)), some (.inl t), some (.inl v), some (.inl i)] [] M) (a := 0) (b := sp_hc S t) rt.1 (fun i i0 i1 hi hj => ?_) (fun hj => ?_)
    · have q1 : -1 ≤ sp_ot S v i ∧ sp_ot S v i ≤ 7 := ot_r bv 7 0 0 (by decide)
      have q2 : -1 ≤ sp_ot S t i ∧ sp_ot S t i ≤ 7 := ot_r bt 7 0 0 (by decide)
      refine b_X5_readAlike_19 hA t v i M ?_
      rw [et]
      refine ⟨t0, by omega, ⟨by omega, by omega⟩, ⟨by omega, by omega⟩, ol_if.neg (by omega) ⟨_, M, x_hardLetter z t0 t1 i0 (by omega), _, M, x_hardLetter z v0 v1 i0 (by omega), ol_if.mk (fun d => hi (fun j j0 j1 => ?_)) (fun d => ⟨⟨by omega, by omega⟩, ⟨by omega, by omega⟩, ?_⟩)⟩⟩
      · by_cases p : j = i
        · rw [p]; exact d
        · exact hj j j0 (by omega)
      · rw [ol_c0 (fun q => d (((sp_alike_hc v0 v1 t0 t1).mp q).2 i i0 i1))] at hr
        exact hr
    · rw [ol_c1 ((sp_alike_hc v0 v1 t0 t1).mpr ⟨c, hj⟩)] at hr
      refine b_X5_readAlike_19 hA t v (sp_hc S t) M ?_
      rw [et]
      exact ⟨t0, by omega, ⟨by omega, by omega⟩, ⟨by omega, by omega⟩, ol_if.pos (by omega) hr⟩
  · rw [ol_c0 (fun q => c ((sp_alike_hc v0 v1 t0 t1).mp q).1)] at hr
    exact hr
theorem x_meant {n : Nat} {S M : ol_M} (i : ix S M) (hs : sp_ok S) {t : Int} (r1 : ol_r t) : x_ok n 4 q_X8_meant [.inl t] S M (sp_meant S t) := by
  have nr := sp_nT_r S
  have e9 := i.nT
  unfold sp_meant
  apply x_ok.of
  by_cases c : 0 ≤ t ∧ t < sp_nT S
  · rw [if_pos c]
    have vt := (i.v hs).2.2.2.1 t c.1 c.2
    rw [sp_W_need c.1] at vt
    refine ⟨M, ol_Ri (q := q_X8_meant) (by decide +kernel) (Nat.le_of_ble_eq_true rfl) (Or.inl rfl) (fun Rt Aq hA hr => b_X8_meant_0 hA t M ?_), i, fx.rf⟩
    rw [e9]
    refine ⟨r1, ⟨by omega, by omega⟩, ol_if.pos c ?_⟩
    show Aq 21 [some (.inr (.inr 0)), some (.inl t), some (.inl (bs (sp_mb S t) (Int.toNat 0))), some (.inl 0)] [] M
    refine ol_loop (P := fun v => Aq 21 [some (.inr (.inr 0)), some (.inl t), some (.inl (bs (sp_mb S t) v.toNat)), some (.inl v)] [] M) (a := 0) (b := sp_nT S) nr.1 (fun v v0 v1 hv => ?_) ?_
    · rw [show (v + 1).toNat = v.toNat + 1 by omega] at hv
      have ek : ((v.toNat : Nat) : Int) = v := Int.toNat_of_nonneg v0
      have br := @bs_r (sp_mb S t) v.toNat
      have pw := (@pw_le v.toNat 31 (by omega)).2
      have z0 : sp_mb S t v = 0 → Aq 21 [some (.inr (.inr 0)), some (.inl t), some (.inl (bs (sp_mb S t) v.toNat)), some (.inl (v + 1))] [] M := fun d => by
        rw [← bs_0 (by omega) (by rw [ek]; exact d), ol_or_0 br.1 (by omega)] at hv
        exact hv
      refine b_X8_meant_21 hA t _ v M ?_
      rw [e9]
      refine ⟨⟨by omega, by omega⟩, ⟨by omega, by omega⟩, ol_if.neg (by omega) ⟨c.1, by omega, ⟨by omega, by omega⟩, ol_if.mk (fun d => z0 (ol_c0 (fun q => by have := vt.2.2.2.mpr q.1; omega))) (fun d => ⟨_, M, x_readAlike i c.1 c.2 v0 v1, ?_⟩)⟩⟩
      have ho : hoth (sp_need S t) := vt.2.2.2.mp (by omega)
      by_cases g : sp_alike S v t
      · rw [ol_c1 g]
        refine ol_if.neg (by decide) ⟨⟨by decide, by decide⟩, v0, by omega, ?_⟩
        rw [bs_1 (by omega) (by rw [ek]; unfold sp_mb; rw [ol_c1 ⟨ho, g⟩]; decide)]
        exact hv
      · rw [ol_c0 g]
        exact ol_if.pos rfl (z0 (ol_c0 (fun q => g q.2)))
    · refine b_X8_meant_21 hA t _ (sp_nT S) M ?_
      rw [e9]
      exact ⟨⟨by omega, by omega⟩, ⟨by omega, by omega⟩, ol_if.pos (by omega) hr⟩
  · rw [if_neg c]
    refine ⟨M, ol_Ri (q := q_X8_meant) (by decide +kernel) (Nat.le_of_ble_eq_true rfl) (Or.inl rfl) (fun Rt Aq hA hr => b_X8_meant_0 hA t M ?_), i, fx.rf⟩
    rw [e9]
    exact ⟨r1, ⟨by omega, by omega⟩, ol_if.neg c hr⟩
