def zp (W : ol_M) (st : Int → Int) : Prop := ∀ j, 8 * W 0 0 ≤ j → j < 64 → st j = 0
theorem rn_hand_z {W : ol_M} (w : wk W) {st : Int → Int} (h : xb 1000 st) (z : zp W st) : xb 581 (rn_hand W st) ∧ zp W (rn_hand W st) := by
  have b := (rn_hand_b w h).2
  have w0 := w.1
  have e : ∀ j, 8 * W 0 0 ≤ j → rn_hand W st j = st j := fun j q => if_neg (by omega)
  refine ⟨fun j j0 j1 => ?_, fun j j0 j1 => by rw [e j j0]; exact z j j0 j1⟩
  by_cases q : j < 8 * W 0 0
  · have := b j j0 j1
    simp only [if_pos q] at this
    exact this
  · rw [e j (by omega), z j (by omega) j1]
    omega
theorem rn_l1_z {W : ol_M} (w : wk W) {k : Int} (k0 : 0 ≤ k) (k1 : k < W 5 0) {st : Int → Int} (z : zp W st) : zp W (rn_l1 W k st) := by
  unfold rn_l1
  split
  · rename_i c
    have q := w.2.2.2.2.2.2.1 k k0 k1
    intro j j0 j1
    rw [ol_rsN _ _ (by omega), ol_rsN _ _ (by omega)]
    exact z j j0 j1
  · exact z
theorem rn_ls_z {W : ol_M} (w : wk W) {m : Int} : ∀ (k : Nat) (st : Int → Int), (k : Int) ≤ W 5 0 → zp W st → zp W (rn_ls W m k st) := by
  intro k
  induction k with
  | zero => intro st _ h; exact h
  | succ k ih =>
    intro st hk h
    unfold rn_ls
    split
    · exact rn_l1_z w (by omega) (by omega) (ih st (by omega) h)
    · exact ih st (by omega) h
theorem rn_try_z {W : ol_M} (w : wk W) {k : Int} (k0 : 0 ≤ k) (k1 : k < W 10 0) {X : ol_M} (z : zp W (X 0)) : zp W (rn_try W k X 0) := by
  rw [rn_try_0]
  split
  · rename_i c
    intro j j0 j1
    unfold rn_sp
    rw [ol_rg_out (by omega)]
    exact z j j0 j1
  · exact z
theorem rn_ws_z {W : ol_M} (w : wk W) {m : Int} : ∀ (k : Nat) (X : ol_M), (k : Int) ≤ W 10 0 → zp W (X 0) → zp W (rn_ws W m k X 0) := by
  intro k
  induction k with
  | zero => intro X _ h; exact h
  | succ k ih =>
    intro X hk h
    unfold rn_ws
    split
    · exact rn_try_z w (by omega) (by omega) (ih X (by omega) h)
    · exact ih X (by omega) h
theorem rn_mo_b {W : ol_M} (w : wk W) {m : Int} {X : ol_M} (h : xb 1000 (X 0)) (z : zp W (X 0)) : xb 589 (rn_mo W m X 0) ∧ zp W (rn_mo W m X 0) := by
  have w5 := w.2.2.2.2.2.1
  have w10 := w.2.2.2.2.2.2.2.1
  obtain ⟨a, b⟩ := rn_hand_z w h z
  unfold rn_mo
  refine ⟨rn_ws_b w _ _ (by omega) ?_, rn_ws_z w _ _ (by omega) ?_⟩
  · rw [ol_mp_same]
    exact (rn_ls_b w _ _ (by omega) a).up (by omega)
  · rw [ol_mp_same]
    exact rn_ls_z w _ _ (by omega) b
theorem rn_lv_b {W : ol_M} (w : wk W) : ∀ m : Nat, xb 589 (rn_lv W m 0) ∧ zp W (rn_lv W m 0) := by
  intro m
  cases m with
  | zero => exact ⟨fun j _ _ => ⟨Int.le_refl 0, by show (0 : Int) ≤ 589; decide⟩, fun j _ _ => rfl⟩
  | succ m =>
    induction m with
    | zero => exact rn_mo_b w (fun j _ _ => ⟨Int.le_refl 0, by show (0 : Int) ≤ 1000; decide⟩) (fun j _ _ => rfl)
    | succ m ih => exact rn_mo_b w (ih.1.up (by decide)) ih.2
/-! the reference's cells hold a world, a state of the months -/
def mv (W M : ol_M) : Prop := M 132 7 = W 0 0 ∧ (∀ h, 0 ≤ h → h < W 0 0 → M 139 (2 * h) = W 1 h ∧ M 139 (2 * h + 1) = W 2 h) ∧ M 132 9 = W 3 0 ∧ (∀ t, 0 ≤ t → t < W 3 0 → ∀ l, 0 ≤ l → l < 8 → M 143 (8 * t + l) = W (30 + t) l) ∧ (∀ l, 0 ≤ l → l < 8 → M 144 l = W 4 l) ∧ M 132 25 = W 5 0 ∧ (∀ k, 0 ≤ k → k < W 5 0 → M 146 (4 * k) = W 6 k ∧ M 146 (4 * k + 1) = W 7 k ∧ M 146 (4 * k + 2) = W 8 k ∧ M 146 (4 * k + 3) = W 9 k) ∧ M 132 15 = W 10 0 ∧ (∀ k, 0 ≤ k → k < W 10 0 → M 145 (3 * k) = W 11 k ∧ M 145 (3 * k + 1) = W 12 k ∧ M 145 (3 * k + 2) = W 13 k) ∧ ol_r (M 132 24) ∧ ∀ k, 0 ≤ k → k < W 10 0 → (M 132 24 / 2 ^ k.toNat % 2 = 1 ↔ W 14 k = 1)
def mx (W X M : ol_M) : Prop := (∀ j, 0 ≤ j → j < 64 → M 147 j = X 0 j) ∧ (∀ k, 0 ≤ k → k < W 10 0 → M 148 k = X 1 k ∧ M 149 k = X 2 k) ∧ ∀ h, 0 ≤ h → h < 8 → M 150 h = X 3 h ∧ M 151 h = X 4 h
def fr_s (M M' : ol_M) : Prop := ∀ c, ¬ (147 ≤ c ∧ c ≤ 151) → M' c = M c
theorem fr_s.rf {M : ol_M} : fr_s M M := fun _ _ => rfl
theorem fr_s.tr {M M' M'' : ol_M} (h : fr_s M M') (h' : fr_s M' M'') : fr_s M M'' := fun c a => (h' c a).trans (h c a)
theorem fr_s.mp {M M' : ol_M} (h : fr_s M M') {k : Int} {f : Int → Int} (hk : 147 ≤ k ∧ k ≤ 151 := by decide) : fr_s M (ol_mp M' k f) := fun c a => (ol_mp_ne _ _ (by omega)).trans (h c a)
theorem fr_s.ms {M M' : ol_M} (h : fr_s M M') {k i v : Int} (hk : 147 ≤ k ∧ k ≤ 151 := by decide) : fr_s M (ol_ms M' k i v) := h.mp hk
theorem mv.fr {W M M' : ol_M} (h : mv W M) (f : fr_s M M') : mv W M' := by
  unfold mv
  rw [f 132 (by decide), f 139 (by decide), f 143 (by decide), f 144 (by decide), f 146 (by decide), f 145 (by decide)]
  exact h
theorem m_begins {n : Nat} {W M : ol_M} (w : wk W) (v : mv W M) : ∃ M', ol_R (ol_lay n) 1 q_X9_begins [.inr (.inr 132)] M none M' ∧ mx W rn_x0 M' ∧ fr_s M M' := by
  have w10 := w.2.2.2.2.2.2.2.1
  have e15 : M 132 15 = W 10 0 := v.2.2.2.2.2.2.2.1
  obtain ⟨M1, hM1⟩ : ∃ x, x = ol_mp M 147 (ol_rg (M 147) 0 64 (fun _ => 0)) := ⟨_, rfl⟩
  obtain ⟨M2, hM2⟩ : ∃ x, x = ol_mp (ol_mp M1 150 (ol_rg (M1 150) 0 8 (fun _ => 0))) 151 (ol_rg (M1 151) 0 8 (fun _ => 0)) := ⟨_, rfl⟩
  have a1 : M2 132 15 = W 10 0 := by rw [hM2, hM1]; simp only [ol_mp]; simp; exact e15
  refine ⟨ol_mp (ol_mp M2 148 (ol_rg (M2 148) 0 (W 10 0) (fun _ => 0))) 149 (ol_rg (M2 149) 0 (W 10 0) (fun _ => -1)), ol_Ri (q := q_X9_begins) (by decide +kernel) (Nat.le_of_ble_eq_true rfl) rfl (fun Rt A hA hr => b_X9_begins_0 hA M ?_), ?_, ?_⟩
  · have z3 : A 51 [some (.inr (.inr 132)), some (.inl 0)] [] (ol_mp (ol_mp M2 148 (ol_rg (M2 148) 0 0 (fun _ => 0))) 149 (ol_rg (M2 149) 0 0 (fun _ => -1))) := by
      refine ol_loop (P := fun k => A 51 [some (.inr (.inr 132)), some (.inl k)] [] (ol_mp (ol_mp M2 148 (ol_rg (M2 148) 0 k (fun _ => 0))) 149 (ol_rg (M2 149) 0 k (fun _ => -1)))) (a := 0) (b := W 10 0) w10.1 (fun k k0 k1 hk => ?_) ?_
      · refine b_X9_begins_51 hA k _ ?_
        rw [show (ol_mp (ol_mp M2 148 (ol_rg (M2 148) 0 k (fun _ => 0))) 149 (ol_rg (M2 149) 0 k (fun _ => -1))) 132 15 = W 10 0 by rw [ol_mp_ne _ _ (by decide), ol_mp_ne _ _ (by decide)]; exact a1]
        refine ⟨⟨by omega, by omega⟩, ⟨by omega, by omega⟩, ol_if.neg (by omega) ⟨by omega, by omega, by omega, by omega, ?_⟩⟩
        refine Eq.mp ?_ hk
        congr 1
        funext c
        by_cases c1 : c = 149
        · subst c1
          rw [ol_mp_same, ol_ms_row, ol_ms_ne _ _ _ (by decide), ol_mp_same, ol_rg_s _ _ k0 rfl]
        · by_cases c2 : c = 148
          · subst c2
            rw [ol_mp_ne _ _ c1, ol_mp_same, ol_ms_ne _ _ _ c1, ol_ms_row, ol_mp_ne _ _ c1, ol_mp_same, ol_rg_s _ _ k0 rfl]
          · rw [ol_mp_ne _ _ c1, ol_mp_ne _ _ c2, ol_ms_ne _ _ _ c1, ol_ms_ne _ _ _ c2, ol_mp_ne _ _ c1, ol_mp_ne _ _ c2]
      · refine b_X9_begins_51 hA (W 10 0) _ ?_
        rw [show (ol_mp (ol_mp M2 148 (ol_rg (M2 148) 0 (W 10 0) (fun _ => 0))) 149 (ol_rg (M2 149) 0 (W 10 0) (fun _ => -1))) 132 15 = W 10 0 by rw [ol_mp_ne _ _ (by decide), ol_mp_ne _ _ (by decide)]; exact a1]
        exact ⟨⟨by omega, by omega⟩, ⟨by omega, by omega⟩, ol_if.pos (by omega) hr⟩
    rw [ol_rg_mp0, ol_rg_mp0] at z3
    have z2 : A 23 [some (.inr (.inr 132)), some (.inl 0)] [] (ol_mp (ol_mp M1 150 (ol_rg (M1 150) 0 0 (fun _ => 0))) 151 (ol_rg (M1 151) 0 0 (fun _ => 0))) := by
      refine ol_loop (P := fun k => A 23 [some (.inr (.inr 132)), some (.inl k)] [] (ol_mp (ol_mp M1 150 (ol_rg (M1 150) 0 k (fun _ => 0))) 151 (ol_rg (M1 151) 0 k (fun _ => 0)))) (a := 0) (b := 8) (by decide) (fun k k0 k1 hk => ?_) ?_
      · refine b_X9_begins_23 hA k _ ⟨⟨by omega, by omega⟩, ol_if.neg (by omega) ⟨by omega, by omega, by omega, by omega, ?_⟩⟩
        refine Eq.mp ?_ hk
        congr 1
        funext c
        by_cases c1 : c = 151
        · subst c1
          rw [ol_mp_same, ol_ms_row, ol_ms_ne _ _ _ (by decide), ol_mp_same, ol_rg_s _ _ k0 rfl]
        · by_cases c2 : c = 150
          · subst c2
            rw [ol_mp_ne _ _ c1, ol_mp_same, ol_ms_ne _ _ _ c1, ol_ms_row, ol_mp_ne _ _ c1, ol_mp_same, ol_rg_s _ _ k0 rfl]
          · rw [ol_mp_ne _ _ c1, ol_mp_ne _ _ c2, ol_ms_ne _ _ _ c1, ol_ms_ne _ _ _ c2, ol_mp_ne _ _ c1, ol_mp_ne _ _ c2]
      · rw [← hM2]
        exact b_X9_begins_23 hA 8 _ ⟨⟨by decide, by decide⟩, ol_if.pos (by decide) z3⟩
    rw [ol_rg_mp0, ol_rg_mp0] at z2
    have z1 : A 2 [some (.inr (.inr 132)), some (.inl 0)] [] (ol_mp M 147 (ol_rg (M 147) 0 0 (fun _ => 0))) := by
      refine ol_loop (P := fun k => A 2 [some (.inr (.inr 132)), some (.inl k)] [] (ol_mp M 147 (ol_rg (M 147) 0 k (fun _ => 0)))) (a := 0) (b := 64) (by decide) (fun k k0 k1 hk => ?_) ?_
      · refine b_X9_begins_2 hA k _ ⟨⟨by omega, by omega⟩, ol_if.neg (by omega) ⟨by omega, by omega, ?_⟩⟩
        rw [ol_rg_ms M 147 _ _ k0 rfl]
        exact hk
      · rw [← hM1]
        exact b_X9_begins_2 hA 64 _ ⟨⟨by decide, by decide⟩, ol_if.pos (by decide) z2⟩
    rw [ol_rg_mp0] at z1
    exact z1
  · refine ⟨fun j j0 j1 => ?_, fun k k0 k1 => ⟨?_, ?_⟩, fun h h0 h1 => ⟨?_, ?_⟩⟩
    · rw [ol_mp_ne _ _ (by decide), ol_mp_ne _ _ (by decide), hM2, ol_mp_ne _ _ (by decide), ol_mp_ne _ _ (by decide), hM1, ol_mp_same, ol_rg_in j0 j1]; rfl
    · rw [ol_mp_ne _ _ (by decide), ol_mp_same, ol_rg_in k0 k1]; rfl
    · rw [ol_mp_same, ol_rg_in k0 k1]; rfl
    · rw [ol_mp_ne _ _ (by decide), ol_mp_ne _ _ (by decide), hM2, ol_mp_ne _ _ (by decide), ol_mp_same, ol_rg_in h0 h1]; rfl
    · rw [ol_mp_ne _ _ (by decide), ol_mp_ne _ _ (by decide), hM2, ol_mp_same, ol_rg_in h0 h1]; rfl
  · rw [hM2, hM1]
    exact fr_s.rf.mp.mp.mp.mp.mp
theorem m_rationsOut {n : Nat} {W X M : ol_M} (w : wk W) (v : mv W M) (x : mx W X M) (hb : xb 1000 (X 0)) : ∃ M', ol_R (ol_lay n) 1 q_X9_rationsOut [.inr (.inr 132)] M none M' ∧ mx W (ol_mp X 0 (rn_hand W (X 0))) M' ∧ fr_s M M' := by
  obtain ⟨v1, v2, v3, v4, v5, -⟩ := v
  obtain ⟨w0, w1, w2, w3, w4, -⟩ := w
  obtain ⟨x1, x2, x3⟩ := x
  refine ⟨ol_mp M 147 (ol_rg (M 147) 0 (8 * W 0 0) (rn_hand W (X 0))), ol_Ri (q := q_X9_rationsOut) (by decide +kernel) (Nat.le_of_ble_eq_true rfl) rfl (fun Rt A hA hr => b_X9_rationsOut_0 hA M ?_), ?_, fr_s.rf.mp⟩
  · have z1 : A 2 [some (.inr (.inr 132)), some (.inl 0), none, none] [] (ol_mp M 147 (ol_rg (M 147) 0 (8 * 0) (rn_hand W (X 0)))) := by
      refine ol_loop (P := fun h => A 2 [some (.inr (.inr 132)), some (.inl h), none, none] [] (ol_mp M 147 (ol_rg (M 147) 0 (8 * h) (rn_hand W (X 0))))) (a := 0) (b := W 0 0) w0.1 (fun h h0 h1 hh => ?_) ?_
      · refine b_X9_rationsOut_2 hA h _ ?_
        rw [show ol_mp M 147 (ol_rg (M 147) 0 (8 * h) (rn_hand W (X 0))) 132 7 = W 0 0 by rw [ol_mp_ne _ _ (by decide)]; exact v1]
        refine ⟨⟨by omega, by omega⟩, ⟨by omega, by omega⟩, ol_if.neg (by omega) ?_⟩
        have z2 : A 12 [some (.inr (.inr 132)), some (.inl h), some (.inl 0), none] [] (ol_mp M 147 (ol_rg (M 147) 0 (8 * h + 0) (rn_hand W (X 0)))) := by
          refine ol_loop (P := fun l => A 12 [some (.inr (.inr 132)), some (.inl h), some (.inl l), none] [] (ol_mp M 147 (ol_rg (M 147) 0 (8 * h + l) (rn_hand W (X 0))))) (a := 0) (b := 8) (by decide) (fun l l0 l1 hl => ?_) ?_
          · refine b_X9_rationsOut_12 hA h l _ ?_
            have k1 := w1 h h0 h1
            have k2 := hb (8 * h + l) (by omega) (by omega)
            have ek : M 139 (2 * h) = W 1 h := (v2 h h0 h1).1
            have eh : M 139 (2 * h + 1) = W 2 h := (v2 h h0 h1).2
            have er : M 144 l = W 4 l := v5 l l0 l1
            have es : M 147 (8 * h + l) = X 0 (8 * h + l) := x1 _ (by omega) (by omega)
            have eg : rn_hand W (X 0) (8 * h + l) = (if W 1 h = 1 then X 0 (8 * h + l) / 2 else 0) + W 4 l * W 2 h := by
              unfold rn_hand
              rw [if_pos ⟨by omega, by omega⟩, show (8 * h + l) / 8 = h by omega, show (8 * h + l) % 8 = l by omega]
            rw [ol_mp_ne _ _ (show (139 : Int) ≠ 147 by decide), ol_mp_ne _ _ (show (144 : Int) ≠ 147 by decide), ol_mp_same, ol_rg_out (show ¬ (0 ≤ 8 * h + l ∧ 8 * h + l < 8 * h + l) by omega), ek, eh, er, es]
            refine ⟨⟨by omega, by omega⟩, ol_if.neg (by omega) ⟨by omega, by omega, ol_if.mk (fun c => ⟨by omega, by omega, ⟨by omega, by omega⟩, by omega, by omega, by omega, by omega, by omega, by omega, ?_⟩) (fun c => ⟨⟨by omega, by omega⟩, by omega, by omega, by omega, by omega, by omega, by omega, ?_⟩)⟩⟩
            · rw [ol_rg_ms M 147 _ _ (by omega) (by rw [eg, if_pos c, Int.tdiv_eq_ediv_of_nonneg k2.1]), Int.add_assoc]
              exact hl
            · rw [ol_rg_ms M 147 _ _ (by omega) (by rw [eg, if_neg c]), Int.add_assoc]
              exact hl
          · refine b_X9_rationsOut_12 hA h 8 _ ⟨⟨by decide, by decide⟩, ol_if.pos (by decide) ?_⟩
            rw [show 8 * h + 8 = 8 * (h + 1) by omega]
            exact hh
        rw [Int.add_zero] at z2
        exact z2
      · refine b_X9_rationsOut_2 hA (W 0 0) _ ?_
        rw [show ol_mp M 147 (ol_rg (M 147) 0 (8 * W 0 0) (rn_hand W (X 0))) 132 7 = W 0 0 by rw [ol_mp_ne _ _ (by decide)]; exact v1]
        exact ⟨⟨by omega, by omega⟩, ⟨by omega, by omega⟩, ol_if.pos (by omega) hr⟩
    rw [show (8 * 0 : Int) = 0 by decide, ol_rg_mp0] at z1
    exact z1
  · refine ⟨fun j j0 j1 => ?_, fun k k0 k1 => ?_, fun h h0 h1 => ?_⟩
    · rw [ol_mp_same, ol_mp_same]
      by_cases q : j < 8 * W 0 0
      · rw [ol_rg_in j0 q]
      · rw [ol_rg_out (fun z => q z.2), x1 j j0 j1]
        unfold rn_hand
        rw [if_neg (fun z => q z.2)]
    · rw [ol_mp_ne _ _ (by decide), ol_mp_ne _ _ (by decide), ol_mp_ne _ _ (by decide), ol_mp_ne _ _ (by decide)]
      exact x2 k k0 k1
    · rw [ol_mp_ne _ _ (by decide), ol_mp_ne _ _ (by decide), ol_mp_ne _ _ (by decide), ol_mp_ne _ _ (by decide)]
      exact x3 h h0 h1
