/-! THE CLASS COUNTS THE WAYS -/
/-- the order of live writings, as it is kept -/
def oc (L : List Int) (M : ol_M) : Prop := M 85 6 = L.length ∧ ∀ (i : Nat) (x : Int), L[i]? = some x → M 86 i = x
theorem oc_add {L : List Int} {M : ol_M} {k : Int} (h : oc L M) : oc (L ++ [k]) (ol_ms (ol_ms M 86 (M 85 6) k) 85 6 (M 85 6 + 1)) := by
  refine ⟨?_, fun i x hx => ?_⟩
  · rw [ol_msA, h.1, List.length_append]; rfl
  · rw [ol_ms_ne _ _ _ (by decide), ol_ms_row, h.1]
    by_cases c : i < L.length
    · rw [List.getElem?_append_left c] at hx
      rw [ol_rsN _ _ (by omega)]
      exact h.2 i x hx
    · rw [List.getElem?_append_right (by omega)] at hx
      have e : i = L.length := by
        by_cases d : i - L.length = 0
        · omega
        · rw [List.getElem?_eq_none (by simp; omega)] at hx
          cases hx
      rw [e, Nat.sub_self] at hx
      have : k = x := by simpa using hx
      rw [e, ol_rsA, this]
theorem part_len {W : ol_M} {m k : Nat} (k1 : (k : Int) ≤ W 10 0) : (la W m ++ lm W m k).length ≤ (W 10 0).toNat := by
  have nd : (la W m ++ lm W m k).Nodup := by
    refine List.nodup_append.mpr ⟨la_nodup m, lm_nodup k, fun a ha b hb => ?_⟩
    have p := (la_mem m ha).2.1
    have q := ((lm_mem _).mp hb).2.1
    intro z
    rw [z] at p
    omega
  have h := List.Nodup.length_le_of_subset (l₂ := rng (W 10 0).toNat) nd (fun x hx => by
    rw [mem_rng]
    rcases List.mem_append.mp hx with q | q
    · exact (la_mem m q).1
    · have := ((lm_mem _).mp q).1
      omega)
  rw [rng_len] at h
  exact h
theorem x_sortLive {n : Nat} {W M : ol_M} (w : wk W) (n12 : W 10 0 ≤ 12) (v : xv W M) : ∃ M', ol_R (ol_lay n) 1 q_X0_sortLive [.inr (.inr 85)] M none M' ∧ oc (lvl W) M' ∧ (∀ c, c ≠ 85 → c ≠ 86 → M' c = M c) ∧ (∀ j, j ≠ 6 → M' 85 j = M 85 j) := by
  have w10 := w.2.2.2.2.2.2.2.1
  have w0 := w.1
  have w2 := w.2.2.1
  have outer : ∀ Mi, oc (la W (Int.toNat 0)) Mi → (∀ c, c ≠ 85 → c ≠ 86 → Mi c = M c) → (∀ j, j ≠ 6 → Mi 85 j = M 85 j) → ∃ M', ol_T n q_X0_sortLive 0 7 [some (.inr (.inr 85)), some (.inl 0), none] [] Mi none M' ∧ oc (lvl W) M' ∧ (∀ c, c ≠ 85 → c ≠ 86 → M' c = M c) ∧ (∀ j, j ≠ 6 → M' 85 j = M 85 j) := by
    refine ol_loop (P := fun m => ∀ Mi, oc (la W m.toNat) Mi → (∀ c, c ≠ 85 → c ≠ 86 → Mi c = M c) → (∀ j, j ≠ 6 → Mi 85 j = M 85 j) → ∃ M', ol_T n q_X0_sortLive 0 7 [some (.inr (.inr 85)), some (.inl m), none] [] Mi none M' ∧ oc (lvl W) M' ∧ (∀ c, c ≠ 85 → c ≠ 86 → M' c = M c) ∧ (∀ j, j ≠ 6 → M' 85 j = M 85 j)) (a := 0) (b := 12) (by decide) (fun m m0 m1 hm Mi o f g => ?_) (fun Mi o f g => ?_)
    · have em : ((m.toNat : Nat) : Int) = m := Int.toNat_of_nonneg m0
      have inner : ∀ Mj, oc (la W m.toNat ++ lm W m.toNat (Int.toNat 0)) Mj → (∀ c, c ≠ 85 → c ≠ 86 → Mj c = M c) → (∀ j, j ≠ 6 → Mj 85 j = M 85 j) → ∃ M', ol_T n q_X0_sortLive 0 15 [some (.inr (.inr 85)), some (.inl m), some (.inl 0)] [] Mj none M' ∧ oc (lvl W) M' ∧ (∀ c, c ≠ 85 → c ≠ 86 → M' c = M c) ∧ (∀ j, j ≠ 6 → M' 85 j = M 85 j) := by
        refine ol_loop (P := fun k => ∀ Mj, oc (la W m.toNat ++ lm W m.toNat k.toNat) Mj → (∀ c, c ≠ 85 → c ≠ 86 → Mj c = M c) → (∀ j, j ≠ 6 → Mj 85 j = M 85 j) → ∃ M', ol_T n q_X0_sortLive 0 15 [some (.inr (.inr 85)), some (.inl m), some (.inl k)] [] Mj none M' ∧ oc (lvl W) M' ∧ (∀ c, c ≠ 85 → c ≠ 86 → M' c = M c) ∧ (∀ j, j ≠ 6 → M' 85 j = M 85 j)) (a := 0) (b := W 10 0) w10.1 (fun k k0 k1 hk Mj oj fj gj => ?_) (fun Mj oj fj gj => ?_)
        · have ek : ((k.toNat : Nat) : Int) = k := Int.toNat_of_nonneg k0
          obtain ⟨a1, a2, a3⟩ := v.2.2.2.2.2 k k0 k1
          obtain ⟨q1, q2, q3⟩ := w.2.2.2.2.2.2.2.2 k k0 k1
          rw [show (k + 1).toNat = k.toNat + 1 by omega] at hk
          simp only [lm] at hk
          rw [ek, em] at hk
          by_cases c : W 11 k = m ∧ W 12 k < W 0 0 ∧ W 13 k < W 3 0
          · rw [if_pos c, ← List.append_assoc] at hk
            have pl := @part_len W m.toNat (k.toNat + 1) (by omega)
            simp only [lm] at pl
            rw [ek, em, if_pos c, ← List.append_assoc, List.length_append] at pl
            have pl2 : (la W m.toNat ++ lm W m k.toNat).length + 1 ≤ (W 10 0).toNat := pl
            rw [em] at oj
            have o6 := oj.1
            obtain ⟨M', t, ee⟩ := hk _ (oc_add oj) (fun c a b => by rw [ol_ms_ne _ _ _ a, ol_ms_ne _ _ _ b]; exact fj c a b) (fun j a => by rw [ol_ms_i _ _ _ a, ol_ms_ne _ _ _ (by decide)]; exact gj j a)
            refine ⟨M', fun Rt Aq hA hr => b_X0_sortLive_15 hA m k Mj ?_, ee⟩
            rw [fj 37 (by decide) (by decide), fj 39 (by decide) (by decide), fj 40 (by decide) (by decide), fj 41 (by decide) (by decide), fj 1 (by decide) (by decide), fj 5 (by decide) (by decide), v.2.2.2.2.1, a1, a2, a3, v.1, v.2.2.1]
            exact ⟨⟨by omega, by omega⟩, ⟨by omega, by omega⟩, ol_if.neg (by omega) ⟨k0, by omega, ol_if.pos c.1 ⟨k0, by omega, ⟨by omega, by omega⟩, ⟨by omega, by omega⟩, ol_if.neg (by omega) ⟨k0, by omega, ⟨by omega, by omega⟩, ⟨by omega, by omega⟩, ol_if.neg (by omega) ⟨by omega, by omega, t Rt Aq hA hr⟩⟩⟩⟩⟩
          · rw [if_neg c] at hk
            rw [em] at oj
            obtain ⟨M', t, ee⟩ := hk Mj oj fj gj
            refine ⟨M', fun Rt Aq hA hr => b_X0_sortLive_15 hA m k Mj ?_, ee⟩
            rw [fj 37 (by decide) (by decide), fj 39 (by decide) (by decide), fj 40 (by decide) (by decide), fj 41 (by decide) (by decide), fj 1 (by decide) (by decide), fj 5 (by decide) (by decide), v.2.2.2.2.1, a1, a2, a3, v.1, v.2.2.1]
            have t' := t Rt Aq hA hr
            exact ⟨⟨by omega, by omega⟩, ⟨by omega, by omega⟩, ol_if.neg (by omega) ⟨k0, by omega, ol_if.mk (fun d => ⟨k0, by omega, ⟨by omega, by omega⟩, ⟨by omega, by omega⟩, ol_if.mk (fun _ => t') (fun d2 => ⟨k0, by omega, ⟨by omega, by omega⟩, ⟨by omega, by omega⟩, ol_if.pos (by omega) t'⟩)⟩) (fun d => ⟨⟨by omega, by omega⟩, ⟨by omega, by omega⟩, t'⟩)⟩⟩
        · obtain ⟨M', t, ee⟩ := hm Mj (by
            rw [show (m + 1).toNat = m.toNat + 1 by omega]
            exact oj) fj gj
          refine ⟨M', fun Rt Aq hA hr => b_X0_sortLive_15 hA m _ Mj ?_, ee⟩
          rw [fj 37 (by decide) (by decide), v.2.2.2.2.1]
          exact ⟨⟨by omega, by omega⟩, ⟨by omega, by omega⟩, ol_if.pos (by omega) (t Rt Aq hA hr)⟩
      obtain ⟨M', t, ee⟩ := inner Mi (by show oc (la W m.toNat ++ []) Mi; rw [List.append_nil]; exact o) f g
      exact ⟨M', fun Rt Aq hA hr => b_X0_sortLive_7 hA m Mi ⟨⟨by omega, by omega⟩, ol_if.neg (by omega) (t Rt Aq hA hr)⟩, ee⟩
    · exact ⟨Mi, fun Rt Aq hA hr => b_X0_sortLive_7 hA 12 Mi ⟨⟨by decide, by decide⟩, ol_if.pos (by decide) hr⟩, o, f, g⟩
  obtain ⟨M', t, ee⟩ := outer (ol_ms M 85 6 0) ⟨ol_msA _ _ _ _, fun i x hx => by cases hx⟩ (fun c a _ => ol_ms_ne _ _ _ a) (fun j a => ol_ms_i _ _ _ a)
  exact ⟨M', ol_Ri (q := q_X0_sortLive) (by decide +kernel) (Nat.le_of_ble_eq_true rfl) rfl (fun Rt Aq hA hr => b_X0_sortLive_0 hA M (t Rt Aq hA hr)), ee⟩
theorem x_note {n : Nat} {W M : ol_M} {g : Int} {F : Int → Int} (w : wk W) (v : xv W M) (g0 : 0 ≤ g) (g1 : g ≤ 12) (hF : ∀ h, 0 ≤ h → h < 8 → M 101 h = F h ∧ 0 ≤ F h ∧ F h ≤ 12) : ∃ M', ol_R (ol_lay n) 1 q_X0_note [.inr (.inr 85), .inl g] M none M' ∧ (∀ h, 0 ≤ h → h < W 0 0 → M' (103 + h) = ol_rs (M (103 + h)) (g * 13 + F h) (M (103 + h) (g * 13 + F h) + 1)) ∧ (∀ c, ¬ (103 ≤ c ∧ c ≤ 110) → M' c = M c) := by
  have w0 := w.1
  have key : ∀ Mi, (∀ h, 0 ≤ h → h < 0 → Mi (103 + h) = ol_rs (M (103 + h)) (g * 13 + F h) (M (103 + h) (g * 13 + F h) + 1)) → (∀ h, 0 ≤ h → h < 8 → Mi (103 + h) = M (103 + h)) → (∀ c, ¬ (103 ≤ c ∧ c ≤ 110) → Mi c = M c) → ∃ M', ol_T n q_X0_note 0 2 [some (.inr (.inr 85)), some (.inl g), some (.inl 0)] [] Mi none M' ∧ (∀ h, 0 ≤ h → h < W 0 0 → M' (103 + h) = ol_rs (M (103 + h)) (g * 13 + F h) (M (103 + h) (g * 13 + F h) + 1)) ∧ (∀ c, ¬ (103 ≤ c ∧ c ≤ 110) → M' c = M c) := by
    refine ol_loop (P := fun j => ∀ Mi, (∀ h, 0 ≤ h → h < j → Mi (103 + h) = ol_rs (M (103 + h)) (g * 13 + F h) (M (103 + h) (g * 13 + F h) + 1)) → (∀ h, j ≤ h → h < 8 → Mi (103 + h) = M (103 + h)) → (∀ c, ¬ (103 ≤ c ∧ c ≤ 110) → Mi c = M c) → ∃ M', ol_T n q_X0_note 0 2 [some (.inr (.inr 85)), some (.inl g), some (.inl j)] [] Mi none M' ∧ (∀ h, 0 ≤ h → h < W 0 0 → M' (103 + h) = ol_rs (M (103 + h)) (g * 13 + F h) (M (103 + h) (g * 13 + F h) + 1)) ∧ (∀ c, ¬ (103 ≤ c ∧ c ≤ 110) → M' c = M c)) (a := 0) (b := W 0 0) w0.1 (fun j j0 j1 hj Mi a b f => ?_) (fun Mi a b f => ?_)
    · have q := hF j j0 (by omega)
      obtain ⟨M', t, ee⟩ := hj (ol_ms Mi (103 + j) (g * 13 + F j) (Mi (103 + j) (g * 13 + F j) + 1)) (fun h h0 h1 => by
        by_cases p : h = j
        · rw [p, ol_ms_row, b j (by omega) (by omega)]
        · rw [ol_ms_ne _ _ _ (by omega)]; exact a h h0 (by omega)) (fun h h0 h1 => by rw [ol_ms_ne _ _ _ (by omega)]; exact b h (by omega) h1) (fun c hc => by rw [ol_ms_ne _ _ _ (by omega)]; exact f c hc)
      refine ⟨M', fun Rt Aq hA hr => b_X0_note_2 hA g j Mi ?_, ee⟩
      rw [f 1 (by decide), f 101 (by decide), v.1, q.1]
      exact ⟨⟨by omega, by omega⟩, ⟨by omega, by omega⟩, ol_if.neg (by omega) ⟨j0, by omega, j0, by omega, by omega, by omega, by omega, by omega, t Rt Aq hA hr⟩⟩
    · refine ⟨Mi, fun Rt Aq hA hr => b_X0_note_2 hA g _ Mi ?_, a, f⟩
      rw [f 1 (by decide), v.1]
      exact ⟨⟨by omega, by omega⟩, ⟨by omega, by omega⟩, ol_if.pos (by omega) hr⟩
  obtain ⟨M', t, ee⟩ := key M (fun h a b => by omega) (fun _ _ _ => rfl) (fun _ _ => rfl)
  exact ⟨M', ol_Ri (q := q_X0_note) (by decide +kernel) (Nat.le_of_ble_eq_true rfl) rfl (fun Rt Aq hA hr => b_X0_note_0 hA g M (t Rt Aq hA hr)), ee⟩
theorem av_b {W : ol_M} (w : wk W) : ∀ (u : Nat) (a : Int) (st : Int → Int), xb 1000 st → zp W st → xb 1000 (av W u a st) ∧ zp W (av W u a st) := by
  have w5 := w.2.2.2.2.2.1
  intro u
  induction u with
  | zero => intro a st h z; exact ⟨h, z⟩
  | succ u ih =>
    intro a st h z
    obtain ⟨b, b'⟩ := rn_hand_z w h z
    exact ih (a + 1) _ ((rn_ls_b w _ _ (by omega) b).up (by omega)) (rn_ls_z w _ _ (by omega) b')
theorem x_advance {n : Nat} {W M : ol_M} {st : Int → Int} {d p k : Int} (w : wk W) (v : xv W M) (y : xl W M) (hr4 : ∀ l, 0 ≤ l → l < 8 → M 38 l = W 4 l) (d0 : 0 ≤ d) (d1 : d < 12) (k0 : 0 ≤ k) (k1 : k < W 10 0) (n12 : W 10 0 ≤ 12) (ek : M 86 d = k) (hp : (d = 0 ∧ p = -1) ∨ (0 < d ∧ ∃ k', (0 ≤ k' ∧ k' < W 10 0) ∧ M 86 (d - 1) = k' ∧ p = W 11 k')) (pk : p ≤ W 11 k) (x : xs (88 + d) st M) (hb : xb 1000 st) (hz : zp W st) : ∃ M', ol_R (ol_lay n) 3 q_X0_advance [.inr (.inr 85), .inl d] M none M' ∧ xs (88 + d) (av W (W 11 k - p).toNat (p + 1) st) M' ∧ fk (88 + d) M M' := by
  have hk : ks (88 + d) := by unfold ks; omega
  have q := (w.2.2.2.2.2.2.2.2 k k0 k1).1
  have e39 : M 39 k = W 11 k := (v.2.2.2.2.2 k k0 k1).1
  have w5 := w.2.2.2.2.2.1
  have p1 : -1 ≤ p := by
    rcases hp with h | ⟨_, k', h1, _, h2⟩
    · omega
    · have := (w.2.2.2.2.2.2.2.2 k' h1.1 h1.2).1
      omega
  have key : ∀ (u : Nat) (a : Int) (s : Int → Int) (Mi : ol_M), 0 ≤ a → a + u = W 11 k + 1 → xs (88 + d) s Mi → xb 1000 s → zp W s → fk (88 + d) M Mi → ∃ M', ol_T n q_X0_advance 2 45 [some (.inr (.inr 85)), some (.inl d), some (.inl (W 11 k)), none, some (.inl a)] [] Mi none M' ∧ xs (88 + d) (av W u a s) M' ∧ fk (88 + d) M M' := by
    intro u
    induction u with
    | zero =>
      intro a s Mi a0 hu xi hb' hz' f
      exact ⟨Mi, fun Rt Aq hA hr => b_X0_advance_45 hA d (W 11 k) a Mi ⟨⟨by omega, by omega⟩, ⟨by omega, by omega⟩, ol_if.pos (by omega) hr⟩, xi, f⟩
    | succ u ih =>
      intro a s Mi a0 hu xi hb' hz' f
      obtain ⟨M1, r1, x1, f1⟩ := @x_handOut n W Mi s (88 + d) 38 w (v.lo w (f.lo hk)) hk ly_38 (by decide) (by omega) (fun l l0 l1 => by rw [f 38 (by omega)]; exact hr4 l l0 l1) xi hb'
      obtain ⟨b3, b4⟩ := rn_hand_z w hb' hz'
      have fk1 := f.tr f1
      obtain ⟨M2, r2, x2, f2⟩ := @x_moveLent n W M1 (rn_hand W s) (88 + d) a w (v.lo w (fk1.lo hk)) (y.lo (fk1.lo hk)) hk a0 (by omega) x1 (b3.up (by decide))
      obtain ⟨M', t, ee⟩ := ih (a + 1) _ M2 (by omega) (by omega) x2 ((rn_ls_b w _ _ (by omega) b3).up (by omega)) (rn_ls_z w _ _ (by omega) b4) (fk1.tr f2)
      exact ⟨M', fun Rt Aq hA hr => b_X0_advance_45 hA d (W 11 k) a Mi ⟨⟨by omega, by omega⟩, ⟨by omega, by omega⟩, ol_if.neg (by omega) ⟨d0, by omega, M1, r1, d0, by omega, M2, r2, t Rt Aq hA hr⟩⟩, ee⟩
  obtain ⟨M', t, ee⟩ := key (W 11 k - p).toNat (p + 1) st M (by omega) (by omega) x hb hz fk.rf
  refine ⟨M', ol_Ri (q := q_X0_advance) (by decide +kernel) (Nat.le_of_ble_eq_true rfl) rfl (fun Rt Aq hA hr => b_X0_advance_0 hA d M ?_), ee⟩
  rw [ek, e39]
  rcases hp with h | ⟨h, k', h1, h2, h3⟩
  · rw [h.2] at t
    exact ⟨d0, d1, k0, by omega, ol_if.pos h.1 (t Rt Aq hA hr)⟩
  · rw [h2, (v.2.2.2.2.2 k' h1.1 h1.2).1, ← h3]
    exact ⟨d0, d1, k0, by omega, ol_if.neg (by omega) ⟨⟨by omega, by omega⟩, by omega, by omega, h1.1, by omega, t Rt Aq hA hr⟩⟩
theorem rn_set_b {W : ol_M} (w : wk W) {h t : Int} (h0 : 0 ≤ h) (h1 : h < 8) (t0 : 0 ≤ t) {st : Int → Int} {B : Int} (hb : xb B st) (hz : zp W st) : xb B (rn_set W h t st) ∧ zp W (rn_set W h t st) := by
  unfold rn_set
  split
  · rename_i c
    refine ⟨fun j j0 j1 => ?_, fun j j0 j1 => ?_⟩
    · unfold rn_sp
      by_cases d : 8 * h ≤ j ∧ j < 8 * h + 8
      · rw [ol_rg_in d.1 d.2]
        have s := hb j j0 j1
        have a := rn_tk_le c.2.2 (j - 8 * h) (by omega) (by omega) (by rw [show 8 * h + (j - 8 * h) = j by omega]; exact s.1)
        rw [show 8 * h + (j - 8 * h) = j by omega] at a
        have b := @rn_tk_r W w t (rn_res W h t st - 1) (j - 8 * h) t0 c.2.1 (by omega) (by omega)
        omega
      · rw [ol_rg_out d]; exact hb j j0 j1
    · unfold rn_sp
      rw [ol_rg_out (by omega)]
      exact hz j j0 j1
  · exact ⟨hb, hz⟩
/-- the cells that a branch of depth d may change -/
def fb (d : Int) (M M' : ol_M) : Prop := ∀ c, ¬ (88 + d ≤ c ∧ c ≤ 100) → c ≠ 101 → ¬ (103 ≤ c ∧ c ≤ 110) → M' c = M c
theorem x_branch {n : Nat} {W : ol_M} (w : wk W) (n12 : W 10 0 ≤ 12) {L : List Int} (hL : ∀ x, x ∈ L → (0 ≤ x ∧ x < W 10 0) ∧ W 12 x < W 0 0 ∧ W 13 x < W 3 0) (l12 : L.length ≤ 12) (sorted : ∀ (i : Nat) (x y : Int), L[i]? = some x → L[i + 1]? = some y → W 11 x ≤ W 11 y) : ∀ (r : List Int) (d : Nat) (lv : Nat) (M : ol_M) (st : Int → Int) (F : Int → Int) (p g : Int), L.drop d = r → d ≤ L.length → 3 + r.length ≤ lv → xv W M → xl W M → (∀ l, 0 ≤ l → l < 8 → M 38 l = W 4 l) → oc L M → xs (88 + d) st M → xb 1000 st → zp W st → (∀ h, 0 ≤ h → h < 8 → M 101 h = F h ∧ 0 ≤ F h ∧ F h ≤ d) → 0 ≤ g → g ≤ d → ((d = 0 ∧ p = -1) ∨ (0 < d ∧ ∃ k', L[d - 1]? = some k' ∧ p = W 11 k')) → ∃ M', ol_R (ol_lay n) (lv + 1) q_X0_branch [.inr (.inr 85), .inl d, .inl g] M none M' ∧ (∀ h, 0 ≤ h → h < W 0 0 → ∀ g' f', 0 ≤ g' → g' ≤ 12 → 0 ≤ f' → f' ≤ 12 → M' (103 + h) (g' * 13 + f') = M (103 + h) (g' * 13 + f') + nb W h r p g st (F h) g' f') ∧ (∀ h, 0 ≤ h → h < 8 → M' 101 h = M 101 h) ∧ fb d M M' := by
  have w0 := w.1
  intro r
  induction r with
  | nil =>
    intro d lv M st F p g hr hd hlv v y r4 o x hb hz hF g0 g1 hp
    have dl : d = L.length := by
      have := congrArg List.length hr
      rw [List.length_drop] at this
      simp at this
      omega
    obtain ⟨M', q, a, f⟩ := @x_note n W M g F w v g0 (by omega) (fun h h0 h1 => ⟨(hF h h0 h1).1, (hF h h0 h1).2.1, by have := (hF h h0 h1).2.2; omega⟩)
    refine ⟨M', ol_Ri (q := q_X0_branch) (by decide +kernel) (Nat.le_of_ble_eq_true rfl) rfl (fun Rt Aq hA hr' => b_X0_branch_0 (by simp at hlv; omega) hA d g M ?_), fun h h0 h1 g' f' g'0 g'1 f'0 f'1 => ?_, fun h h0 h1 => by rw [f 101 (by decide)], fun c _ _ q => f c q⟩
    · rw [o.1]
      exact ⟨⟨by omega, by omega⟩, ⟨by omega, by omega⟩, ol_if.pos (by omega) ⟨M', q, hr'⟩⟩
    · have q := hF h h0 (by omega)
      rw [a h h0 h1]
      show _ = _ + (if g = g' ∧ F h = f' then 1 else 0)
      by_cases c : g = g' ∧ F h = f'
      · rw [if_pos c, c.1, c.2, ol_rsA]
      · rw [if_neg c, ol_rsN _ _ (by omega)]; omega
  | cons k r ih =>
    intro d lv M st F p g hr hd hlv v y r4 o x hb hz hF g0 g1 hp
    have gk : L[d]? = some k := by
      have := List.getElem?_drop (xs := L) (i := d) (j := 0)
      rw [hr] at this
      simpa using this.symm
    have dl : d < L.length := by
      by_cases c : d < L.length
      · exact c
      · rw [List.getElem?_eq_none (by omega)] at gk; cases gk
    have hr' : L.drop (d + 1) = r := by
      rw [← List.drop_drop, hr]; rfl
    obtain ⟨kr, kv⟩ := hL k (List.mem_of_getElem? gk)
    have ek : M 86 d = k := o.2 d k gk
    obtain ⟨lv', rfl⟩ : ∃ z, lv = z + 1 := ⟨lv - 1, by simp at hlv; omega⟩
    have qk := w.2.2.2.2.2.2.2.2 k kr.1 kr.2
    have e40 : M 40 k = W 12 k := (v.2.2.2.2.2 k kr.1 kr.2).2.1
    have e41 : M 41 k = W 13 k := (v.2.2.2.2.2 k kr.1 kr.2).2.2
    have hpk : p ≤ W 11 k := by
      rcases hp with h | ⟨h, k', h1, h2⟩
      · omega
      · rw [h2]
        exact sorted (d - 1) k' k h1 (by rw [show d - 1 + 1 = d by omega]; exact gk)
    obtain ⟨M1, r1, x1, f1⟩ := @x_advance n W M st d p k w v y r4 (by omega) (by omega) kr.1 kr.2 n12 ek (by
      rcases hp with h | ⟨h, k', h1, h2⟩
      · exact Or.inl ⟨by omega, h.2⟩
      · refine Or.inr ⟨by omega, k', (hL k' (List.mem_of_getElem? h1)).1, ?_, h2⟩
        have := o.2 (d - 1) k' h1
        rw [← this]
        congr 1
        omega) hpk x hb hz
    obtain ⟨s1, hs1⟩ : ∃ z, z = av W (W 11 k - p).toNat (p + 1) st := ⟨_, rfl⟩
    rw [← hs1] at x1
    have b1 : xb 1000 s1 ∧ zp W s1 := by rw [hs1]; exact av_b w _ _ _ hb hz
    have dn : ((d + 1 : Nat) : Int) = (d : Int) + 1 := by omega
    -- the writing is not let through
    obtain ⟨N1, hN1⟩ : ∃ z, z = ol_mp M1 (88 + ((d : Int) + 1)) (ol_cp (M1 (88 + d)) (M1 (88 + ((d : Int) + 1))) 0 0 64) := ⟨_, rfl⟩
    have n1 : ∀ c, c ≠ 88 + (d : Int) → c ≠ 88 + ((d : Int) + 1) → N1 c = M c := fun c a b => by rw [hN1, ol_mp_ne _ _ b, f1 c a]
    have xn1 : xs (88 + ((d + 1 : Nat) : Int)) s1 N1 := fun j j0 j1 => by
      rw [dn, hN1, ol_mp_same]
      unfold ol_cp
      rw [if_pos ⟨by omega, by omega⟩, show 0 + (j - 0) = j by omega]
      exact x1 j j0 j1
    have lo1 : ∀ c, 0 ≤ c → c ≤ 50 → N1 c = M c := fun c _ b => n1 c (by omega) (by omega)
    have oc1 : oc L N1 := by
      unfold oc
      rw [n1 85 (by omega) (by omega), n1 86 (by omega) (by omega)]
      exact o
    obtain ⟨M6, r6, a6, c6, f6⟩ := ih (d + 1) lv' N1 s1 F (W 11 k) g hr' (by omega) (by simp at hlv; omega) (v.lo w lo1) (y.lo lo1) (fun l l0 l1 => by rw [lo1 38 (by decide) (by decide)]; exact r4 l l0 l1) oc1 xn1 b1.1 b1.2 (fun h h0 h1 => by
      have := hF h h0 h1
      rw [n1 101 (by omega) (by omega)]
      exact ⟨this.1, this.2.1, by omega⟩) g0 (by omega) (Or.inr ⟨by omega, k, by rw [show d + 1 - 1 = d by omega]; exact gk, rfl⟩)
    rw [dn] at r6 f6
    -- it is let through
    obtain ⟨N2, hN2⟩ : ∃ z, z = ol_mp M6 (88 + ((d : Int) + 1)) (ol_cp (M6 (88 + d)) (M6 (88 + ((d : Int) + 1))) 0 0 64) := ⟨_, rfl⟩
    have m6 : M6 (88 + d) = M1 (88 + d) := by
      rw [f6 (88 + d) (by omega) (by omega) (by omega), hN1, ol_mp_ne _ _ (by omega)]
    have n2 : ∀ c, ¬ (88 + (d : Int) ≤ c ∧ c ≤ 100) → c ≠ 101 → ¬ (103 ≤ c ∧ c ≤ 110) → N2 c = M c := fun c a b e => by
      rw [hN2, ol_mp_ne _ _ (by omega), f6 c (by omega) b e, n1 c (by omega) (by omega)]
    have xn2 : xs (88 + ((d : Int) + 1)) s1 N2 := fun j j0 j1 => by
      rw [hN2, ol_mp_same]
      unfold ol_cp
      rw [if_pos ⟨by omega, by omega⟩, show 0 + (j - 0) = j by omega, m6]
      exact x1 j j0 j1
    have lo2 : ∀ c, 0 ≤ c → c ≤ 50 → N2 c = M c := fun c _ b => n2 c (by omega) (by omega) (by omega)
    have hk1 : ks (88 + ((d : Int) + 1)) := by unfold ks; omega
    obtain ⟨M8, r8, x8, f8⟩ := @x_settle n W N2 s1 (88 + ((d : Int) + 1)) (W 12 k) (W 13 k) w (v.lo w lo2) hk1 qk.2.1.1 (by omega) qk.2.2.1 (by omega) xn2 b1.1
    have b2 := @rn_set_b W w (W 12 k) (W 13 k) qk.2.1.1 (by omega) qk.2.2.1 s1 1000 b1.1 b1.2
    have e101 : ∀ h, 0 ≤ h → h < 8 → M8 101 h = F h := fun h h0 h1 => by
      rw [f8 101 (by omega), hN2, ol_mp_ne _ _ (by omega), c6 h h0 h1, n1 101 (by omega) (by omega)]
      exact (hF h h0 h1).1
    have hbr : ∀ (fi : Int), fi = (if rn_out W (W 12 k) (W 13 k) s1 = 3 then 1 else 0) → ∃ M9, ol_R (ol_lay n) (lv' + 1) q_X0_branch [.inr (.inr 85), .inl ((d : Int) + 1), .inl (g + 1)] (ol_ms M8 101 (W 12 k) (M8 101 (W 12 k) + fi)) none M9 ∧ (∀ h, 0 ≤ h → h < W 0 0 → ∀ g' f', 0 ≤ g' → g' ≤ 12 → 0 ≤ f' → f' ≤ 12 → (ol_ms M9 101 (W 12 k) (M9 101 (W 12 k) - fi)) (103 + h) (g' * 13 + f') = M (103 + h) (g' * 13 + f') + nb W h (k :: r) p g st (F h) g' f') ∧ (∀ h, 0 ≤ h → h < 8 → (ol_ms M9 101 (W 12 k) (M9 101 (W 12 k) - fi)) 101 h = M 101 h) ∧ fb d M (ol_ms M9 101 (W 12 k) (M9 101 (W 12 k) - fi)) := by
      intro fi hfi
      have fi01 : 0 ≤ fi ∧ fi ≤ 1 := by rw [hfi]; split <;> decide
      obtain ⟨N3, hN3⟩ : ∃ z, z = ol_ms M8 101 (W 12 k) (M8 101 (W 12 k) + fi) := ⟨_, rfl⟩
      have n3 : ∀ c, ¬ (88 + (d : Int) ≤ c ∧ c ≤ 100) → c ≠ 101 → ¬ (103 ≤ c ∧ c ≤ 110) → N3 c = M c := fun c a b e => by rw [hN3, ol_ms_ne _ _ _ b, f8 c (by omega)]; exact n2 c a b e
      have lo3 : ∀ c, 0 ≤ c → c ≤ 50 → N3 c = M c := fun c _ b => n3 c (by omega) (by omega) (by omega)
      have oc3 : oc L N3 := by
        unfold oc
        rw [n3 85 (by omega) (by omega) (by omega), n3 86 (by omega) (by omega) (by omega)]
        exact o
      have e3 : ∀ h, 0 ≤ h → h < 8 → N3 101 h = if rn_out W (W 12 k) (W 13 k) s1 = 3 ∧ W 12 k = h then F h + 1 else F h := fun h h0 h1 => by
        rw [hN3, ol_ms_row]
        by_cases c : h = W 12 k
        · rw [c, ol_rsA, e101 (W 12 k) qk.2.1.1 (by omega), hfi]
          by_cases z : rn_out W (W 12 k) (W 13 k) s1 = 3
          · rw [if_pos z, if_pos ⟨z, rfl⟩]
          · rw [if_neg z, if_neg (fun q => z q.1)]; omega
        · rw [ol_rsN _ _ c, if_neg (fun q => c q.2.symm)]
          exact e101 h h0 h1
      obtain ⟨M9, r9, a9, c9, f9⟩ := ih (d + 1) lv' N3 (rn_set W (W 12 k) (W 13 k) s1) (fun h => if rn_out W (W 12 k) (W 13 k) s1 = 3 ∧ W 12 k = h then F h + 1 else F h) (W 11 k) (g + 1) hr' (by omega) (by simp at hlv; omega) (v.lo w lo3) (y.lo lo3) (fun l l0 l1 => by rw [lo3 38 (by decide) (by decide)]; exact r4 l l0 l1) oc3 (fun j j0 j1 => by rw [dn, hN3, ol_ms_ne _ _ _ (by omega)]; exact x8 j j0 j1) b2.1 b2.2 (fun h h0 h1 => by
        have := hF h h0 h1
        refine ⟨e3 h h0 h1, ?_⟩
        show 0 ≤ (if rn_out W (W 12 k) (W 13 k) s1 = 3 ∧ W 12 k = h then F h + 1 else F h) ∧ (if rn_out W (W 12 k) (W 13 k) s1 = 3 ∧ W 12 k = h then F h + 1 else F h) ≤ ((d + 1 : Nat) : Int)
        split <;> omega) (by omega) (by omega) (Or.inr ⟨by omega, k, by rw [show d + 1 - 1 = d by omega]; exact gk, rfl⟩)
      rw [dn] at r9 f9
      rw [← hN3]
      refine ⟨M9, r9, fun h h0 h1 g' f' g'0 g'1 f'0 f'1 => ?_, fun h h0 h1 => ?_, fun c a b e => ?_⟩
      · rw [ol_ms_ne _ _ _ (by omega), a9 h h0 h1 g' f' g'0 g'1 f'0 f'1, hN3, ol_ms_ne _ _ _ (by omega), f8 _ (by omega), hN2, ol_mp_ne _ _ (by omega), a6 h h0 h1 g' f' g'0 g'1 f'0 f'1, n1 _ (by omega) (by omega)]
        show _ = _ + (nb W h r (W 11 k) g (av W (W 11 k - p).toNat (p + 1) st) (F h) g' f' + nb W h r (W 11 k) (g + 1) (rn_set W (W 12 k) (W 13 k) (av W (W 11 k - p).toNat (p + 1) st)) (if rn_out W (W 12 k) (W 13 k) (av W (W 11 k - p).toNat (p + 1) st) = 3 ∧ W 12 k = h then F h + 1 else F h) g' f')
        rw [← hs1]
        omega
      · have fh := (hF h h0 h1).1
        rw [ol_ms_row]
        by_cases c : h = W 12 k
        · rw [c, ol_rsA, c9 (W 12 k) qk.2.1.1 (by omega), hN3, ol_msA, e101 (W 12 k) qk.2.1.1 (by omega)]
          rw [c] at fh
          omega
        · rw [ol_rsN _ _ c, c9 h h0 h1, hN3, ol_ms_i _ _ _ c, e101 h h0 h1, fh]
      · rw [ol_ms_ne _ _ _ b, f9 c (by omega) b e, n3 c a b e]
    have go : ∀ {Rt : Option ol_V → ol_M → Prop} {A : Nat → ol_Ls → ol_St → ol_M → Prop} (hA : ol_C q_X0_branch.1.cls q_X0_branch.2.1 (lv' + 1) (ol_lay n) Rt A), A 20 [some (.inr (.inr 85)), some (.inl (d : Int)), some (.inl g), none, none, none] [] M → A 0 [some (.inr (.inr 85)), some (.inl (d : Int)), some (.inl g), none, none, none] [] M := fun hA h20 => b_X0_branch_0 (by simp at hlv; omega) hA d g M (by
      rw [o.1]
      exact ⟨⟨by omega, by omega⟩, ⟨by omega, by omega⟩, ol_if.neg (by omega) ⟨⟨by omega, by omega⟩, ol_if.pos (by omega) h20⟩⟩)
    have h12 : 0 ≤ W 12 k ∧ W 12 k < 8 := by omega
    by_cases c3 : rn_out W (W 12 k) (W 13 k) s1 = 3
    · obtain ⟨M9, r9, ee⟩ := hbr 1 (by rw [if_pos c3])
      refine ⟨_, ol_Ri (q := q_X0_branch) (by decide +kernel) (Nat.le_of_ble_eq_true rfl) rfl (fun Rt Aq hA hrr => go hA (b_X0_branch_20 (by simp at hlv; omega) hA d g M ?_)), ee⟩
      rw [ek, e40]
      refine ⟨by omega, by omega, kr.1, by omega, M1, r1, by omega, by omega, by omega, by omega, ?_⟩
      rw [← hN1]
      refine ⟨M6, r6, by omega, by omega, by omega, by omega, by omega, by omega, kr.1, by omega, ?_⟩
      rw [← hN2, lo2 41 (by decide) (by decide), e41]
      exact ⟨_, M8, r8, ol_if.pos c3 ⟨h12.1, h12.2, h12.1, h12.2, M9, r9, h12.1, h12.2, h12.1, h12.2, hrr⟩⟩
    · obtain ⟨M9, r9, ee⟩ := hbr 0 (by rw [if_neg c3])
      have ro : ol_r (rn_out W (W 12 k) (W 13 k) s1) := by
        have := rn_res_r W (W 12 k) (W 13 k) s1
        unfold rn_out
        rw [if_pos kv]
        exact ⟨by omega, by omega⟩
      refine ⟨_, ol_Ri (q := q_X0_branch) (by decide +kernel) (Nat.le_of_ble_eq_true rfl) rfl (fun Rt Aq hA hrr => go hA (b_X0_branch_20 (by simp at hlv; omega) hA d g M ?_)), ee⟩
      rw [ek, e40]
      refine ⟨by omega, by omega, kr.1, by omega, M1, r1, by omega, by omega, by omega, by omega, ?_⟩
      rw [← hN1]
      refine ⟨M6, r6, by omega, by omega, by omega, by omega, by omega, by omega, kr.1, by omega, ?_⟩
      rw [← hN2, lo2 41 (by decide) (by decide), e41]
      exact ⟨_, M8, r8, ol_if.neg c3 ⟨ro, h12.1, h12.2, h12.1, h12.2, M9, r9, h12.1, h12.2, h12.1, h12.2, hrr⟩⟩
