/-! where answers lie -/
theorem rn_try_2 {W : ol_M} (w : wk W) {k j : Int} (k0 : 0 ≤ k) (k1 : k < W 10 0) {X : ol_M} (hb : xb 1000 (X 0)) (h : -1 ≤ X 2 j ∧ X 2 j ≤ 48) : -1 ≤ rn_try W k X 2 j ∧ rn_try W k X 2 j ≤ 48 := by
  have w0 := w.1
  have q := w.2.2.2.2.2.2.2.2 k k0 k1
  unfold rn_try
  by_cases c : W 12 k < W 0 0 ∧ W 13 k < W 3 0
  · rw [if_pos c]
    have lr := @rn_lack_r W w (W 12 k) (W 13 k) 0 (X 0) hb q.2.1.1 (by omega) q.2.2.1 c.2
    have fin : -1 ≤ ol_rs (X 2) k (rn_lack W (W 12 k) (W 13 k) 0 (X 0)) j ∧ ol_rs (X 2) k (rn_lack W (W 12 k) (W 13 k) 0 (X 0)) j ≤ 48 := by
      by_cases e : j = k
      · rw [e, ol_rsA]; omega
      · rw [ol_rsN _ _ e]; exact h
    by_cases d : rn_res W (W 12 k) (W 13 k) (X 0) = 3
    · rw [if_pos d, ol_ms_ne _ _ _ (by decide), ol_ms_ne _ _ _ (by decide), ol_ms_row]
      exact fin
    · rw [if_neg d, ol_mp_ne _ _ (by decide), ol_mp_ne _ _ (by decide), ol_ms_ne _ _ _ (by decide), ol_ms_row]
      exact fin
  · rw [if_neg c]; exact h
theorem rn_ws_2 {W : ol_M} (w : wk W) {m j : Int} : ∀ (k : Nat) (X : ol_M), (k : Int) ≤ W 10 0 → xb 1000 (X 0) → (-1 ≤ X 2 j ∧ X 2 j ≤ 48) → -1 ≤ rn_ws W m k X 2 j ∧ rn_ws W m k X 2 j ≤ 48 := by
  intro k
  induction k with
  | zero => intro X _ _ h; exact h
  | succ k ih =>
    intro X hk hb h
    have i := ih X (by omega) hb h
    unfold rn_ws
    split
    · exact rn_try_2 w (by omega) (by omega) (rn_ws_b w _ _ (by omega) hb) i
    · exact i
theorem rn_mid_b {W : ol_M} (w : wk W) (m : Nat) : xb 1000 ((ol_mp (rn_lv W m) 0 (rn_ls W m (W 5 0).toNat (rn_hand W (rn_lv W m 0)))) 0) := by
  have w5 := w.2.2.2.2.2.1
  have b2 := rn_lv_b w m
  obtain ⟨b3, -⟩ := rn_hand_z w (b2.1.up (by decide)) b2.2
  rw [ol_mp_same]
  exact (rn_ls_b w _ _ (by omega) b3).up (by omega)
theorem rn_lv_2 {W : ol_M} (w : wk W) {j : Int} : ∀ m : Nat, -1 ≤ rn_lv W m 2 j ∧ rn_lv W m 2 j ≤ 48 := by
  have w10 := w.2.2.2.2.2.2.2.1
  intro m
  induction m with
  | zero => exact ⟨Int.le_refl _, by show (-1 : Int) ≤ 48; decide⟩
  | succ m ih =>
    unfold rn_lv rn_mo
    refine rn_ws_2 w _ _ (by omega) (rn_mid_b w m) ?_
    rw [ol_mp_ne _ _ (by decide)]
    exact ih
theorem rn_try_4 {W : ol_M} (w : wk W) {k l : Int} (k0 : 0 ≤ k) (k1 : k < W 10 0) (l0 : 0 ≤ l) (l1 : l < 8) {X : ol_M} : X 4 l ≤ rn_try W k X 4 l ∧ rn_try W k X 4 l ≤ X 4 l + 6 := by
  have q := w.2.2.2.2.2.2.2.2 k k0 k1
  unfold rn_try
  by_cases c : W 12 k < W 0 0 ∧ W 13 k < W 3 0
  · rw [if_pos c]
    by_cases d : rn_res W (W 12 k) (W 13 k) (X 0) = 3
    · rw [if_pos d, ol_ms_ne _ _ _ (by decide), ol_ms_ne _ _ _ (by decide), ol_ms_ne _ _ _ (by decide)]
      omega
    · rw [if_neg d, ol_mp_same]
      unfold rn_st
      rw [ol_rg_in l0 l1]
      have := @rn_tk_r W w (W 13 k) (rn_res W (W 12 k) (W 13 k) (X 0) - 1) l q.2.2.1 c.2 l0 l1
      omega
  · rw [if_neg c]; omega
theorem rn_ws_4 {W : ol_M} (w : wk W) {m l : Int} (l0 : 0 ≤ l) (l1 : l < 8) : ∀ (k : Nat) (X : ol_M), (k : Int) ≤ W 10 0 → X 4 l ≤ rn_ws W m k X 4 l ∧ rn_ws W m k X 4 l ≤ X 4 l + 6 * k := by
  intro k
  induction k with
  | zero => intro X _; exact ⟨Int.le_refl _, by show X 4 l ≤ X 4 l + 6 * 0; omega⟩
  | succ k ih =>
    intro X hk
    have i := ih X (by omega)
    unfold rn_ws
    split
    · have := @rn_try_4 W w k l (by omega) (by omega) l0 l1 (rn_ws W m k X)
      omega
    · omega
theorem rn_lv_4 {W : ol_M} (w : wk W) {l : Int} (l0 : 0 ≤ l) (l1 : l < 8) : ∀ m : Nat, 0 ≤ rn_lv W m 4 l ∧ rn_lv W m 4 l ≤ 144 * m := by
  have w10 := w.2.2.2.2.2.2.2.1
  intro m
  induction m with
  | zero => exact ⟨Int.le_refl 0, Int.le_refl 0⟩
  | succ m ih =>
    unfold rn_lv rn_mo
    have := @rn_ws_4 W w m l l0 l1 (W 10 0).toNat (ol_mp (rn_lv W m) 0 (rn_ls W m (W 5 0).toNat (rn_hand W (rn_lv W m 0)))) (by omega)
    rw [ol_mp_ne _ _ (show (4 : Int) ≠ 0 by decide)] at this
    omega
theorem br_h_r {f : Int → Int} {n : Int} : ∀ (u : Nat) (h : Int), 0 ≤ h → -1 ≤ br_h f n u h ∧ br_h f n u h < h + u + 1 := by
  intro u
  induction u with
  | zero => intro h h0; unfold br_h; omega
  | succ u ih =>
    intro h h0
    have := ih (h + 1) (by omega)
    unfold br_h
    split
    · omega
    · split <;> omega
theorem br_m_r {W : ol_M} {e : Int} : ∀ (u : Nat) (m : Int), 0 ≤ m → -1 ≤ br_m W e u m ∧ br_m W e u m < m + u + 10 := by
  intro u
  induction u with
  | zero => intro m m0; unfold br_m; omega
  | succ u ih =>
    intro m m0
    have := ih (m + 1) (by omega)
    have b := @br_h_r (rn_all (rn_lv W (m + 1).toNat 0)) (W 0 0) 8 0 (by decide)
    unfold br_m
    split
    · omega
    · split <;> omega
theorem ph_ft_r {f : Int → Int} {n : Int} (n0 : 0 ≤ n) : ∀ (u : Nat) (i : Int), 0 ≤ i → i ≤ n → -1 ≤ ph_ft f n u i ∧ ph_ft f n u i ≤ n := by
  intro u
  induction u with
  | zero => intro i i0 i1; unfold ph_ft; omega
  | succ u ih =>
    intro i i0 i1
    unfold ph_ft
    split
    · split <;> omega
    · split
      · omega
      · exact ih _ (by omega) (by omega)
theorem sp_hf_r {S : ol_M} (hs : sp_ok_t S) : -1 ≤ sp_hf S ∧ sp_hf S ≤ 23 := by
  have a := hs.1
  have := @ph_ft_r (S 1) (S 0 0) a.1 24 0 (by decide) a.1
  unfold sp_hf
  omega
theorem pt_r {g : Int → Int} {n : Int} (n0 : 0 ≤ n) : ∀ (u : Nat) (i t l e : Int) (P : ol_M), 0 ≤ i → i ≤ n → -1 ≤ (pt g n u i t l e P).1 ∧ (pt g n u i t l e P).1 ≤ n := by
  intro u
  induction u with
  | zero => intro i t l e P i0 i1; unfold pt; exact ⟨Int.le_refl _, by show (-1 : Int) ≤ n; omega⟩
  | succ u ih =>
    intro i t l e P i0 i1
    unfold pt
    split
    · split
      · exact ⟨by show -1 ≤ n; omega, Int.le_refl _⟩
      · exact ⟨Int.le_refl _, by show (-1 : Int) ≤ n; omega⟩
    · split
      · exact ih _ _ _ _ _ (by omega) (by omega)
      · split
        · exact ih _ _ _ _ _ (by omega) (by omega)
        · split
          · exact ih _ _ _ _ _ (by omega) (by omega)
          · exact ⟨by show -1 ≤ i; omega, by show i ≤ n; omega⟩
theorem sp_tf_r {S : ol_M} (hs : sp_ok_t S) : -1 ≤ sp_tf S ∧ sp_tf S ≤ 55 := by
  have a := hs.2.1
  have := @pt_r (S 2) (S 0 1) a.1 56 0 0 0 0 (fun _ _ => 0) (by decide) a.1
  unfold sp_tf sp_pt
  omega
theorem rn_fines_r {W : ol_M} (w : wk W) : 0 ≤ rn_fines W ∧ rn_fines W ≤ 2304 := by
  have w0 := w.1
  have := @sm_r (rn_lv W 12 3) 288 (by decide) (W 0 0).toNat (fun i _ _ => by have := @rn_lv_3 W w i 12; omega)
  unfold rn_fines
  omega
theorem sp_cnt_r {S : ol_M} (hs : sp_ok S) {k : Int} : ol_r (sp_cnt S k) := by
  have a := sp_nH_r hs.1
  have b := sp_nT_r S
  have c := rn_fines_r (sp_W_k hs)
  obtain ⟨s1, s2, s3, s4, s5, s6, s7⟩ := hs
  have d1 := s1.1
  have d2 := s1.2.1
  have d3 := s3.1
  have d4 := s4.1
  have d5 := s5.1
  have d6 : 0 ≤ S 0 5 ∧ S 0 5 ≤ 5 := s6
  unfold sp_cnt
  refine ⟨?_, ?_⟩
  · repeat' split
    all_goals omega
  · repeat' split
    all_goals omega
theorem rn_post_r {W : ol_M} (w : wk W) (h12 : W 10 0 ≤ 12) {s m h k : Int} (k0 : 0 ≤ k) (k1 : k ≤ 12) (hp : 0 < k → 0 < W 0 0 ∧ 0 < W 3 0) (hh : h = -1 ∨ (0 ≤ h ∧ h < 8)) : 0 ≤ rn_post W s m h k ∧ rn_post W s m h k ≤ 8000 := by
  have w' := sp_pw_k w h12 (s := s) k0 k1 hp
  unfold rn_post
  split
  · have := @sm_r (fun j => if 1 ≤ rn_lv (sp_pw W s k) (m + 1).toNat 1 (W 10 0 + j) ∧ rn_lv (sp_pw W s k) (m + 1).toNat 1 (W 10 0 + j) ≤ 2 then 1 else 0) 1 (by decide) k.toNat (fun i _ _ => by show 0 ≤ (if _ then (1 : Int) else 0) ∧ (if _ then (1 : Int) else 0) ≤ 1; split <;> omega)
    omega
  · rename_i c
    exact rn_all_r ((rn_lv_b w' (m + 1).toNat).1.up (by decide)) (by omega) (by omega)
