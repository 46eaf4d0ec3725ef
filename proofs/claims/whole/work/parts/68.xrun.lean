/-! THE CLASS'S MONTHS -/
def xz (R rat : Int) (W M : ol_M) : Prop := (∀ l, 0 ≤ l → l < 8 → M rat l = W 4 l) ∧ ol_r (M R 6) ∧ (∀ k, 0 ≤ k → k < W 10 0 → (k = M R 6 ↔ W 14 k = 1)) ∧ ((M R 7 = 1 ∧ xl W M) ∨ (M R 7 = 0 ∧ W 5 0 = 0))
def xq (stk out : Int) (W X M : ol_M) : Prop := xs stk (X 0) M ∧ ∀ k, 0 ≤ k → k < W 10 0 → M out k = X 1 k
/-- only a run's stock, its rows behind the months and what became of writings have changed -/
def fz (stk out : Int) (M M' : ol_M) : Prop := ∀ c, c ≠ stk → c ≠ out → ¬ (stk + 2 ≤ c ∧ c ≤ stk + 13) → M' c = M c
theorem fz.rf {s o : Int} {M : ol_M} : fz s o M M := fun _ _ _ _ => rfl
theorem fz.tr {s o : Int} {M M' M'' : ol_M} (h : fz s o M M') (h' : fz s o M' M'') : fz s o M M'' := fun c a b d => (h' c a b d).trans (h c a b d)
def fy (stk out : Int) (M M' : ol_M) : Prop := ∀ c, c ≠ stk → c ≠ out → M' c = M c
theorem fy.rf {s o : Int} {M : ol_M} : fy s o M M := fun _ _ _ => rfl
theorem fy.tr {s o : Int} {M M' M'' : ol_M} (h : fy s o M M') (h' : fy s o M' M'') : fy s o M M'' := fun c a b => (h' c a b).trans (h c a b)
theorem fy.z {s o : Int} {M M' : ol_M} (h : fy s o M M') : fz s o M M' := fun c a b _ => h c a b
theorem fk.y {s o : Int} {M M' : ol_M} (h : fk s M M') : fy s o M M' := fun c a _ => h c a
theorem xz.fr {R rat s o : Int} {W M M' : ol_M} (h : xz R rat W M) (f : fz s o M M') (hr : R ≠ s ∧ R ≠ o ∧ ¬ (s + 2 ≤ R ∧ R ≤ s + 13)) (hq : rat ≠ s ∧ rat ≠ o ∧ ¬ (s + 2 ≤ rat ∧ rat ≤ s + 13)) (hs : 50 < s) (ho : 50 < o) : xz R rat W M' := by
  unfold xz at *
  rw [f R hr.1 hr.2.1 hr.2.2, f rat hq.1 hq.2.1 hq.2.2]
  exact ⟨h.1, h.2.1, h.2.2.1, h.2.2.2.imp (fun z => ⟨z.1, z.2.lo (fun c _ q => f c (by omega) (by omega) (by omega))⟩) id⟩
theorem fz.lo {s o : Int} {M M' : ol_M} (h : fz s o M M') (hs : 50 < s) (ho : 50 < o) : ∀ c, 0 ≤ c → c ≤ 50 → M' c = M c := fun c _ q => h c (by omega) (by omega) (by omega)
/-- a month's beginning: rations, lendings -/
def mid (W : ol_M) (m : Int) (X : ol_M) : ol_M := ol_mp X 0 (rn_ls W m (W 5 0).toNat (rn_hand W (X 0)))
theorem mid_b {W : ol_M} (w : wk W) {m : Int} {X : ol_M} (h : xb 1000 (X 0)) (z : zp W (X 0)) : xb 1000 (mid W m X 0) := by
  have w5 := w.2.2.2.2.2.1
  obtain ⟨b3, -⟩ := rn_hand_z w h z
  unfold mid
  rw [ol_mp_same]
  exact (rn_ls_b w _ _ (by omega) b3).up (by omega)
theorem x_open_51 {n : Nat} {W X M : ol_M} {m : Int} (w : wk W) (v : xv W M) (z : xz 51 52 W M) (x : xq 53 67 W X M) (hb : xb 1000 (X 0)) (hz : zp W (X 0)) (m0 : 0 ≤ m) (m1 : m < 12) : ∃ M', ol_R (ol_lay n) 3 q_X3_open [.inr (.inr 51), .inl m] M none M' ∧ xq 53 67 W (mid W m X) M' ∧ fy 53 67 M M' := by
  have hk : ks 53 := by unfold ks; omega
  obtain ⟨M1, r1, x1, f1⟩ := @x_handOut n W M (X 0) 53 52 w v hk ly_52 (by decide) (by decide) z.1 x.1 hb
  have z1 := z.fr (s := 53) (o := 67) f1.y.z (by decide) (by decide) (by decide) (by decide)
  have fin : ∀ M', fk 53 M1 M' → xs 53 (rn_ls W m (W 5 0).toNat (rn_hand W (X 0))) M' → xq 53 67 W (mid W m X) M' ∧ fy 53 67 M M' := by
    intro M' f2 x2
    refine ⟨⟨?_, fun k k0 k1 => ?_⟩, (f1.tr f2).y⟩
    · unfold mid; rw [ol_mp_same]; exact x2
    · unfold mid
      rw [ol_mp_ne _ _ (by decide), f2 67 (by decide), f1 67 (by decide)]
      exact x.2 k k0 k1
  rcases z1.2.2.2 with q | q
  · obtain ⟨b3, -⟩ := rn_hand_z w hb hz
    obtain ⟨M2, r2, x2, f2⟩ := @x_moveLent n W M1 (rn_hand W (X 0)) 53 m w (v.lo w (f1.lo hk)) q.2 hk m0 m1 x1 (b3.up (by decide))
    exact ⟨M2, ol_Ri (q := q_X3_open) (by decide +kernel) (Nat.le_of_ble_eq_true rfl) rfl (fun Rt Aq hA hr => b_X3_open_51_0 hA m M ⟨M1, r1, ol_if.neg (by rw [q.1]; decide) ⟨by rw [q.1]; exact ⟨by decide, by decide⟩, M2, r2, hr⟩⟩), fin M2 f2 x2⟩
  · refine ⟨M1, ol_Ri (q := q_X3_open) (by decide +kernel) (Nat.le_of_ble_eq_true rfl) rfl (fun Rt Aq hA hr => b_X3_open_51_0 hA m M ⟨M1, r1, ol_if.pos q.1 hr⟩), fin M1 fk.rf ?_⟩
    rw [q.2]
    exact x1
theorem x_writeBefore_51 {n : Nat} {W X M : ol_M} {m e : Int} (w : wk W) (v : xv W M) (z : xz 51 52 W M) (x : xq 53 67 W X M) (hb : xb 1000 (X 0)) (hg : ∀ k, 0 ≤ k → k < W 10 0 → ¬ (W 12 k < W 0 0 ∧ W 13 k < W 3 0) → X 1 k = 0) (m0 : 0 ≤ m) (m1 : m < 12) (e0 : 0 ≤ e) (e1 : e ≤ W 10 0) (n12 : W 10 0 ≤ 12) : ∃ M', ol_R (ol_lay n) 3 q_X3_writeBefore [.inr (.inr 51), .inl m, .inl e] M none M' ∧ xq 53 67 W (rn_ws W m e.toNat X) M' ∧ fy 53 67 M M' := by
  have hk : ks 53 := by unfold ks; omega
  have key : ∀ Mi, fy 53 67 M Mi → xq 53 67 W (rn_ws W m (Int.toNat 0) X) Mi → (∀ k, 0 ≤ k → k < W 10 0 → ¬ (W 12 k < W 0 0 ∧ W 13 k < W 3 0) → rn_ws W m (Int.toNat 0) X 1 k = 0) → ∃ M', ol_T n q_X3_writeBefore 2 2 [some (.inr (.inr 51)), some (.inl m), some (.inl e), some (.inl 0)] [] Mi none M' ∧ xq 53 67 W (rn_ws W m e.toNat X) M' ∧ fy 53 67 M M' := by
    refine ol_loop (P := fun j => ∀ Mi, fy 53 67 M Mi → xq 53 67 W (rn_ws W m j.toNat X) Mi → (∀ k, 0 ≤ k → k < W 10 0 → ¬ (W 12 k < W 0 0 ∧ W 13 k < W 3 0) → rn_ws W m j.toNat X 1 k = 0) → ∃ M', ol_T n q_X3_writeBefore 2 2 [some (.inr (.inr 51)), some (.inl m), some (.inl e), some (.inl j)] [] Mi none M' ∧ xq 53 67 W (rn_ws W m e.toNat X) M' ∧ fy 53 67 M M') (a := 0) (b := e) e0 (fun j j0 j1 hj Mi f xi gi => ?_) (fun Mi f xi gi => ?_)
    · have vi := v.lo w (f.z.lo (by decide) (by decide))
      have zi := z.fr f.z (by decide) (by decide) (by decide) (by decide)
      obtain ⟨q1, q2, q3⟩ := w.2.2.2.2.2.2.2.2 j j0 (by omega)
      obtain ⟨a1, a2, a3⟩ := vi.2.2.2.2.2 j j0 (by omega)
      have z6 := zi.2.2.1 j j0 (by omega)
      rw [show (j + 1).toNat = j.toNat + 1 by omega] at hj
      simp only [rn_ws] at hj
      rw [Int.toNat_of_nonneg j0] at hj
      by_cases c : W 11 j = m
      · by_cases d : W 14 j = 1
        · rw [if_neg (fun q => q.1 d)] at hj
          obtain ⟨M', t, ee⟩ := hj Mi f xi gi
          refine ⟨M', fun Rt Aq hA hr => b_X3_writeBefore_51_2 hA m e j Mi ?_, ee⟩
          rw [a1]
          exact ⟨⟨by omega, by omega⟩, ⟨by omega, by omega⟩, ol_if.neg (by omega) ⟨j0, by omega, ol_if.pos c (ol_if.pos (z6.mpr d) (t Rt Aq hA hr))⟩⟩
        · rw [if_pos ⟨d, c⟩] at hj
          have bi := rn_ws_b w (m := m) j.toNat X (by omega) hb
          obtain ⟨M1, r1, x1, f1⟩ := @x_settle n W Mi (rn_ws W m j.toNat X 0) 53 (W 12 j) (W 13 j) w vi hk q2.1 (by omega) q3.1 (by omega) xi.1 bi
          have f2 : fy 53 67 M (ol_ms M1 67 j (rn_out W (W 12 j) (W 13 j) (rn_ws W m j.toNat X 0))) := fun c a b => by rw [ol_ms_ne _ _ _ b, f1 c a]; exact f c a b
          obtain ⟨M', t, ee⟩ := hj _ f2 ⟨fun i i0 i1 => by rw [ol_ms_ne _ _ _ (by decide), rn_try_r0]; exact x1 i i0 i1, fun k k0 k1 => by
            rw [ol_ms_row, f1 67 (by decide), rn_try_r1]
            unfold rn_out
            by_cases g : W 12 j < W 0 0 ∧ W 13 j < W 3 0
            · rw [if_pos g, if_pos g]
              by_cases i : k = j
              · rw [i, ol_rsA, ol_rsA]
              · rw [ol_rsN _ _ i, ol_rsN _ _ i]; exact xi.2 k k0 k1
            · rw [if_neg g, if_neg g]
              by_cases i : k = j
              · rw [i, ol_rsA]; exact (gi j j0 (by omega) g).symm
              · rw [ol_rsN _ _ i]; exact xi.2 k k0 k1⟩ (fun k k0 k1 hk' => by
            rw [rn_try_r1]
            split
            · rename_i g
              rw [ol_rsN _ _ (fun i => by rw [i] at hk'; exact hk' g)]; exact gi k k0 k1 hk'
            · exact gi k k0 k1 hk')
          refine ⟨M', fun Rt Aq hA hr => b_X3_writeBefore_51_2 hA m e j Mi ?_, ee⟩
          rw [a1, a2, a3]
          exact ⟨⟨by omega, by omega⟩, ⟨by omega, by omega⟩, ol_if.neg (by omega) ⟨j0, by omega, ol_if.pos c (ol_if.neg (fun q => d (z6.mp q)) ⟨⟨by omega, by omega⟩, zi.2.1, j0, by omega, j0, by omega, _, M1, r1, j0, by omega, t Rt Aq hA hr⟩)⟩⟩
      · rw [if_neg (fun q => c q.2)] at hj
        obtain ⟨M', t, ee⟩ := hj Mi f xi gi
        refine ⟨M', fun Rt Aq hA hr => b_X3_writeBefore_51_2 hA m e j Mi ?_, ee⟩
        rw [a1]
        exact ⟨⟨by omega, by omega⟩, ⟨by omega, by omega⟩, ol_if.neg (by omega) ⟨j0, by omega, ol_if.neg c ⟨⟨by omega, by omega⟩, ⟨by omega, by omega⟩, t Rt Aq hA hr⟩⟩⟩
    · exact ⟨Mi, fun Rt Aq hA hr => b_X3_writeBefore_51_2 hA m e e Mi ⟨⟨by omega, by omega⟩, ⟨by omega, by omega⟩, ol_if.pos (by omega) hr⟩, xi, f⟩
  obtain ⟨M', t, ee⟩ := key M fy.rf x hg
  exact ⟨M', ol_Ri (q := q_X3_writeBefore) (by decide +kernel) (Nat.le_of_ble_eq_true rfl) rfl (fun Rt Aq hA hr => b_X3_writeBefore_51_0 hA m e M (t Rt Aq hA hr)), ee⟩
theorem x_goMonths_51 {n : Nat} {W M : ol_M} {Xs : Nat → ol_M} {a b : Int} (w : wk W) (n12 : W 10 0 ≤ 12) (v : xv W M) (z : xz 51 52 W M) (x : xq 53 67 W (Xs a.toNat) M) (a0 : 0 ≤ a) (ab : a ≤ b + 1) (b1 : b < 12) (hX : ∀ m : Nat, a ≤ m → (m : Int) ≤ b → Xs (m + 1) = rn_mo W m (Xs m)) (hB : ∀ m : Nat, a ≤ m → (m : Int) ≤ b → xb 1000 (Xs m 0) ∧ zp W (Xs m 0)) (hG : ∀ m : Nat, a ≤ m → (m : Int) ≤ b → ∀ k, 0 ≤ k → k < W 10 0 → ¬ (W 12 k < W 0 0 ∧ W 13 k < W 3 0) → Xs m 1 k = 0) : ∃ M', ol_R (ol_lay n) 4 q_X3_goMonths [.inr (.inr 51), .inl a, .inl b] M none M' ∧ xq 53 67 W (Xs (b + 1).toNat) M' ∧ (∀ m : Nat, a ≤ m → (m : Int) ≤ b → xs (55 + m) (Xs (m + 1) 0) M') ∧ fz 53 67 M M' := by
  have w10 := w.2.2.2.2.2.2.2.1
  have key : ∀ Mi, fz 53 67 M Mi → xq 53 67 W (Xs a.toNat) Mi → (∀ m : Nat, a ≤ m → (m : Int) < a → xs (55 + m) (Xs (m + 1) 0) Mi) → ∃ M', ol_T n q_X3_goMonths 3 2 [some (.inr (.inr 51)), none, some (.inl b), some (.inl a)] [] Mi none M' ∧ xq 53 67 W (Xs (b + 1).toNat) M' ∧ (∀ m : Nat, a ≤ m → (m : Int) ≤ b → xs (55 + m) (Xs (m + 1) 0) M') ∧ fz 53 67 M M' := by
    refine ol_loop (P := fun j => ∀ Mi, fz 53 67 M Mi → xq 53 67 W (Xs j.toNat) Mi → (∀ m : Nat, a ≤ m → (m : Int) < j → xs (55 + m) (Xs (m + 1) 0) Mi) → ∃ M', ol_T n q_X3_goMonths 3 2 [some (.inr (.inr 51)), none, some (.inl b), some (.inl j)] [] Mi none M' ∧ xq 53 67 W (Xs (b + 1).toNat) M' ∧ (∀ m : Nat, a ≤ m → (m : Int) ≤ b → xs (55 + m) (Xs (m + 1) 0) M') ∧ fz 53 67 M M') (a := a) (b := b + 1) ab (fun j j0 j1 hj Mi f xi hi => ?_) (fun Mi f xi hi => ?_)
    · have vi := v.lo w (f.lo (by decide) (by decide))
      have zi := z.fr f (by decide) (by decide) (by decide) (by decide)
      have ej : ((j.toNat : Nat) : Int) = j := Int.toNat_of_nonneg (by omega)
      have sX := hX j.toNat (by omega) (by omega)
      have sB := hB j.toNat (by omega) (by omega)
      have sG := hG j.toNat (by omega) (by omega)
      rw [ej] at sX
      obtain ⟨M1, r1, x1, f1⟩ := @x_open_51 n W _ Mi j w vi zi xi sB.1 sB.2 (by omega) (by omega)
      have v1 := vi.lo w (f1.z.lo (by decide) (by decide))
      have z1 := zi.fr f1.z (by decide) (by decide) (by decide) (by decide)
      obtain ⟨M2, r2, x2, f2⟩ := @x_writeBefore_51 n W _ M1 j (W 10 0) w v1 z1 x1 (mid_b w sB.1 sB.2) (fun k k0 k1 q => by unfold mid; rw [ol_mp_ne _ _ (by decide)]; exact sG k k0 k1 q) (by omega) (by omega) w10.1 (Int.le_refl _) n12
      have eX : rn_ws W j (W 10 0).toNat (mid W j (Xs j.toNat)) = Xs (j.toNat + 1) := sX.symm
      rw [eX] at x2
      have e1 : M1 37 4 = W 10 0 := v1.2.2.2.2.1
      obtain ⟨M', t, ee⟩ := hj (ol_mp M2 (55 + j) (ol_cp (M2 53) (M2 (55 + j)) 0 0 64)) (fun c p q s => by rw [ol_mp_ne _ _ (by omega), f2 c p q, f1 c p q]; exact f c p q s) (by
        rw [show (j + 1).toNat = j.toNat + 1 by omega]
        exact ⟨fun i i0 i1 => by rw [ol_mp_ne _ _ (by omega)]; exact x2.1 i i0 i1, fun k k0 k1 => by rw [ol_mp_ne _ _ (by omega)]; exact x2.2 k k0 k1⟩) (fun m p q i i0 i1 => by
        by_cases g : (m : Int) = j
        · rw [g, ol_mp_same, show m = j.toNat by omega]
          unfold ol_cp
          rw [if_pos ⟨by omega, by omega⟩, show 0 + (i - 0) = i by omega]
          exact x2.1 i i0 i1
        · rw [ol_mp_ne _ _ (by omega), f2 _ (by omega) (by omega), f1 _ (by omega) (by omega)]
          exact hi m p (by omega) i i0 i1)
      refine ⟨M', fun Rt Aq hA hr => b_X3_goMonths_51_2 hA b j Mi ?_, ee⟩
      refine ⟨⟨by omega, by omega⟩, ⟨by omega, by omega⟩, ol_if.neg (by omega) ⟨⟨by omega, by omega⟩, ol_if.neg (by omega) ⟨M1, r1, M2, by rw [e1]; exact r2, by omega, by omega, t Rt Aq hA hr⟩⟩⟩
    · exact ⟨Mi, fun Rt Aq hA hr => b_X3_goMonths_51_2 hA b (b + 1) Mi ⟨⟨by omega, by omega⟩, ⟨by omega, by omega⟩, ol_if.pos (by omega) hr⟩, xi, fun m p q => hi m p (by omega), f⟩
  obtain ⟨M', t, ee⟩ := key M fz.rf x (fun m p q => by omega)
  exact ⟨M', ol_Ri (q := q_X3_goMonths) (by decide +kernel) (Nat.le_of_ble_eq_true rfl) rfl (fun Rt Aq hA hr => b_X3_goMonths_51_0 hA a b M (t Rt Aq hA hr)), ee⟩
def xclr_51 (M : ol_M) : ol_M := ol_ms (ol_ms (ol_mp (ol_mp (ol_mp M 53 (ol_fl (M 53) 0 64)) 67 (ol_fl (M 67) 0 12)) 52 (ol_cp (M 38) (M 52) 0 0 8)) 51 6 (-1)) 51 7 1
theorem x_clear_51 {n : Nat} {M : ol_M} : ol_R (ol_lay n) 2 q_X3_clear [.inr (.inr 51)] M none (xclr_51 M) :=
  ol_Ri (q := q_X3_clear) (by decide +kernel) (Nat.le_of_ble_eq_true rfl) rfl (fun Rt Aq hA hr => b_X3_clear_51_0 hA M hr)
theorem xclr_ne_51 {M : ol_M} {c : Int} (a : c ≠ 51) (b : c ≠ 52) (d : c ≠ 53) (e : c ≠ 67) : xclr_51 M c = M c := by
  unfold xclr_51
  rw [ol_ms_ne _ _ _ a, ol_ms_ne _ _ _ a, ol_mp_ne _ _ b, ol_mp_ne _ _ e, ol_mp_ne _ _ d]
theorem xclr_6_51 {M : ol_M} : xclr_51 M 51 6 = -1 := by
  unfold xclr_51
  rw [ol_ms_i _ _ _ (by decide), ol_msA]
theorem xclr_7_51 {M : ol_M} : xclr_51 M 51 7 = 1 := by
  unfold xclr_51
  rw [ol_msA]
theorem xclr_r_51 {M : ol_M} {l : Int} (l0 : 0 ≤ l) (l1 : l < 8) : xclr_51 M 52 l = M 38 l := by
  unfold xclr_51
  rw [ol_ms_ne _ _ _ (by decide), ol_ms_ne _ _ _ (by decide), ol_mp_same]
  unfold ol_cp
  rw [if_pos ⟨by omega, by omega⟩, show 0 + (l - 0) = l by omega]
theorem xclr_q_51 {W M : ol_M} (n12 : W 10 0 ≤ 12) : xq 53 67 W rn_x0 (xclr_51 M) := by
  unfold xclr_51
  refine ⟨fun j j0 j1 => ?_, fun k k0 k1 => ?_⟩
  · rw [ol_ms_ne _ _ _ (by decide), ol_ms_ne _ _ _ (by decide), ol_mp_ne _ _ (by decide), ol_mp_ne _ _ (by decide), ol_mp_same]
    unfold ol_fl
    rw [if_pos ⟨j0, by omega⟩]; rfl
  · rw [ol_ms_ne _ _ _ (by decide), ol_ms_ne _ _ _ (by decide), ol_mp_ne _ _ (by decide), ol_mp_same]
    unfold ol_fl
    rw [if_pos ⟨k0, by omega⟩]; rfl
theorem x_open_68 {n : Nat} {W X M : ol_M} {m : Int} (w : wk W) (v : xv W M) (z : xz 68 69 W M) (x : xq 70 84 W X M) (hb : xb 1000 (X 0)) (hz : zp W (X 0)) (m0 : 0 ≤ m) (m1 : m < 12) : ∃ M', ol_R (ol_lay n) 3 q_X3_open [.inr (.inr 68), .inl m] M none M' ∧ xq 70 84 W (mid W m X) M' ∧ fy 70 84 M M' := by
  have hk : ks 70 := by unfold ks; omega
  obtain ⟨M1, r1, x1, f1⟩ := @x_handOut n W M (X 0) 70 69 w v hk ly_69 (by decide) (by decide) z.1 x.1 hb
  have z1 := z.fr (s := 70) (o := 84) f1.y.z (by decide) (by decide) (by decide) (by decide)
  have fin : ∀ M', fk 70 M1 M' → xs 70 (rn_ls W m (W 5 0).toNat (rn_hand W (X 0))) M' → xq 70 84 W (mid W m X) M' ∧ fy 70 84 M M' := by
    intro M' f2 x2
    refine ⟨⟨?_, fun k k0 k1 => ?_⟩, (f1.tr f2).y⟩
    · unfold mid; rw [ol_mp_same]; exact x2
    · unfold mid
      rw [ol_mp_ne _ _ (by decide), f2 84 (by decide), f1 84 (by decide)]
      exact x.2 k k0 k1
  rcases z1.2.2.2 with q | q
  · obtain ⟨b3, -⟩ := rn_hand_z w hb hz
    obtain ⟨M2, r2, x2, f2⟩ := @x_moveLent n W M1 (rn_hand W (X 0)) 70 m w (v.lo w (f1.lo hk)) q.2 hk m0 m1 x1 (b3.up (by decide))
    exact ⟨M2, ol_Ri (q := q_X3_open) (by decide +kernel) (Nat.le_of_ble_eq_true rfl) rfl (fun Rt Aq hA hr => b_X3_open_68_0 hA m M ⟨M1, r1, ol_if.neg (by rw [q.1]; decide) ⟨by rw [q.1]; exact ⟨by decide, by decide⟩, M2, r2, hr⟩⟩), fin M2 f2 x2⟩
  · refine ⟨M1, ol_Ri (q := q_X3_open) (by decide +kernel) (Nat.le_of_ble_eq_true rfl) rfl (fun Rt Aq hA hr => b_X3_open_68_0 hA m M ⟨M1, r1, ol_if.pos q.1 hr⟩), fin M1 fk.rf ?_⟩
    rw [q.2]
    exact x1
theorem x_writeBefore_68 {n : Nat} {W X M : ol_M} {m e : Int} (w : wk W) (v : xv W M) (z : xz 68 69 W M) (x : xq 70 84 W X M) (hb : xb 1000 (X 0)) (hg : ∀ k, 0 ≤ k → k < W 10 0 → ¬ (W 12 k < W 0 0 ∧ W 13 k < W 3 0) → X 1 k = 0) (m0 : 0 ≤ m) (m1 : m < 12) (e0 : 0 ≤ e) (e1 : e ≤ W 10 0) (n12 : W 10 0 ≤ 12) : ∃ M', ol_R (ol_lay n) 3 q_X3_writeBefore [.inr (.inr 68), .inl m, .inl e] M none M' ∧ xq 70 84 W (rn_ws W m e.toNat X) M' ∧ fy 70 84 M M' := by
  have hk : ks 70 := by unfold ks; omega
  have key : ∀ Mi, fy 70 84 M Mi → xq 70 84 W (rn_ws W m (Int.toNat 0) X) Mi → (∀ k, 0 ≤ k → k < W 10 0 → ¬ (W 12 k < W 0 0 ∧ W 13 k < W 3 0) → rn_ws W m (Int.toNat 0) X 1 k = 0) → ∃ M', ol_T n q_X3_writeBefore 2 2 [some (.inr (.inr 68)), some (.inl m), some (.inl e), some (.inl 0)] [] Mi none M' ∧ xq 70 84 W (rn_ws W m e.toNat X) M' ∧ fy 70 84 M M' := by
    refine ol_loop (P := fun j => ∀ Mi, fy 70 84 M Mi → xq 70 84 W (rn_ws W m j.toNat X) Mi → (∀ k, 0 ≤ k → k < W 10 0 → ¬ (W 12 k < W 0 0 ∧ W 13 k < W 3 0) → rn_ws W m j.toNat X 1 k = 0) → ∃ M', ol_T n q_X3_writeBefore 2 2 [some (.inr (.inr 68)), some (.inl m), some (.inl e), some (.inl j)] [] Mi none M' ∧ xq 70 84 W (rn_ws W m e.toNat X) M' ∧ fy 70 84 M M') (a := 0) (b := e) e0 (fun j j0 j1 hj Mi f xi gi => ?_) (fun Mi f xi gi => ?_)
    · have vi := v.lo w (f.z.lo (by decide) (by decide))
      have zi := z.fr f.z (by decide) (by decide) (by decide) (by decide)
      obtain ⟨q1, q2, q3⟩ := w.2.2.2.2.2.2.2.2 j j0 (by omega)
      obtain ⟨a1, a2, a3⟩ := vi.2.2.2.2.2 j j0 (by omega)
      have z6 := zi.2.2.1 j j0 (by omega)
      rw [show (j + 1).toNat = j.toNat + 1 by omega] at hj
      simp only [rn_ws] at hj
      rw [Int.toNat_of_nonneg j0] at hj
      by_cases c : W 11 j = m
      · by_cases d : W 14 j = 1
        · rw [if_neg (fun q => q.1 d)] at hj
          obtain ⟨M', t, ee⟩ := hj Mi f xi gi
          refine ⟨M', fun Rt Aq hA hr => b_X3_writeBefore_68_2 hA m e j Mi ?_, ee⟩
          rw [a1]
          exact ⟨⟨by omega, by omega⟩, ⟨by omega, by omega⟩, ol_if.neg (by omega) ⟨j0, by omega, ol_if.pos c (ol_if.pos (z6.mpr d) (t Rt Aq hA hr))⟩⟩
        · rw [if_pos ⟨d, c⟩] at hj
          have bi := rn_ws_b w (m := m) j.toNat X (by omega) hb
          obtain ⟨M1, r1, x1, f1⟩ := @x_settle n W Mi (rn_ws W m j.toNat X 0) 70 (W 12 j) (W 13 j) w vi hk q2.1 (by omega) q3.1 (by omega) xi.1 bi
          have f2 : fy 70 84 M (ol_ms M1 84 j (rn_out W (W 12 j) (W 13 j) (rn_ws W m j.toNat X 0))) := fun c a b => by rw [ol_ms_ne _ _ _ b, f1 c a]; exact f c a b
          obtain ⟨M', t, ee⟩ := hj _ f2 ⟨fun i i0 i1 => by rw [ol_ms_ne _ _ _ (by decide), rn_try_r0]; exact x1 i i0 i1, fun k k0 k1 => by
            rw [ol_ms_row, f1 84 (by decide), rn_try_r1]
            unfold rn_out
            by_cases g : W 12 j < W 0 0 ∧ W 13 j < W 3 0
            · rw [if_pos g, if_pos g]
              by_cases i : k = j
              · rw [i, ol_rsA, ol_rsA]
              · rw [ol_rsN _ _ i, ol_rsN _ _ i]; exact xi.2 k k0 k1
            · rw [if_neg g, if_neg g]
              by_cases i : k = j
              · rw [i, ol_rsA]; exact (gi j j0 (by omega) g).symm
              · rw [ol_rsN _ _ i]; exact xi.2 k k0 k1⟩ (fun k k0 k1 hk' => by
            rw [rn_try_r1]
            split
            · rename_i g
              rw [ol_rsN _ _ (fun i => by rw [i] at hk'; exact hk' g)]; exact gi k k0 k1 hk'
            · exact gi k k0 k1 hk')
          refine ⟨M', fun Rt Aq hA hr => b_X3_writeBefore_68_2 hA m e j Mi ?_, ee⟩
          rw [a1, a2, a3]
          exact ⟨⟨by omega, by omega⟩, ⟨by omega, by omega⟩, ol_if.neg (by omega) ⟨j0, by omega, ol_if.pos c (ol_if.neg (fun q => d (z6.mp q)) ⟨⟨by omega, by omega⟩, zi.2.1, j0, by omega, j0, by omega, _, M1, r1, j0, by omega, t Rt Aq hA hr⟩)⟩⟩
      · rw [if_neg (fun q => c q.2)] at hj
        obtain ⟨M', t, ee⟩ := hj Mi f xi gi
        refine ⟨M', fun Rt Aq hA hr => b_X3_writeBefore_68_2 hA m e j Mi ?_, ee⟩
        rw [a1]
        exact ⟨⟨by omega, by omega⟩, ⟨by omega, by omega⟩, ol_if.neg (by omega) ⟨j0, by omega, ol_if.neg c ⟨⟨by omega, by omega⟩, ⟨by omega, by omega⟩, t Rt Aq hA hr⟩⟩⟩
    · exact ⟨Mi, fun Rt Aq hA hr => b_X3_writeBefore_68_2 hA m e e Mi ⟨⟨by omega, by omega⟩, ⟨by omega, by omega⟩, ol_if.pos (by omega) hr⟩, xi, f⟩
  obtain ⟨M', t, ee⟩ := key M fy.rf x hg
  exact ⟨M', ol_Ri (q := q_X3_writeBefore) (by decide +kernel) (Nat.le_of_ble_eq_true rfl) rfl (fun Rt Aq hA hr => b_X3_writeBefore_68_0 hA m e M (t Rt Aq hA hr)), ee⟩
theorem x_goMonths_68 {n : Nat} {W M : ol_M} {Xs : Nat → ol_M} {a b : Int} (w : wk W) (n12 : W 10 0 ≤ 12) (v : xv W M) (z : xz 68 69 W M) (x : xq 70 84 W (Xs a.toNat) M) (a0 : 0 ≤ a) (ab : a ≤ b + 1) (b1 : b < 12) (hX : ∀ m : Nat, a ≤ m → (m : Int) ≤ b → Xs (m + 1) = rn_mo W m (Xs m)) (hB : ∀ m : Nat, a ≤ m → (m : Int) ≤ b → xb 1000 (Xs m 0) ∧ zp W (Xs m 0)) (hG : ∀ m : Nat, a ≤ m → (m : Int) ≤ b → ∀ k, 0 ≤ k → k < W 10 0 → ¬ (W 12 k < W 0 0 ∧ W 13 k < W 3 0) → Xs m 1 k = 0) : ∃ M', ol_R (ol_lay n) 4 q_X3_goMonths [.inr (.inr 68), .inl a, .inl b] M none M' ∧ xq 70 84 W (Xs (b + 1).toNat) M' ∧ (∀ m : Nat, a ≤ m → (m : Int) ≤ b → xs (72 + m) (Xs (m + 1) 0) M') ∧ fz 70 84 M M' := by
  have w10 := w.2.2.2.2.2.2.2.1
  have key : ∀ Mi, fz 70 84 M Mi → xq 70 84 W (Xs a.toNat) Mi → (∀ m : Nat, a ≤ m → (m : Int) < a → xs (72 + m) (Xs (m + 1) 0) Mi) → ∃ M', ol_T n q_X3_goMonths 3 2 [some (.inr (.inr 68)), none, some (.inl b), some (.inl a)] [] Mi none M' ∧ xq 70 84 W (Xs (b + 1).toNat) M' ∧ (∀ m : Nat, a ≤ m → (m : Int) ≤ b → xs (72 + m) (Xs (m + 1) 0) M') ∧ fz 70 84 M M' := by
    refine ol_loop (P := fun j => ∀ Mi, fz 70 84 M Mi → xq 70 84 W (Xs j.toNat) Mi → (∀ m : Nat, a ≤ m → (m : Int) < j → xs (72 + m) (Xs (m + 1) 0) Mi) → ∃ M', ol_T n q_X3_goMonths 3 2 [some (.inr (.inr 68)), none, some (.inl b), some (.inl j)] [] Mi none M' ∧ xq 70 84 W (Xs (b + 1).toNat) M' ∧ (∀ m : Nat, a ≤ m → (m : Int) ≤ b → xs (72 + m) (Xs (m + 1) 0) M') ∧ fz 70 84 M M') (a := a) (b := b + 1) ab (fun j j0 j1 hj Mi f xi hi => ?_) (fun Mi f xi hi => ?_)
    · have vi := v.lo w (f.lo (by decide) (by decide))
      have zi := z.fr f (by decide) (by decide) (by decide) (by decide)
      have ej : ((j.toNat : Nat) : Int) = j := Int.toNat_of_nonneg (by omega)
      have sX := hX j.toNat (by omega) (by omega)
      have sB := hB j.toNat (by omega) (by omega)
      have sG := hG j.toNat (by omega) (by omega)
      rw [ej] at sX
      obtain ⟨M1, r1, x1, f1⟩ := @x_open_68 n W _ Mi j w vi zi xi sB.1 sB.2 (by omega) (by omega)
      have v1 := vi.lo w (f1.z.lo (by decide) (by decide))
      have z1 := zi.fr f1.z (by decide) (by decide) (by decide) (by decide)
      obtain ⟨M2, r2, x2, f2⟩ := @x_writeBefore_68 n W _ M1 j (W 10 0) w v1 z1 x1 (mid_b w sB.1 sB.2) (fun k k0 k1 q => by unfold mid; rw [ol_mp_ne _ _ (by decide)]; exact sG k k0 k1 q) (by omega) (by omega) w10.1 (Int.le_refl _) n12
      have eX : rn_ws W j (W 10 0).toNat (mid W j (Xs j.toNat)) = Xs (j.toNat + 1) := sX.symm
      rw [eX] at x2
      have e1 : M1 37 4 = W 10 0 := v1.2.2.2.2.1
      obtain ⟨M', t, ee⟩ := hj (ol_mp M2 (72 + j) (ol_cp (M2 70) (M2 (72 + j)) 0 0 64)) (fun c p q s => by rw [ol_mp_ne _ _ (by omega), f2 c p q, f1 c p q]; exact f c p q s) (by
        rw [show (j + 1).toNat = j.toNat + 1 by omega]
        exact ⟨fun i i0 i1 => by rw [ol_mp_ne _ _ (by omega)]; exact x2.1 i i0 i1, fun k k0 k1 => by rw [ol_mp_ne _ _ (by omega)]; exact x2.2 k k0 k1⟩) (fun m p q i i0 i1 => by
        by_cases g : (m : Int) = j
        · rw [g, ol_mp_same, show m = j.toNat by omega]
          unfold ol_cp
          rw [if_pos ⟨by omega, by omega⟩, show 0 + (i - 0) = i by omega]
          exact x2.1 i i0 i1
        · rw [ol_mp_ne _ _ (by omega), f2 _ (by omega) (by omega), f1 _ (by omega) (by omega)]
          exact hi m p (by omega) i i0 i1)
      refine ⟨M', fun Rt Aq hA hr => b_X3_goMonths_68_2 hA b j Mi ?_, ee⟩
      refine ⟨⟨by omega, by omega⟩, ⟨by omega, by omega⟩, ol_if.neg (by omega) ⟨⟨by omega, by omega⟩, ol_if.neg (by omega) ⟨M1, r1, M2, by rw [e1]; exact r2, by omega, by omega, t Rt Aq hA hr⟩⟩⟩
    · exact ⟨Mi, fun Rt Aq hA hr => b_X3_goMonths_68_2 hA b (b + 1) Mi ⟨⟨by omega, by omega⟩, ⟨by omega, by omega⟩, ol_if.pos (by omega) hr⟩, xi, fun m p q => hi m p (by omega), f⟩
  obtain ⟨M', t, ee⟩ := key M fz.rf x (fun m p q => by omega)
  exact ⟨M', ol_Ri (q := q_X3_goMonths) (by decide +kernel) (Nat.le_of_ble_eq_true rfl) rfl (fun Rt Aq hA hr => b_X3_goMonths_68_0 hA a b M (t Rt Aq hA hr)), ee⟩
def xclr_68 (M : ol_M) : ol_M := ol_ms (ol_ms (ol_mp (ol_mp (ol_mp M 70 (ol_fl (M 70) 0 64)) 84 (ol_fl (M 84) 0 12)) 69 (ol_cp (M 38) (M 69) 0 0 8)) 68 6 (-1)) 68 7 1
theorem x_clear_68 {n : Nat} {M : ol_M} : ol_R (ol_lay n) 2 q_X3_clear [.inr (.inr 68)] M none (xclr_68 M) :=
  ol_Ri (q := q_X3_clear) (by decide +kernel) (Nat.le_of_ble_eq_true rfl) rfl (fun Rt Aq hA hr => b_X3_clear_68_0 hA M hr)
theorem xclr_ne_68 {M : ol_M} {c : Int} (a : c ≠ 68) (b : c ≠ 69) (d : c ≠ 70) (e : c ≠ 84) : xclr_68 M c = M c := by
  unfold xclr_68
  rw [ol_ms_ne _ _ _ a, ol_ms_ne _ _ _ a, ol_mp_ne _ _ b, ol_mp_ne _ _ e, ol_mp_ne _ _ d]
theorem xclr_6_68 {M : ol_M} : xclr_68 M 68 6 = -1 := by
  unfold xclr_68
  rw [ol_ms_i _ _ _ (by decide), ol_msA]
theorem xclr_7_68 {M : ol_M} : xclr_68 M 68 7 = 1 := by
  unfold xclr_68
  rw [ol_msA]
theorem xclr_r_68 {M : ol_M} {l : Int} (l0 : 0 ≤ l) (l1 : l < 8) : xclr_68 M 69 l = M 38 l := by
  unfold xclr_68
  rw [ol_ms_ne _ _ _ (by decide), ol_ms_ne _ _ _ (by decide), ol_mp_same]
  unfold ol_cp
  rw [if_pos ⟨by omega, by omega⟩, show 0 + (l - 0) = l by omega]
theorem xclr_q_68 {W M : ol_M} (n12 : W 10 0 ≤ 12) : xq 70 84 W rn_x0 (xclr_68 M) := by
  unfold xclr_68
  refine ⟨fun j j0 j1 => ?_, fun k k0 k1 => ?_⟩
  · rw [ol_ms_ne _ _ _ (by decide), ol_ms_ne _ _ _ (by decide), ol_mp_ne _ _ (by decide), ol_mp_ne _ _ (by decide), ol_mp_same]
    unfold ol_fl
    rw [if_pos ⟨j0, by omega⟩]; rfl
  · rw [ol_ms_ne _ _ _ (by decide), ol_ms_ne _ _ _ (by decide), ol_mp_ne _ _ (by decide), ol_mp_same]
    unfold ol_fl
    rw [if_pos ⟨k0, by omega⟩]; rfl

