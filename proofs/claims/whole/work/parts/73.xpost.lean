/-! post -/
theorem rn_hand_e {W W' : ol_M} {st : Int → Int} (e : ∀ c, c = 0 ∨ c = 1 ∨ c = 2 ∨ c = 4 → W' c = W c) : rn_hand W' st = rn_hand W st := by
  unfold rn_hand
  rw [e 0 (by omega), e 1 (by omega), e 2 (by omega), e 4 (by omega)]
theorem rn_ls_e {W W' : ol_M} {m : Int} (e : ∀ c, c = 0 ∨ (6 ≤ c ∧ c ≤ 9) → W' c = W c) : ∀ (k : Nat) (st : Int → Int), rn_ls W' m k st = rn_ls W m k st := by
  intro k st
  induction k with
  | zero => rfl
  | succ k ih =>
    unfold rn_ls
    rw [ih]
    unfold rn_l1
    rw [e 0 (by omega), e 6 (by omega), e 7 (by omega), e 8 (by omega), e 9 (by omega)]
theorem rn_res_e {W W' : ol_M} {h t : Int} {st : Int → Int} (e1 : W' 1 = W 1) (e2 : W' (30 + t) = W (30 + t)) : rn_res W' h t st = rn_res W h t st := by
  have a : ∀ b, rn_lack W' h t b st = rn_lack W h t b st := fun b => by unfold rn_lack; rw [e2]
  have b : rn_sh W' h t st = rn_sh W h t st := by unfold rn_sh; rw [e1, e2, a 1]
  unfold rn_res
  rw [a 0]
  by_cases c : rn_lack W h t 0 st = 0
  · rw [if_pos c, if_pos c]
  · rw [if_neg c, if_neg c]
    by_cases d : rn_sh W h t st
    · rw [if_pos d, if_pos (b.symm ▸ d)]
    · rw [if_neg d, if_neg (fun q => d (b ▸ q))]
theorem rn_try_e {W W' : ol_M} {k : Int} {X : ol_M} (e : ∀ c, c = 0 ∨ c = 1 ∨ c = 3 ∨ 30 ≤ c → W' c = W c) (e12 : W' 12 k = W 12 k) (e13 : W' 13 k = W 13 k) (h13 : 0 ≤ W 13 k) : rn_try W' k X = rn_try W k X := by
  have e2 : W' (30 + W 13 k) = W (30 + W 13 k) := e _ (by omega)
  have r : rn_res W' (W 12 k) (W 13 k) (X 0) = rn_res W (W 12 k) (W 13 k) (X 0) := rn_res_e (e 1 (by omega)) e2
  have l : rn_lack W' (W 12 k) (W 13 k) 0 (X 0) = rn_lack W (W 12 k) (W 13 k) 0 (X 0) := by unfold rn_lack; rw [e2]
  unfold rn_try
  rw [e12, e13, e 0 (by omega), e 3 (by omega), r, l, e2]
theorem rn_ws_e {W W' : ol_M} {m : Int} (e : ∀ c, c = 0 ∨ c = 1 ∨ c = 3 ∨ c = 14 ∨ 30 ≤ c → W' c = W c) {X : ol_M} : ∀ (k : Nat), (∀ j : Int, 0 ≤ j → j < k → W' 11 j = W 11 j ∧ W' 12 j = W 12 j ∧ W' 13 j = W 13 j ∧ 0 ≤ W 13 j) → rn_ws W' m k X = rn_ws W m k X := by
  intro k
  induction k with
  | zero => intro _; rfl
  | succ k ih =>
    intro h
    have q := h k (by omega) (by omega)
    unfold rn_ws
    rw [ih (fun j a b => h j a (by omega)), e 14 (by omega), q.1, rn_try_e (fun c z => e c (by omega)) q.2.1 q.2.2.1 q.2.2.2]
theorem sp_pw_lo {W : ol_M} {s k j : Int} (h : j < W 10 0) : sp_pw W s k 11 j = W 11 j ∧ sp_pw W s k 12 j = W 12 j ∧ sp_pw W s k 13 j = W 13 j := by
  refine ⟨?_, ?_, ?_⟩
  · show (if j < W 10 0 then W 11 j else j - W 10 0) = W 11 j
    rw [if_pos h]
  · show (if j < W 10 0 then W 12 j else lt (sd s (2 * (j - W 10 0) + 1).toNat) (W 0 0)) = W 12 j
    rw [if_pos h]
  · show (if j < W 10 0 then W 13 j else lt (sd s (2 * (j - W 10 0) + 2).toNat) (W 3 0)) = W 13 j
    rw [if_pos h]
theorem sp_pw_hi {W : ol_M} {s k j : Int} (h : 0 ≤ j) : sp_pw W s k 11 (W 10 0 + j) = j ∧ sp_pw W s k 12 (W 10 0 + j) = lt (sd s (2 * j + 1).toNat) (W 0 0) ∧ sp_pw W s k 13 (W 10 0 + j) = lt (sd s (2 * j + 2).toNat) (W 3 0) := by
  refine ⟨?_, ?_, ?_⟩
  · show (if W 10 0 + j < W 10 0 then W 11 (W 10 0 + j) else W 10 0 + j - W 10 0) = j
    rw [if_neg (by omega)]; omega
  · show (if W 10 0 + j < W 10 0 then W 12 (W 10 0 + j) else lt (sd s (2 * (W 10 0 + j - W 10 0) + 1).toNat) (W 0 0)) = _
    rw [if_neg (by omega), show W 10 0 + j - W 10 0 = j by omega]
  · show (if W 10 0 + j < W 10 0 then W 13 (W 10 0 + j) else lt (sd s (2 * (W 10 0 + j - W 10 0) + 2).toNat) (W 3 0)) = _
    rw [if_neg (by omega), show W 10 0 + j - W 10 0 = j by omega]
theorem pw_ws {W : ol_M} (w : wk W) {s k m : Int} (m0 : 0 ≤ m) (g0 : W 14 = fun _ => 0) {Y : ol_M} : ∀ (i : Nat), rn_ws (sp_pw W s k) m ((W 10 0).toNat + i) Y = if m < i then rn_try (sp_pw W s k) (W 10 0 + m) (rn_ws W m (W 10 0).toNat Y) else rn_ws W m (W 10 0).toNat Y := by
  have w10 := w.2.2.2.2.2.2.2.1
  intro i
  induction i with
  | zero =>
    rw [if_neg (by omega)]
    exact rn_ws_e (fun c q => sp_pw_ne (by omega)) _ (fun j a b => by
      have z := @sp_pw_lo W s k j (by omega)
      exact ⟨z.1, z.2.1, z.2.2, (w.2.2.2.2.2.2.2.2 j a (by omega)).2.2.1⟩)
  | succ i ih =>
    have e : ((((W 10 0).toNat + i : Nat)) : Int) = W 10 0 + i := by omega
    have z := @sp_pw_hi W s k i (by omega)
    show (if sp_pw W s k 14 (((W 10 0).toNat + i : Nat) : Int) ≠ 1 ∧ sp_pw W s k 11 (((W 10 0).toNat + i : Nat) : Int) = m then rn_try (sp_pw W s k) (((W 10 0).toNat + i : Nat) : Int) (rn_ws (sp_pw W s k) m ((W 10 0).toNat + i) Y) else rn_ws (sp_pw W s k) m ((W 10 0).toNat + i) Y) = _
    rw [e, ih, z.1, sp_pw_ne (by decide), g0]
    by_cases c : (i : Int) = m
    · rw [if_pos ⟨show (0 : Int) ≠ 1 by decide, c⟩, if_neg (by omega), if_pos (by omega), c]
    · rw [if_neg (fun q => c q.2)]
      by_cases d : m < i
      · rw [if_pos d, if_pos (by omega)]
      · rw [if_neg d, if_neg (by omega)]
theorem pw_mo {W : ol_M} (w : wk W) {s k m : Int} (k0 : 0 ≤ k) (m0 : 0 ≤ m) (g0 : W 14 = fun _ => 0) {X : ol_M} : rn_mo (sp_pw W s k) m X = if m < k then rn_try (sp_pw W s k) (W 10 0 + m) (rn_mo W m X) else rn_mo W m X := by
  have w10 := w.2.2.2.2.2.2.2.1
  have a := @pw_ws W w s k m m0 g0 (ol_mp X 0 (rn_ls W m (W 5 0).toNat (rn_hand W (X 0)))) k.toNat
  rw [show ((k.toNat : Nat) : Int) = k by omega] at a
  unfold rn_mo
  rw [← a, rn_hand_e (W := W) (fun c q => sp_pw_ne (by omega)), sp_pw_ne (show ¬ (10 ≤ (5 : Int) ∧ (5 : Int) ≤ 13) by decide), rn_ls_e (W := W) (fun c q => sp_pw_ne (by omega))]
  rw [show (sp_pw W s k 10 0).toNat = (W 10 0).toNat + k.toNat by show (W 10 0 + k).toNat = _; omega]
theorem ws_1 {W : ol_M} {m : Int} {v : Int} (h : W 11 v ≠ m) : ∀ (k : Nat) (X : ol_M), rn_ws W m k X 1 v = X 1 v := by
  intro k
  induction k with
  | zero => intro X; rfl
  | succ k ih =>
    intro X
    unfold rn_ws
    split
    · rename_i c
      have kv : v ≠ (k : Int) := fun q => by rw [q] at h; exact h c.2
      rw [rn_try_r1]
      split
      · rw [ol_rsN _ _ kv]; exact ih X
      · exact ih X
    · exact ih X
theorem lv_1s {W : ol_M} {v : Int} : ∀ (m m' : Nat), (W 11 v < m) → m ≤ m' → rn_lv W m' 1 v = rn_lv W m 1 v := by
  intro m m' h hm
  induction m' with
  | zero => rw [show m = 0 by omega]
  | succ m' ih =>
    by_cases c : m = m' + 1
    · rw [c]
    · rw [← ih (by omega)]
      show rn_ws W m' (W 10 0).toNat (ol_mp (rn_lv W m') 0 (rn_ls W m' (W 5 0).toNat (rn_hand W (rn_lv W m' 0)))) 1 v = _
      rw [ws_1 (by omega), ol_mp_ne _ _ (by decide)]
theorem tm_lt {a m : Int} (h : 0 < m) : Int.tmod ((a % 4294967296) / 2 ^ (Int.toNat 16)) m = lt a m := by
  have e : 0 ≤ a % 4294967296 := Int.emod_nonneg _ (by decide)
  unfold lt
  rw [show (2 : Int) ^ Int.toNat 16 = 65536 by decide, Int.tmod_eq_emod_of_nonneg (by omega)]
theorem x_post {n : Nat} {S M : ol_M} (i : ix S M) (hs : sp_ok S) {s m h : Int} (r2 : ol_r m) (r3 : ol_r h) : x_ok n 5 q_X8_post [.inl s, .inl m, .inl h] S M (sp_post S s m h) := by
  have w := sp_W_k hs
  have nw := hs.w.1
  have nh := sp_nH_r hs.1
  have nt := sp_nT_r S
  unfold sp_post
  apply x_ok.of
  by_cases c : (0 ≤ m ∧ m ≤ 11) ∧ (h = -1 ∨ (0 ≤ h ∧ h < sp_nH S))
  · rw [if_pos c]
    obtain ⟨k, hk⟩ : ∃ y : Int, y = if 0 < sp_nH S ∧ 0 < sp_nT S then m + 1 else 0 := ⟨_, rfl⟩
    have k0 : 0 ≤ k ∧ k ≤ 12 ∧ (0 < k → 0 < sp_nH S ∧ 0 < sp_nT S) ∧ (0 < sp_nH S ∧ 0 < sp_nT S → k = m + 1) ∧ (¬ (0 < sp_nH S ∧ 0 < sp_nT S) → k = 0) := by
      rw [hk]
      by_cases d : 0 < sp_nH S ∧ 0 < sp_nT S
      · rw [if_pos d]; exact ⟨by omega, by omega, fun _ => d, fun _ => rfl, fun q => absurd d q⟩
      · rw [if_neg d]; exact ⟨by decide, by decide, fun q => absurd q (by decide), fun q => absurd q d, fun _ => rfl⟩
    have w' : wk (sp_pw (sp_W S) s k) := sp_pw_k w nw.2 k0.1 k0.2.1 k0.2.2.1
    obtain ⟨Z, hZ⟩ : ∃ y : Nat → ol_M, y = rn_lv (sp_pw (sp_W S) s k) := ⟨_, rfl⟩
    have zB : ∀ j : Nat, xb 589 (Z j 0) ∧ zp (sp_W S) (Z j 0) := fun j => by rw [hZ]; exact rn_lv_b w' j
    have zS : ∀ j : Nat, Z (j + 1) = if (j : Int) < k then rn_try (sp_pw (sp_W S) s k) (S 0 2 + j) (rn_mo (sp_W S) j (Z j)) else rn_mo (sp_W S) j (Z j) := fun j => by
      rw [hZ]
      exact @pw_mo (sp_W S) w s k j k0.1 (by omega) rfl _
    have zG : ∀ (j : Nat) (q : Int), 0 ≤ q → q < S 0 2 → ¬ (sp_W S 12 q < sp_W S 0 0 ∧ sp_W S 13 q < sp_W S 3 0) → Z j 1 q = 0 := fun j q q0 q1 hq => by
      rw [hZ]
      have z := @sp_pw_lo (sp_W S) s k q q1
      refine (lv_ge w' j).1.2.2 q (fun y => hq ?_)
      rw [z.2.1, z.2.2] at y
      exact y
    obtain ⟨fn, hfn⟩ : ∃ y : Int → Int, y = fun j => if 1 ≤ Z (m + 1).toNat 1 (S 0 2 + j) ∧ Z (m + 1).toNat 1 (S 0 2 + j) ≤ 2 then 1 else 0 := ⟨_, rfl⟩
    have val : sp_pst S s m h = if h = -1 then sm fn k.toNat else rn_all (Z (m + 1).toNat 0) h := by
      unfold sp_pst rn_post
      rw [← hk, hfn, hZ]
      rfl
    have h70 : ks 70 := by unfold ks; omega
    have key : ∀ N, xq 70 84 (sp_W S) (Z (Int.toNat 0)) N → xz 68 69 (sp_W S) N → (∀ c, ¬ (68 ≤ c ∧ c ≤ 84) → N c = M c) → ∃ M', ol_T n q_X8_post 4 47 [some (.inr (.inr 0)), none, some (.inl m), some (.inl h), some (.inl (sm fn (ol_min 0 k).toNat)), some (.inl (sd s (2 * ol_min 0 k).toNat)), some (.inl 0), none, none, none] [] N (some (.inl (sp_pst S s m h))) M' ∧ (∀ c, ¬ (68 ≤ c ∧ c ≤ 84) → M' c = M c) := by
      refine ol_loop (P := fun j => ∀ N, xq 70 84 (sp_W S) (Z j.toNat) N → xz 68 69 (sp_W S) N → (∀ c, ¬ (68 ≤ c ∧ c ≤ 84) → N c = M c) → ∃ M', ol_T n q_X8_post 4 47 [some (.inr (.inr 0)), none, some (.inl m), some (.inl h), some (.inl (sm fn (ol_min j k).toNat)), some (.inl (sd s (2 * ol_min j k).toNat)), some (.inl j), none, none, none] [] N (some (.inl (sp_pst S s m h))) M' ∧ (∀ c, ¬ (68 ≤ c ∧ c ≤ 84) → M' c = M c)) (a := 0) (b := m + 1) (by omega) (fun j j0 j1 hj N x z f => ?_) (fun N x z f => ?_)
      · have iN := i.fo hs.1 (fo68 f)
        have ej : ((j.toNat : Nat) : Int) = j := Int.toNat_of_nonneg j0
        obtain ⟨Xs, hXs⟩ : ∃ y : Nat → ol_M, y = fun q => if q = j.toNat then Z j.toNat else rn_mo (sp_W S) j (Z j.toNat) := ⟨_, rfl⟩
        have x1 : Xs j.toNat = Z j.toNat := by rw [hXs]; exact if_pos rfl
        have x2 : Xs (j.toNat + 1) = rn_mo (sp_W S) j (Z j.toNat) := by rw [hXs]; exact if_neg (by omega)
        obtain ⟨M5, r5, x5, -, f5⟩ := @x_goMonths_68 n (sp_W S) N Xs j j w nw.2 (iN.v hs) z (by rw [x1]; exact x) j0 (by omega) (by omega) (fun q a b => by
          have e : q = j.toNat := by omega
          rw [e, x2, x1, ej]) (fun q a b => by
          have e : q = j.toNat := by omega
          rw [e, x1]; exact ⟨(zB _).1.up (by decide), (zB _).2⟩) (fun q a b => by
          have e : q = j.toNat := by omega
          rw [e, x1]; exact zG _)
        rw [show (j + 1).toNat = j.toNat + 1 by omega, x2] at x5
        have z5 := z.fr f5 (by decide) (by decide) (by decide) (by decide)
        have fo5 : ∀ c, ¬ (68 ≤ c ∧ c ≤ 84) → M5 c = M c := fun c a => by rw [f5 c (by omega) (by omega) (by omega)]; exact f c a
        have i5 := i.fo hs.1 (fo68 fo5)
        have hS := zS j.toNat
        rw [ej] at hS
        have jn : (j + 1).toNat = j.toNat + 1 := by omega
        by_cases d : 0 < sp_nH S ∧ 0 < sp_nT S
        · have kk := k0.2.2.2.1 d
          rw [if_pos (by omega)] at hS
          have e1 : ol_min j k = j := by unfold ol_min; rw [if_pos (by omega)]
          have e2 : ol_min (j + 1) k = j + 1 := by unfold ol_min; rw [if_pos (by omega)]
          rw [e2] at hj
          rw [e1]
          have hi := @sp_pw_hi (sp_W S) s k j j0
          have hi2 : sp_pw (sp_W S) s k 12 (S 0 2 + j) = lt (sd s (2 * j + 1).toNat) (sp_nH S) := hi.2.1
          have hi3 : sp_pw (sp_W S) s k 13 (S 0 2 + j) = lt (sd s (2 * j + 2).toNat) (sp_nT S) := hi.2.2
          obtain ⟨who, hwho⟩ : ∃ y, y = lt (sd s (2 * j + 1).toNat) (sp_nH S) := ⟨_, rfl⟩
          obtain ⟨trm, htrm⟩ : ∃ y, y = lt (sd s (2 * j + 2).toNat) (sp_nT S) := ⟨_, rfl⟩
          have lw := @lt_r (sd s (2 * j + 1).toNat) (sp_nH S) d.1
          have lt' := @lt_r (sd s (2 * j + 2).toNat) (sp_nT S) d.2
          rw [← hwho] at hi2 lw
          rw [← htrm] at hi3 lt'
          have bm : xb 1000 (rn_mo (sp_W S) j (Z j.toNat) 0) := (rn_mo_b w ((zB _).1.up (by decide)) (zB _).2).1.up (by decide)
          obtain ⟨M8, r8, x8, f8⟩ := @x_settle n (sp_W S) M5 (rn_mo (sp_W S) j (Z j.toNat) 0) 70 who trm w (i5.v hs) h70 lw.1 (by omega) lt'.1 (by omega) x5.1 bm
          have ev : sp_pw (sp_W S) s k 12 (S 0 2 + j) < sp_pw (sp_W S) s k 0 0 ∧ sp_pw (sp_W S) s k 13 (S 0 2 + j) < sp_pw (sp_W S) s k 3 0 := by
            rw [hi2, hi3, sp_pw_ne (by decide), sp_pw_ne (by decide)]
            exact ⟨lw.2, lt'.2⟩
          have er : rn_res (sp_pw (sp_W S) s k) who trm (rn_mo (sp_W S) j (Z j.toNat) 0) = rn_res (sp_W S) who trm (rn_mo (sp_W S) j (Z j.toNat) 0) := rn_res_e (sp_pw_ne (by decide)) (sp_pw_ne (by omega))
          have eo : rn_out (sp_W S) who trm (rn_mo (sp_W S) j (Z j.toNat) 0) = rn_res (sp_W S) who trm (rn_mo (sp_W S) j (Z j.toNat) 0) := by
            unfold rn_out
            rw [if_pos ⟨lw.2, lt'.2⟩]
          have z1 : Z (j.toNat + 1) 1 = ol_rs (rn_mo (sp_W S) j (Z j.toNat) 1) (S 0 2 + j) (rn_res (sp_W S) who trm (rn_mo (sp_W S) j (Z j.toNat) 0)) := by
            rw [hS, rn_try_r1, if_pos ev, hi2, hi3, er]
          have z0 : Z (j.toNat + 1) 0 = rn_set (sp_W S) who trm (rn_mo (sp_W S) j (Z j.toNat) 0) := by
            rw [hS, rn_try_r0, hi2, hi3]
            unfold rn_set
            rw [er, sp_pw_ne (show ¬ (10 ≤ (0 : Int) ∧ (0 : Int) ≤ 13) by decide), sp_pw_ne (show ¬ (10 ≤ (3 : Int) ∧ (3 : Int) ≤ 13) by decide), sp_pw_ne (show ¬ (10 ≤ 30 + trm ∧ 30 + trm ≤ 13) by omega)]
          have fj : fn j = if 1 ≤ rn_res (sp_W S) who trm (rn_mo (sp_W S) j (Z j.toNat) 0) ∧ rn_res (sp_W S) who trm (rn_mo (sp_W S) j (Z j.toNat) 0) ≤ 2 then 1 else 0 := by
            have e : Z (m + 1).toNat 1 (S 0 2 + j) = Z (j.toNat + 1) 1 (S 0 2 + j) := by
              rw [hZ]
              exact lv_1s (j.toNat + 1) (m + 1).toNat (by have := hi.1; have e' : sp_pw (sp_W S) s k 11 (S 0 2 + j) = j := this; omega) (by omega)
            rw [hfn]
            show (if 1 ≤ Z (m + 1).toNat 1 (S 0 2 + j) ∧ Z (m + 1).toNat 1 (S 0 2 + j) ≤ 2 then (1 : Int) else 0) = _
            rw [e, z1, ol_rsA]
          obtain ⟨M', t, ee⟩ := hj M8 (by
            rw [jn]
            refine ⟨by rw [z0]; exact x8, fun q q0 q1 => ?_⟩
            have q2 : q < S 0 2 := q1
            rw [f8 84 (by decide), z1, ol_rsN _ _ (by omega)]
            exact x5.2 q q0 q1) (z5.fr (s := 70) (o := 84) f8.y.z (by decide) (by decide) (by decide) (by decide)) (fun c a => by rw [f8 c (by omega)]; exact fo5 c a)
          rw [show (2 * (j + 1)).toNat = (2 * j).toNat + 2 by omega, jn] at t
          simp only [sd, sm] at t
          rw [ej, fj] at t
          have s1 : sd s (2 * j + 1).toNat = 1103515245 * sd s (2 * j).toNat + 12345 := by rw [show (2 * j + 1).toNat = (2 * j).toNat + 1 by omega]; rfl
          have s2 : sd s (2 * j + 2).toNat = 1103515245 * (1103515245 * sd s (2 * j).toNat + 12345) + 12345 := by rw [show (2 * j + 2).toNat = (2 * j).toNat + 1 + 1 by omega]; rfl
          have rr := rn_res_r (sp_W S) who trm (rn_mo (sp_W S) j (Z j.toNat) 0)
          have g1 : 0 ≤ (1103515245 * sd s (2 * j).toNat + 12345) % 4294967296 ∧ (1103515245 * sd s (2 * j).toNat + 12345) % 4294967296 < 4294967296 := ⟨Int.emod_nonneg _ (by decide), Int.emod_lt_of_pos _ (by decide)⟩
          have g2 : 0 ≤ (1103515245 * (1103515245 * sd s (2 * j).toNat + 12345) + 12345) % 4294967296 ∧ (1103515245 * (1103515245 * sd s (2 * j).toNat + 12345) + 12345) % 4294967296 < 4294967296 := ⟨Int.emod_nonneg _ (by decide), Int.emod_lt_of_pos _ (by decide)⟩
          refine ⟨M', fun Rt Aq hA hr => b_X8_post_47 hA m h _ _ j N ?_, ee⟩
          rw [eo] at r8
          have t' := t Rt Aq hA hr
          refine ⟨⟨by omega, by omega⟩, ⟨by omega, by omega⟩, ol_if.neg (by omega) ⟨M5, r5, ?_⟩⟩
          rw [i5.nH, i5.nT, tm_lt d.1, tm_lt d.2, ← s1, ← hwho]
          rw [← s1] at s2 g1 g2
          rw [← s2] at g2
          rw [← s2, ← htrm]
          rw [← s1, ← s2] at t'
          have p16 : (2 : Int) ^ Int.toNat 16 = 65536 := by decide
          have q1 : ol_r (sd s (2 * j + 1).toNat % 4294967296 / 2 ^ Int.toNat 16) := by rw [p16]; exact ⟨by omega, by omega⟩
          have q2 : ol_r (sd s (2 * j + 2).toNat % 4294967296 / 2 ^ Int.toNat 16) := by rw [p16]; exact ⟨by omega, by omega⟩
          refine ⟨⟨by omega, by omega⟩, ol_if.neg (by omega) ⟨⟨by omega, by omega⟩, ol_if.neg (by omega) ⟨q1, ⟨by omega, by omega⟩, by omega, q2, ⟨by omega, by omega⟩, by omega, _, M8, r8, ol_if.mk (fun g => ?_) (fun g => ⟨⟨by omega, by omega⟩, ol_if.mk (fun g' => ?_) (fun g' => ⟨⟨by omega, by omega⟩, ?_⟩)⟩)⟩⟩⟩
          · rw [if_pos (by omega)] at t'; exact t'
          · rw [if_pos (by omega)] at t'; exact t'
          · rw [if_neg (by omega)] at t'; exact t'
        · have kk := k0.2.2.2.2 d
          rw [if_neg (by omega)] at hS
          have e1 : ol_min j k = 0 := by unfold ol_min; rw [kk]; split <;> omega
          have e2 : ol_min (j + 1) k = 0 := by unfold ol_min; rw [kk]; split <;> omega
          rw [e2] at hj
          rw [e1]
          obtain ⟨M', t, ee⟩ := hj M5 (by rw [jn, hS]; exact x5) z5 fo5
          refine ⟨M', fun Rt Aq hA hr => b_X8_post_47 hA m h _ _ j N ?_, ee⟩
          refine ⟨⟨by omega, by omega⟩, ⟨by omega, by omega⟩, ol_if.neg (by omega) ⟨M5, r5, ?_⟩⟩
          rw [i5.nH, i5.nT]
          exact ⟨⟨by omega, by omega⟩, ol_if.mk (fun _ => t Rt Aq hA hr) (fun g => ⟨⟨by omega, by omega⟩, ol_if.pos (by omega) (t Rt Aq hA hr)⟩)⟩
      · refine ⟨N, fun Rt Aq hA hr => b_X8_post_47 hA m h _ _ (m + 1) N ⟨⟨by omega, by omega⟩, ⟨by omega, by omega⟩, ol_if.pos (by omega) (ol_if.mk (fun d => ?_) (fun d => ⟨⟨by omega, by omega⟩, _, N, x_allOf h70 (by omega) (by omega) x.1, ?_⟩))⟩, f⟩
        · rw [val, if_pos d] at hr
          have e1 : ol_min (m + 1) k = k := by unfold ol_min; split <;> omega
          rw [e1]
          exact hr
        · rw [val, if_neg d] at hr
          exact hr
    have cl : ∀ c, ¬ (68 ≤ c ∧ c ≤ 84) → xclr_68 M c = M c := fun c a => clr68 a
    have z0 : xz 68 69 (sp_W S) (xclr_68 M) := by
      refine ⟨fun l l0 l1 => by rw [xclr_r_68 l0 l1]; exact i.1.2.2.2.1 l l0 l1, by rw [xclr_6_68]; exact ⟨by decide, by decide⟩, fun q q0 q1 => ?_, Or.inl ⟨xclr_7_68, i.l.lo (fun c a b => cl c (by omega))⟩⟩
      rw [xclr_6_68]
      show q = -1 ↔ (0 : Int) = 1
      omega
    have e0 : ol_min 0 k = 0 := by unfold ol_min; rw [if_pos k0.1]
    rw [e0] at key
    obtain ⟨M', t, f⟩ := key (xclr_68 M) (by rw [hZ]; exact xclr_q_68 nw.2) z0 cl
    refine ⟨M', ol_Ri (q := q_X8_post) (by decide +kernel) (Nat.le_of_ble_eq_true rfl) (Or.inl rfl) (fun Rt Aq hA hr => b_X8_post_0 hA s m h M ?_), i.fo hs.1 (fo68 f), (fo68 f).fx⟩
    rw [i.nH]
    have t' := t Rt Aq hA hr
    exact ⟨r2, ol_if.pos (by omega) (ol_if.mk (fun d => ⟨_, x_clear_68, t'⟩) (fun d => ⟨r3, r3, ⟨by omega, by omega⟩, ol_if.pos (c.2.resolve_left d) ⟨_, x_clear_68, t'⟩⟩))⟩
  · rw [if_neg c]
    refine ⟨M, ol_Ri (q := q_X8_post) (by decide +kernel) (Nat.le_of_ble_eq_true rfl) (Or.inl rfl) (fun Rt Aq hA hr => b_X8_post_0 hA s m h M ?_), i, fx.rf⟩
    rw [i.nH]
    exact ⟨r2, ol_if.mk (fun d1 => ol_if.mk (fun d => absurd ⟨⟨d1.1, by omega⟩, Or.inl d⟩ c) (fun d => ⟨r3, r3, ⟨by omega, by omega⟩, ol_if.neg (fun q => c ⟨⟨d1.1, by omega⟩, Or.inr q⟩) hr⟩)) (fun _ => hr)⟩
