/-! censor -/
theorem p_part {lay : ol_L} {a b : Nat} {w : Int} {M : ol_M} (b0 : 0 < b) (ha : a < 2 ^ 62) (hb : b < 2 ^ 62) (rw' : ol_r w) : ol_R lay 1 q_X9_part [.inr (.inl (a : Int)), .inr (.inl (b : Int)), .inl w] M (some (.inr (.inl (if w = 0 then ((a / Nat.gcd a b : Nat) : Int) else ((b / Nat.gcd a b : Nat) : Int))))) M := by
  refine ol_Ri (q := q_X9_part) (by decide +kernel) (Nat.le_of_ble_eq_true rfl) rfl (fun Rt A hA hr => b_X9_part_0 hA a b w M ?_)
  have g0 : 0 < Nat.gcd a b := Nat.gcd_pos_of_pos_right _ b0
  have key : ∀ (u x y : Nat), y < u → x < 2 ^ 62 → y < 2 ^ 62 → Nat.gcd x y = Nat.gcd a b → A 6 [some (.inr (.inl (a : Int))), none, some (.inr (.inl (b : Int))), none, some (.inl w), some (.inr (.inl (x : Int))), none, some (.inr (.inl (y : Int))), none, none, none] [] M := by
    intro u
    induction u with
    | zero => intro x y h; omega
    | succ u ih =>
      intro x y hu hx hy hg
      refine b_X9_part_6 hA a b w x y M (ol_if.mk (fun c => ?_) (fun c => ⟨⟨by omega, by omega⟩, ⟨by omega, by omega⟩, ⟨by omega, by omega⟩, c, ?_⟩))
      · have y0 : y = 0 := by omega
        rw [y0, Nat.gcd_zero_right] at hg
        refine ol_if.mk (fun d => ⟨⟨by omega, by omega⟩, ⟨by omega, by omega⟩, by omega, ?_⟩) (fun d => ⟨rw', ⟨by omega, by omega⟩, ⟨by omega, by omega⟩, by omega, ?_⟩)
        · rw [if_pos d, ← hg] at hr
          rw [show Int.tdiv (a : Int) (x : Int) = ((a / x : Nat) : Int) by rw [Int.tdiv_eq_ediv_of_nonneg (by omega)]; exact_mod_cast rfl]
          exact hr
        · rw [if_neg d, ← hg] at hr
          rw [show Int.tdiv (b : Int) (x : Int) = ((b / x : Nat) : Int) by rw [Int.tdiv_eq_ediv_of_nonneg (by omega)]; exact_mod_cast rfl]
          exact hr
      · rw [show Int.tmod (x : Int) (y : Int) = ((x % y : Nat) : Int) by rw [Int.tmod_eq_emod_of_nonneg (by omega)]; exact_mod_cast rfl]
        have ym := Nat.mod_lt x (show y > 0 by omega)
        refine ih y (x % y) (by omega) hy (by omega) ?_
        rw [← hg, Nat.gcd_comm x y, Nat.gcd_rec y x, Nat.gcd_comm]
  exact key (b + 1) a b (by omega) ha hb rfl
def wg (W : ol_M) (s : Int) : ol_M := ol_mp W 14 (fun j => s / 2 ^ j.toNat % 2)
def wt (c s : Int) : Nat → Int
  | 0 => 1
  | k + 1 => wt c s k * (if s / 2 ^ k % 2 = 1 then 16 - c else c)
noncomputable def cs (W : ol_M) (c h e : Int) (n : Nat) : Nat → Int
  | 0 => 0
  | s + 1 => if rn_lv (wg W s) 12 3 h ≤ e then cs W c h e n s + wt c s n else cs W c h e n s
theorem wt_r {c s : Int} (c0 : 0 ≤ c) (c1 : c ≤ 16) : ∀ k : Nat, 0 ≤ wt c s k ∧ wt c s k ≤ 16 ^ k := by
  intro k
  induction k with
  | zero => exact ⟨by show (0 : Int) ≤ 1; decide, Int.le_refl _⟩
  | succ k ih =>
    unfold wt
    rw [Int.pow_succ]
    have q : 0 ≤ (if s / 2 ^ k % 2 = 1 then 16 - c else c) ∧ (if s / 2 ^ k % 2 = 1 then 16 - c else c) ≤ 16 := by split <;> omega
    exact ⟨Int.mul_nonneg ih.1 q.1, Int.mul_le_mul ih.2 q.2 q.1 (by have := ih.1; omega)⟩
theorem cs_r {W : ol_M} {c h e : Int} {n : Nat} (c0 : 0 ≤ c) (c1 : c ≤ 16) : ∀ s : Nat, 0 ≤ cs W c h e n s ∧ cs W c h e n s ≤ s * 16 ^ n := by
  intro s
  induction s with
  | zero => exact ⟨Int.le_refl 0, by show (0 : Int) ≤ 0 * 16 ^ n; omega⟩
  | succ s ih =>
    have r := @wt_r c s c0 c1 n
    have ex : ((s + 1 : Nat) : Int) * 16 ^ n = s * 16 ^ n + 16 ^ n := by rw [show ((s + 1 : Nat) : Int) = s + 1 by omega, Int.add_mul, Int.one_mul]
    unfold cs
    rw [ex]
    split <;> omega
theorem rn_try_3 {W : ol_M} {k j : Int} {X : ol_M} : rn_try W k X 3 j = X 3 j ∨ rn_try W k X 3 j = X 3 j + 1 := by
  unfold rn_try
  by_cases c : W 12 k < W 0 0 ∧ W 13 k < W 3 0
  · rw [if_pos c]
    by_cases d : rn_res W (W 12 k) (W 13 k) (X 0) = 3
    · rw [if_pos d, ol_ms_row]
      by_cases e : j = W 12 k
      · rw [e, ol_rsA]; exact Or.inr rfl
      · rw [ol_rsN _ _ e, ol_ms_ne _ _ _ (by decide), ol_ms_ne _ _ _ (by decide)]; exact Or.inl rfl
    · rw [if_neg d, ol_mp_ne _ _ (by decide), ol_mp_ne _ _ (by decide), ol_ms_ne _ _ _ (by decide), ol_ms_ne _ _ _ (by decide)]
      exact Or.inl rfl
  · rw [if_neg c]; exact Or.inl rfl
theorem rn_ws_3 {W : ol_M} {m j : Int} : ∀ (k : Nat) (X : ol_M), X 3 j ≤ rn_ws W m k X 3 j ∧ rn_ws W m k X 3 j ≤ X 3 j + k := by
  intro k
  induction k with
  | zero => intro X; exact ⟨Int.le_refl _, by show X 3 j ≤ X 3 j + 0; omega⟩
  | succ k ih =>
    intro X
    have i := ih X
    unfold rn_ws
    split
    · have := @rn_try_3 W k j (rn_ws W m k X)
      omega
    · omega
theorem rn_lv_3 {W : ol_M} (w : wk W) {j : Int} : ∀ m : Nat, 0 ≤ rn_lv W m 3 j ∧ rn_lv W m 3 j ≤ 24 * m := by
  have w10 := w.2.2.2.2.2.2.2.1
  intro m
  induction m with
  | zero => exact ⟨Int.le_refl 0, Int.le_refl 0⟩
  | succ m ih =>
    unfold rn_lv rn_mo
    have := @rn_ws_3 W m j (W 10 0).toNat (ol_mp (rn_lv W m) 0 (rn_ls W m (W 5 0).toNat (rn_hand W (rn_lv W m 0))))
    rw [ol_mp_ne _ _ (show (3 : Int) ≠ 0 by decide)] at this
    omega
noncomputable def rn_above (W : ol_M) (c h e : Int) : Int := cs W c h e (W 10 0).toNat (2 ^ (W 10 0).toNat)
noncomputable def sp_cen (S : ol_M) (c h e w : Int) : Int := if w = 0 then (((rn_above (sp_W S) c h e).toNat / Nat.gcd (rn_above (sp_W S) c h e).toNat (2 ^ (4 * (S 0 2).toNat)) : Nat) : Int) else ((2 ^ (4 * (S 0 2).toNat) / Nat.gcd (rn_above (sp_W S) c h e).toNat (2 ^ (4 * (S 0 2).toNat)) : Nat) : Int)
noncomputable def sp_censor (S : ol_M) (c h e w : Int) : Int × ol_M := (if (0 ≤ c ∧ c ≤ 16) ∧ (0 ≤ h ∧ h < sp_nH S) ∧ (0 ≤ e ∧ e ≤ 12) ∧ (0 ≤ w ∧ w ≤ 1) then sp_cen S c h e w else -9223372036854775808 - (-2), S)
/-- a call of the reference that answers a long -/
def m_okl (n d : Nat) (q : ol_MD) (as : List ol_V) (S M : ol_M) (r : Int × ol_M) : Prop := ∃ M', ol_R (ol_lay n) d q (.inr (.inr 132) :: as) M (some (.inr (.inl r.1))) M' ∧ im r.2 M' ∧ fm M M'
theorem m_censorOf {n : Nat} {S M : ol_M} (hs : sp_ok S) (z : mz S M) {c h e x : Int} (c0 : 0 ≤ c) (c1 : c ≤ 16) (h0 : 0 ≤ h) (h1 : h < 8) (re : ol_r e) (rx : ol_r x) : ∃ M', ol_R (ol_lay n) 6 q_X9_censorOf [.inr (.inr 132), .inl c, .inl h, .inl e, .inl x] M (some (.inr (.inl (sp_cen S c h e x)))) M' ∧ fr_s M M' := by
  have w := sp_W_k hs
  have nw := hs.w.1
  have e24 : ∀ N, fr_s M N → N 132 24 = 0 := fun N f => by rw [f 132 (by decide)]; exact z.1.2.2.2.2.2.2.1
  have pw := @pw_le (S 0 2).toNat 12 (by omega)
  obtain ⟨B, hB⟩ : ∃ y, y = (S 0 2).toNat := ⟨_, rfl⟩
  have eB : S 0 2 = B := by omega
  rw [← hB] at pw
  have key : ∀ N g, fr_s M N → ∃ M', ol_T n q_X9_censorOf 5 6 [some (.inr (.inr 132)), some (.inl c), some (.inl h), some (.inl e), some (.inl x), some (.inr (.inl (cs (sp_W S) c h e B (Int.toNat 0)))), none, some (.inl 0), none, none, none] [] (ol_ms N 132 24 g) (some (.inr (.inl (sp_cen S c h e x)))) M' ∧ fr_s M M' := by
    refine ol_loop (P := fun s => ∀ N g, fr_s M N → ∃ M', ol_T n q_X9_censorOf 5 6 [some (.inr (.inr 132)), some (.inl c), some (.inl h), some (.inl e), some (.inl x), some (.inr (.inl (cs (sp_W S) c h e B s.toNat))), none, some (.inl s), none, none, none] [] (ol_ms N 132 24 g) (some (.inr (.inl (sp_cen S c h e x)))) M' ∧ fr_s M M') (a := 0) (b := 2 ^ B) (by omega) (fun s s0 s1 hk N g f => ?_) (fun N g f => ?_)
    · have zN := z.fr f
      have eN := e24 N f
      have e15 : (ol_ms N 132 24 g) 132 15 = B := by rw [ol_ms_i _ _ _ (by decide), ← eB]; exact zN.nW
      have rs : ol_r s := ⟨by omega, by omega⟩
      have vs : mv (wg (sp_W S) s) (ol_ms N 132 24 s) := zN.2.1.gone rs (fun k _ _ => Iff.rfl)
      have ws : wk (wg (sp_W S) s) := w.gone _
      obtain ⟨M2, q, g2⟩ := @m_finesOf n _ _ ws vs h h0 h1
      obtain ⟨g3, g4⟩ := gx (by decide) g2
      rw [eN] at g3 g4
      obtain ⟨M', t, g'⟩ := hk (ol_ms M2 132 24 0) s (f.tr g3)
      rw [← g4, show (s + 1).toNat = s.toNat + 1 by omega] at t
      simp only [cs] at t
      rw [Int.toNat_of_nonneg s0] at t
      have fr := @rn_lv_3 (wg (sp_W S) s) ws h 12
      have e15' : M2 132 15 = B := by rw [g2 132 (by decide), ol_ms_i _ _ _ (by decide), ← eB]; exact zN.nW
      refine ⟨M', fun Rt A hA hr => b_X9_censorOf_6 hA c h e x _ s _ ?_, g'⟩
      rw [e15, Int.one_mul, ol_ms_ms, ol_ms_ms, Int.toNat_natCast]
      refine ⟨by omega, by omega, rs, ⟨by omega, by omega⟩, ol_if.neg (by omega) ⟨_, M2, q, ⟨by omega, by omega⟩, re, ol_if.mk (fun d => ?_) (fun d => ?_)⟩⟩
      · rw [if_neg (by omega)] at t
        exact t Rt A hA hr
      · rw [if_pos (by omega)] at t
        show A 38 [some (.inr (.inr 132)), some (.inl c), some (.inl h), some (.inl e), some (.inl x), some (.inr (.inl (cs (sp_W S) c h e B s.toNat))), none, some (.inl s), some (.inr (.inl (wt c s (Int.toNat 0)))), none, some (.inl 0)] [] M2
        refine ol_loop (P := fun k => A 38 [some (.inr (.inr 132)), some (.inl c), some (.inl h), some (.inl e), some (.inl x), some (.inr (.inl (cs (sp_W S) c h e B s.toNat))), none, some (.inl s), some (.inr (.inl (wt c s k.toNat))), none, some (.inl k)] [] M2) (a := 0) (b := (B : Int)) (by omega) (fun k k0 k1 hk => ?_) ?_
        · rw [show (k + 1).toNat = k.toNat + 1 by omega] at hk
          simp only [wt] at hk
          refine b_X9_censorOf_38 hA c h e x _ s _ k M2 ?_
          rw [e15']
          refine ⟨⟨by omega, by omega⟩, ⟨by omega, by omega⟩, ol_if.neg (by omega) ⟨rs, k0, by omega, ol_if.mk (fun d2 => ⟨⟨by omega, by omega⟩, ?_⟩) (fun d2 => ⟨⟨by omega, by omega⟩, ?_⟩)⟩⟩
          · rw [if_pos d2] at hk; exact hk
          · rw [if_neg d2] at hk; exact hk
        · refine b_X9_censorOf_38 hA c h e x _ s _ _ M2 ?_
          rw [e15', Int.toNat_natCast]
          exact ⟨⟨by omega, by omega⟩, ⟨by omega, by omega⟩, ol_if.pos (by omega) (t Rt A hA hr)⟩
    · have zN := z.fr f
      have eN := e24 N f
      have e15 : (ol_ms N 132 24 g) 132 15 = B := by rw [ol_ms_i _ _ _ (by decide), ← eB]; exact zN.nW
      refine ⟨N, fun Rt A hA hr => b_X9_censorOf_6 hA c h e x _ _ _ ?_, f⟩
      rw [e15, Int.one_mul, ol_ms_ms, ol_ms_ms, Int.toNat_natCast, show ol_ms N 132 24 0 = N by rw [← eN, ol_ms_self]]
      rw [show ((2 : Int) ^ B).toNat = 2 ^ B by have : ((2 ^ B : Nat) : Int) = 2 ^ B := by exact_mod_cast rfl
                                                omega]
      have cr := @cs_r (sp_W S) c h e B c0 c1 (2 ^ B)
      have ab : rn_above (sp_W S) c h e = cs (sp_W S) c h e B (2 ^ B) := by unfold rn_above; rw [show (sp_W S 10 0).toNat = B from hB.symm]
      have b60 : ((2 ^ B : Nat) : Int) * 16 ^ B ≤ 2 ^ 60 := by
        have a1 : 2 ^ B ≤ 2 ^ 12 := Nat.pow_le_pow_right (by decide) (by omega)
        have a2 : 16 ^ B ≤ 16 ^ 12 := Nat.pow_le_pow_right (by decide) (by omega)
        have a3 : 2 ^ B * 16 ^ B ≤ 2 ^ 12 * 16 ^ 12 := Nat.mul_le_mul a1 a2
        have a4 : 2 ^ B * 16 ^ B ≤ 2 ^ 60 := a3
        exact_mod_cast a4
      have p4 : 2 ^ (4 * B) ≤ 2 ^ 48 := Nat.pow_le_pow_right (by decide) (by omega)
      have p5 : 0 < 2 ^ (4 * B) := Nat.pow_pos (by decide)
      have pt := @p_part (ol_lay n) (cs (sp_W S) c h e B (2 ^ B)).toNat (2 ^ (4 * B)) x N p5 (by omega) (by omega) rx
      rw [Int.toNat_of_nonneg cr.1] at pt
      refine ⟨by omega, by omega, ⟨by omega, by omega⟩, ⟨by omega, by omega⟩, ol_if.pos (Int.le_refl _) ⟨by omega, by omega, _, N, ?_, hr⟩⟩
      unfold sp_cen
      rw [ab, ← hB, show (4 * (B : Int)).toNat = 4 * B by omega, Int.one_mul]
      have cst : ((2 ^ (4 * B) : Nat) : Int) = 2 ^ (4 * B) := by exact_mod_cast rfl
      rw [cst] at pt
      exact pt
  obtain ⟨M', t, g⟩ := key M 0 fr_s.rf
  rw [show ol_ms M 132 24 0 = M by rw [← e24 M fr_s.rf, ol_ms_self]] at t
  exact ⟨M', ol_Ri (q := q_X9_censorOf) (by decide +kernel) (Nat.le_of_ble_eq_true rfl) rfl (fun Rt A hA hr => b_X9_censorOf_0 hA c h e x M (t Rt A hA hr)), g⟩
theorem m_censor {n : Nat} {S M : ol_M} (i : im S M) (hs : sp_ok S) {c h e w : Int} (r1 : ol_r c) (r2 : ol_r h) (r3 : ol_r e) (r4 : ol_r w) : m_okl n 7 q_X9_censor [.inl c, .inl h, .inl e, .inl w] S M (sp_censor S c h e w) := by
  obtain ⟨M1, r, z, f⟩ := @m_find n S M i hs
  have nr := sp_nH_r hs.1
  have e7 := z.nH
  unfold sp_censor m_okl
  by_cases d : (0 ≤ c ∧ c ≤ 16) ∧ (0 ≤ h ∧ h < sp_nH S) ∧ (0 ≤ e ∧ e ≤ 12) ∧ (0 ≤ w ∧ w ≤ 1)
  · rw [if_pos d]
    obtain ⟨M2, q, g⟩ := @m_censorOf n S M1 hs z c h e w d.1.1 d.1.2 d.2.1.1 (by omega) r3 r4
    refine ⟨M2, ol_Ri (q := q_X9_censor) (by decide +kernel) (Nat.le_of_ble_eq_true rfl) rfl (fun Rt A hA hr => b_X9_censor_0 hA c h e w M ⟨M1, r, ?_⟩), (z.fr g).1, f.tr g.fm⟩
    rw [e7]
    exact ⟨r1, ol_r_l r1, ol_if.pos d.1 ⟨r2, ⟨by omega, by omega⟩, ol_if.pos d.2.1 ⟨r3, ol_r_l r3, ol_if.pos d.2.2.1 ⟨r4, ol_if.pos d.2.2.2 ⟨_, M2, q, hr⟩⟩⟩⟩⟩
  · rw [if_neg d]
    refine ⟨M1, ol_Ri (q := q_X9_censor) (by decide +kernel) (Nat.le_of_ble_eq_true rfl) rfl (fun Rt A hA hr => b_X9_censor_0 hA c h e w M ⟨M1, r, ?_⟩), z.1, f⟩
    rw [e7]
    exact ⟨r1, ol_r_l r1, ol_if.mk (fun d1 => ⟨r2, ⟨by omega, by omega⟩, ol_if.mk (fun d2 => ⟨r3, ol_r_l r3, ol_if.mk (fun d3 => ⟨r4, ol_if.neg (fun d4 => d ⟨d1, d2, d3, d4⟩) hr⟩) (fun _ => hr)⟩) (fun _ => hr)⟩) (fun _ => hr)⟩
