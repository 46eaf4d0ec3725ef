/-! post -/
def sd (s : Int) : Nat → Int
  | 0 => s
  | k + 1 => 1103515245 * sd s k + 12345
def lt (s m : Int) : Int := (s % 4294967296) / 65536 % m
theorem lt_r {s m : Int} (h : 0 < m) : 0 ≤ lt s m ∧ lt s m < m := ⟨Int.emod_nonneg _ (by omega), Int.emod_lt_of_pos _ h⟩
/-- a world with k writings more, one a month, as the lots fall -/
def sp_pw (W : ol_M) (s k : Int) : ol_M := fun c => if c = 10 then fun _ => W 10 0 + k else if c = 11 then fun j => if j < W 10 0 then W 11 j else j - W 10 0 else if c = 12 then fun j => if j < W 10 0 then W 12 j else lt (sd s (2 * (j - W 10 0) + 1).toNat) (W 0 0) else if c = 13 then fun j => if j < W 10 0 then W 13 j else lt (sd s (2 * (j - W 10 0) + 2).toNat) (W 3 0) else W c
theorem sp_pw_ne {W : ol_M} {s k c : Int} (h : ¬ (10 ≤ c ∧ c ≤ 13)) : sp_pw W s k c = W c := by
  unfold sp_pw
  rw [if_neg (by omega), if_neg (by omega), if_neg (by omega), if_neg (by omega)]
theorem sp_pw_k {W : ol_M} (w : wk W) (h12 : W 10 0 ≤ 12) {s k : Int} (k0 : 0 ≤ k) (k1 : k ≤ 12) (hp : 0 < k → 0 < W 0 0 ∧ 0 < W 3 0) : wk (sp_pw W s k) := by
  have e : ∀ c : Int, ¬ (10 ≤ c ∧ c ≤ 13) → sp_pw W s k c = W c := fun c q => sp_pw_ne q
  unfold wk
  rw [e 0 (by decide), e 1 (by decide), e 2 (by decide), e 3 (by decide), e 4 (by decide), e 5 (by decide), e 6 (by decide), e 7 (by decide), e 8 (by decide), e 9 (by decide)]
  obtain ⟨w0, w1, w2, w3, w4, w5, w6, w7, w8⟩ := w
  refine ⟨w0, w1, w2, fun t t0 t1 l l0 l1 => ?_, w4, w5, w6, ?_, fun j j0 j1 => ?_⟩
  · rw [e (30 + t) (by omega)]
    exact w3 t t0 t1 l l0 l1
  · show 0 ≤ W 10 0 + k ∧ W 10 0 + k ≤ 24
    omega
  · have j2 : j < W 10 0 + k := j1
    show (0 ≤ (if j < W 10 0 then W 11 j else j - W 10 0) ∧ (if j < W 10 0 then W 11 j else j - W 10 0) ≤ 11) ∧ (0 ≤ (if j < W 10 0 then W 12 j else lt (sd s (2 * (j - W 10 0) + 1).toNat) (W 0 0)) ∧ (if j < W 10 0 then W 12 j else lt (sd s (2 * (j - W 10 0) + 1).toNat) (W 0 0)) ≤ 7) ∧ (0 ≤ (if j < W 10 0 then W 13 j else lt (sd s (2 * (j - W 10 0) + 2).toNat) (W 3 0)) ∧ (if j < W 10 0 then W 13 j else lt (sd s (2 * (j - W 10 0) + 2).toNat) (W 3 0)) ≤ 7)
    by_cases c : j < W 10 0
    · rw [if_pos c, if_pos c, if_pos c]
      exact w8 j j0 c
    · rw [if_neg c, if_neg c, if_neg c]
      have a := hp (by omega)
      have b1 := @lt_r (sd s (2 * (j - W 10 0) + 1).toNat) (W 0 0) a.1
      have b2 := @lt_r (sd s (2 * (j - W 10 0) + 2).toNat) (W 3 0) a.2
      omega
def fr_p (N : Int) (M M' : ol_M) : Prop := (∀ c, c ≠ 132 → c ≠ 145 → ¬ (147 ≤ c ∧ c ≤ 151) → M' c = M c) ∧ (∀ j, j ≠ 15 → j ≠ 29 → M' 132 j = M 132 j) ∧ ∀ j, j < 3 * N → M' 145 j = M 145 j
theorem fr_p.rf {N : Int} {M : ol_M} : fr_p N M M := ⟨fun _ _ _ _ => rfl, fun _ _ _ => rfl, fun _ _ => rfl⟩
theorem fr_p.tr {N : Int} {M M' M'' : ol_M} (h : fr_p N M M') (h' : fr_p N M' M'') : fr_p N M M'' := ⟨fun c a b d => (h'.1 c a b d).trans (h.1 c a b d), fun j a b => (h'.2.1 j a b).trans (h.2.1 j a b), fun j a => (h'.2.2 j a).trans (h.2.2 j a)⟩
theorem fr_s.p {N : Int} {M M' : ol_M} (h : fr_s M M') : fr_p N M M' := ⟨fun c _ _ d => h c d, fun j _ _ => by rw [h 132 (by decide)], fun j _ => by rw [h 145 (by decide)]⟩
theorem fr_p.fm {N : Int} {M M' : ol_M} (h : fr_p N M M') : fm M M' := fun k q => h.1 k (by omega) (by omega) (by omega)
theorem fr_p.s15 {N : Int} {M M' : ol_M} (h : fr_p N M M') {i v : Int} (hi : i = 15 ∨ i = 29) : fr_p N M (ol_ms M' 132 i v) := ⟨fun c a b d => (ol_ms_ne _ _ _ a).trans (h.1 c a b d), fun j a b => (ol_ms_i _ _ _ (by omega)).trans (h.2.1 j a b), fun j a => by rw [ol_ms_ne _ _ _ (by decide)]; exact h.2.2 j a⟩
theorem mz.frp {S M M' : ol_M} (z : mz S M) (f : fr_p (S 0 2) M M') (e15 : M' 132 15 = S 0 2) : mz S M' := by
  obtain ⟨f1, f2, f3⟩ := f
  obtain ⟨⟨h1, h2, h3, h4, h5, h6, h7, h8⟩, ⟨v1, v2, v3, v4, v5, v6, v7, v8, v9, v10⟩, hA⟩ := z
  have w3 : ∀ k, 0 ≤ k → k < S 0 2 → M' 145 (3 * k) = S 4 k ∧ M' 145 (3 * k + 1) = S 5 k ∧ M' 145 (3 * k + 2) = S 6 k := fun k k0 k1 => by
    rw [f3 _ (by omega), f3 _ (by omega), f3 _ (by omega)]
    exact h3.2 k k0 k1
  refine ⟨⟨h1.keep rfl rfl rfl rfl (f1 _ (by decide) (by decide) (by decide)) (f1 _ (by decide) (by decide) (by decide)), h2.keep rfl (f1 _ (by decide) (by decide) (by decide)), ⟨e15, w3⟩, h4.keep rfl rfl rfl rfl rfl (f2 _ (by decide) (by decide)) (f1 _ (by decide) (by decide) (by decide)), h5.keep rfl rfl rfl rfl rfl (f2 _ (by decide) (by decide)) (f1 _ (by decide) (by decide) (by decide)), h6.keep rfl (f2 _ (by decide) (by decide)), (f2 _ (by decide) (by decide)).trans h7, ?_⟩, ?_, ?_⟩
  · intro s s0 s1
    rw [f1 133 (by decide) (by decide) (by decide), f1 134 (by decide) (by decide) (by decide), f1 135 (by decide) (by decide) (by decide)]
    exact h8 s s0 s1
  · unfold mv
    rw [f1 139 (by decide) (by decide) (by decide), f1 143 (by decide) (by decide) (by decide), f1 144 (by decide) (by decide) (by decide), f1 146 (by decide) (by decide) (by decide), f2 7 (by decide) (by decide), f2 9 (by decide) (by decide), f2 25 (by decide) (by decide), f2 24 (by decide) (by decide)]
    exact ⟨v1, v2, v3, v4, v5, v6, v7, e15, w3, v10⟩
  · intro t t0 t1
    have z := hA t t0 t1
    unfold m_tm at z ⊢
    rw [f1 140 (by decide) (by decide) (by decide), f1 141 (by decide) (by decide) (by decide), f1 142 (by decide) (by decide) (by decide), f1 143 (by decide) (by decide) (by decide)]
    exact z
theorem m_lot {n : Nat} {M : ol_M} {m : Int} (h : 0 < m) (rm : ol_r m) : ol_R (ol_lay n) 1 q_X9_lot [.inr (.inr 132), .inl m] M (some (.inl (lt (1103515245 * M 132 29 + 12345) m))) (ol_ms M 132 29 (1103515245 * M 132 29 + 12345)) := by
  refine ol_Ri (q := q_X9_lot) (by decide +kernel) (Nat.le_of_ble_eq_true rfl) (Or.inl rfl) (fun Rt A hA hr => b_X9_lot_0 hA m M ?_)
  rw [show (2 : Int) ^ Int.toNat 16 = 65536 by decide]
  have a : 0 ≤ (1103515245 * M 132 29 + 12345) % 4294967296 := Int.emod_nonneg _ (by decide)
  have b : (1103515245 * M 132 29 + 12345) % 4294967296 < 4294967296 := Int.emod_lt_of_pos _ (by decide)
  refine ⟨⟨by omega, by omega⟩, rm, by omega, ?_⟩
  rw [Int.tmod_eq_emod_of_nonneg (by omega)]
  exact hr
theorem mv.post {W M : ol_M} {s k : Int} (k0 : 0 ≤ k) (h0 : 0 ≤ W 10 0) (g0 : W 14 = fun _ => 0) (e24 : M 132 24 = 0) (v : mv (sp_pw W s k) M) {a b : Int} (ea : a = lt (sd s (2 * k + 1).toNat) (W 0 0)) (eb : b = lt (sd s (2 * k + 2).toNat) (W 3 0)) : mv (sp_pw W s (k + 1)) (m_wr M k a b) := by
  have e : ∀ c x : Int, ¬ (10 ≤ c ∧ c ≤ 13) → sp_pw W s x c = W c := fun c x q => sp_pw_ne q
  have n : ∀ c : Int, c ≠ 132 → c ≠ 145 → m_wr M k a b c = M c := fun c q q2 => m_wr_ne q q2
  obtain ⟨v1, v2, v3, v4, v5, v6, v7, v8, v9, v10⟩ := v
  have p : ∀ j : Int, j ≠ 15 → m_wr M k a b 132 j = M 132 j := fun j q => by rw [m_wr_132, ol_rsN _ _ q]
  rw [e 0 k (by decide)] at v1 v2
  rw [e 1 k (by decide), e 2 k (by decide)] at v2
  rw [e 3 k (by decide)] at v3 v4
  rw [e 4 k (by decide)] at v5
  rw [e 5 k (by decide)] at v6 v7
  rw [e 6 k (by decide), e 7 k (by decide), e 8 k (by decide), e 9 k (by decide)] at v7
  have v8' : M 132 15 = W 10 0 + k := v8
  unfold mv
  rw [e 0 _ (by decide), e 1 _ (by decide), e 2 _ (by decide), e 3 _ (by decide), e 4 _ (by decide), e 5 _ (by decide), e 6 _ (by decide), e 7 _ (by decide), e 8 _ (by decide), e 9 _ (by decide), e 14 _ (by decide), n 139 (by decide) (by decide), n 143 (by decide) (by decide), n 144 (by decide) (by decide), n 146 (by decide) (by decide), p 7 (by decide), p 9 (by decide), p 25 (by decide), p 24 (by decide), m_wr_132, m_wr_row, ol_rsA, v8']
  refine ⟨v1, v2, v3, fun t t0 t1 l l0 l1 => ?_, v5, v6, v7, ?_, fun j j0 j1 => ?_, by rw [e24]; exact ⟨by decide, by decide⟩, fun j j0 j1 => ?_⟩
  · rw [e (30 + t) _ (by omega), ← e (30 + t) k (by omega)]
    exact v4 t t0 t1 l l0 l1
  · show W 10 0 + k + 1 = W 10 0 + (k + 1)
    omega
  · have j2 : j < W 10 0 + (k + 1) := j1
    by_cases c : j = W 10 0 + k
    · show _ = (if j < W 10 0 then W 11 j else j - W 10 0) ∧ _ = (if j < W 10 0 then W 12 j else lt (sd s (2 * (j - W 10 0) + 1).toNat) (W 0 0)) ∧ _ = (if j < W 10 0 then W 13 j else lt (sd s (2 * (j - W 10 0) + 2).toNat) (W 3 0))
      rw [if_neg (by omega), if_neg (by omega), if_neg (by omega), c, show W 10 0 + k - W 10 0 = k by omega, ← ea, ← eb]
      refine ⟨?_, ?_, ?_⟩
      · rw [ol_rsN _ _ (by omega), ol_rsN _ _ (by omega), ol_rsA]
      · rw [ol_rsN _ _ (by omega), ol_rsA]
      · rw [ol_rsA]
    · rw [ol_rsN _ _ (by omega), ol_rsN _ _ (by omega), ol_rsN _ _ (by omega), ol_rsN _ _ (by omega), ol_rsN _ _ (by omega), ol_rsN _ _ (by omega), ol_rsN _ _ (by omega), ol_rsN _ _ (by omega), ol_rsN _ _ (by omega)]
      exact v9 j j0 (show j < W 10 0 + k by omega)
  · rw [e24, g0]
    show (0 : Int) / 2 ^ j.toNat % 2 = 1 ↔ (0 : Int) = 1
    rw [Int.zero_ediv]
    omega
