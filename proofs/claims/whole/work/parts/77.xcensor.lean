theorem lm_sorted {W : ol_M} {m : Int} : ∀ (k : Nat) (i : Nat) (x : Int), (lm W m k)[i]? = some x → W 11 x = m := by
  intro k i x h
  exact ((lm_mem k).mp (List.mem_of_getElem? h)).2.1
theorem la_sorted {W : ol_M} : ∀ (m : Nat) (i : Nat) (x y : Int), (la W m)[i]? = some x → (la W m)[i + 1]? = some y → W 11 x ≤ W 11 y := by
  intro m
  induction m with
  | zero => intro i x y h; cases h
  | succ m ih =>
    intro i x y hx hy
    unfold la at hx hy
    by_cases c : i + 1 < (la W m).length
    · rw [List.getElem?_append_left (by omega)] at hx
      rw [List.getElem?_append_left c] at hy
      exact ih i x y hx hy
    · rw [List.getElem?_append_right (by omega)] at hy
      have ey := lm_sorted _ _ _ hy
      by_cases d : i < (la W m).length
      · rw [List.getElem?_append_left d] at hx
        have := (la_mem m (List.mem_of_getElem? hx)).2.1
        omega
      · rw [List.getElem?_append_right (by omega)] at hx
        have ex := lm_sorted _ _ _ hx
        omega
theorem x_countAll {n : Nat} {S M : ol_M} (i : ix S M) (hs : sp_ok S) : ∃ M', ol_R (ol_lay n) 17 q_X0_countAll [.inr (.inr 85)] M none M' ∧ xch S M' ∧ (∀ c, c ≠ 85 → ¬ (86 ≤ c ∧ c ≤ 110) → M' c = M c) := by
  have w := sp_W_k hs
  have nw := hs.w.1
  have nh := sp_nH_r hs.1
  have v := i.v hs
  obtain ⟨M1, r1, o1, f1, g1⟩ := @x_sortLive n (sp_W S) M w nw.2 v
  obtain ⟨M2, hM2⟩ : ∃ z, z = ol_mp (ol_mp M1 88 (ol_fl (M1 88) 0 64)) 101 (ol_fl (M1 101) 0 8) := ⟨_, rfl⟩
  have f2 : ∀ c, c ≠ 85 → ¬ (86 ≤ c ∧ c ≤ 110) → M2 c = M c := fun c a b => by rw [hM2, ol_mp_ne _ _ (by omega), ol_mp_ne _ _ (by omega), f1 c a (by omega)]
  have o2 : oc (lvl (sp_W S)) M2 := by
    unfold oc
    rw [hM2, ol_mp_ne _ _ (show (85 : Int) ≠ 101 by decide), ol_mp_ne _ _ (show (85 : Int) ≠ 88 by decide), ol_mp_ne _ _ (show (86 : Int) ≠ 101 by decide), ol_mp_ne _ _ (show (86 : Int) ≠ 88 by decide)]
    exact o1
  have x2 : xs 88 (fun _ => 0) M2 := fun j j0 j1 => by
    rw [hM2, ol_mp_ne _ _ (by decide), ol_mp_same]
    unfold ol_fl
    rw [if_pos ⟨j0, by omega⟩]
  have e2 : ∀ h, 0 ≤ h → h < 8 → M2 101 h = 0 := fun h h0 h1 => by
    rw [hM2, ol_mp_same]
    unfold ol_fl
    rw [if_pos ⟨h0, by omega⟩]
  have len := @lvl_len (sp_W S)
  have len' : (lvl (sp_W S)).length ≤ (S 0 2).toNat := len
  have key : ∀ N, (∀ h, 0 ≤ h → h < 0 → ∀ j, 0 ≤ j → j < 169 → N (103 + h) j = 0) → (∀ c, ¬ (103 ≤ c ∧ c ≤ 110) → N c = M2 c) → ∃ M', ol_T n q_X0_countAll 16 24 [some (.inr (.inr 85)), some (.inl 0)] [] N none M' ∧ xch S M' ∧ (∀ c, c ≠ 85 → ¬ (86 ≤ c ∧ c ≤ 110) → M' c = M c) := by
    refine ol_loop (P := fun k => ∀ N, (∀ h, 0 ≤ h → h < k → ∀ j, 0 ≤ j → j < 169 → N (103 + h) j = 0) → (∀ c, ¬ (103 ≤ c ∧ c ≤ 110) → N c = M2 c) → ∃ M', ol_T n q_X0_countAll 16 24 [some (.inr (.inr 85)), some (.inl k)] [] N none M' ∧ xch S M' ∧ (∀ c, c ≠ 85 → ¬ (86 ≤ c ∧ c ≤ 110) → M' c = M c)) (a := 0) (b := 8) (by decide) (fun k k0 k1 hk N z f => ?_) (fun N z f => ?_)
    · obtain ⟨M', t, ee⟩ := hk (ol_mp N (103 + k) (ol_fl (N (103 + k)) 0 169)) (fun h h0 h1 j j0 j1 => by
        by_cases p : h = k
        · rw [p, ol_mp_same]
          unfold ol_fl
          rw [if_pos ⟨j0, by omega⟩]
        · rw [ol_mp_ne _ _ (by omega)]; exact z h h0 (by omega) j j0 j1) (fun c hc => by rw [ol_mp_ne _ _ (by omega)]; exact f c hc)
      exact ⟨M', fun Rt Aq hA hr => b_X0_countAll_24 hA k N ⟨⟨by omega, by omega⟩, ol_if.neg (by omega) ⟨k0, k1, t Rt Aq hA hr⟩⟩, ee⟩
    · have lo : ∀ c, 0 ≤ c → c ≤ 50 → N c = M c := fun c a b => by rw [f c (by omega)]; exact f2 c (by omega) (by omega)
      have oN : oc (lvl (sp_W S)) N := by
        unfold oc
        rw [f 85 (by decide), f 86 (by decide)]
        exact o2
      obtain ⟨M', r', a', c', f'⟩ := @x_branch n (sp_W S) w nw.2 (lvl (sp_W S)) (fun x hx => by
        have q := (lvl_mem w).mp hx
        have e10 : sp_W S 10 0 = S 0 2 := rfl
        exact ⟨by omega, q.2⟩) (by omega) (fun j x y a b => la_sorted 12 j x y a b) (lvl (sp_W S)) 0 15 N (fun _ => 0) (fun _ => 0) (-1) 0 (List.drop_zero) (by omega) (by omega) (v.lo w lo) (i.l.lo lo) (fun l l0 l1 => by rw [lo 38 (by decide) (by decide)]; exact i.1.2.2.2.1 l l0 l1) oN (fun j j0 j1 => by rw [show (88 + ((0 : Nat) : Int)) = 88 by decide, f 88 (by decide)]; exact x2 j j0 j1) (fun j _ _ => ⟨Int.le_refl 0, show (0 : Int) ≤ 1000 by decide⟩) (fun j _ _ => rfl) (fun h h0 h1 => ⟨by rw [f 101 (by decide)]; exact e2 h h0 h1, Int.le_refl 0, Int.le_refl 0⟩) (by decide) (by decide) (Or.inl ⟨rfl, rfl⟩)
      refine ⟨M', fun Rt Aq hA hr => b_X0_countAll_24 hA 8 N ⟨⟨by decide, by decide⟩, ol_if.pos (by decide) ⟨M', r', hr⟩⟩, ⟨?_, fun h h0 h1 g f0 g0 g1 f00 f01 => ?_⟩, fun c a b => ?_⟩
      · rw [f' 85 (by decide) (by decide) (by decide)]; exact oN.1
      · rw [a' h h0 h1 g f0 g0 g1 f00 f01, z h h0 (by omega) _ (by omega) (by omega)]
        omega
      · rw [f' c (by omega) (by omega) (by omega), f c (by omega)]; exact f2 c a b
  obtain ⟨M', t, ee⟩ := key M2 (fun h a b => by omega) (fun _ _ => rfl)
  exact ⟨M', ol_Ri (q := q_X0_countAll) (by decide +kernel) (Nat.le_of_ble_eq_true rfl) rfl (fun Rt Aq hA hr => b_X0_countAll_0 hA M ⟨M1, r1, by rw [← hM2]; exact t Rt Aq hA hr⟩), ee⟩
/-! the sum of the ways -/
def fs (q : Int → Int → Int) (e g : Int) : Int := sm (q g) (e + 1).toNat
def asum (q : Int → Int → Int) (c e : Int) (L : Nat) : Nat → Int := sm (fun g => fs q e g * c ^ g.toNat * (16 - c) ^ ((L : Int) - g).toNat)
theorem asum_add {q q1 q2 : Int → Int → Int} {c e : Int} {L : Nat} (h : ∀ g f, q g f = q1 g f + q2 g f) : ∀ k : Nat, asum q c e L k = asum q1 c e L k + asum q2 c e L k := by
  intro k
  unfold asum
  rw [← sm_add]
  refine sm_congr k (fun g _ _ => ?_)
  have : fs q e g = fs q1 e g + fs q2 e g := by
    unfold fs
    rw [← sm_add]
    exact sm_congr _ (fun f _ _ => h g f)
  rw [this, Int.add_mul, Int.add_mul]
theorem nb_sum {W : ol_M} {h c e : Int} {L : Nat} (e0 : 0 ≤ e) : ∀ (r : List Int) (p : Int) (g : Nat) (st : Int → Int) (f : Int), 0 ≤ f → g + r.length ≤ L → asum (nb W h r p g st f) c e L (L + 1) = c ^ g * (16 - c) ^ (L - g - r.length) * bw W h e c r (p, st, f) := by
  intro r
  induction r with
  | nil =>
    intro p g st f f0 hl
    have hl' : g ≤ L := hl
    have e1 : ∀ g' : Int, fs (nb W h [] p g st f) e g' = if (g : Int) = g' then (if f ≤ e then 1 else 0) else 0 := by
      intro g'
      unfold fs
      by_cases d : (g : Int) = g'
      · rw [if_pos d]
        by_cases d2 : f ≤ e
        · rw [if_pos d2, sm_congr (g := fun f' => if f = f' then 1 else 0) _ (fun f' _ _ => by
            show (if (g : Int) = g' ∧ f = f' then (1 : Int) else 0) = _
            by_cases z : f = f'
            · rw [if_pos ⟨d, z⟩, if_pos z]
            · rw [if_neg (fun q => z q.2), if_neg z]), sm_one f0 (by omega)]
        · rw [if_neg d2, sm_congr (g := fun _ => 0) _ (fun f' a b => by
            show (if (g : Int) = g' ∧ f = f' then (1 : Int) else 0) = 0
            rw [if_neg (fun q => by omega)]), sm_zero]
      · rw [if_neg d, sm_congr (g := fun _ => 0) _ (fun f' a b => by
          show (if (g : Int) = g' ∧ f = f' then (1 : Int) else 0) = 0
          rw [if_neg (fun q => d q.1)]), sm_zero]
    unfold asum
    rw [sm_congr (g := fun g' => if (g : Int) = g' then (if f ≤ e then 1 else 0) * c ^ g * (16 - c) ^ (L - g) else 0) _ (fun g' a b => by
      rw [e1 g']
      by_cases d : (g : Int) = g'
      · rw [if_pos d, if_pos d, ← d, Int.toNat_natCast, show ((L : Int) - (g : Int)).toNat = L - g by omega]
      · rw [if_neg d, if_neg d, Int.zero_mul, Int.zero_mul]), sm_one (by omega) (by omega)]
    show _ = c ^ g * (16 - c) ^ (L - g - 0) * (if f ≤ e then 1 else 0)
    rw [Nat.sub_zero]
    split
    · rw [Int.one_mul, Int.mul_one]
    · rw [Int.zero_mul, Int.zero_mul, Int.mul_zero]
  | cons k r ih =>
    intro p g st f f0 hl
    have hl' : g + (r.length + 1) ≤ L := hl
    obtain ⟨s1, hs1⟩ : ∃ z, z = av W (W 11 k - p).toNat (p + 1) st := ⟨_, rfl⟩
    obtain ⟨f1, hf1⟩ : ∃ z, z = if rn_out W (W 12 k) (W 13 k) s1 = 3 ∧ W 12 k = h then f + 1 else f := ⟨_, rfl⟩
    have f10 : 0 ≤ f1 := by rw [hf1]; split <;> omega
    have i1 := ih (W 11 k) g s1 f f0 (by omega)
    have i2 := ih (W 11 k) (g + 1) (rn_set W (W 12 k) (W 13 k) s1) f1 f10 (by omega)
    rw [asum_add (q1 := nb W h r (W 11 k) g s1 f) (q2 := nb W h r (W 11 k) ((g + 1 : Nat) : Int) (rn_set W (W 12 k) (W 13 k) s1) f1) (fun g' f' => by
      rw [hf1, hs1, show ((g + 1 : Nat) : Int) = (g : Int) + 1 by omega]; rfl), i1, i2]
    have b1 : sg W h (fun _ => 1) (p, st, f) k = (W 11 k, s1, f) := by
      unfold sg
      rw [hs1]
      simp
    have b2 : sg W h (fun _ => 0) (p, st, f) k = (W 11 k, rn_set W (W 12 k) (W 13 k) s1, f1) := by
      unfold sg
      rw [hf1, hs1]
      simp
    show _ = c ^ g * (16 - c) ^ (L - g - (r.length + 1)) * ((16 - c) * bw W h e c r (sg W h (fun _ => 1) (p, st, f) k) + c * bw W h e c r (sg W h (fun _ => 0) (p, st, f) k))
    rw [b1, b2, show L - g - r.length = (L - g - (r.length + 1)) + 1 by omega, show L - (g + 1) - r.length = L - g - (r.length + 1) by omega, Int.pow_succ, Int.pow_succ]
    generalize bw W h e c r (W 11 k, s1, f) = A1
    generalize bw W h e c r (W 11 k, rn_set W (W 12 k) (W 13 k) s1, f1) = A2
    generalize c ^ g = C
    generalize (16 - c) ^ (L - g - (r.length + 1)) = D
    rw [Int.mul_add]
    congr 1
    · rw [Int.mul_assoc, Int.mul_assoc, Int.mul_assoc]
    · rw [Int.mul_assoc, Int.mul_assoc, Int.mul_assoc, Int.mul_left_comm c D A2]
theorem nb_r {W : ol_M} {h : Int} : ∀ (r : List Int) (p g : Int) (st : Int → Int) (f g' f' : Int), 0 ≤ nb W h r p g st f g' f' ∧ nb W h r p g st f g' f' ≤ 2 ^ r.length := by
  intro r
  induction r with
  | nil =>
    intro p g st f g' f'
    show 0 ≤ (if g = g' ∧ f = f' then (1 : Int) else 0) ∧ (if g = g' ∧ f = f' then (1 : Int) else 0) ≤ 2 ^ 0
    split <;> decide
  | cons k r ih =>
    intro p g st f g' f'
    have a := ih (W 11 k) g (av W (W 11 k - p).toNat (p + 1) st) f g' f'
    have b := ih (W 11 k) (g + 1) (rn_set W (W 12 k) (W 13 k) (av W (W 11 k - p).toNat (p + 1) st)) (if rn_out W (W 12 k) (W 13 k) (av W (W 11 k - p).toNat (p + 1) st) = 3 ∧ W 12 k = h then f + 1 else f) g' f'
    have e : (2 : Int) ^ (r.length + 1) = 2 ^ r.length * 2 := Int.pow_succ 2 r.length
    show 0 ≤ nb W h r (W 11 k) g (av W (W 11 k - p).toNat (p + 1) st) f g' f' + _ ∧ nb W h r (W 11 k) g (av W (W 11 k - p).toNat (p + 1) st) f g' f' + _ ≤ (2 : Int) ^ (r.length + 1)
    rw [e]
    exact ⟨Int.add_nonneg a.1 b.1, by omega⟩
noncomputable def xab (S : ol_M) (c h e : Int) : Int := bw (sp_W S) h e c (lvl (sp_W S)) sg0
theorem x_above {n : Nat} {S M : ol_M} (hs : sp_ok S) (x : xch S M) {c h e : Int} (c0 : 0 ≤ c) (c1 : c ≤ 16) (h0 : 0 ≤ h) (h1 : h < sp_nH S) (e0 : 0 ≤ e) (e1 : e ≤ 12) : ol_R (ol_lay n) 2 q_X0_above [.inr (.inr 85), .inl c, .inl h, .inl e] M (some (.inr (.inl (xab S c h e)))) M := by
  have nw := hs.w.1
  have nh := sp_nH_r hs.1
  have len := @lvl_len (sp_W S)
  have len' : (lvl (sp_W S)).length ≤ (S 0 2).toNat := len
  obtain ⟨L, hL⟩ : ∃ z, z = (lvl (sp_W S)).length := ⟨_, rfl⟩
  have x6 := x.1
  rw [← hL] at len' x6
  obtain ⟨q, hq⟩ : ∃ z : Int → Int → Int, z = nb (sp_W S) h (lvl (sp_W S)) (-1) 0 (fun _ => 0) 0 := ⟨_, rfl⟩
  have val : asum q c e L (L + 1) = xab S c h e := by
    have z := @nb_sum (sp_W S) h c e L e0 (lvl (sp_W S)) (-1) 0 (fun _ => 0) 0 (Int.le_refl 0) (by omega)
    rw [hq]
    refine z.trans ?_
    rw [← hL, show L - 0 - L = 0 by omega, Int.pow_zero, Int.pow_zero, Int.one_mul, Int.one_mul]
    rfl
  have qr : ∀ g f, ol_r (q g f) := fun g f => by
    have a := @nb_r (sp_W S) h (lvl (sp_W S)) (-1) 0 (fun _ => 0) 0 g f
    rw [← hq, ← hL] at a
    have := @pw_le L 12 (by omega)
    exact ⟨by omega, by omega⟩
  refine ol_Ri (q := q_X0_above) (by decide +kernel) (Nat.le_of_ble_eq_true rfl) rfl (fun Rt Aq hA hr => b_X0_above_0 hA c h e M ?_)
  rw [← val] at hr
  have outer : Aq 6 [some (.inr (.inr 85)), some (.inl c), some (.inl h), some (.inl e), some (.inr (.inl (asum q c e L (Int.toNat 0)))), none, some (.inl 0), none, none, none] [] M := by
    refine ol_loop (P := fun g => Aq 6 [some (.inr (.inr 85)), some (.inl c), some (.inl h), some (.inl e), some (.inr (.inl (asum q c e L g.toNat))), none, some (.inl g), none, none, none] [] M) (a := 0) (b := (L : Int) + 1) (by omega) (fun g g0 g1 hg => ?_) ?_
    · rw [show (g + 1).toNat = g.toNat + 1 by omega] at hg
      unfold asum at hg
      simp only [sm] at hg
      rw [Int.toNat_of_nonneg g0] at hg
      refine b_X0_above_6 hA c h e _ g M ?_
      rw [x6]
      refine ⟨⟨by omega, by omega⟩, ⟨by omega, by omega⟩, ol_if.neg (by omega) ?_⟩
      have inner : Aq 21 [some (.inr (.inr 85)), some (.inl c), some (.inl h), some (.inl e), some (.inr (.inl (asum q c e L g.toNat))), none, some (.inl g), some (.inr (.inl (sm (q g) (Int.toNat 0)))), none, some (.inl 0)] [] M := by
        refine ol_loop (P := fun f => Aq 21 [some (.inr (.inr 85)), some (.inl c), some (.inl h), some (.inl e), some (.inr (.inl (asum q c e L g.toNat))), none, some (.inl g), some (.inr (.inl (sm (q g) f.toNat))), none, some (.inl f)] [] M) (a := 0) (b := e + 1) (by omega) (fun f f0 f1 hf => ?_) ?_
        · rw [show (f + 1).toNat = f.toNat + 1 by omega] at hf
          simp only [sm] at hf
          rw [Int.toNat_of_nonneg f0] at hf
          have ev : M (103 + h) (g * 13 + f) = q g f := by rw [hq]; exact x.2 h h0 h1 g f g0 (by omega) f0 (by omega)
          refine b_X0_above_21 hA c h e _ g _ f M ?_
          rw [ev]
          exact ⟨⟨by omega, by omega⟩, ⟨by omega, by omega⟩, ol_if.neg (by omega) ⟨⟨by omega, by omega⟩, ol_if.neg (by omega) ⟨h0, by omega, by omega, by omega, qr g f, hf⟩⟩⟩
        · refine b_X0_above_21 hA c h e _ g _ (e + 1) M ?_
          rw [x6]
          exact ⟨⟨by omega, by omega⟩, ⟨by omega, by omega⟩, ol_if.pos (by omega) ⟨⟨by omega, by omega⟩, ⟨by omega, by omega⟩, ⟨by omega, by omega⟩, ⟨by omega, by omega⟩, hg⟩⟩
      exact inner
    · refine b_X0_above_6 hA c h e _ _ M ?_
      rw [x6]
      refine ⟨⟨by omega, by omega⟩, ⟨by omega, by omega⟩, ol_if.pos (by omega) ?_⟩
      rw [show ((L : Int) + 1).toNat = L + 1 by omega]
      exact hr
  exact outer
