theorem ol_andl_nat {a : Nat} (ha : a < 2 ^ 62) : ol_andl (a : Int) 1 = ((a % 2 : Nat) : Int) := by
  unfold ol_andl
  rw [← Int64.toInt_toBitVec, Int64.toBitVec_and]
  have e : ∀ c : Nat, c < 2 ^ 62 → (Int64.ofInt (c : Int)).toBitVec = BitVec.ofNat 64 c := fun c hc => by
    apply BitVec.eq_of_toNat_eq
    show (BitVec.ofInt 64 (c : Int)).toNat = _
    rw [BitVec.toNat_ofInt, BitVec.toNat_ofNat]
    omega
  have e1 : (Int64.ofInt 1).toBitVec = BitVec.ofNat 64 1 := e 1 (by decide)
  rw [e a ha, e1, BitVec.toInt_eq_toNat_of_lt]
  · rw [BitVec.toNat_and, BitVec.toNat_ofNat, BitVec.toNat_ofNat, Nat.mod_eq_of_lt (show a < 2 ^ 64 by omega), Nat.mod_eq_of_lt (show 1 < 2 ^ 64 by decide), Nat.and_one_is_mod]
  · rw [BitVec.toNat_and, BitVec.toNat_ofNat, BitVec.toNat_ofNat, Nat.mod_eq_of_lt (show a < 2 ^ 64 by omega), Nat.mod_eq_of_lt (show 1 < 2 ^ 64 by decide), Nat.and_one_is_mod]
    omega
theorem cop_odd {a k : Nat} (h : a % 2 = 1) : Nat.gcd a (2 ^ k) = 1 := by
  have c : Nat.Coprime a 2 := by
    show Nat.gcd a 2 = 1
    rw [Nat.gcd_comm, Nat.gcd_rec, h]
    rfl
  exact Nat.Coprime.pow_right k c
/-- what halving leaves -/
theorem half_end {a b i k : Nat} (h1 : b * 2 ^ i = a) (h2 : i ≤ k) (h3 : b % 2 = 1 ∨ i = k) : a / Nat.gcd a (2 ^ k) = b ∧ 2 ^ k / Nat.gcd a (2 ^ k) = 2 ^ (k - i) := by
  have e : 2 ^ k = 2 ^ (k - i) * 2 ^ i := by rw [← Nat.pow_add]; congr 1; omega
  have g : Nat.gcd b (2 ^ (k - i)) = 1 := by
    rcases h3 with h | h
    · exact cop_odd h
    · rw [h, Nat.sub_self, Nat.pow_zero, Nat.gcd_one_right]
  have g2 : Nat.gcd a (2 ^ k) = 2 ^ i := by
    rw [← h1, e, Nat.gcd_mul_right, g, Nat.one_mul]
  have p : 0 < 2 ^ i := Nat.pow_pos (by decide)
  rw [g2]
  refine ⟨?_, ?_⟩
  · rw [← h1, Nat.mul_div_cancel _ p]
  · rw [e, Nat.mul_div_cancel _ p]
theorem x_halve {n : Nat} {M : ol_M} {w : Int} {a k : Nat} (rw' : ol_r w) (ha : a < 2 ^ 62) (hk : k ≤ 48) : ol_T n q_X8_censor 17 105 [none, none, none, none, some (.inl w), some (.inr (.inl (a : Int))), none, some (.inr (.inl ((2 ^ k : Nat) : Int))), none, some (.inl 0)] [] M (some (.inr (.inl (if w = 0 then ((a / Nat.gcd a (2 ^ k) : Nat) : Int) else ((2 ^ k / Nat.gcd a (2 ^ k) : Nat) : Int))))) M := by
  intro Rt Aq hA hr
  have key : ∀ (u i b : Nat), i + u = 48 → i ≤ k → b * 2 ^ i = a → Aq 105 [none, none, none, none, some (.inl w), some (.inr (.inl (b : Int))), none, some (.inr (.inl ((2 ^ (k - i) : Nat) : Int))), none, some (.inl (i : Int))] [] M := by
    intro u
    induction u with
    | zero =>
      intro i b hu hi hb
      obtain ⟨e1, e2⟩ := half_end hb hi (Or.inr (by omega))
      rw [e1, e2] at hr
      refine b_X8_censor_105 hA w _ _ i M ⟨⟨by omega, by omega⟩, ol_if.pos (by omega) (ol_if.mk (fun d => ?_) (fun d => ⟨rw', ?_⟩))⟩
      · rw [if_pos d] at hr; exact hr
      · rw [if_neg d] at hr; exact hr
    | succ u ih =>
      intro i b hu hi hb
      have p : 1 ≤ 2 ^ i := Nat.one_le_two_pow
      have ba : b ≤ a := by rw [← hb]; exact Nat.le_mul_of_pos_right b p
      have pk : 2 ^ (k - i) ≤ 2 ^ 48 := Nat.pow_le_pow_right (by decide) (by omega)
      have rl2 : ol_rl ((2 ^ (k - i) : Nat) : Int) := by
        generalize 2 ^ (k - i) = K at pk
        exact ⟨by omega, by omega⟩
      have stop : (b % 2 = 1 ∨ i = k) → ol_if (w = 0) (Rt (some (.inr (.inl (b : Int)))) M) (ol_r w ∧ Rt (some (.inr (.inl ((2 ^ (k - i) : Nat) : Int)))) M) := fun h => by
        obtain ⟨e1, e2⟩ := half_end hb hi h
        rw [e1, e2] at hr
        refine ol_if.mk (fun d => ?_) (fun d => ⟨rw', ?_⟩)
        · rw [if_pos d] at hr; exact hr
        · rw [if_neg d] at hr; exact hr
      refine b_X8_censor_105 hA w _ _ i M ?_
      rw [ol_andl_nat (show b < 2 ^ 62 by omega), ol_andl_nat (show 2 ^ (k - i) < 2 ^ 62 by omega)]
      refine ⟨⟨by omega, by omega⟩, ol_if.neg (by omega) (ol_if.mk (fun c => ol_if.mk (fun d => ⟨⟨by omega, by omega⟩, rl2, ?_⟩) (fun d => ⟨⟨by omega, by omega⟩, stop ?_⟩)) (fun c => ⟨⟨by omega, by omega⟩, stop (Or.inl (by omega))⟩))⟩
      · have ik : i < k := by
          by_cases z : i = k
          · rw [z, Nat.sub_self] at d; exact absurd d (by decide)
          · omega
        have e1 : (b : Int) / 2 ^ (Int.toNat 1) = ((b / 2 : Nat) : Int) := by
          show (b : Int) / 2 = _
          omega
        have e2 : ((2 ^ (k - i) : Nat) : Int) / 2 ^ (Int.toNat 1) = ((2 ^ (k - (i + 1)) : Nat) : Int) := by
          show ((2 ^ (k - i) : Nat) : Int) / 2 = _
          have : 2 ^ (k - i) = 2 ^ (k - (i + 1)) * 2 := by rw [← Nat.pow_succ]; congr 1; omega
          omega
        rw [e1, e2, show (i : Int) + 1 = ((i + 1 : Nat) : Int) by omega]
        refine ih (i + 1) (b / 2) (by omega) (by omega) ?_
        rw [Nat.pow_succ, Nat.mul_comm (2 ^ i) 2, ← Nat.mul_assoc, ← hb]
        congr 1
        omega
      · by_cases z : i = k
        · exact Or.inr z
        · have : 2 ^ (k - i) = 2 ^ (k - i - 1) * 2 := by rw [← Nat.pow_succ]; congr 1; omega
          omega
  exact key 48 0 a (by decide) (by omega) (by rw [Nat.pow_zero, Nat.mul_one])
theorem bw_r {W : ol_M} {h e c : Int} (c0 : 0 ≤ c) (c1 : c ≤ 16) : ∀ (r : List Int) (σ : Int × (Int → Int) × Int), 0 ≤ bw W h e c r σ ∧ bw W h e c r σ ≤ 16 ^ r.length := by
  intro r
  induction r with
  | nil =>
    intro σ
    show 0 ≤ (if σ.2.2 ≤ e then (1 : Int) else 0) ∧ (if σ.2.2 ≤ e then (1 : Int) else 0) ≤ 16 ^ 0
    split <;> decide
  | cons k r ih =>
    intro σ
    have a := ih (sg W h (fun _ => 1) σ k)
    have b := ih (sg W h (fun _ => 0) σ k)
    have e : (16 : Int) ^ (r.length + 1) = 16 ^ r.length * 16 := Int.pow_succ 16 r.length
    show 0 ≤ (16 - c) * bw W h _ c r (sg W h (fun _ => 1) σ k) + c * bw W h _ c r (sg W h (fun _ => 0) σ k) ∧ (16 - c) * bw W h _ c r (sg W h (fun _ => 1) σ k) + c * bw W h _ c r (sg W h (fun _ => 0) σ k) ≤ 16 ^ (r.length + 1)
    have m1 := Int.mul_nonneg (show 0 ≤ 16 - c by omega) a.1
    have m2 := Int.mul_nonneg c0 b.1
    have m3 := Int.mul_le_mul_of_nonneg_left a.2 (show 0 ≤ 16 - c by omega)
    have m4 := Int.mul_le_mul_of_nonneg_left b.2 c0
    have m5 : (16 - c) * (16 : Int) ^ r.length + c * 16 ^ r.length = 16 ^ r.length * 16 := by
      rw [← Int.add_mul, show 16 - c + c = 16 by omega, Int.mul_comm]
    exact ⟨by omega, by omega⟩
theorem cen_val {S : ol_M} (hs : sp_ok S) {c h e x : Int} (c0 : 0 ≤ c) (c1 : c ≤ 16) : sp_cen S c h e x = if x = 0 then (((xab S c h e).toNat / Nat.gcd (xab S c h e).toNat (2 ^ (4 * (lvl (sp_W S)).length)) : Nat) : Int) else ((2 ^ (4 * (lvl (sp_W S)).length) / Nat.gcd (xab S c h e).toNat (2 ^ (4 * (lvl (sp_W S)).length)) : Nat) : Int) := by
  have w := sp_W_k hs
  have len : (lvl (sp_W S)).length ≤ (S 0 2).toNat := lvl_len
  have b := @bw_r (sp_W S) h e c c0 c1 (lvl (sp_W S)) sg0
  have ab := @above_bw (sp_W S) w c h e
  obtain ⟨α, hα⟩ : ∃ z, z = (xab S c h e).toNat := ⟨_, rfl⟩
  have hx : xab S c h e = α := by rw [hα]; unfold xab; omega
  obtain ⟨L, hL⟩ : ∃ z, z = (lvl (sp_W S)).length := ⟨_, rfl⟩
  obtain ⟨N, hN⟩ : ∃ z, z = (S 0 2).toNat := ⟨_, rfl⟩
  have e1 : rn_above (sp_W S) c h e = ((16 ^ (N - L) * α : Nat) : Int) := by
    rw [ab, show (sp_W S 10 0).toNat = N from hN.symm, ← hL]
    show 16 ^ (N - L) * xab S c h e = _
    rw [hx]
    exact_mod_cast rfl
  have e2 : 2 ^ (4 * N) = 16 ^ (N - L) * 2 ^ (4 * L) := by
    rw [show (16 : Nat) = 2 ^ 4 from rfl, ← Nat.pow_mul, ← Nat.pow_add]
    congr 1
    omega
  have p : 0 < 16 ^ (N - L) := Nat.pow_pos (by decide)
  unfold sp_cen
  rw [e1, ← hN, ← hL, Int.toNat_natCast, e2, Nat.gcd_mul_left, Nat.mul_div_mul_left _ _ p, Nat.mul_div_mul_left _ _ p, ← hα]
theorem x_chance {n : Nat} {S M : ol_M} (i : ix S M) (hs : sp_ok S) : ∃ M1, ix S M1 ∧ xch S M1 ∧ fx M M1 ∧ ∀ (c h e x a : Int) (M2 : ol_M) {Rt : Option ol_V → ol_M → Prop} {A : Nat → ol_Ls → ol_St → ol_M → Prop} (hA : ol_C q_X8_censor.1.cls q_X8_censor.2.1 17 (ol_lay n) Rt A), ol_R (ol_lay n) 2 q_X0_above [.inr (.inr 85), .inl c, .inl h, .inl e] M1 (some (.inr (.inl a))) M2 → ol_if (a = 0) (ol_r x ∧ Rt (some (.inr (.inl x))) M2) (ol_rl a ∧ ol_r (M2 85 6) ∧ A 105 [none, none, none, none, some (.inl x), some (.inr (.inl a)), none, some (.inr (.inl (16 ^ (Int.toNat (M2 85 6))))), none, some (.inl 0)] [] M2) → A 45 [some (.inr (.inr 0)), some (.inl c), some (.inl h), some (.inl e), some (.inl x), none, none, none, none, none] [] M := by
  rcases id i.2.2 with q | q
  · obtain ⟨M5, r5, x5, f5⟩ := @x_countAll n S M i hs
    have e : ∀ c, c ≠ 0 → c ≠ 85 → ¬ (86 ≤ c ∧ c ≤ 110) → ol_ms M5 0 11 0 c = M c := fun c a b d => by rw [ol_ms_ne _ _ _ a]; exact f5 c b d
    have e0 : ∀ j, j ≠ 11 → ol_ms M5 0 11 0 0 j = M 0 j := fun j a => by rw [ol_ms_i _ _ _ a, f5 0 (by decide) (by decide)]
    have x1 : xch S (ol_ms M5 0 11 0) := x5.keep hs.1 ws.rf (ol_ms_ne _ _ _ (by decide)) (fun c a b => ol_ms_ne _ _ _ (by omega))
    exact ⟨ol_ms M5 0 11 0, ⟨i.1.lo (fun c a b => e c (by omega) (by omega) (by omega)) (e0 9 (by decide)) (fun c a b => e c (by omega) (by omega) (by omega)), i.2.1.keep ws.rf (e0 10 (by decide)) (fun c a b => e c (by omega) (by omega) (by omega)), Or.inr ⟨ol_msA _ _ _ _, x1⟩⟩, x1, fun k q => e k (by omega) (by omega) (by omega), fun c h e x a M2 {_} {_} hA ha hr => b_X8_censor_45 hA c h e x M (ol_if.neg (by omega) ⟨⟨by omega, by omega⟩, M5, r5, a, M2, ha, hr⟩)⟩
  · exact ⟨M, i, q.2, fx.rf, fun c h e x a M2 {_} {_} hA ha hr => b_X8_censor_45 hA c h e x M (ol_if.pos q.1 ⟨a, M2, ha, hr⟩)⟩
theorem x_censor {n : Nat} {S M : ol_M} (i : ix S M) (hs : sp_ok S) {c h e x : Int} (r1 : ol_r c) (r2 : ol_r h) (r3 : ol_r e) (r4 : ol_r x) : x_okl n 18 q_X8_censor [.inl c, .inl h, .inl e, .inl x] S M (sp_censor S c h e x) := by
  have nh := sp_nH_r hs.1
  have nw := hs.w.1
  unfold sp_censor x_okl
  by_cases d : (0 ≤ c ∧ c ≤ 16) ∧ (0 ≤ h ∧ h < sp_nH S) ∧ (0 ≤ e ∧ e ≤ 12) ∧ (0 ≤ x ∧ x ≤ 1)
  · rw [if_pos d]
    obtain ⟨M1, i1, x1, f1, go⟩ := @x_chance n S M i hs
    have ha := @x_above n S M1 hs x1 c h e d.1.1 d.1.2 d.2.1.1 d.2.1.2 d.2.2.1.1 d.2.2.1.2
    have len : (lvl (sp_W S)).length ≤ (S 0 2).toNat := lvl_len
    have b := @bw_r (sp_W S) h e c d.1.1 d.1.2 (lvl (sp_W S)) sg0
    have b16 : (16 : Int) ^ (lvl (sp_W S)).length ≤ 2 ^ 48 := by
      have a2 : 16 ^ (lvl (sp_W S)).length ≤ 16 ^ 12 := Nat.pow_le_pow_right (by decide) (by omega)
      have a3 : 16 ^ (lvl (sp_W S)).length ≤ 2 ^ 48 := a2
      exact_mod_cast a3
    have xr : 0 ≤ xab S c h e ∧ xab S c h e ≤ 2 ^ 48 := by unfold xab; omega
    refine ⟨M1, ol_Ri (q := q_X8_censor) (by decide +kernel) (Nat.le_of_ble_eq_true rfl) rfl (fun Rt Aq hA hr => b_X8_censor_0 hA c h e x M ?_), i1, f1⟩
    rw [i.nH]
    refine ⟨r1, ol_if.pos (by omega) ⟨r2, ⟨by omega, by omega⟩, ol_if.pos d.2.1 ⟨r3, ol_if.pos (by omega) ⟨r4, ol_if.pos (by omega) (go c h e x _ M1 hA ha ?_)⟩⟩⟩⟩
    rw [x1.1]
    show ol_if (xab S c h e = 0) _ _
    have hr' := hr
    rw [show ((sp_cen S c h e x, S) : Int × ol_M).1 = sp_cen S c h e x from rfl, cen_val hs d.1.1 d.1.2] at hr'
    refine ol_if.mk (fun z => ⟨r4, ?_⟩) (fun z => ⟨⟨by omega, by omega⟩, ⟨by omega, by omega⟩, ?_⟩)
    · have p : 0 < 2 ^ (4 * (lvl (sp_W S)).length) := Nat.pow_pos (by decide)
      rw [z, show Int.toNat 0 = 0 from rfl, Nat.gcd_zero_left, Nat.zero_div, Nat.div_self p] at hr'
      by_cases g : x = 0
      · rw [if_pos g] at hr'
        rw [g]; exact hr'
      · rw [if_neg g] at hr'
        rw [show x = 1 by omega]; exact hr'
    · have e1 : xab S c h e = (((xab S c h e).toNat : Nat) : Int) := by omega
      have e2 : (16 : Int) ^ (Int.toNat ((lvl (sp_W S)).length : Int)) = ((2 ^ (4 * (lvl (sp_W S)).length) : Nat) : Int) := by
        rw [Int.toNat_natCast, Nat.pow_mul]
        exact_mod_cast rfl
      rw [e2]
      have t := @x_halve n M1 x (xab S c h e).toNat (4 * (lvl (sp_W S)).length) r4 (by omega) (by omega) Rt Aq hA hr'
      rw [← e1] at t
      exact t
  · rw [if_neg d]
    refine ⟨M, ol_Ri (q := q_X8_censor) (by decide +kernel) (Nat.le_of_ble_eq_true rfl) rfl (fun Rt Aq hA hr => b_X8_censor_0 hA c h e x M ?_), i, fx.rf⟩
    rw [i.nH]
    exact ⟨r1, ol_if.mk (fun d1 => ⟨r2, ⟨by omega, by omega⟩, ol_if.mk (fun d2 => ⟨r3, ol_if.mk (fun d3 => ⟨r4, ol_if.neg (fun d4 => d ⟨⟨d1.1, by omega⟩, d2, ⟨d3.1, by omega⟩, by omega⟩) hr⟩) (fun _ => hr)⟩) (fun _ => hr)⟩) (fun _ => hr)⟩
