theorem ol_or_nat {a b : Nat} (ha : a < 2 ^ 31) (hb : b < 2 ^ 31) : ol_or (a : Int) (b : Int) = ((a ||| b : Nat) : Int) := by
  have hc : a ||| b < 2 ^ 31 := Nat.or_lt_two_pow ha hb
  unfold ol_or
  rw [← Int32.toInt_toBitVec, Int32.toBitVec_or]
  have e : ∀ c : Nat, c < 2 ^ 31 → (Int32.ofInt (c : Int)).toBitVec = BitVec.ofNat 32 c := fun c hc => by
    apply BitVec.eq_of_toNat_eq
    show (BitVec.ofInt 32 (c : Int)).toNat = _
    rw [BitVec.toNat_ofInt, BitVec.toNat_ofNat]
    omega
  rw [e a ha, e b hb, BitVec.toInt_eq_toNat_of_lt]
  · rw [BitVec.toNat_or, BitVec.toNat_ofNat, BitVec.toNat_ofNat, Nat.mod_eq_of_lt (by omega), Nat.mod_eq_of_lt (by omega)]
  · rw [BitVec.toNat_or, BitVec.toNat_ofNat, BitVec.toNat_ofNat, Nat.mod_eq_of_lt (by omega), Nat.mod_eq_of_lt (by omega)]
    omega
theorem pw_le {k u : Nat} (h : k ≤ u) : (1 : Int) ≤ 2 ^ k ∧ (2 : Int) ^ k ≤ 2 ^ u := by
  have a : 1 ≤ 2 ^ k := Nat.one_le_two_pow
  have b : 2 ^ k ≤ 2 ^ u := Nat.pow_le_pow_right (by decide) h
  exact ⟨by exact_mod_cast a, by exact_mod_cast b⟩
theorem ol_or_0 {a : Int} (a0 : 0 ≤ a) (a1 : a < 2 ^ 31) : ol_or a 0 = a := by
  obtain ⟨n, rfl⟩ := Int.eq_ofNat_of_zero_le a0
  have := @ol_or_nat n 0 (by omega) (by decide)
  rw [Nat.or_zero] at this
  exact this
theorem ol_or_p {a : Int} {k : Nat} (hk : k < 31) (a0 : 0 ≤ a) (a1 : a < 2 ^ k) : ol_or a (1 * 2 ^ k) = a + 2 ^ k := by
  obtain ⟨n, rfl⟩ := Int.eq_ofNat_of_zero_le a0
  have h1 : n < 2 ^ k := by exact_mod_cast a1
  have h2 : 2 ^ k < 2 ^ 31 := Nat.pow_lt_pow_right (by decide) hk
  have := @ol_or_nat n (2 ^ k) (by omega) h2
  have e := Nat.two_pow_add_eq_or_of_lt h1 1
  rw [Nat.mul_one] at e
  rw [Nat.or_comm, ← e] at this
  rw [Int.one_mul]
  have c : ((2 ^ k : Nat) : Int) = 2 ^ k := by exact_mod_cast rfl
  rw [c] at this
  rw [this]
  omega
/-- the number whose bits are the truth of f at 0 .. k - 1 -/
def bs (f : Int → Int) : Nat → Int
  | 0 => 0
  | k + 1 => if f k = 0 then bs f k else bs f k + 2 ^ k
theorem bs_r {f : Int → Int} : ∀ k, 0 ≤ bs f k ∧ bs f k < 2 ^ k := by
  intro k
  induction k with
  | zero => exact ⟨Int.le_refl 0, (by decide : (0 : Int) < 2 ^ 0)⟩
  | succ k ih =>
    unfold bs
    have e : (2 : Int) ^ (k + 1) = 2 ^ k * 2 := Int.pow_succ 2 k
    split <;> omega
theorem bs_0 {f : Int → Int} {k : Nat} (hk : k < 31) (h : f k = 0) : ol_or (bs f k) 0 = bs f (k + 1) := by
  have a := @bs_r f k
  have b := (@pw_le k 31 (by omega)).2
  rw [ol_or_0 a.1 (by omega)]
  exact (if_pos h).symm
theorem bs_1 {f : Int → Int} {k : Nat} (hk : k < 31) (h : f k ≠ 0) : ol_or (bs f k) (1 * 2 ^ k) = bs f (k + 1) := by
  have a := @bs_r f k
  rw [ol_or_p hk a.1 a.2]
  exact (if_neg h).symm
theorem bs_bit {f : Int → Int} : ∀ (k j : Nat), j < k → (bs f k / 2 ^ j % 2 = 1 ↔ f j ≠ 0) := by
  intro k
  induction k with
  | zero => intro j h; omega
  | succ k ih =>
    intro j h
    unfold bs
    have r := @bs_r f k
    by_cases c : j = k
    · subst c
      have p := (@pw_le j j (Nat.le_refl _)).1
      split
      · rename_i d
        rw [Int.ediv_eq_zero_of_lt r.1 r.2]
        exact ⟨fun q => by omega, fun q => absurd d q⟩
      · rename_i d
        rw [Int.add_ediv_of_dvd_right (Int.dvd_refl _), Int.ediv_eq_zero_of_lt r.1 r.2, Int.ediv_self (by omega)]
        exact ⟨fun _ => d, fun _ => by decide⟩
    · have i := ih j (by omega)
      split
      · exact i
      · obtain ⟨e, he⟩ : ∃ e, k = j + 1 + e := ⟨k - j - 1, by omega⟩
        have p := (@pw_le j j (Nat.le_refl _)).1
        have q : (2 : Int) ^ k = 2 ^ j * (2 * 2 ^ e) := by rw [he, Int.pow_add, Int.pow_succ, Int.mul_assoc]
        rw [q, Int.add_mul_ediv_left _ _ (by omega), ← i]
        omega
/-! say, most, papers -/
def sy (S : ol_M) (st : Int → Int) (h e : Int) : Nat → Int
  | 0 => -1
  | k + 1 => if (sp_mn S k = e ∧ rn_lack (sp_W S) h k 0 st = 0) ∧ (sy S st h e k = -1 ∨ sp_ln S k < sp_ln S (sy S st h e k)) then k else sy S st h e k
theorem sy_r {S : ol_M} {st : Int → Int} {h e : Int} : ∀ k : Nat, -1 ≤ sy S st h e k ∧ sy S st h e k < k := by
  intro k
  induction k with
  | zero => exact ⟨Int.le_refl _, (by decide : (-1 : Int) < (0 : Nat))⟩
  | succ k ih => unfold sy; split <;> omega
noncomputable def sp_say (S : ol_M) (m h e : Int) : Int × ol_M := (if (0 ≤ m ∧ m ≤ 11) ∧ (0 ≤ h ∧ h < sp_nH S) ∧ (0 ≤ e ∧ e ≤ 9) then sy S (rn_lv (sp_W S) (m + 1).toNat 0) h e (sp_nT S).toNat else -2, S)
theorem m_sayOf {n : Nat} {S M : ol_M} (hs : sp_ok S) (z : mz S M) {m h e : Int} (m0 : 0 ≤ m) (m1 : m < 12) (h0 : 0 ≤ h) (h1 : h < 8) (re : ol_r e) : ∃ M', ol_R (ol_lay n) 5 q_X9_sayOf [.inr (.inr 132), .inl m, .inl h, .inl e] M (some (.inl (sy S (rn_lv (sp_W S) (m + 1).toNat 0) h e (sp_nT S).toNat))) M' ∧ fr_s M M' := by
  have w := sp_W_k hs
  obtain ⟨M1, r, x, f⟩ := @m_lives n _ M w z.2.1 m (by omega) m1
  obtain ⟨st, hst⟩ : ∃ y, y = rn_lv (sp_W S) (m + 1).toNat := ⟨_, rfl⟩
  have hb := (rn_lv_b w (m + 1).toNat).1.up (show (589 : Int) ≤ 1000 by decide)
  rw [← hst] at x hb ⊢
  have z1 := z.fr f
  have e9 := z1.nT
  have nr := sp_nT_r S
  refine ⟨M1, ol_Ri (q := q_X9_sayOf) (by decide +kernel) (Nat.le_of_ble_eq_true rfl) (Or.inl rfl) (fun Rt A hA hr => b_X9_sayOf_0 hA m h e M ⟨M1, r, ?_⟩), f⟩
  show A 11 [some (.inr (.inr 132)), none, some (.inl h), some (.inl e), some (.inl (sy S (st 0) h e (Int.toNat 0))), some (.inl 0), none] [] M1
  refine ol_loop (P := fun t => A 11 [some (.inr (.inr 132)), none, some (.inl h), some (.inl e), some (.inl (sy S (st 0) h e t.toNat)), some (.inl t), none] [] M1) (a := 0) (b := sp_nT S) nr.1 (fun t t0 t1 ht => ?_) ?_
  · rw [show (t + 1).toNat = t.toNat + 1 by omega] at ht
    simp only [sy] at ht
    rw [Int.toNat_of_nonneg t0] at ht
    have yr := @sy_r S (st 0) h e t.toNat
    obtain ⟨b, hbb⟩ : ∃ y, y = sy S (st 0) h e t.toNat := ⟨_, rfl⟩
    rw [← hbb] at ht yr ⊢
    obtain ⟨a1, a2, -, -⟩ := z1.2.2 t t0 t1
    have tr := sp_term t0 t1
    have lr := @rn_lack_r _ w h t 0 (st 0) hb h0 h1 t0 t1
    have no : ¬ (sp_mn S t = e ∧ rn_lack (sp_W S) h t 0 (st 0) = 0) → A 47 [some (.inr (.inr 132)), none, some (.inl h), some (.inl e), some (.inl b), some (.inl t), none] [.inl 0] M1 := fun c => by
      rw [if_neg (fun q => c q.1)] at ht
      exact b_X9_sayOf_47 hA h e b t 0 M1 (ol_if.pos rfl ht)
    refine b_X9_sayOf_11 hA h e b t M1 ?_
    rw [e9, show M1 142 t = sp_mn S t from a2]
    refine ⟨⟨by omega, by omega⟩, ⟨by omega, by omega⟩, ol_if.neg (by omega) ⟨t0, by omega, ol_if.mk (fun c => ⟨_, M1, m_lacksFor w z1.2.1 x hb h0 h1 t0 t1 (Or.inl rfl), ol_if.mk (fun d => ?_) (fun d => ⟨⟨by omega, by omega⟩, no (fun q => d q.2)⟩)⟩) (fun c => ⟨⟨by omega, by omega⟩, re, no (fun q => c q.1)⟩)⟩⟩
    refine b_X9_sayOf_47 hA h e b t 1 M1 (ol_if.neg (by decide) ⟨⟨by decide, by decide⟩, ol_if.mk (fun g => ?_) (fun g => ?_)⟩)
    · rw [if_pos ⟨⟨c, d⟩, Or.inl g⟩] at ht
      exact ht
    · have br := sp_term (S := S) (show 0 ≤ b by omega) (by omega)
      rw [show M1 141 t = sp_ln S t from a1, show M1 141 b = sp_ln S b from (z1.2.2 b (by omega) (by omega)).1]
      refine ⟨⟨by omega, by omega⟩, t0, by omega, by omega, by omega, ⟨by omega, by omega⟩, ⟨by omega, by omega⟩, ol_if.mk (fun i => ?_) (fun i => ?_)⟩
      · rw [if_neg (fun q => by omega)] at ht
        exact ht
      · rw [if_pos ⟨⟨c, d⟩, Or.inr (by omega)⟩] at ht
        exact ht
  · refine b_X9_sayOf_11 hA h e _ (sp_nT S) M1 ?_
    rw [e9]
    exact ⟨⟨by omega, by omega⟩, ⟨by omega, by omega⟩, ol_if.pos (by omega) hr⟩
theorem m_say {n : Nat} {S M : ol_M} (i : im S M) (hs : sp_ok S) {m h e : Int} (r1 : ol_r m) (r2 : ol_r h) (r3 : ol_r e) : m_ok n 6 q_X9_say [.inl m, .inl h, .inl e] S M (sp_say S m h e) := by
  obtain ⟨M1, r, z, f⟩ := @m_find n S M i hs
  have nr := sp_nH_r hs.1
  have e7 := z.nH
  unfold sp_say
  apply m_ok.of
  by_cases c : (0 ≤ m ∧ m ≤ 11) ∧ (0 ≤ h ∧ h < sp_nH S) ∧ (0 ≤ e ∧ e ≤ 9)
  · rw [if_pos c]
    obtain ⟨M2, q, g⟩ := @m_sayOf n _ M1 hs z m h e c.1.1 (by omega) c.2.1.1 (by omega) r3
    refine ⟨M2, ol_Ri (q := q_X9_say) (by decide +kernel) (Nat.le_of_ble_eq_true rfl) (Or.inl rfl) (fun Rt A hA hr => b_X9_say_0 hA m h e M ⟨M1, r, ?_⟩), (z.fr g).1, f.tr g.fm⟩
    rw [e7]
    exact ⟨r1, ol_if.pos c.1 ⟨r2, ⟨by omega, by omega⟩, ol_if.pos c.2.1 ⟨r3, ol_r_l r3, ol_if.pos c.2.2 ⟨_, M2, q, hr⟩⟩⟩⟩
  · rw [if_neg c]
    refine ⟨M1, ol_Ri (q := q_X9_say) (by decide +kernel) (Nat.le_of_ble_eq_true rfl) (Or.inl rfl) (fun Rt A hA hr => b_X9_say_0 hA m h e M ⟨M1, r, ?_⟩), z.1, f⟩
    rw [e7]
    exact ⟨r1, ol_if.mk (fun d1 => ⟨r2, ⟨by omega, by omega⟩, ol_if.mk (fun d2 => ⟨r3, ol_r_l r3, ol_if.neg (fun d3 => c ⟨d1, d2, d3⟩) hr⟩) (fun _ => hr)⟩) (fun _ => hr)⟩
