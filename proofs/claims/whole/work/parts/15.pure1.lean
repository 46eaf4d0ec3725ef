/-! SMALL METHODS THAT CHANGE NOTHING -/
theorem ol_rb1 {P : Prop} [Decidable P] {Rt : Option ol_V → ol_M → Prop} {M : ol_M} (hr : Rt (some (.inl (ol_b P))) M) (h : P) : Rt (some (.inl 1)) M := by rw [ol_b1 h] at hr; exact hr
theorem ol_rb0 {P : Prop} [Decidable P] {Rt : Option ol_V → ol_M → Prop} {M : ol_M} (hr : Rt (some (.inl (ol_b P))) M) (h : ¬ P) : Rt (some (.inl 0)) M := by rw [ol_b0 h] at hr; exact hr
theorem ol_rt {a b : Int} {Rt : Option ol_V → ol_M → Prop} {M : ol_M} (hr : Rt (some (.inl a)) M) (h : a = b) : Rt (some (.inl b)) M := h ▸ hr
theorem ol_rtl {a b : Int} {Rt : Option ol_V → ol_M → Prop} {M : ol_M} (hr : Rt (some (.inr (.inl a))) M) (h : a = b) : Rt (some (.inr (.inl b))) M := h ▸ hr
theorem ol_rtm {v : Option ol_V} {Rt : Option ol_V → ol_M → Prop} {M M' : ol_M} (hr : Rt v M) (h : M = M') : Rt v M' := h ▸ hr
theorem ol_r_of {a lo hi : Int} (h0 : lo ≤ a) (h1 : a ≤ hi) (h2 : -2147483648 ≤ lo := by decide) (h3 : hi ≤ 2147483647 := by decide) : ol_r a := ⟨by omega, by omega⟩
theorem p_isBelow {lay : ol_L} {a b : Int} {M : ol_M} (h1 : ol_r a) (h2 : ol_r b) : ol_R lay 1 q_X8_isBelow [.inl a, .inl b] M (some (.inl (ol_b (0 ≤ a ∧ a < b)))) M :=
  ol_Ri (q := q_X8_isBelow) (by decide +kernel) (Nat.le_of_ble_eq_true rfl) (Or.inr ⟨rfl, ol_b01⟩) fun Rt A hA hr => b_X8_isBelow_0 hA a b M ⟨h1, fun c => ol_rb0 hr (by omega), fun c => ⟨h1, h2, fun c => ol_rb0 hr (by omega), fun c => ol_rb1 hr (by omega)⟩⟩
theorem p_isVowel {lay : ol_L} {a : Int} {M : ol_M} (h1 : ol_r a) : ol_R lay 1 q_X8_isVowel [.inl a] M (some (.inl (ol_b (a = 0 ∨ a = 4)))) M :=
  ol_Ri (q := q_X8_isVowel) (by decide +kernel) (Nat.le_of_ble_eq_true rfl) (Or.inr ⟨rfl, ol_b01⟩) fun Rt A hA hr => b_X8_isVowel_0 hA a M ⟨fun c => ol_rb1 hr (by omega), fun c => ⟨h1, fun c => ol_rb1 hr (by omega), fun c => ⟨h1, ol_rb0 hr (by omega)⟩⟩⟩
theorem p_mIsVowel {lay : ol_L} {a : Int} {M : ol_M} (h1 : ol_r a) : ol_R lay 1 q_X9_isVowel [.inl a] M (some (.inl (ol_b (a = 0 ∨ a = 4)))) M :=
  ol_Ri (q := q_X9_isVowel) (by decide +kernel) (Nat.le_of_ble_eq_true rfl) (Or.inr ⟨rfl, ol_b01⟩) fun Rt A hA hr => b_X9_isVowel_0 hA a M ⟨fun c => ol_rb1 hr (by omega), fun c => ⟨h1, fun c => ol_rb1 hr (by omega), fun c => ⟨h1, ol_rb0 hr (by omega)⟩⟩⟩
theorem p_in {lay : ol_L} {a b c : Int} {M : ol_M} (h1 : ol_rl a) (h2 : ol_rl b) (h3 : ol_rl c) : ol_R lay 1 q_X9_in [.inr (.inl a), .inr (.inl b), .inr (.inl c)] M (some (.inl (ol_b (b ≤ a ∧ a ≤ c)))) M :=
  ol_Ri (q := q_X9_in) (by decide +kernel) (Nat.le_of_ble_eq_true rfl) (Or.inr ⟨rfl, ol_b01⟩) fun Rt A hA hr => b_X9_in_0 hA a b c M ⟨h1, h2, fun c => ol_rb0 hr (by omega), fun c => ⟨h1, h3, fun c => ol_rb0 hr (by omega), fun c => ol_rb1 hr (by omega)⟩⟩
theorem p_no {lay : ol_L} {a : Int} {M : ol_M} (h1 : ol_r a) : ol_R lay 1 q_X9_no [.inl a] M (some (.inr (.inl ((-9223372036854775808) - a)))) M :=
  ol_Ri (q := q_X9_no) (by decide +kernel) (Nat.le_of_ble_eq_true rfl) rfl fun Rt A hA hr => b_X9_no_0 hA a M ⟨h1, hr⟩
theorem p_nextSeed {lay : ol_L} {a : Int} {M : ol_M} : ol_R lay 1 q_X8_nextSeed [.inl a] M (some (.inl (1103515245 * a + 12345))) M :=
  ol_Ri (q := q_X8_nextSeed) (by decide +kernel) (Nat.le_of_ble_eq_true rfl) (Or.inl rfl) fun Rt A hA hr => b_X8_nextSeed_0 hA a M hr
theorem p_lesser {lay : ol_L} {a b : Int} {M : ol_M} (h1 : ol_r a) (h2 : ol_r b) : ol_R lay 1 q_X9_lesser [.inl a, .inl b] M (some (.inl (ol_min a b))) M :=
  ol_Ri (q := q_X9_lesser) (by decide +kernel) (Nat.le_of_ble_eq_true rfl) (Or.inl rfl) fun Rt A hA hr => b_X9_lesser_0 hA a b M ⟨h1, h2, fun c => ol_rt hr (by unfold ol_min; split <;> omega), fun c => ol_rt hr (by unfold ol_min; split <;> omega)⟩
theorem p_cut {lay : ol_L} {f v : Int} {M : ol_M} (h1 : ol_r f) : ol_R lay 1 q_X9_cut [.inl f, .inl v] M (some (.inl (ol_cut f v))) M :=
  ol_Ri (q := q_X9_cut) (by decide +kernel) (Nat.le_of_ble_eq_true rfl) (Or.inl rfl) fun Rt A hA hr => b_X9_cut_0 hA f v M ⟨fun c => ol_rt hr (by simp [ol_cut, c]), fun c => ⟨h1, fun d => ol_rt hr (by simp [ol_cut, d]), fun d => ⟨h1, ol_rt hr (by simp [ol_cut, c, d])⟩⟩⟩
theorem ol_and1 (x : Int) : ol_and x 1 = x % 2 := by
  have h := pk_and (Int32.ofInt x) (m := 1) 1 (by decide)
  show (Int32.ofInt x &&& 1).toInt = _
  rw [h]
  have e : ((Int32.ofInt x).toBitVec.toNat : Int) % 2 = x % 2 := by
    rw [ol_bv]
    omega
  rw [nI_toInt (by omega)]
  omega
theorem p_isIn {lay : ol_L} {a k : Int} {M : ol_M} (h1 : ol_r a) (h2 : 0 ≤ k) (h3 : k < 32) : ol_R lay 1 q_X9_isIn [.inl a, .inl k] M (some (.inl (ol_b (a / 2 ^ (Int.toNat k) % 2 = 1)))) M :=
  ol_Ri (q := q_X9_isIn) (by decide +kernel) (Nat.le_of_ble_eq_true rfl) (Or.inr ⟨rfl, ol_b01⟩) fun Rt A hA hr => b_X9_isIn_0 hA a k M ⟨h1, h2, h3, by
    rw [ol_and1]
    exact ⟨fun c => ol_rb1 hr c, fun c => ⟨ol_r_of (lo := 0) (hi := 1) (by omega) (by omega), ol_rb0 hr c⟩⟩⟩
theorem p_power {lay : ol_L} {a k : Int} {M : ol_M} (h1 : ol_r k) : ol_R lay 1 q_X8_power [.inr (.inl a), .inl k] M (some (.inr (.inl (a ^ (Int.toNat k))))) M :=
  ol_Ri (q := q_X8_power) (by decide +kernel) (Nat.le_of_ble_eq_true rfl) rfl fun Rt A hA hr => by
    refine b_X8_power_0 hA a k M ?_
    have key : ∀ (n i : Nat), i + n = k.toNat → A 5 [some (.inr (.inl a)), none, some (.inl k), some (.inr (.inl (a ^ i))), none, some (.inl (i : Int))] [] M := by
      intro n
      induction n with
      | zero =>
        intro i hi
        refine b_X8_power_5 hA a k (a ^ i) i M ⟨ol_r_of (lo := 0) (hi := 2147483647) (by omega) (by have := h1.2; omega), h1, fun c => ol_rtl hr (by rw [show k.toNat = i by omega]), fun c => ?_⟩
        omega
      | succ n ih =>
        intro i hi
        refine b_X8_power_5 hA a k (a ^ i) i M ⟨ol_r_of (lo := 0) (hi := 2147483647) (by omega) (by have := h1.2; omega), h1, fun c => by omega, fun c => ?_⟩
        have e : (a ^ (i + 1) : Int) = a ^ i * a := Int.pow_succ a i
        have z := ih (i + 1) (by omega)
        rw [e] at z
        exact z
    have z := key k.toNat 0 (by omega)
    rw [Int.pow_zero] at z
    exact z
theorem ol_and_pop : ∀ k : Nat, k < 256 → k ≠ 0 → ol_and (k : Int) ((k : Int) - 1) = ((k &&& (k - 1) : Nat) : Int) ∧ ol_pop (k : Int) = ol_pop ((k &&& (k - 1) : Nat) : Int) + 1 ∧ (k &&& (k - 1)) < k := by decide +kernel
theorem p_ones {lay : ol_L} {a : Int} {M : ol_M} (h1 : 0 ≤ a) (h2 : a < 256) : ol_R lay 1 q_X9_ones [.inl a] M (some (.inl (ol_pop a))) M :=
  ol_Ri (q := q_X9_ones) (by decide +kernel) (Nat.le_of_ble_eq_true rfl) (Or.inl rfl) fun Rt A hA hr => by
    refine b_X9_ones_0 hA a M ?_
    have key : ∀ (n k : Nat) (z : Int), k < n → k < 256 → z + ol_pop k = ol_pop a → A 4 [none, some (.inl z), some (.inl (k : Int))] [] M := by
      intro n
      induction n with
      | zero => intro k z h; omega
      | succ n ih =>
        intro k z hk hb hz
        by_cases h0 : k = 0
        · subst h0
          exact b_X9_ones_4 hA z _ M (ol_if.pos rfl (ol_rt hr (by rw [← hz]; show z + 0 = z; omega)))
        · obtain ⟨e1, e2, e3⟩ := ol_and_pop k hb h0
          refine b_X9_ones_4 hA z _ M (ol_if.neg (by omega) ⟨ol_r_of (lo := 0) (hi := 256) (by omega) (by omega), ?_⟩)
          rw [e1]
          exact ih _ _ (by omega) (by omega) (by omega)
    obtain ⟨k, rfl⟩ := Int.eq_ofNat_of_zero_le h1
    exact key (k + 1) k 0 (by omega) (by omega) (by omega)
def ol_bc (i : Int) : Int :=
  let a := i - ol_and ((i % 4294967296) / 2 ^ (Int.toNat 1)) 1431655765
  let b := ol_and a 858993459 + ol_and ((a % 4294967296) / 2 ^ (Int.toNat 2)) 858993459
  let c := ol_and (b + (b % 4294967296) / 2 ^ (Int.toNat 4)) 252645135
  let d := c + (c % 4294967296) / 2 ^ (Int.toNat 8)
  let e := d + (d % 4294967296) / 2 ^ (Int.toNat 16)
  ol_and e 63
theorem ol_bc_pop : ∀ k : Nat, k < 256 → ol_bc (k : Int) = ol_pop (k : Int) := by decide +kernel
theorem p_bitCount {lay : ol_L} {a : Int} {M : ol_M} (h1 : 0 ≤ a) (h2 : a < 256) : ol_R lay 1 q_J6_bitCount_0f7a4 [.inl a] M (some (.inl (ol_pop a))) M :=
  ol_Ri (q := q_J6_bitCount_0f7a4) (by decide +kernel) (Nat.le_of_ble_eq_true rfl) (Or.inl rfl) fun Rt A hA hr => by
    obtain ⟨k, rfl⟩ := Int.eq_ofNat_of_zero_le h1
    rw [← ol_bc_pop k (by omega)] at hr
    exact b_J6_bitCount_0f7a4_0 hA _ M hr
theorem p_isLost {n : Nat} {s : Int} {M : ol_M} (h1 : 0 ≤ s) (h2 : s < 4) (h3 : ol_r (M 113 s)) : ol_R (ol_lay n) 1 q_X4_isLost [.inr (.inr 111), .inl s] M (some (.inl (ol_b (M 113 s = -1)))) M :=
  ol_Ri (q := q_X4_isLost) (by decide +kernel) (Nat.le_of_ble_eq_true rfl) (Or.inr ⟨rfl, ol_b01⟩) fun Rt A hA hr => b_X4_isLost_0 hA s M ⟨h1, h2, fun c => ol_rb1 hr c, fun c => ⟨h3, ol_rb0 hr c⟩⟩
theorem p_item {n : Nat} {s i : Int} {M : ol_M} (h1 : 0 ≤ s) (h2 : s < 4) (h3 : 0 ≤ i) (h4 : i < 60) : ol_R (ol_lay n) 1 q_X4_item [.inr (.inr 111), .inl s, .inl i] M (some (.inl (M (115 + s) i))) M :=
  ol_Ri (q := q_X4_item) (by decide +kernel) (Nat.le_of_ble_eq_true rfl) (Or.inl rfl) fun Rt A hA hr => b_X4_item_0 hA s i M ⟨h1, h2, h3, h4, hr⟩
theorem ol_mp_mp (M : ol_M) (k : Int) (f g : Int → Int) : ol_mp (ol_mp M k f) k g = ol_mp M k g := by
  funext j
  unfold ol_mp
  split <;> simp_all
theorem ol_mp_same (M : ol_M) (k : Int) (f : Int → Int) : ol_mp M k f k = f := if_pos rfl
theorem ol_mp_ne (M : ol_M) {k j : Int} (f : Int → Int) (h : j ≠ k) : ol_mp M k f j = M j := if_neg h
theorem ol_mp_self (M : ol_M) (k : Int) : ol_mp M k (M k) = M := by
  funext j
  unfold ol_mp
  split
  · subst_vars; rfl
  · rfl
theorem ol_ms_mp (M : ol_M) (k : Int) (f : Int → Int) (i v : Int) : ol_ms (ol_mp M k f) k i v = ol_mp M k (ol_rs f i v) := by
  unfold ol_ms
  rw [ol_mp_mp, ol_mp_same]
theorem p_fill {lay : ol_L} {k v : Int} {N : Nat} {M : ol_M} (h1 : lay k = some (.inl N)) (h2 : 0 ≤ k) (hN : N < 1000000) : ol_R lay 1 q_J7_fill_53178 [.inr (.inr k), .inl v] M none (ol_mp M k (ol_fl (M k) v N)) :=
  ol_Ri (q := q_J7_fill_53178) (by decide +kernel) (Nat.le_of_ble_eq_true rfl) rfl fun Rt A hA hr => by
    refine b_J7_fill_53178_0 hN hA k v M h1 h2 ?_
    have key : ∀ (n i : Nat), i + n = N → A 5 [some (.inr (.inr k)), some (.inl v), some (.inl (i : Int)), some (.inl (N : Int))] [] (ol_mp M k (ol_fl (M k) v i)) := by
      intro n
      induction n with
      | zero =>
        intro i hi
        refine b_J7_fill_53178_5 hN hA k v i N _ h1 h2 ⟨ol_r_of (lo := 0) (hi := 1000000) (by omega) (by omega), ol_r_of (lo := 0) (hi := 1000000) (by omega) (by omega), ol_if.pos (by omega) ?_⟩
        rw [show i = N by omega]
        exact hr
      | succ n ih =>
        intro i hi
        refine b_J7_fill_53178_5 hN hA k v i N _ h1 h2 ⟨ol_r_of (lo := 0) (hi := 1000000) (by omega) (by omega), ol_r_of (lo := 0) (hi := 1000000) (by omega) (by omega), ol_if.neg (by omega) ⟨by omega, by omega, ?_⟩⟩
        have z := ih (i + 1) (by omega)
        have e : ol_ms (ol_mp M k (ol_fl (M k) v i)) k i v = ol_mp M k (ol_fl (M k) v (i + 1)) := by
          rw [ol_ms_mp]
          congr 1
          funext j
          unfold ol_rs ol_fl
          by_cases q : j = i
          · subst q
            rw [if_pos rfl, if_pos ⟨by omega, by omega⟩]
          · rw [if_neg q]
            by_cases q2 : 0 ≤ j ∧ j < i
            · rw [if_pos q2, if_pos ⟨by omega, by omega⟩]
            · rw [if_neg q2, if_neg (by omega)]
        rw [e]
        exact z
    have z := key N 0 (by omega)
    have e : ol_fl (M k) v 0 = M k := by
      funext j
      unfold ol_fl
      rw [if_neg (by omega)]
    rw [e, ol_mp_self] at z
    exact z
