/-! NUMBERS: an int by a whole number -/
theorem ol_toI {a : Int} (h : ol_r a) : (Int32.ofInt a).toInt = a := by
  rw [Int32.toInt_ofInt]
  exact Int.bmod_eq_of_le (by have := h.1; simp [Int32.size]; omega) (by have := h.2; simp [Int32.size]; omega)
theorem ol_toL {a : Int} (h : ol_rl a) : (Int64.ofInt a).toInt = a := by
  rw [Int64.toInt_ofInt]
  exact Int.bmod_eq_of_le (by have := h.1; simp [Int64.size]; omega) (by have := h.2; simp [Int64.size]; omega)
theorem ol_eqI {a b : Int} (ha : ol_r a) (hb : ol_r b) : Int32.ofInt a = Int32.ofInt b ↔ a = b :=
  ⟨fun h => by have := congrArg Int32.toInt h; rwa [ol_toI ha, ol_toI hb] at this, fun h => h ▸ rfl⟩
theorem ol_ltI {a b : Int} (ha : ol_r a) (hb : ol_r b) : Int32.ofInt a < Int32.ofInt b ↔ a < b := by
  rw [Int32.lt_iff_toInt_lt, ol_toI ha, ol_toI hb]
theorem ol_leI {a b : Int} (ha : ol_r a) (hb : ol_r b) : Int32.ofInt a ≤ Int32.ofInt b ↔ a ≤ b := by
  rw [Int32.le_iff_toInt_le, ol_toI ha, ol_toI hb]
theorem ol_bip {c : Int} (h : -128 ≤ c ∧ c ≤ 127) : (Int8.ofInt c).toInt32 = Int32.ofInt c := by
  apply Int32.toInt_inj.mp
  rw [ol_toI ⟨by omega, by omega⟩, Int8.toInt_toInt32, Int8.toInt_ofInt]
  exact Int.bmod_eq_of_le (by simp [Int8.size]; omega) (by simp [Int8.size]; omega)
theorem ol_sip {c : Int} (h : -32768 ≤ c ∧ c ≤ 32767) : (Int16.ofInt c).toInt32 = Int32.ofInt c := by
  apply Int32.toInt_inj.mp
  rw [ol_toI ⟨by omega, by omega⟩, Int16.toInt_toInt32, Int16.toInt_ofInt]
  exact Int.bmod_eq_of_le (by simp [Int16.size]; omega) (by simp [Int16.size]; omega)
theorem ol_divI {a b : Int} (ha : ol_r a) (hb : ol_r b) : Int32.ofInt a / Int32.ofInt b = Int32.ofInt (a.tdiv b) := by
  apply Int32.toInt_inj.mp
  rw [Int32.toInt_div, ol_toI ha, ol_toI hb, Int32.toInt_ofInt]
theorem ol_divL {a b : Int} (ha : ol_rl a) (hb : ol_rl b) : Int64.ofInt a / Int64.ofInt b = Int64.ofInt (a.tdiv b) := by
  apply Int64.toInt_inj.mp
  rw [Int64.toInt_div, ol_toL ha, ol_toL hb, Int64.toInt_ofInt]
theorem ol_remI {a b : Int} (ha : ol_r a) (hb : ol_r b) : Int32.ofInt a - Int32.ofInt a / Int32.ofInt b * Int32.ofInt b = Int32.ofInt (a.tmod b) := by
  rw [ol_divI ha hb, ← Int32.ofInt_mul, ← Int32.ofInt_sub, Int.tmod_def, Int.mul_comm]
theorem ol_remL {a b : Int} (ha : ol_rl a) (hb : ol_rl b) : Int64.ofInt a - Int64.ofInt a / Int64.ofInt b * Int64.ofInt b = Int64.ofInt (a.tmod b) := by
  rw [ol_divL ha hb, ← Int64.ofInt_mul, ← Int64.ofInt_sub, Int.tmod_def, Int.mul_comm]
theorem ol_ne0 {b : Int} (hb : ol_r b) (h : b ≠ 0) : ¬ Int32.ofInt b = 0 := fun q => h ((ol_eqI hb ⟨by decide, by decide⟩).mp q)
theorem ol_ne0L {b : Int} (hb : ol_rl b) (h : b ≠ 0) : ¬ Int64.ofInt b = 0 := fun q => h (by have := congrArg Int64.toInt q; rwa [ol_toL hb] at this)
theorem ol_i2l {a : Int} (h : ol_r a) : (Int32.ofInt a).toInt64 = Int64.ofInt a := by
  apply Int64.toInt_inj.mp
  rw [Int32.toInt_toInt64, ol_toI h, ol_toL ⟨by have := h.1; omega, by have := h.2; omega⟩]
theorem ol_i2b (a : Int) : (Int32.ofInt a).toInt8.toInt32 = Int32.ofInt (a.bmod 256) := by
  apply Int32.toInt_inj.mp
  have h1 : -128 ≤ a.bmod 256 := Int.le_bmod (x := a) (m := 256) (by decide)
  have h2 : a.bmod 256 < 128 := Int.bmod_lt (x := a) (m := 256) (by decide)
  rw [ol_toI ⟨by omega, by omega⟩, Int8.toInt_toInt32, Int32.toInt8_ofInt, Int8.toInt_ofInt]
theorem ol_i2s (a : Int) : (Int32.ofInt a).toInt16.toInt32 = Int32.ofInt (a.bmod 65536) := by
  apply Int32.toInt_inj.mp
  have h1 : -32768 ≤ a.bmod 65536 := Int.le_bmod (x := a) (m := 65536) (by decide)
  have h2 : a.bmod 65536 < 32768 := Int.bmod_lt (x := a) (m := 65536) (by decide)
  rw [ol_toI ⟨by omega, by omega⟩, Int16.toInt_toInt32, Int32.toInt16_ofInt, Int16.toInt_ofInt]
theorem ol_andI (a b : Int) : Int32.ofInt (ol_and a b) = Int32.ofInt a &&& Int32.ofInt b := Int32.ofInt_toInt _
theorem ol_orI (a b : Int) : Int32.ofInt (ol_or a b) = Int32.ofInt a ||| Int32.ofInt b := Int32.ofInt_toInt _
theorem ol_andL (a b : Int) : Int64.ofInt (ol_andl a b) = Int64.ofInt a &&& Int64.ofInt b := Int64.ofInt_toInt _
theorem ol_nat {i : Int} (h0 : 0 ≤ i) (h1 : i < 1000000) : (Int32.ofInt i).toNatClampNeg = i.toNat := by
  show (Int32.ofInt i).toInt.toNat = _
  rw [ol_toI ⟨by omega, by omega⟩]
theorem ol_inR {i : Int} {n : Nat} (h0 : 0 ≤ i) (h1 : i < n) (hn : n < 1000000) : ¬ (Int32.ofInt i < 0 ∨ n ≤ (Int32.ofInt i).toNatClampNeg) := by
  rw [ol_nat h0 (by omega)]
  rintro (h | h)
  · exact absurd ((ol_ltI (b := 0) ⟨by omega, by omega⟩ ⟨by decide, by decide⟩).mp h) (by omega)
  · omega
theorem ol_bv {a : Int} : ((Int32.ofInt a).toBitVec.toNat : Int) = a % 4294967296 := by
  show ((BitVec.ofInt 32 a).toNat : Int) = _
  rw [BitVec.toNat_ofInt]
  omega
theorem ol_bvL {a : Int} : ((Int64.ofInt a).toBitVec.toNat : Int) = a % 18446744073709551616 := by
  show ((BitVec.ofInt 64 a).toNat : Int) = _
  rw [BitVec.toNat_ofInt]
  omega
theorem ol_sk : ∀ k : Nat, k < 32 → ((Int32.ofInt (k : Int) &&& 31).toBitVec.smod 32).toNat = k := by decide +kernel
theorem ol_uk : ∀ k : Nat, k < 32 → (((Int32.ofInt (k : Int)).toUInt32 &&& Int32.toUInt32 31).toBitVec % 32).toNat = k := by decide +kernel
theorem ol_lk : ∀ k : Nat, k < 64 → (((Int32.ofInt (k : Int)).toInt64 &&& 63).toBitVec.smod 64).toNat = k := by decide +kernel
theorem ol_shlI {a b : Int} (h0 : 0 ≤ b) (h1 : b < 32) : Int32.ofInt a <<< (Int32.ofInt b &&& 31) = Int32.ofInt (a * 2 ^ b.toNat) := by
  obtain ⟨k, rfl⟩ := Int.eq_ofNat_of_zero_le h0
  have hk : k < 32 := by omega
  apply Int32.toBitVec_inj.mp
  apply BitVec.eq_of_toNat_eq
  have e1 := pk_shl (Int32.ofInt a) (Int32.ofInt (k : Int) &&& 31) k (ol_sk k hk)
  have e2 := @ol_bv (a * 2 ^ ((k : Int)).toNat)
  have e3 := @ol_bv a
  have : ((Int32.ofInt a <<< (Int32.ofInt (k : Int) &&& 31)).toBitVec.toNat : Int) = (a * 2 ^ ((k : Int)).toNat) % 4294967296 := by
    rw [show (2 : Nat) ^ 32 = 4294967296 from rfl] at e1
    rw [e1, Int.toNat_natCast, Int.natCast_emod, Int.natCast_mul, Int.natCast_pow, e3]
    show a % 4294967296 * 2 ^ k % 4294967296 = a * 2 ^ k % 4294967296
    rw [Int.mul_emod, Int.emod_emod, ← Int.mul_emod]
  omega
theorem ol_shrI {a b : Int} (h : ol_r a) (h0 : 0 ≤ b) (h1 : b < 32) : Int32.ofInt a >>> (Int32.ofInt b &&& 31) = Int32.ofInt (a / 2 ^ b.toNat) := by
  obtain ⟨k, rfl⟩ := Int.eq_ofNat_of_zero_le h0
  have hk : k < 32 := by omega
  apply Int32.toInt_inj.mp
  rw [pk_shr _ _ k (ol_sk k hk), ol_toI h, Int.toNat_natCast, Int.shiftRight_eq_div_pow]
  push_cast
  have hp : (0 : Int) < 2 ^ k := Int.pow_pos (by decide)
  rw [ol_toI]
  have h2 : a / 2 ^ k ≤ 2147483647 := by
    by_cases q : 0 ≤ a
    · exact Int.le_trans (Int.ediv_le_self _ q) h.2
    · have := Int.ediv_neg_of_neg_of_pos (a := a) (b := 2 ^ k) (by omega) hp
      omega
  have h3 : -2147483648 ≤ a / 2 ^ k := by
    by_cases q : 0 ≤ a
    · have := Int.ediv_nonneg (a := a) (b := 2 ^ k) q (by omega)
      omega
    · have := h.1
      refine Int.le_ediv_of_mul_le hp ?_
      have : (-2147483648 : Int) * 2 ^ k ≤ -2147483648 * 1 := Int.mul_le_mul_of_nonpos_left (by decide) (by omega)
      omega
  exact ⟨h3, h2⟩
theorem ol_ushrI {a b : Int} (h0 : 0 ≤ b) (h1 : b < 32) : ((Int32.ofInt a).toUInt32 >>> ((Int32.ofInt b).toUInt32 &&& Int32.toUInt32 31)).toInt32 = Int32.ofInt ((a % 4294967296) / 2 ^ b.toNat) := by
  obtain ⟨k, rfl⟩ := Int.eq_ofNat_of_zero_le h0
  have hk : k < 32 := by omega
  apply Int32.toBitVec_inj.mp
  apply BitVec.eq_of_toNat_eq
  have e1 := pk_ushr (Int32.ofInt a) (Int32.ofInt (k : Int)) k (ol_uk k hk)
  have e2 := @ol_bv ((a % 4294967296) / 2 ^ ((k : Int)).toNat)
  have e3 := @ol_bv a
  have hp : (0 : Int) < 2 ^ k := Int.pow_pos (by decide)
  rw [Int.toNat_natCast] at e2 ⊢
  have e4 : ((((Int32.ofInt a).toUInt32 >>> ((Int32.ofInt (k : Int)).toUInt32 &&& Int32.toUInt32 31)).toInt32.toBitVec.toNat : Nat) : Int) = (a % 4294967296) / 2 ^ k := by
    rw [e1, Int.natCast_ediv, Int.natCast_pow, e3]
    rfl
  have h5 : (a % 4294967296) / 2 ^ k ≤ a % 4294967296 := Int.ediv_le_self _ (by omega)
  have h6 : 0 ≤ (a % 4294967296) / 2 ^ k := Int.ediv_nonneg (by omega) (by omega)
  omega
theorem ol_shlL {a b : Int} (h0 : 0 ≤ b) (h1 : b < 64) : Int64.ofInt a <<< ((Int32.ofInt b).toInt64 &&& 63) = Int64.ofInt (a * 2 ^ b.toNat) := by
  obtain ⟨k, rfl⟩ := Int.eq_ofNat_of_zero_le h0
  have hk : k < 64 := by omega
  apply Int64.toBitVec_inj.mp
  rw [Int64.toBitVec_shiftLeft]
  apply BitVec.eq_of_toNat_eq
  have e2 := @ol_bvL (a * 2 ^ ((k : Int)).toNat)
  have e3 := @ol_bvL a
  have e1 : ((Int64.ofInt a).toBitVec <<< (((Int32.ofInt (k : Int)).toInt64 &&& 63).toBitVec.smod 64)).toNat = (Int64.ofInt a).toBitVec.toNat * 2 ^ k % 18446744073709551616 := by
    rw [BitVec.shiftLeft_eq', ol_lk k hk, BitVec.toNat_shiftLeft, Nat.shiftLeft_eq]
  have : (((Int64.ofInt a).toBitVec <<< (((Int32.ofInt (k : Int)).toInt64 &&& 63).toBitVec.smod 64)).toNat : Int) = (a * 2 ^ ((k : Int)).toNat) % 18446744073709551616 := by
    rw [e1, Int.toNat_natCast, Int.natCast_emod, Int.natCast_mul, Int.natCast_pow, e3]
    show a % 18446744073709551616 * 2 ^ k % 18446744073709551616 = a * 2 ^ k % 18446744073709551616
    rw [Int.mul_emod, Int.emod_emod, ← Int.mul_emod]
  omega
theorem ol_shrL {a b : Int} (h : ol_rl a) (h0 : 0 ≤ b) (h1 : b < 64) : Int64.ofInt a >>> ((Int32.ofInt b).toInt64 &&& 63) = Int64.ofInt (a / 2 ^ b.toNat) := by
  obtain ⟨k, rfl⟩ := Int.eq_ofNat_of_zero_le h0
  have hk : k < 64 := by omega
  apply Int64.toInt_inj.mp
  have e1 : (Int64.ofInt a >>> ((Int32.ofInt (k : Int)).toInt64 &&& 63)).toInt = (Int64.ofInt a).toInt >>> k := by
    show (Int64.ofInt a >>> ((Int32.ofInt (k : Int)).toInt64 &&& 63)).toBitVec.toInt = _
    rw [Int64.toBitVec_shiftRight, BitVec.sshiftRight_eq', ol_lk k hk, BitVec.toInt_sshiftRight]
    rfl
  rw [e1, ol_toL h, Int.toNat_natCast, Int.shiftRight_eq_div_pow]
  push_cast
  have hp : (0 : Int) < 2 ^ k := Int.pow_pos (by decide)
  rw [ol_toL]
  have h2 : a / 2 ^ k ≤ 9223372036854775807 := by
    by_cases q : 0 ≤ a
    · exact Int.le_trans (Int.ediv_le_self _ q) h.2
    · have := Int.ediv_neg_of_neg_of_pos (a := a) (b := 2 ^ k) (by omega) hp
      omega
  have h3 : -9223372036854775808 ≤ a / 2 ^ k := by
    by_cases q : 0 ≤ a
    · have := Int.ediv_nonneg (a := a) (b := 2 ^ k) q (by omega)
      omega
    · have := h.1
      refine Int.le_ediv_of_mul_le hp ?_
      have : (-9223372036854775808 : Int) * 2 ^ k ≤ -9223372036854775808 * 1 := Int.mul_le_mul_of_nonpos_left (by decide) (by omega)
      omega
  exact ⟨h3, h2⟩
theorem ol_lcm (a b : Int) (ha : ol_rl a) (hb : ol_rl b) (h : a ≠ b) : lg_cmp (Int64.ofInt a) (Int64.ofInt b) = Int32.ofInt (if a < b then -1 else 1) := by
  unfold lg_cmp
  simp only [gt_iff_lt, Int64.lt_iff_toInt_lt, ← Int64.toInt_inj, ol_toL ha, ol_toL hb]
  by_cases q : a < b
  · rw [if_neg (by omega), if_neg h, if_pos q]
    rfl
  · rw [if_pos (by omega), if_neg q]
    rfl
theorem ol_lcm0 (a : Int) : lg_cmp (Int64.ofInt a) (Int64.ofInt a) = Int32.ofInt 0 := by
  unfold lg_cmp
  rw [if_neg (by simp), if_pos rfl]
  rfl
