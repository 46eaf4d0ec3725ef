theorem p_found {n : Nat} {f : Int} {M : ol_M} : ol_R (ol_lay n) 1 q_X8_found [.inr (.inr 0), .inl f] M (some (.inl ((-10) - f))) (ol_ms M 0 9 f) :=
  ol_Ri (q := q_X8_found) (by decide +kernel) (Nat.le_of_ble_eq_true rfl) (Or.inl rfl) fun Rt A hA hr => b_X8_found_0 hA f M hr
theorem p_finds {n : Nat} {f : Int} {M : ol_M} : ol_R (ol_lay n) 1 q_X9_finds [.inr (.inr 132), .inl f] M (some (.inl ((-10) - f))) (ol_ms M 132 4 f) :=
  ol_Ri (q := q_X9_finds) (by decide +kernel) (Nat.le_of_ble_eq_true rfl) (Or.inl rfl) fun Rt A hA hr => b_X9_finds_0 hA f M hr
theorem p_worldChanged {n : Nat} {M : ol_M} : ol_R (ol_lay n) 1 q_X8_worldChanged [.inr (.inr 0)] M none (ol_ms (ol_ms M 0 10 1) 0 11 1) :=
  ol_Ri (q := q_X8_worldChanged) (by decide +kernel) (Nat.le_of_ble_eq_true rfl) rfl fun Rt A hA hr => b_X8_worldChanged_0 hA M hr
theorem p_mayBeWriting {lay : ol_L} {a b c : Int} {M : ol_M} (h1 : ol_r a) (h2 : ol_r b) (h3 : ol_r c) : ol_R lay 2 q_X8_mayBeWriting [.inl a, .inl b, .inl c] M (some (.inl (ol_b ((0 ≤ a ∧ a < 12) ∧ (0 ≤ b ∧ b < 8) ∧ (0 ≤ c ∧ c < 8))))) M :=
  ol_Ri (q := q_X8_mayBeWriting) (by decide +kernel) (Nat.le_of_ble_eq_true rfl) (Or.inr ⟨rfl, ol_b01⟩) fun Rt A hA hr => b_X8_mayBeWriting_0 hA a b c M ⟨h1, fun c1 => ⟨h2, fun c2 => ⟨h3, fun c3 => ol_rb1 hr (by omega), fun c3 => ol_rb0 hr (by omega)⟩, fun c2 => ol_rb0 hr (by omega)⟩, fun c1 => ol_rb0 hr (by omega)⟩
theorem ol_r_l {a : Int} (h : ol_r a) : ol_rl a := ⟨by have := h.1; omega, by have := h.2; omega⟩
theorem p_isTwo {lay : ol_L} {a : Int} {M : ol_M} (h1 : ol_r a) : ol_R lay 2 q_X9_isTwo [.inl a] M (some (.inl (ol_b (0 ≤ a ∧ a ≤ 1)))) M :=
  ol_Ri (q := q_X9_isTwo) (by decide +kernel) (Nat.le_of_ble_eq_true rfl) (Or.inr ⟨rfl, ol_b01⟩) fun Rt A hA hr => b_X9_isTwo_0 hA a M ⟨h1, ol_r_l h1, hr⟩
theorem p_isSheet {lay : ol_L} {a : Int} {M : ol_M} (h1 : ol_r a) : ol_R lay 2 q_X9_isSheet [.inl a] M (some (.inl (ol_b (0 ≤ a ∧ a ≤ 3)))) M :=
  ol_Ri (q := q_X9_isSheet) (by decide +kernel) (Nat.le_of_ble_eq_true rfl) (Or.inr ⟨rfl, ol_b01⟩) fun Rt A hA hr => b_X9_isSheet_0 hA a M ⟨h1, ol_r_l h1, hr⟩
theorem p_isMonth {lay : ol_L} {a : Int} {M : ol_M} (h1 : ol_r a) : ol_R lay 2 q_X9_isMonth [.inl a] M (some (.inl (ol_b (0 ≤ a ∧ a ≤ 11)))) M :=
  ol_Ri (q := q_X9_isMonth) (by decide +kernel) (Nat.le_of_ble_eq_true rfl) (Or.inr ⟨rfl, ol_b01⟩) fun Rt A hA hr => b_X9_isMonth_0 hA a M ⟨h1, ol_r_l h1, hr⟩
theorem p_isEight {lay : ol_L} {a : Int} {M : ol_M} (h1 : ol_r a) : ol_R lay 2 q_X9_isEight [.inl a] M (some (.inl (ol_b (0 ≤ a ∧ a ≤ 7)))) M :=
  ol_Ri (q := q_X9_isEight) (by decide +kernel) (Nat.le_of_ble_eq_true rfl) (Or.inr ⟨rfl, ol_b01⟩) fun Rt A hA hr => b_X9_isEight_0 hA a M ⟨h1, ol_r_l h1, hr⟩
theorem ol_b_eq {P Q : Prop} [Decidable P] [Decidable Q] (h : P ↔ Q) : ol_b P = ol_b Q := by
  unfold ol_b
  by_cases p : P
  · rw [if_pos p, if_pos (h.mp p)]
  · rw [if_neg p, if_neg (fun q => p (h.mpr q))]
theorem p_isHouse {n : Nat} {a : Int} {M : ol_M} (h1 : ol_r a) (h2 : ol_r (M 132 7 - 1)) : ol_R (ol_lay n) 2 q_X9_isHouse [.inr (.inr 132), .inl a] M (some (.inl (ol_b (0 ≤ a ∧ a < M 132 7)))) M :=
  ol_Ri (q := q_X9_isHouse) (by decide +kernel) (Nat.le_of_ble_eq_true rfl) (Or.inr ⟨rfl, ol_b01⟩) fun Rt A hA hr => b_X9_isHouse_0 hA a M ⟨h1, h2, ol_r_l h1, ol_r_l h2, ol_rt hr (ol_b_eq (by omega))⟩
theorem p_isTerm {n : Nat} {a : Int} {M : ol_M} (h1 : ol_r a) (h2 : ol_r (M 132 9 - 1)) : ol_R (ol_lay n) 2 q_X9_isTerm [.inr (.inr 132), .inl a] M (some (.inl (ol_b (0 ≤ a ∧ a < M 132 9)))) M :=
  ol_Ri (q := q_X9_isTerm) (by decide +kernel) (Nat.le_of_ble_eq_true rfl) (Or.inr ⟨rfl, ol_b01⟩) fun Rt A hA hr => b_X9_isTerm_0 hA a M ⟨h1, h2, ol_r_l h1, ol_r_l h2, ol_rt hr (ol_b_eq (by omega))⟩
theorem p_findingAt {n : Nat} {s f i : Int} {M : ol_M} (h1 : 0 ≤ s) (h2 : s < 4) (h3 : ol_r (M 113 s)) (h4 : ol_r (M 112 s)) (h5 : ol_r f) (h6 : ol_r i) : ol_R (ol_lay n) 2 q_X4_findingAt [.inr (.inr 111), .inl s, .inl f, .inl i] M (some (.inl (ol_fnd M s f i))) M :=
  ol_Ri (q := q_X4_findingAt) (by decide +kernel) (Nat.le_of_ble_eq_true rfl) (Or.inl rfl) fun Rt A hA hr => b_X4_findingAt_0 hA s f i M ⟨h1, h2, h3, fun c => ol_rt hr (by simp [ol_fnd, c]), fun c => ⟨h1, h2, fun d => ⟨h1, h2, h6, h3, fun e => ol_rt hr (by simp [ol_fnd, c, d, e]), fun e => ol_rt hr (by unfold ol_fnd; rw [if_neg c, if_neg (by simp [d]), if_neg e])⟩, fun d => ⟨h4, h5, ol_rt hr (by simp [ol_fnd, c, d])⟩⟩⟩
theorem p_holds {n : Nat} {s i k : Int} {M : ol_M} (h1 : 0 ≤ s) (h2 : s < 4) (h3 : ol_r (M 113 s)) (h3' : 0 ≤ M 113 s) (h4 : ol_r i) (h5 : ol_r k) : ol_R (ol_lay n) 1 q_X4_holds [.inr (.inr 111), .inl s, .inl i, .inl k] M (some (.inl (ol_b (0 ≤ i ∧ 0 ≤ k ∧ i ≤ M 113 s ∧ k ≤ M 113 s - i)))) M :=
  ol_Ri (q := q_X4_holds) (by decide +kernel) (Nat.le_of_ble_eq_true rfl) (Or.inr ⟨rfl, ol_b01⟩) fun Rt A hA hr => b_X4_holds_0 hA s i k M ⟨h4, fun c => ol_rb0 hr (by omega), fun c => ⟨h5, fun d => ol_rb0 hr (by omega), fun d => ⟨h1, h2, h4, h3, fun e => ol_rb0 hr (by omega), fun e => ⟨h1, h2, h5, ⟨by have := h3.1; have := h3.2; omega, by have := h3.1; have := h3.2; omega⟩, fun g => ol_rb0 hr (by omega), fun g => ol_rb1 hr (by omega)⟩⟩⟩⟩
