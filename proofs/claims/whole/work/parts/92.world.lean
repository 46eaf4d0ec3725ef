/-! THE WORLD THAT THE CONSTRUCTORS LEAVE -/
def w0_pi (j : Nat) : Nat := bif Nat.beq j 0 then 0 else bif Nat.ble j 118 then j + 13 else bif Nat.ble j 131 then j - 118 else j
def w0_ad (B b : Nat) (k : Int) : Nat := match k with
  | .ofNat j => B + w0_pi j
  | .negSucc _ => b
def w0_tb (j : Nat) : Int → Int := match j with
  | 0 => ol_rs (ol_rs (fun _ => 0) 10 1) 11 1
  | 1 => ol_rs (ol_rs (fun _ => 0) 1 23) 4 (-1)
  | 5 => ol_rs (ol_rs (fun _ => 0) 1 55) 4 (-1)
  | 38 => ol_fl (fun _ => 0) 2 8
  | 51 => ol_rs (ol_rs (fun _ => 0) 6 (-1)) 7 1
  | 68 => ol_rs (ol_rs (fun _ => 0) 6 (-1)) 7 1
  | 113 => ol_fl (fun _ => 0) (-1) 4
  | 133 => ol_rs (ol_rs (ol_rs (ol_rs (fun _ => 0) 0 (-1)) 1 (-1)) 2 (-1)) 3 (-1)
  | 144 => ol_rs (ol_rs (ol_rs (ol_rs (ol_rs (ol_rs (ol_rs (ol_rs (fun _ => 0) 0 2) 1 2) 2 2) 3 2) 4 2) 5 2) 6 2) 7 2
  | _ => fun _ => 0
def w0_M (xs : Nat → Int32) : ol_M := fun k => match k with
  | .ofNat j => w0_tb j
  | .negSucc _ => fun j => (xs j.toNat).toInt
theorem w0_arr {cA : ClassId} {n : Nat} {f g : Nat → Value} (h : ∀ j, j < n → f j = g j) : arrV cA n f = arrV cA n g := by
  unfold arrV
  congr 2
  funext j
  exact h j.val j.isLt
theorem w0_pi_eq (j : Nat) : w0_pi j = if j = 0 then 0 else if j ≤ 118 then j + 13 else if j ≤ 131 then j - 118 else j := by
  unfold w0_pi
  by_cases h0 : j = 0
  · subst h0; rfl
  · rw [if_neg h0, show Nat.beq j 0 = false from Bool.eq_false_iff.mpr (fun q => h0 (Nat.eq_of_beq_eq_true q))]
    by_cases h1 : j ≤ 118
    · rw [if_pos h1, show Nat.ble j 118 = true from Nat.ble_eq.mpr h1]; rfl
    · rw [if_neg h1, show Nat.ble j 118 = false from Bool.eq_false_iff.mpr (fun q => h1 (Nat.ble_eq.mp q))]
      by_cases h2 : j ≤ 131
      · rw [if_pos h2, show Nat.ble j 131 = true from Nat.ble_eq.mpr h2]; rfl
      · rw [if_neg h2, show Nat.ble j 131 = false from Bool.eq_false_iff.mpr (fun q => h2 (Nat.ble_eq.mp q))]; rfl
theorem w0_inj {i j : Nat} (h : w0_pi i = w0_pi j) : i = j := by
  rw [w0_pi_eq, w0_pi_eq] at h
  repeat' split at h
  all_goals omega
theorem w0_row {B b c : Nat} {t : Int} (j n : Nat) (h : ∀ i, i < n → w0_pi (j + i) = c + i) (ht : t = ((j : Nat) : Int)) : ∀ i, i < n → w0_ad B b (t + (i : Int)) = B + (c + i) := by
  intro i hi
  subst ht
  rw [show ((j : Nat) : Int) + (i : Int) = ((j + i : Nat) : Int) by omega]
  show B + w0_pi (j + i) = _
  rw [h i hi]
noncomputable def w0_LM : List cn_E := [.inr (.inr (8, [some (.inr (.inr 1)), some (.inr (.inr 2)), some (.inr (.inr 3)), some (.inr (.inr 4)), some (.inl 0), some (.inr (.inr 5)), some (.inr (.inr 6)), some (.inl 0), some (.inr (.inr 7)), some (.inl 0), some (.inr (.inr 8)), some (.inr (.inr 9)), some (.inr (.inr 10)), some (.inr (.inr 11)), some (.inr (.inr 12)), some (.inl 0), some (.inr (.inr 13)), some (.inl 0), some (.inr (.inr 14)), some (.inr (.inr 15)), some (.inr (.inr 16)), some (.inr (.inr 17)), some (.inr (.inr 18)), some (.inr (.inr 19)), some (.inl 0), some (.inl 0), some (.inl 0), some (.inr (.inr 20)), some (.inr (.inr 21)), some (.inl 0)])), .inl (4, ol_rs (ol_rs (ol_rs (ol_rs (fun _ => 0) 0 (-1)) 1 (-1)) 2 (-1)) 3 (-1)), .inl (4, fun _ => 0), .inl (240, fun _ => 0), .inl (60, fun _ => 0), .inl (112, fun _ => 0), .inl (2, fun _ => 0), .inl (16, fun _ => 0), .inl (48, fun _ => 0), .inl (8, fun _ => 0), .inl (8, fun _ => 0), .inl (64, fun _ => 0), .inl (8, ol_rs (ol_rs (ol_rs (ol_rs (ol_rs (ol_rs (ol_rs (ol_rs (fun _ => 0) 0 2) 1 2) 2 2) 3 2) 4 2) 5 2) 6 2) 7 2), .inl (72, fun _ => 0), .inl (32, fun _ => 0), .inl (64, fun _ => 0), .inl (24, fun _ => 0), .inl (24, fun _ => 0), .inl (8, fun _ => 0), .inl (8, fun _ => 0), .inl (32, fun _ => 0), .inl (96, fun _ => 0)]
theorem w0_0 {D : va_G} {B b : Nat} {cI cJ : ClassId} {xs : Nat → Int32} {H : Heap} (hX : ∀ (i : Nat) (e : cn_E), cl_28[i]? = some e → va_at D ol_cls (B + i, cn_e B cI cJ e) H) (hM : ∀ (i : Nat) (e : cn_E), w0_LM[i]? = some e → va_at D ol_cls (B + 132 + i, cn_e (B + 132) cI cJ e) H) : va_at D ol_cls (w0_ad B b 0, ol_E (w0_ad B b) cI cJ (w0_M xs) 0 (.inr (.inr (7, [some 1, some 5, some 37, some 50, some 51, some 68, some 85, some 111, some 119, none, none, none])))) H := hX 0 (.inr (.inr (7, [some (.inr (.inr 14)), some (.inr (.inr 18)), some (.inr (.inr 50)), some (.inr (.inr 63)), some (.inr (.inr 64)), some (.inr (.inr 81)), some (.inr (.inr 98)), some (.inr (.inr 124)), some (.inr (.inr 1)), some (.inl 0), some (.inl 1), some (.inl 1)]))) rfl
theorem w0_1 {D : va_G} {B b : Nat} {cI cJ : ClassId} {xs : Nat → Int32} {H : Heap} (hX : ∀ (i : Nat) (e : cn_E), cl_28[i]? = some e → va_at D ol_cls (B + i, cn_e B cI cJ e) H) (hM : ∀ (i : Nat) (e : cn_E), w0_LM[i]? = some e → va_at D ol_cls (B + 132 + i, cn_e (B + 132) cI cJ e) H) : va_at D ol_cls (w0_ad B b 1, ol_E (w0_ad B b) cI cJ (w0_M xs) 1 (.inr (.inr (1, [some 2, none, none, none, none, some 3, some 4])))) H := hX 14 (.inr (.inr (1, [some (.inr (.inr 15)), some (.inl 23), some (.inl 0), some (.inl 0), some (.inl (-1)), some (.inr (.inr 16)), some (.inr (.inr 17))]))) rfl
theorem w0_2 {D : va_G} {B b : Nat} {cI cJ : ClassId} {xs : Nat → Int32} {H : Heap} (hX : ∀ (i : Nat) (e : cn_E), cl_28[i]? = some e → va_at D ol_cls (B + i, cn_e B cI cJ e) H) (hM : ∀ (i : Nat) (e : cn_E), w0_LM[i]? = some e → va_at D ol_cls (B + 132 + i, cn_e (B + 132) cI cJ e) H) : va_at D ol_cls (w0_ad B b 2, ol_E (w0_ad B b) cI cJ (w0_M xs) 2 (.inl 55)) H := hX 15 (.inl (55, fun _ => 0)) rfl
theorem w0_3 {D : va_G} {B b : Nat} {cI cJ : ClassId} {xs : Nat → Int32} {H : Heap} (hX : ∀ (i : Nat) (e : cn_E), cl_28[i]? = some e → va_at D ol_cls (B + i, cn_e B cI cJ e) H) (hM : ∀ (i : Nat) (e : cn_E), w0_LM[i]? = some e → va_at D ol_cls (B + 132 + i, cn_e (B + 132) cI cJ e) H) : va_at D ol_cls (w0_ad B b 3, ol_E (w0_ad B b) cI cJ (w0_M xs) 3 (.inl 8)) H := hX 16 (.inl (8, fun _ => 0)) rfl
theorem w0_4 {D : va_G} {B b : Nat} {cI cJ : ClassId} {xs : Nat → Int32} {H : Heap} (hX : ∀ (i : Nat) (e : cn_E), cl_28[i]? = some e → va_at D ol_cls (B + i, cn_e B cI cJ e) H) (hM : ∀ (i : Nat) (e : cn_E), w0_LM[i]? = some e → va_at D ol_cls (B + 132 + i, cn_e (B + 132) cI cJ e) H) : va_at D ol_cls (w0_ad B b 4, ol_E (w0_ad B b) cI cJ (w0_M xs) 4 (.inl 8)) H := hX 17 (.inl (8, fun _ => 0)) rfl
theorem w0_5 {D : va_G} {B b : Nat} {cI cJ : ClassId} {xs : Nat → Int32} {H : Heap} (hX : ∀ (i : Nat) (e : cn_E), cl_28[i]? = some e → va_at D ol_cls (B + i, cn_e B cI cJ e) H) (hM : ∀ (i : Nat) (e : cn_E), w0_LM[i]? = some e → va_at D ol_cls (B + 132 + i, cn_e (B + 132) cI cJ e) H) : va_at D ol_cls (w0_ad B b 5, ol_E (w0_ad B b) cI cJ (w0_M xs) 5 (.inr (.inr (5, [some 6, none, none, none, none, some 7, some 16, some 25, some 34, some 35, some 36])))) H := hX 18 (.inr (.inr (5, [some (.inr (.inr 19)), some (.inl 55), some (.inl 0), some (.inl 0), some (.inl (-1)), some (.inr (.inr 20)), some (.inr (.inr 29)), some (.inr (.inr 38)), some (.inr (.inr 47)), some (.inr (.inr 48)), some (.inr (.inr 49))]))) rfl
theorem w0_6 {D : va_G} {B b : Nat} {cI cJ : ClassId} {xs : Nat → Int32} {H : Heap} (hX : ∀ (i : Nat) (e : cn_E), cl_28[i]? = some e → va_at D ol_cls (B + i, cn_e B cI cJ e) H) (hM : ∀ (i : Nat) (e : cn_E), w0_LM[i]? = some e → va_at D ol_cls (B + 132 + i, cn_e (B + 132) cI cJ e) H) : va_at D ol_cls (w0_ad B b 6, ol_E (w0_ad B b) cI cJ (w0_M xs) 6 (.inl 55)) H := hX 19 (.inl (55, fun _ => 0)) rfl
theorem w0_7 {D : va_G} {B b : Nat} {cI cJ : ClassId} {xs : Nat → Int32} {H : Heap} (hX : ∀ (i : Nat) (e : cn_E), cl_28[i]? = some e → va_at D ol_cls (B + i, cn_e B cI cJ e) H) (hM : ∀ (i : Nat) (e : cn_E), w0_LM[i]? = some e → va_at D ol_cls (B + 132 + i, cn_e (B + 132) cI cJ e) H) : va_at D ol_cls (w0_ad B b 7, ol_E (w0_ad B b) cI cJ (w0_M xs) 7 (.inr (.inl (8, 8)))) H := by
  have q : H[B + 20]? = some (vp_cell cJ (8, .inr (.inr (.inr (.inr (fun i => some (cn_ad B (21 + (i : Int))))))))) := hX 20 (.inr (.inl (8, 21))) rfl
  show H[B + 20]? = some (vp_cell cJ (8, .inr (.inr (.inr (.inr (fun i => some (w0_ad B b (8 + (i : Int)))))))))
  rw [q, vp_cell_q, vp_cell_q]
  refine congrArg some (w0_arr (fun i hi => ?_))
  have e1 := w0_row (B := B) (b := b) (t := 8) (c := 21) 8 8 (by intro i hi; rw [w0_pi_eq]; (repeat' split) <;> omega) rfl i hi
  have e2 : cn_ad B (21 + (i : Int)) = B + (21 + i) := by unfold cn_ad; omega
  rw [e1, e2]
theorem w0_8 {D : va_G} {B b : Nat} {cI cJ : ClassId} {xs : Nat → Int32} {H : Heap} (hX : ∀ (i : Nat) (e : cn_E), cl_28[i]? = some e → va_at D ol_cls (B + i, cn_e B cI cJ e) H) (hM : ∀ (i : Nat) (e : cn_E), w0_LM[i]? = some e → va_at D ol_cls (B + 132 + i, cn_e (B + 132) cI cJ e) H) : va_at D ol_cls (w0_ad B b 8, ol_E (w0_ad B b) cI cJ (w0_M xs) 8 (.inl 6)) H := hX 21 (.inl (6, fun _ => 0)) rfl
theorem w0_9 {D : va_G} {B b : Nat} {cI cJ : ClassId} {xs : Nat → Int32} {H : Heap} (hX : ∀ (i : Nat) (e : cn_E), cl_28[i]? = some e → va_at D ol_cls (B + i, cn_e B cI cJ e) H) (hM : ∀ (i : Nat) (e : cn_E), w0_LM[i]? = some e → va_at D ol_cls (B + 132 + i, cn_e (B + 132) cI cJ e) H) : va_at D ol_cls (w0_ad B b 9, ol_E (w0_ad B b) cI cJ (w0_M xs) 9 (.inl 6)) H := hX 22 (.inl (6, fun _ => 0)) rfl
theorem w0_10 {D : va_G} {B b : Nat} {cI cJ : ClassId} {xs : Nat → Int32} {H : Heap} (hX : ∀ (i : Nat) (e : cn_E), cl_28[i]? = some e → va_at D ol_cls (B + i, cn_e B cI cJ e) H) (hM : ∀ (i : Nat) (e : cn_E), w0_LM[i]? = some e → va_at D ol_cls (B + 132 + i, cn_e (B + 132) cI cJ e) H) : va_at D ol_cls (w0_ad B b 10, ol_E (w0_ad B b) cI cJ (w0_M xs) 10 (.inl 6)) H := hX 23 (.inl (6, fun _ => 0)) rfl
theorem w0_11 {D : va_G} {B b : Nat} {cI cJ : ClassId} {xs : Nat → Int32} {H : Heap} (hX : ∀ (i : Nat) (e : cn_E), cl_28[i]? = some e → va_at D ol_cls (B + i, cn_e B cI cJ e) H) (hM : ∀ (i : Nat) (e : cn_E), w0_LM[i]? = some e → va_at D ol_cls (B + 132 + i, cn_e (B + 132) cI cJ e) H) : va_at D ol_cls (w0_ad B b 11, ol_E (w0_ad B b) cI cJ (w0_M xs) 11 (.inl 6)) H := hX 24 (.inl (6, fun _ => 0)) rfl
theorem w0_12 {D : va_G} {B b : Nat} {cI cJ : ClassId} {xs : Nat → Int32} {H : Heap} (hX : ∀ (i : Nat) (e : cn_E), cl_28[i]? = some e → va_at D ol_cls (B + i, cn_e B cI cJ e) H) (hM : ∀ (i : Nat) (e : cn_E), w0_LM[i]? = some e → va_at D ol_cls (B + 132 + i, cn_e (B + 132) cI cJ e) H) : va_at D ol_cls (w0_ad B b 12, ol_E (w0_ad B b) cI cJ (w0_M xs) 12 (.inl 6)) H := hX 25 (.inl (6, fun _ => 0)) rfl
theorem w0_13 {D : va_G} {B b : Nat} {cI cJ : ClassId} {xs : Nat → Int32} {H : Heap} (hX : ∀ (i : Nat) (e : cn_E), cl_28[i]? = some e → va_at D ol_cls (B + i, cn_e B cI cJ e) H) (hM : ∀ (i : Nat) (e : cn_E), w0_LM[i]? = some e → va_at D ol_cls (B + 132 + i, cn_e (B + 132) cI cJ e) H) : va_at D ol_cls (w0_ad B b 13, ol_E (w0_ad B b) cI cJ (w0_M xs) 13 (.inl 6)) H := hX 26 (.inl (6, fun _ => 0)) rfl
theorem w0_14 {D : va_G} {B b : Nat} {cI cJ : ClassId} {xs : Nat → Int32} {H : Heap} (hX : ∀ (i : Nat) (e : cn_E), cl_28[i]? = some e → va_at D ol_cls (B + i, cn_e B cI cJ e) H) (hM : ∀ (i : Nat) (e : cn_E), w0_LM[i]? = some e → va_at D ol_cls (B + 132 + i, cn_e (B + 132) cI cJ e) H) : va_at D ol_cls (w0_ad B b 14, ol_E (w0_ad B b) cI cJ (w0_M xs) 14 (.inl 6)) H := hX 27 (.inl (6, fun _ => 0)) rfl
theorem w0_15 {D : va_G} {B b : Nat} {cI cJ : ClassId} {xs : Nat → Int32} {H : Heap} (hX : ∀ (i : Nat) (e : cn_E), cl_28[i]? = some e → va_at D ol_cls (B + i, cn_e B cI cJ e) H) (hM : ∀ (i : Nat) (e : cn_E), w0_LM[i]? = some e → va_at D ol_cls (B + 132 + i, cn_e (B + 132) cI cJ e) H) : va_at D ol_cls (w0_ad B b 15, ol_E (w0_ad B b) cI cJ (w0_M xs) 15 (.inl 6)) H := hX 28 (.inl (6, fun _ => 0)) rfl
theorem w0_16 {D : va_G} {B b : Nat} {cI cJ : ClassId} {xs : Nat → Int32} {H : Heap} (hX : ∀ (i : Nat) (e : cn_E), cl_28[i]? = some e → va_at D ol_cls (B + i, cn_e B cI cJ e) H) (hM : ∀ (i : Nat) (e : cn_E), w0_LM[i]? = some e → va_at D ol_cls (B + 132 + i, cn_e (B + 132) cI cJ e) H) : va_at D ol_cls (w0_ad B b 16, ol_E (w0_ad B b) cI cJ (w0_M xs) 16 (.inr (.inl (8, 17)))) H := by
  have q : H[B + 29]? = some (vp_cell cJ (8, .inr (.inr (.inr (.inr (fun i => some (cn_ad B (30 + (i : Int))))))))) := hX 29 (.inr (.inl (8, 30))) rfl
  show H[B + 29]? = some (vp_cell cJ (8, .inr (.inr (.inr (.inr (fun i => some (w0_ad B b (17 + (i : Int)))))))))
  rw [q, vp_cell_q, vp_cell_q]
  refine congrArg some (w0_arr (fun i hi => ?_))
  have e1 := w0_row (B := B) (b := b) (t := 17) (c := 30) 17 8 (by intro i hi; rw [w0_pi_eq]; (repeat' split) <;> omega) rfl i hi
  have e2 : cn_ad B (30 + (i : Int)) = B + (30 + i) := by unfold cn_ad; omega
  rw [e1, e2]
theorem w0_17 {D : va_G} {B b : Nat} {cI cJ : ClassId} {xs : Nat → Int32} {H : Heap} (hX : ∀ (i : Nat) (e : cn_E), cl_28[i]? = some e → va_at D ol_cls (B + i, cn_e B cI cJ e) H) (hM : ∀ (i : Nat) (e : cn_E), w0_LM[i]? = some e → va_at D ol_cls (B + 132 + i, cn_e (B + 132) cI cJ e) H) : va_at D ol_cls (w0_ad B b 17, ol_E (w0_ad B b) cI cJ (w0_M xs) 17 (.inl 8)) H := hX 30 (.inl (8, fun _ => 0)) rfl
theorem w0_18 {D : va_G} {B b : Nat} {cI cJ : ClassId} {xs : Nat → Int32} {H : Heap} (hX : ∀ (i : Nat) (e : cn_E), cl_28[i]? = some e → va_at D ol_cls (B + i, cn_e B cI cJ e) H) (hM : ∀ (i : Nat) (e : cn_E), w0_LM[i]? = some e → va_at D ol_cls (B + 132 + i, cn_e (B + 132) cI cJ e) H) : va_at D ol_cls (w0_ad B b 18, ol_E (w0_ad B b) cI cJ (w0_M xs) 18 (.inl 8)) H := hX 31 (.inl (8, fun _ => 0)) rfl
theorem w0_19 {D : va_G} {B b : Nat} {cI cJ : ClassId} {xs : Nat → Int32} {H : Heap} (hX : ∀ (i : Nat) (e : cn_E), cl_28[i]? = some e → va_at D ol_cls (B + i, cn_e B cI cJ e) H) (hM : ∀ (i : Nat) (e : cn_E), w0_LM[i]? = some e → va_at D ol_cls (B + 132 + i, cn_e (B + 132) cI cJ e) H) : va_at D ol_cls (w0_ad B b 19, ol_E (w0_ad B b) cI cJ (w0_M xs) 19 (.inl 8)) H := hX 32 (.inl (8, fun _ => 0)) rfl
theorem w0_20 {D : va_G} {B b : Nat} {cI cJ : ClassId} {xs : Nat → Int32} {H : Heap} (hX : ∀ (i : Nat) (e : cn_E), cl_28[i]? = some e → va_at D ol_cls (B + i, cn_e B cI cJ e) H) (hM : ∀ (i : Nat) (e : cn_E), w0_LM[i]? = some e → va_at D ol_cls (B + 132 + i, cn_e (B + 132) cI cJ e) H) : va_at D ol_cls (w0_ad B b 20, ol_E (w0_ad B b) cI cJ (w0_M xs) 20 (.inl 8)) H := hX 33 (.inl (8, fun _ => 0)) rfl
theorem w0_21 {D : va_G} {B b : Nat} {cI cJ : ClassId} {xs : Nat → Int32} {H : Heap} (hX : ∀ (i : Nat) (e : cn_E), cl_28[i]? = some e → va_at D ol_cls (B + i, cn_e B cI cJ e) H) (hM : ∀ (i : Nat) (e : cn_E), w0_LM[i]? = some e → va_at D ol_cls (B + 132 + i, cn_e (B + 132) cI cJ e) H) : va_at D ol_cls (w0_ad B b 21, ol_E (w0_ad B b) cI cJ (w0_M xs) 21 (.inl 8)) H := hX 34 (.inl (8, fun _ => 0)) rfl
theorem w0_22 {D : va_G} {B b : Nat} {cI cJ : ClassId} {xs : Nat → Int32} {H : Heap} (hX : ∀ (i : Nat) (e : cn_E), cl_28[i]? = some e → va_at D ol_cls (B + i, cn_e B cI cJ e) H) (hM : ∀ (i : Nat) (e : cn_E), w0_LM[i]? = some e → va_at D ol_cls (B + 132 + i, cn_e (B + 132) cI cJ e) H) : va_at D ol_cls (w0_ad B b 22, ol_E (w0_ad B b) cI cJ (w0_M xs) 22 (.inl 8)) H := hX 35 (.inl (8, fun _ => 0)) rfl
theorem w0_23 {D : va_G} {B b : Nat} {cI cJ : ClassId} {xs : Nat → Int32} {H : Heap} (hX : ∀ (i : Nat) (e : cn_E), cl_28[i]? = some e → va_at D ol_cls (B + i, cn_e B cI cJ e) H) (hM : ∀ (i : Nat) (e : cn_E), w0_LM[i]? = some e → va_at D ol_cls (B + 132 + i, cn_e (B + 132) cI cJ e) H) : va_at D ol_cls (w0_ad B b 23, ol_E (w0_ad B b) cI cJ (w0_M xs) 23 (.inl 8)) H := hX 36 (.inl (8, fun _ => 0)) rfl
theorem w0_24 {D : va_G} {B b : Nat} {cI cJ : ClassId} {xs : Nat → Int32} {H : Heap} (hX : ∀ (i : Nat) (e : cn_E), cl_28[i]? = some e → va_at D ol_cls (B + i, cn_e B cI cJ e) H) (hM : ∀ (i : Nat) (e : cn_E), w0_LM[i]? = some e → va_at D ol_cls (B + 132 + i, cn_e (B + 132) cI cJ e) H) : va_at D ol_cls (w0_ad B b 24, ol_E (w0_ad B b) cI cJ (w0_M xs) 24 (.inl 8)) H := hX 37 (.inl (8, fun _ => 0)) rfl
theorem w0_25 {D : va_G} {B b : Nat} {cI cJ : ClassId} {xs : Nat → Int32} {H : Heap} (hX : ∀ (i : Nat) (e : cn_E), cl_28[i]? = some e → va_at D ol_cls (B + i, cn_e B cI cJ e) H) (hM : ∀ (i : Nat) (e : cn_E), w0_LM[i]? = some e → va_at D ol_cls (B + 132 + i, cn_e (B + 132) cI cJ e) H) : va_at D ol_cls (w0_ad B b 25, ol_E (w0_ad B b) cI cJ (w0_M xs) 25 (.inr (.inl (8, 26)))) H := by
  have q : H[B + 38]? = some (vp_cell cJ (8, .inr (.inr (.inr (.inr (fun i => some (cn_ad B (39 + (i : Int))))))))) := hX 38 (.inr (.inl (8, 39))) rfl
  show H[B + 38]? = some (vp_cell cJ (8, .inr (.inr (.inr (.inr (fun i => some (w0_ad B b (26 + (i : Int)))))))))
  rw [q, vp_cell_q, vp_cell_q]
  refine congrArg some (w0_arr (fun i hi => ?_))
  have e1 := w0_row (B := B) (b := b) (t := 26) (c := 39) 26 8 (by intro i hi; rw [w0_pi_eq]; (repeat' split) <;> omega) rfl i hi
  have e2 : cn_ad B (39 + (i : Int)) = B + (39 + i) := by unfold cn_ad; omega
  rw [e1, e2]
theorem w0_26 {D : va_G} {B b : Nat} {cI cJ : ClassId} {xs : Nat → Int32} {H : Heap} (hX : ∀ (i : Nat) (e : cn_E), cl_28[i]? = some e → va_at D ol_cls (B + i, cn_e B cI cJ e) H) (hM : ∀ (i : Nat) (e : cn_E), w0_LM[i]? = some e → va_at D ol_cls (B + 132 + i, cn_e (B + 132) cI cJ e) H) : va_at D ol_cls (w0_ad B b 26, ol_E (w0_ad B b) cI cJ (w0_M xs) 26 (.inl 8)) H := hX 39 (.inl (8, fun _ => 0)) rfl
theorem w0_27 {D : va_G} {B b : Nat} {cI cJ : ClassId} {xs : Nat → Int32} {H : Heap} (hX : ∀ (i : Nat) (e : cn_E), cl_28[i]? = some e → va_at D ol_cls (B + i, cn_e B cI cJ e) H) (hM : ∀ (i : Nat) (e : cn_E), w0_LM[i]? = some e → va_at D ol_cls (B + 132 + i, cn_e (B + 132) cI cJ e) H) : va_at D ol_cls (w0_ad B b 27, ol_E (w0_ad B b) cI cJ (w0_M xs) 27 (.inl 8)) H := hX 40 (.inl (8, fun _ => 0)) rfl
theorem w0_28 {D : va_G} {B b : Nat} {cI cJ : ClassId} {xs : Nat → Int32} {H : Heap} (hX : ∀ (i : Nat) (e : cn_E), cl_28[i]? = some e → va_at D ol_cls (B + i, cn_e B cI cJ e) H) (hM : ∀ (i : Nat) (e : cn_E), w0_LM[i]? = some e → va_at D ol_cls (B + 132 + i, cn_e (B + 132) cI cJ e) H) : va_at D ol_cls (w0_ad B b 28, ol_E (w0_ad B b) cI cJ (w0_M xs) 28 (.inl 8)) H := hX 41 (.inl (8, fun _ => 0)) rfl
theorem w0_29 {D : va_G} {B b : Nat} {cI cJ : ClassId} {xs : Nat → Int32} {H : Heap} (hX : ∀ (i : Nat) (e : cn_E), cl_28[i]? = some e → va_at D ol_cls (B + i, cn_e B cI cJ e) H) (hM : ∀ (i : Nat) (e : cn_E), w0_LM[i]? = some e → va_at D ol_cls (B + 132 + i, cn_e (B + 132) cI cJ e) H) : va_at D ol_cls (w0_ad B b 29, ol_E (w0_ad B b) cI cJ (w0_M xs) 29 (.inl 8)) H := hX 42 (.inl (8, fun _ => 0)) rfl
theorem w0_30 {D : va_G} {B b : Nat} {cI cJ : ClassId} {xs : Nat → Int32} {H : Heap} (hX : ∀ (i : Nat) (e : cn_E), cl_28[i]? = some e → va_at D ol_cls (B + i, cn_e B cI cJ e) H) (hM : ∀ (i : Nat) (e : cn_E), w0_LM[i]? = some e → va_at D ol_cls (B + 132 + i, cn_e (B + 132) cI cJ e) H) : va_at D ol_cls (w0_ad B b 30, ol_E (w0_ad B b) cI cJ (w0_M xs) 30 (.inl 8)) H := hX 43 (.inl (8, fun _ => 0)) rfl
theorem w0_31 {D : va_G} {B b : Nat} {cI cJ : ClassId} {xs : Nat → Int32} {H : Heap} (hX : ∀ (i : Nat) (e : cn_E), cl_28[i]? = some e → va_at D ol_cls (B + i, cn_e B cI cJ e) H) (hM : ∀ (i : Nat) (e : cn_E), w0_LM[i]? = some e → va_at D ol_cls (B + 132 + i, cn_e (B + 132) cI cJ e) H) : va_at D ol_cls (w0_ad B b 31, ol_E (w0_ad B b) cI cJ (w0_M xs) 31 (.inl 8)) H := hX 44 (.inl (8, fun _ => 0)) rfl
theorem w0_32 {D : va_G} {B b : Nat} {cI cJ : ClassId} {xs : Nat → Int32} {H : Heap} (hX : ∀ (i : Nat) (e : cn_E), cl_28[i]? = some e → va_at D ol_cls (B + i, cn_e B cI cJ e) H) (hM : ∀ (i : Nat) (e : cn_E), w0_LM[i]? = some e → va_at D ol_cls (B + 132 + i, cn_e (B + 132) cI cJ e) H) : va_at D ol_cls (w0_ad B b 32, ol_E (w0_ad B b) cI cJ (w0_M xs) 32 (.inl 8)) H := hX 45 (.inl (8, fun _ => 0)) rfl
theorem w0_33 {D : va_G} {B b : Nat} {cI cJ : ClassId} {xs : Nat → Int32} {H : Heap} (hX : ∀ (i : Nat) (e : cn_E), cl_28[i]? = some e → va_at D ol_cls (B + i, cn_e B cI cJ e) H) (hM : ∀ (i : Nat) (e : cn_E), w0_LM[i]? = some e → va_at D ol_cls (B + 132 + i, cn_e (B + 132) cI cJ e) H) : va_at D ol_cls (w0_ad B b 33, ol_E (w0_ad B b) cI cJ (w0_M xs) 33 (.inl 8)) H := hX 46 (.inl (8, fun _ => 0)) rfl
theorem w0_34 {D : va_G} {B b : Nat} {cI cJ : ClassId} {xs : Nat → Int32} {H : Heap} (hX : ∀ (i : Nat) (e : cn_E), cl_28[i]? = some e → va_at D ol_cls (B + i, cn_e B cI cJ e) H) (hM : ∀ (i : Nat) (e : cn_E), w0_LM[i]? = some e → va_at D ol_cls (B + 132 + i, cn_e (B + 132) cI cJ e) H) : va_at D ol_cls (w0_ad B b 34, ol_E (w0_ad B b) cI cJ (w0_M xs) 34 (.inl 8)) H := hX 47 (.inl (8, fun _ => 0)) rfl
theorem w0_35 {D : va_G} {B b : Nat} {cI cJ : ClassId} {xs : Nat → Int32} {H : Heap} (hX : ∀ (i : Nat) (e : cn_E), cl_28[i]? = some e → va_at D ol_cls (B + i, cn_e B cI cJ e) H) (hM : ∀ (i : Nat) (e : cn_E), w0_LM[i]? = some e → va_at D ol_cls (B + 132 + i, cn_e (B + 132) cI cJ e) H) : va_at D ol_cls (w0_ad B b 35, ol_E (w0_ad B b) cI cJ (w0_M xs) 35 (.inl 8)) H := hX 48 (.inl (8, fun _ => 0)) rfl
theorem w0_36 {D : va_G} {B b : Nat} {cI cJ : ClassId} {xs : Nat → Int32} {H : Heap} (hX : ∀ (i : Nat) (e : cn_E), cl_28[i]? = some e → va_at D ol_cls (B + i, cn_e B cI cJ e) H) (hM : ∀ (i : Nat) (e : cn_E), w0_LM[i]? = some e → va_at D ol_cls (B + 132 + i, cn_e (B + 132) cI cJ e) H) : va_at D ol_cls (w0_ad B b 36, ol_E (w0_ad B b) cI cJ (w0_M xs) 36 (.inl 8)) H := hX 49 (.inl (8, fun _ => 0)) rfl
theorem w0_37 {D : va_G} {B b : Nat} {cI cJ : ClassId} {xs : Nat → Int32} {H : Heap} (hX : ∀ (i : Nat) (e : cn_E), cl_28[i]? = some e → va_at D ol_cls (B + i, cn_e B cI cJ e) H) (hM : ∀ (i : Nat) (e : cn_E), w0_LM[i]? = some e → va_at D ol_cls (B + 132 + i, cn_e (B + 132) cI cJ e) H) : va_at D ol_cls (w0_ad B b 37, ol_E (w0_ad B b) cI cJ (w0_M xs) 37 (.inr (.inr (6, [some 38, some 39, some 40, some 41, none, some 42, some 43, some 44, some 45, none, some 46, some 47, some 48, some 49, none])))) H := hX 50 (.inr (.inr (6, [some (.inr (.inr 51)), some (.inr (.inr 52)), some (.inr (.inr 53)), some (.inr (.inr 54)), some (.inl 0), some (.inr (.inr 55)), some (.inr (.inr 56)), some (.inr (.inr 57)), some (.inr (.inr 58)), some (.inl 0), some (.inr (.inr 59)), some (.inr (.inr 60)), some (.inr (.inr 61)), some (.inr (.inr 62)), some (.inl 0)]))) rfl
theorem w0_38 {D : va_G} {B b : Nat} {cI cJ : ClassId} {xs : Nat → Int32} {H : Heap} (hX : ∀ (i : Nat) (e : cn_E), cl_28[i]? = some e → va_at D ol_cls (B + i, cn_e B cI cJ e) H) (hM : ∀ (i : Nat) (e : cn_E), w0_LM[i]? = some e → va_at D ol_cls (B + 132 + i, cn_e (B + 132) cI cJ e) H) : va_at D ol_cls (w0_ad B b 38, ol_E (w0_ad B b) cI cJ (w0_M xs) 38 (.inl 8)) H := hX 51 (.inl (8, ol_fl (fun _ => 0) 2 8)) rfl
theorem w0_39 {D : va_G} {B b : Nat} {cI cJ : ClassId} {xs : Nat → Int32} {H : Heap} (hX : ∀ (i : Nat) (e : cn_E), cl_28[i]? = some e → va_at D ol_cls (B + i, cn_e B cI cJ e) H) (hM : ∀ (i : Nat) (e : cn_E), w0_LM[i]? = some e → va_at D ol_cls (B + 132 + i, cn_e (B + 132) cI cJ e) H) : va_at D ol_cls (w0_ad B b 39, ol_E (w0_ad B b) cI cJ (w0_M xs) 39 (.inl 12)) H := hX 52 (.inl (12, fun _ => 0)) rfl
theorem w0_40 {D : va_G} {B b : Nat} {cI cJ : ClassId} {xs : Nat → Int32} {H : Heap} (hX : ∀ (i : Nat) (e : cn_E), cl_28[i]? = some e → va_at D ol_cls (B + i, cn_e B cI cJ e) H) (hM : ∀ (i : Nat) (e : cn_E), w0_LM[i]? = some e → va_at D ol_cls (B + 132 + i, cn_e (B + 132) cI cJ e) H) : va_at D ol_cls (w0_ad B b 40, ol_E (w0_ad B b) cI cJ (w0_M xs) 40 (.inl 12)) H := hX 53 (.inl (12, fun _ => 0)) rfl
theorem w0_41 {D : va_G} {B b : Nat} {cI cJ : ClassId} {xs : Nat → Int32} {H : Heap} (hX : ∀ (i : Nat) (e : cn_E), cl_28[i]? = some e → va_at D ol_cls (B + i, cn_e B cI cJ e) H) (hM : ∀ (i : Nat) (e : cn_E), w0_LM[i]? = some e → va_at D ol_cls (B + 132 + i, cn_e (B + 132) cI cJ e) H) : va_at D ol_cls (w0_ad B b 41, ol_E (w0_ad B b) cI cJ (w0_M xs) 41 (.inl 12)) H := hX 54 (.inl (12, fun _ => 0)) rfl
theorem w0_42 {D : va_G} {B b : Nat} {cI cJ : ClassId} {xs : Nat → Int32} {H : Heap} (hX : ∀ (i : Nat) (e : cn_E), cl_28[i]? = some e → va_at D ol_cls (B + i, cn_e B cI cJ e) H) (hM : ∀ (i : Nat) (e : cn_E), w0_LM[i]? = some e → va_at D ol_cls (B + 132 + i, cn_e (B + 132) cI cJ e) H) : va_at D ol_cls (w0_ad B b 42, ol_E (w0_ad B b) cI cJ (w0_M xs) 42 (.inl 8)) H := hX 55 (.inl (8, fun _ => 0)) rfl
theorem w0_43 {D : va_G} {B b : Nat} {cI cJ : ClassId} {xs : Nat → Int32} {H : Heap} (hX : ∀ (i : Nat) (e : cn_E), cl_28[i]? = some e → va_at D ol_cls (B + i, cn_e B cI cJ e) H) (hM : ∀ (i : Nat) (e : cn_E), w0_LM[i]? = some e → va_at D ol_cls (B + 132 + i, cn_e (B + 132) cI cJ e) H) : va_at D ol_cls (w0_ad B b 43, ol_E (w0_ad B b) cI cJ (w0_M xs) 43 (.inl 8)) H := hX 56 (.inl (8, fun _ => 0)) rfl
theorem w0_44 {D : va_G} {B b : Nat} {cI cJ : ClassId} {xs : Nat → Int32} {H : Heap} (hX : ∀ (i : Nat) (e : cn_E), cl_28[i]? = some e → va_at D ol_cls (B + i, cn_e B cI cJ e) H) (hM : ∀ (i : Nat) (e : cn_E), w0_LM[i]? = some e → va_at D ol_cls (B + 132 + i, cn_e (B + 132) cI cJ e) H) : va_at D ol_cls (w0_ad B b 44, ol_E (w0_ad B b) cI cJ (w0_M xs) 44 (.inl 8)) H := hX 57 (.inl (8, fun _ => 0)) rfl
theorem w0_45 {D : va_G} {B b : Nat} {cI cJ : ClassId} {xs : Nat → Int32} {H : Heap} (hX : ∀ (i : Nat) (e : cn_E), cl_28[i]? = some e → va_at D ol_cls (B + i, cn_e B cI cJ e) H) (hM : ∀ (i : Nat) (e : cn_E), w0_LM[i]? = some e → va_at D ol_cls (B + 132 + i, cn_e (B + 132) cI cJ e) H) : va_at D ol_cls (w0_ad B b 45, ol_E (w0_ad B b) cI cJ (w0_M xs) 45 (.inl 8)) H := hX 58 (.inl (8, fun _ => 0)) rfl
theorem w0_46 {D : va_G} {B b : Nat} {cI cJ : ClassId} {xs : Nat → Int32} {H : Heap} (hX : ∀ (i : Nat) (e : cn_E), cl_28[i]? = some e → va_at D ol_cls (B + i, cn_e B cI cJ e) H) (hM : ∀ (i : Nat) (e : cn_E), w0_LM[i]? = some e → va_at D ol_cls (B + 132 + i, cn_e (B + 132) cI cJ e) H) : va_at D ol_cls (w0_ad B b 46, ol_E (w0_ad B b) cI cJ (w0_M xs) 46 (.inl 8)) H := hX 59 (.inl (8, fun _ => 0)) rfl
theorem w0_47 {D : va_G} {B b : Nat} {cI cJ : ClassId} {xs : Nat → Int32} {H : Heap} (hX : ∀ (i : Nat) (e : cn_E), cl_28[i]? = some e → va_at D ol_cls (B + i, cn_e B cI cJ e) H) (hM : ∀ (i : Nat) (e : cn_E), w0_LM[i]? = some e → va_at D ol_cls (B + 132 + i, cn_e (B + 132) cI cJ e) H) : va_at D ol_cls (w0_ad B b 47, ol_E (w0_ad B b) cI cJ (w0_M xs) 47 (.inl 8)) H := hX 60 (.inl (8, fun _ => 0)) rfl
theorem w0_48 {D : va_G} {B b : Nat} {cI cJ : ClassId} {xs : Nat → Int32} {H : Heap} (hX : ∀ (i : Nat) (e : cn_E), cl_28[i]? = some e → va_at D ol_cls (B + i, cn_e B cI cJ e) H) (hM : ∀ (i : Nat) (e : cn_E), w0_LM[i]? = some e → va_at D ol_cls (B + 132 + i, cn_e (B + 132) cI cJ e) H) : va_at D ol_cls (w0_ad B b 48, ol_E (w0_ad B b) cI cJ (w0_M xs) 48 (.inl 8)) H := hX 61 (.inl (8, fun _ => 0)) rfl
theorem w0_49 {D : va_G} {B b : Nat} {cI cJ : ClassId} {xs : Nat → Int32} {H : Heap} (hX : ∀ (i : Nat) (e : cn_E), cl_28[i]? = some e → va_at D ol_cls (B + i, cn_e B cI cJ e) H) (hM : ∀ (i : Nat) (e : cn_E), w0_LM[i]? = some e → va_at D ol_cls (B + 132 + i, cn_e (B + 132) cI cJ e) H) : va_at D ol_cls (w0_ad B b 49, ol_E (w0_ad B b) cI cJ (w0_M xs) 49 (.inl 8)) H := hX 62 (.inl (8, fun _ => 0)) rfl
theorem w0_50 {D : va_G} {B b : Nat} {cI cJ : ClassId} {xs : Nat → Int32} {H : Heap} (hX : ∀ (i : Nat) (e : cn_E), cl_28[i]? = some e → va_at D ol_cls (B + i, cn_e B cI cJ e) H) (hM : ∀ (i : Nat) (e : cn_E), w0_LM[i]? = some e → va_at D ol_cls (B + 132 + i, cn_e (B + 132) cI cJ e) H) : va_at D ol_cls (w0_ad B b 50, ol_E (w0_ad B b) cI cJ (w0_M xs) 50 (.inr (.inr (2, [some 1, some 5, some 37])))) H := hX 63 (.inr (.inr (2, [some (.inr (.inr 14)), some (.inr (.inr 18)), some (.inr (.inr 50))]))) rfl
theorem w0_51 {D : va_G} {B b : Nat} {cI cJ : ClassId} {xs : Nat → Int32} {H : Heap} (hX : ∀ (i : Nat) (e : cn_E), cl_28[i]? = some e → va_at D ol_cls (B + i, cn_e B cI cJ e) H) (hM : ∀ (i : Nat) (e : cn_E), w0_LM[i]? = some e → va_at D ol_cls (B + 132 + i, cn_e (B + 132) cI cJ e) H) : va_at D ol_cls (w0_ad B b 51, ol_E (w0_ad B b) cI cJ (w0_M xs) 51 (.inr (.inr (3, [some 50, some 37, some 52, some 53, some 54, some 67, none, none])))) H := hX 64 (.inr (.inr (3, [some (.inr (.inr 63)), some (.inr (.inr 50)), some (.inr (.inr 65)), some (.inr (.inr 66)), some (.inr (.inr 67)), some (.inr (.inr 80)), some (.inl (-1)), some (.inl 1)]))) rfl
theorem w0_52 {D : va_G} {B b : Nat} {cI cJ : ClassId} {xs : Nat → Int32} {H : Heap} (hX : ∀ (i : Nat) (e : cn_E), cl_28[i]? = some e → va_at D ol_cls (B + i, cn_e B cI cJ e) H) (hM : ∀ (i : Nat) (e : cn_E), w0_LM[i]? = some e → va_at D ol_cls (B + 132 + i, cn_e (B + 132) cI cJ e) H) : va_at D ol_cls (w0_ad B b 52, ol_E (w0_ad B b) cI cJ (w0_M xs) 52 (.inl 8)) H := hX 65 (.inl (8, fun _ => 0)) rfl
theorem w0_53 {D : va_G} {B b : Nat} {cI cJ : ClassId} {xs : Nat → Int32} {H : Heap} (hX : ∀ (i : Nat) (e : cn_E), cl_28[i]? = some e → va_at D ol_cls (B + i, cn_e B cI cJ e) H) (hM : ∀ (i : Nat) (e : cn_E), w0_LM[i]? = some e → va_at D ol_cls (B + 132 + i, cn_e (B + 132) cI cJ e) H) : va_at D ol_cls (w0_ad B b 53, ol_E (w0_ad B b) cI cJ (w0_M xs) 53 (.inl 64)) H := hX 66 (.inl (64, fun _ => 0)) rfl
theorem w0_54 {D : va_G} {B b : Nat} {cI cJ : ClassId} {xs : Nat → Int32} {H : Heap} (hX : ∀ (i : Nat) (e : cn_E), cl_28[i]? = some e → va_at D ol_cls (B + i, cn_e B cI cJ e) H) (hM : ∀ (i : Nat) (e : cn_E), w0_LM[i]? = some e → va_at D ol_cls (B + 132 + i, cn_e (B + 132) cI cJ e) H) : va_at D ol_cls (w0_ad B b 54, ol_E (w0_ad B b) cI cJ (w0_M xs) 54 (.inr (.inl (12, 55)))) H := by
  have q : H[B + 67]? = some (vp_cell cJ (12, .inr (.inr (.inr (.inr (fun i => some (cn_ad B (68 + (i : Int))))))))) := hX 67 (.inr (.inl (12, 68))) rfl
  show H[B + 67]? = some (vp_cell cJ (12, .inr (.inr (.inr (.inr (fun i => some (w0_ad B b (55 + (i : Int)))))))))
  rw [q, vp_cell_q, vp_cell_q]
  refine congrArg some (w0_arr (fun i hi => ?_))
  have e1 := w0_row (B := B) (b := b) (t := 55) (c := 68) 55 12 (by intro i hi; rw [w0_pi_eq]; (repeat' split) <;> omega) rfl i hi
  have e2 : cn_ad B (68 + (i : Int)) = B + (68 + i) := by unfold cn_ad; omega
  rw [e1, e2]
theorem w0_55 {D : va_G} {B b : Nat} {cI cJ : ClassId} {xs : Nat → Int32} {H : Heap} (hX : ∀ (i : Nat) (e : cn_E), cl_28[i]? = some e → va_at D ol_cls (B + i, cn_e B cI cJ e) H) (hM : ∀ (i : Nat) (e : cn_E), w0_LM[i]? = some e → va_at D ol_cls (B + 132 + i, cn_e (B + 132) cI cJ e) H) : va_at D ol_cls (w0_ad B b 55, ol_E (w0_ad B b) cI cJ (w0_M xs) 55 (.inl 64)) H := hX 68 (.inl (64, fun _ => 0)) rfl
theorem w0_56 {D : va_G} {B b : Nat} {cI cJ : ClassId} {xs : Nat → Int32} {H : Heap} (hX : ∀ (i : Nat) (e : cn_E), cl_28[i]? = some e → va_at D ol_cls (B + i, cn_e B cI cJ e) H) (hM : ∀ (i : Nat) (e : cn_E), w0_LM[i]? = some e → va_at D ol_cls (B + 132 + i, cn_e (B + 132) cI cJ e) H) : va_at D ol_cls (w0_ad B b 56, ol_E (w0_ad B b) cI cJ (w0_M xs) 56 (.inl 64)) H := hX 69 (.inl (64, fun _ => 0)) rfl
theorem w0_57 {D : va_G} {B b : Nat} {cI cJ : ClassId} {xs : Nat → Int32} {H : Heap} (hX : ∀ (i : Nat) (e : cn_E), cl_28[i]? = some e → va_at D ol_cls (B + i, cn_e B cI cJ e) H) (hM : ∀ (i : Nat) (e : cn_E), w0_LM[i]? = some e → va_at D ol_cls (B + 132 + i, cn_e (B + 132) cI cJ e) H) : va_at D ol_cls (w0_ad B b 57, ol_E (w0_ad B b) cI cJ (w0_M xs) 57 (.inl 64)) H := hX 70 (.inl (64, fun _ => 0)) rfl
theorem w0_58 {D : va_G} {B b : Nat} {cI cJ : ClassId} {xs : Nat → Int32} {H : Heap} (hX : ∀ (i : Nat) (e : cn_E), cl_28[i]? = some e → va_at D ol_cls (B + i, cn_e B cI cJ e) H) (hM : ∀ (i : Nat) (e : cn_E), w0_LM[i]? = some e → va_at D ol_cls (B + 132 + i, cn_e (B + 132) cI cJ e) H) : va_at D ol_cls (w0_ad B b 58, ol_E (w0_ad B b) cI cJ (w0_M xs) 58 (.inl 64)) H := hX 71 (.inl (64, fun _ => 0)) rfl
theorem w0_59 {D : va_G} {B b : Nat} {cI cJ : ClassId} {xs : Nat → Int32} {H : Heap} (hX : ∀ (i : Nat) (e : cn_E), cl_28[i]? = some e → va_at D ol_cls (B + i, cn_e B cI cJ e) H) (hM : ∀ (i : Nat) (e : cn_E), w0_LM[i]? = some e → va_at D ol_cls (B + 132 + i, cn_e (B + 132) cI cJ e) H) : va_at D ol_cls (w0_ad B b 59, ol_E (w0_ad B b) cI cJ (w0_M xs) 59 (.inl 64)) H := hX 72 (.inl (64, fun _ => 0)) rfl
theorem w0_60 {D : va_G} {B b : Nat} {cI cJ : ClassId} {xs : Nat → Int32} {H : Heap} (hX : ∀ (i : Nat) (e : cn_E), cl_28[i]? = some e → va_at D ol_cls (B + i, cn_e B cI cJ e) H) (hM : ∀ (i : Nat) (e : cn_E), w0_LM[i]? = some e → va_at D ol_cls (B + 132 + i, cn_e (B + 132) cI cJ e) H) : va_at D ol_cls (w0_ad B b 60, ol_E (w0_ad B b) cI cJ (w0_M xs) 60 (.inl 64)) H := hX 73 (.inl (64, fun _ => 0)) rfl
theorem w0_61 {D : va_G} {B b : Nat} {cI cJ : ClassId} {xs : Nat → Int32} {H : Heap} (hX : ∀ (i : Nat) (e : cn_E), cl_28[i]? = some e → va_at D ol_cls (B + i, cn_e B cI cJ e) H) (hM : ∀ (i : Nat) (e : cn_E), w0_LM[i]? = some e → va_at D ol_cls (B + 132 + i, cn_e (B + 132) cI cJ e) H) : va_at D ol_cls (w0_ad B b 61, ol_E (w0_ad B b) cI cJ (w0_M xs) 61 (.inl 64)) H := hX 74 (.inl (64, fun _ => 0)) rfl
theorem w0_62 {D : va_G} {B b : Nat} {cI cJ : ClassId} {xs : Nat → Int32} {H : Heap} (hX : ∀ (i : Nat) (e : cn_E), cl_28[i]? = some e → va_at D ol_cls (B + i, cn_e B cI cJ e) H) (hM : ∀ (i : Nat) (e : cn_E), w0_LM[i]? = some e → va_at D ol_cls (B + 132 + i, cn_e (B + 132) cI cJ e) H) : va_at D ol_cls (w0_ad B b 62, ol_E (w0_ad B b) cI cJ (w0_M xs) 62 (.inl 64)) H := hX 75 (.inl (64, fun _ => 0)) rfl
theorem w0_63 {D : va_G} {B b : Nat} {cI cJ : ClassId} {xs : Nat → Int32} {H : Heap} (hX : ∀ (i : Nat) (e : cn_E), cl_28[i]? = some e → va_at D ol_cls (B + i, cn_e B cI cJ e) H) (hM : ∀ (i : Nat) (e : cn_E), w0_LM[i]? = some e → va_at D ol_cls (B + 132 + i, cn_e (B + 132) cI cJ e) H) : va_at D ol_cls (w0_ad B b 63, ol_E (w0_ad B b) cI cJ (w0_M xs) 63 (.inl 64)) H := hX 76 (.inl (64, fun _ => 0)) rfl
theorem w0_64 {D : va_G} {B b : Nat} {cI cJ : ClassId} {xs : Nat → Int32} {H : Heap} (hX : ∀ (i : Nat) (e : cn_E), cl_28[i]? = some e → va_at D ol_cls (B + i, cn_e B cI cJ e) H) (hM : ∀ (i : Nat) (e : cn_E), w0_LM[i]? = some e → va_at D ol_cls (B + 132 + i, cn_e (B + 132) cI cJ e) H) : va_at D ol_cls (w0_ad B b 64, ol_E (w0_ad B b) cI cJ (w0_M xs) 64 (.inl 64)) H := hX 77 (.inl (64, fun _ => 0)) rfl
theorem w0_65 {D : va_G} {B b : Nat} {cI cJ : ClassId} {xs : Nat → Int32} {H : Heap} (hX : ∀ (i : Nat) (e : cn_E), cl_28[i]? = some e → va_at D ol_cls (B + i, cn_e B cI cJ e) H) (hM : ∀ (i : Nat) (e : cn_E), w0_LM[i]? = some e → va_at D ol_cls (B + 132 + i, cn_e (B + 132) cI cJ e) H) : va_at D ol_cls (w0_ad B b 65, ol_E (w0_ad B b) cI cJ (w0_M xs) 65 (.inl 64)) H := hX 78 (.inl (64, fun _ => 0)) rfl
theorem w0_66 {D : va_G} {B b : Nat} {cI cJ : ClassId} {xs : Nat → Int32} {H : Heap} (hX : ∀ (i : Nat) (e : cn_E), cl_28[i]? = some e → va_at D ol_cls (B + i, cn_e B cI cJ e) H) (hM : ∀ (i : Nat) (e : cn_E), w0_LM[i]? = some e → va_at D ol_cls (B + 132 + i, cn_e (B + 132) cI cJ e) H) : va_at D ol_cls (w0_ad B b 66, ol_E (w0_ad B b) cI cJ (w0_M xs) 66 (.inl 64)) H := hX 79 (.inl (64, fun _ => 0)) rfl
theorem w0_67 {D : va_G} {B b : Nat} {cI cJ : ClassId} {xs : Nat → Int32} {H : Heap} (hX : ∀ (i : Nat) (e : cn_E), cl_28[i]? = some e → va_at D ol_cls (B + i, cn_e B cI cJ e) H) (hM : ∀ (i : Nat) (e : cn_E), w0_LM[i]? = some e → va_at D ol_cls (B + 132 + i, cn_e (B + 132) cI cJ e) H) : va_at D ol_cls (w0_ad B b 67, ol_E (w0_ad B b) cI cJ (w0_M xs) 67 (.inl 12)) H := hX 80 (.inl (12, fun _ => 0)) rfl
theorem w0_68 {D : va_G} {B b : Nat} {cI cJ : ClassId} {xs : Nat → Int32} {H : Heap} (hX : ∀ (i : Nat) (e : cn_E), cl_28[i]? = some e → va_at D ol_cls (B + i, cn_e B cI cJ e) H) (hM : ∀ (i : Nat) (e : cn_E), w0_LM[i]? = some e → va_at D ol_cls (B + 132 + i, cn_e (B + 132) cI cJ e) H) : va_at D ol_cls (w0_ad B b 68, ol_E (w0_ad B b) cI cJ (w0_M xs) 68 (.inr (.inr (3, [some 50, some 37, some 69, some 70, some 71, some 84, none, none])))) H := hX 81 (.inr (.inr (3, [some (.inr (.inr 63)), some (.inr (.inr 50)), some (.inr (.inr 82)), some (.inr (.inr 83)), some (.inr (.inr 84)), some (.inr (.inr 97)), some (.inl (-1)), some (.inl 1)]))) rfl
theorem w0_69 {D : va_G} {B b : Nat} {cI cJ : ClassId} {xs : Nat → Int32} {H : Heap} (hX : ∀ (i : Nat) (e : cn_E), cl_28[i]? = some e → va_at D ol_cls (B + i, cn_e B cI cJ e) H) (hM : ∀ (i : Nat) (e : cn_E), w0_LM[i]? = some e → va_at D ol_cls (B + 132 + i, cn_e (B + 132) cI cJ e) H) : va_at D ol_cls (w0_ad B b 69, ol_E (w0_ad B b) cI cJ (w0_M xs) 69 (.inl 8)) H := hX 82 (.inl (8, fun _ => 0)) rfl
theorem w0_70 {D : va_G} {B b : Nat} {cI cJ : ClassId} {xs : Nat → Int32} {H : Heap} (hX : ∀ (i : Nat) (e : cn_E), cl_28[i]? = some e → va_at D ol_cls (B + i, cn_e B cI cJ e) H) (hM : ∀ (i : Nat) (e : cn_E), w0_LM[i]? = some e → va_at D ol_cls (B + 132 + i, cn_e (B + 132) cI cJ e) H) : va_at D ol_cls (w0_ad B b 70, ol_E (w0_ad B b) cI cJ (w0_M xs) 70 (.inl 64)) H := hX 83 (.inl (64, fun _ => 0)) rfl
theorem w0_71 {D : va_G} {B b : Nat} {cI cJ : ClassId} {xs : Nat → Int32} {H : Heap} (hX : ∀ (i : Nat) (e : cn_E), cl_28[i]? = some e → va_at D ol_cls (B + i, cn_e B cI cJ e) H) (hM : ∀ (i : Nat) (e : cn_E), w0_LM[i]? = some e → va_at D ol_cls (B + 132 + i, cn_e (B + 132) cI cJ e) H) : va_at D ol_cls (w0_ad B b 71, ol_E (w0_ad B b) cI cJ (w0_M xs) 71 (.inr (.inl (12, 72)))) H := by
  have q : H[B + 84]? = some (vp_cell cJ (12, .inr (.inr (.inr (.inr (fun i => some (cn_ad B (85 + (i : Int))))))))) := hX 84 (.inr (.inl (12, 85))) rfl
  show H[B + 84]? = some (vp_cell cJ (12, .inr (.inr (.inr (.inr (fun i => some (w0_ad B b (72 + (i : Int)))))))))
  rw [q, vp_cell_q, vp_cell_q]
  refine congrArg some (w0_arr (fun i hi => ?_))
  have e1 := w0_row (B := B) (b := b) (t := 72) (c := 85) 72 12 (by intro i hi; rw [w0_pi_eq]; (repeat' split) <;> omega) rfl i hi
  have e2 : cn_ad B (85 + (i : Int)) = B + (85 + i) := by unfold cn_ad; omega
  rw [e1, e2]
theorem w0_72 {D : va_G} {B b : Nat} {cI cJ : ClassId} {xs : Nat → Int32} {H : Heap} (hX : ∀ (i : Nat) (e : cn_E), cl_28[i]? = some e → va_at D ol_cls (B + i, cn_e B cI cJ e) H) (hM : ∀ (i : Nat) (e : cn_E), w0_LM[i]? = some e → va_at D ol_cls (B + 132 + i, cn_e (B + 132) cI cJ e) H) : va_at D ol_cls (w0_ad B b 72, ol_E (w0_ad B b) cI cJ (w0_M xs) 72 (.inl 64)) H := hX 85 (.inl (64, fun _ => 0)) rfl
theorem w0_73 {D : va_G} {B b : Nat} {cI cJ : ClassId} {xs : Nat → Int32} {H : Heap} (hX : ∀ (i : Nat) (e : cn_E), cl_28[i]? = some e → va_at D ol_cls (B + i, cn_e B cI cJ e) H) (hM : ∀ (i : Nat) (e : cn_E), w0_LM[i]? = some e → va_at D ol_cls (B + 132 + i, cn_e (B + 132) cI cJ e) H) : va_at D ol_cls (w0_ad B b 73, ol_E (w0_ad B b) cI cJ (w0_M xs) 73 (.inl 64)) H := hX 86 (.inl (64, fun _ => 0)) rfl
theorem w0_74 {D : va_G} {B b : Nat} {cI cJ : ClassId} {xs : Nat → Int32} {H : Heap} (hX : ∀ (i : Nat) (e : cn_E), cl_28[i]? = some e → va_at D ol_cls (B + i, cn_e B cI cJ e) H) (hM : ∀ (i : Nat) (e : cn_E), w0_LM[i]? = some e → va_at D ol_cls (B + 132 + i, cn_e (B + 132) cI cJ e) H) : va_at D ol_cls (w0_ad B b 74, ol_E (w0_ad B b) cI cJ (w0_M xs) 74 (.inl 64)) H := hX 87 (.inl (64, fun _ => 0)) rfl
theorem w0_75 {D : va_G} {B b : Nat} {cI cJ : ClassId} {xs : Nat → Int32} {H : Heap} (hX : ∀ (i : Nat) (e : cn_E), cl_28[i]? = some e → va_at D ol_cls (B + i, cn_e B cI cJ e) H) (hM : ∀ (i : Nat) (e : cn_E), w0_LM[i]? = some e → va_at D ol_cls (B + 132 + i, cn_e (B + 132) cI cJ e) H) : va_at D ol_cls (w0_ad B b 75, ol_E (w0_ad B b) cI cJ (w0_M xs) 75 (.inl 64)) H := hX 88 (.inl (64, fun _ => 0)) rfl
theorem w0_76 {D : va_G} {B b : Nat} {cI cJ : ClassId} {xs : Nat → Int32} {H : Heap} (hX : ∀ (i : Nat) (e : cn_E), cl_28[i]? = some e → va_at D ol_cls (B + i, cn_e B cI cJ e) H) (hM : ∀ (i : Nat) (e : cn_E), w0_LM[i]? = some e → va_at D ol_cls (B + 132 + i, cn_e (B + 132) cI cJ e) H) : va_at D ol_cls (w0_ad B b 76, ol_E (w0_ad B b) cI cJ (w0_M xs) 76 (.inl 64)) H := hX 89 (.inl (64, fun _ => 0)) rfl
theorem w0_77 {D : va_G} {B b : Nat} {cI cJ : ClassId} {xs : Nat → Int32} {H : Heap} (hX : ∀ (i : Nat) (e : cn_E), cl_28[i]? = some e → va_at D ol_cls (B + i, cn_e B cI cJ e) H) (hM : ∀ (i : Nat) (e : cn_E), w0_LM[i]? = some e → va_at D ol_cls (B + 132 + i, cn_e (B + 132) cI cJ e) H) : va_at D ol_cls (w0_ad B b 77, ol_E (w0_ad B b) cI cJ (w0_M xs) 77 (.inl 64)) H := hX 90 (.inl (64, fun _ => 0)) rfl
theorem w0_78 {D : va_G} {B b : Nat} {cI cJ : ClassId} {xs : Nat → Int32} {H : Heap} (hX : ∀ (i : Nat) (e : cn_E), cl_28[i]? = some e → va_at D ol_cls (B + i, cn_e B cI cJ e) H) (hM : ∀ (i : Nat) (e : cn_E), w0_LM[i]? = some e → va_at D ol_cls (B + 132 + i, cn_e (B + 132) cI cJ e) H) : va_at D ol_cls (w0_ad B b 78, ol_E (w0_ad B b) cI cJ (w0_M xs) 78 (.inl 64)) H := hX 91 (.inl (64, fun _ => 0)) rfl
theorem w0_79 {D : va_G} {B b : Nat} {cI cJ : ClassId} {xs : Nat → Int32} {H : Heap} (hX : ∀ (i : Nat) (e : cn_E), cl_28[i]? = some e → va_at D ol_cls (B + i, cn_e B cI cJ e) H) (hM : ∀ (i : Nat) (e : cn_E), w0_LM[i]? = some e → va_at D ol_cls (B + 132 + i, cn_e (B + 132) cI cJ e) H) : va_at D ol_cls (w0_ad B b 79, ol_E (w0_ad B b) cI cJ (w0_M xs) 79 (.inl 64)) H := hX 92 (.inl (64, fun _ => 0)) rfl
theorem w0_80 {D : va_G} {B b : Nat} {cI cJ : ClassId} {xs : Nat → Int32} {H : Heap} (hX : ∀ (i : Nat) (e : cn_E), cl_28[i]? = some e → va_at D ol_cls (B + i, cn_e B cI cJ e) H) (hM : ∀ (i : Nat) (e : cn_E), w0_LM[i]? = some e → va_at D ol_cls (B + 132 + i, cn_e (B + 132) cI cJ e) H) : va_at D ol_cls (w0_ad B b 80, ol_E (w0_ad B b) cI cJ (w0_M xs) 80 (.inl 64)) H := hX 93 (.inl (64, fun _ => 0)) rfl
theorem w0_81 {D : va_G} {B b : Nat} {cI cJ : ClassId} {xs : Nat → Int32} {H : Heap} (hX : ∀ (i : Nat) (e : cn_E), cl_28[i]? = some e → va_at D ol_cls (B + i, cn_e B cI cJ e) H) (hM : ∀ (i : Nat) (e : cn_E), w0_LM[i]? = some e → va_at D ol_cls (B + 132 + i, cn_e (B + 132) cI cJ e) H) : va_at D ol_cls (w0_ad B b 81, ol_E (w0_ad B b) cI cJ (w0_M xs) 81 (.inl 64)) H := hX 94 (.inl (64, fun _ => 0)) rfl
theorem w0_82 {D : va_G} {B b : Nat} {cI cJ : ClassId} {xs : Nat → Int32} {H : Heap} (hX : ∀ (i : Nat) (e : cn_E), cl_28[i]? = some e → va_at D ol_cls (B + i, cn_e B cI cJ e) H) (hM : ∀ (i : Nat) (e : cn_E), w0_LM[i]? = some e → va_at D ol_cls (B + 132 + i, cn_e (B + 132) cI cJ e) H) : va_at D ol_cls (w0_ad B b 82, ol_E (w0_ad B b) cI cJ (w0_M xs) 82 (.inl 64)) H := hX 95 (.inl (64, fun _ => 0)) rfl
theorem w0_83 {D : va_G} {B b : Nat} {cI cJ : ClassId} {xs : Nat → Int32} {H : Heap} (hX : ∀ (i : Nat) (e : cn_E), cl_28[i]? = some e → va_at D ol_cls (B + i, cn_e B cI cJ e) H) (hM : ∀ (i : Nat) (e : cn_E), w0_LM[i]? = some e → va_at D ol_cls (B + 132 + i, cn_e (B + 132) cI cJ e) H) : va_at D ol_cls (w0_ad B b 83, ol_E (w0_ad B b) cI cJ (w0_M xs) 83 (.inl 64)) H := hX 96 (.inl (64, fun _ => 0)) rfl
theorem w0_84 {D : va_G} {B b : Nat} {cI cJ : ClassId} {xs : Nat → Int32} {H : Heap} (hX : ∀ (i : Nat) (e : cn_E), cl_28[i]? = some e → va_at D ol_cls (B + i, cn_e B cI cJ e) H) (hM : ∀ (i : Nat) (e : cn_E), w0_LM[i]? = some e → va_at D ol_cls (B + 132 + i, cn_e (B + 132) cI cJ e) H) : va_at D ol_cls (w0_ad B b 84, ol_E (w0_ad B b) cI cJ (w0_M xs) 84 (.inl 12)) H := hX 97 (.inl (12, fun _ => 0)) rfl
theorem w0_85 {D : va_G} {B b : Nat} {cI cJ : ClassId} {xs : Nat → Int32} {H : Heap} (hX : ∀ (i : Nat) (e : cn_E), cl_28[i]? = some e → va_at D ol_cls (B + i, cn_e B cI cJ e) H) (hM : ∀ (i : Nat) (e : cn_E), w0_LM[i]? = some e → va_at D ol_cls (B + 132 + i, cn_e (B + 132) cI cJ e) H) : va_at D ol_cls (w0_ad B b 85, ol_E (w0_ad B b) cI cJ (w0_M xs) 85 (.inr (.inr (0, [some 50, some 37, some 86, some 87, some 101, some 102, none])))) H := hX 98 (.inr (.inr (0, [some (.inr (.inr 63)), some (.inr (.inr 50)), some (.inr (.inr 99)), some (.inr (.inr 100)), some (.inr (.inr 114)), some (.inr (.inr 115)), some (.inl 0)]))) rfl
theorem w0_86 {D : va_G} {B b : Nat} {cI cJ : ClassId} {xs : Nat → Int32} {H : Heap} (hX : ∀ (i : Nat) (e : cn_E), cl_28[i]? = some e → va_at D ol_cls (B + i, cn_e B cI cJ e) H) (hM : ∀ (i : Nat) (e : cn_E), w0_LM[i]? = some e → va_at D ol_cls (B + 132 + i, cn_e (B + 132) cI cJ e) H) : va_at D ol_cls (w0_ad B b 86, ol_E (w0_ad B b) cI cJ (w0_M xs) 86 (.inl 12)) H := hX 99 (.inl (12, fun _ => 0)) rfl
theorem w0_87 {D : va_G} {B b : Nat} {cI cJ : ClassId} {xs : Nat → Int32} {H : Heap} (hX : ∀ (i : Nat) (e : cn_E), cl_28[i]? = some e → va_at D ol_cls (B + i, cn_e B cI cJ e) H) (hM : ∀ (i : Nat) (e : cn_E), w0_LM[i]? = some e → va_at D ol_cls (B + 132 + i, cn_e (B + 132) cI cJ e) H) : va_at D ol_cls (w0_ad B b 87, ol_E (w0_ad B b) cI cJ (w0_M xs) 87 (.inr (.inl (13, 88)))) H := by
  have q : H[B + 100]? = some (vp_cell cJ (13, .inr (.inr (.inr (.inr (fun i => some (cn_ad B (101 + (i : Int))))))))) := hX 100 (.inr (.inl (13, 101))) rfl
  show H[B + 100]? = some (vp_cell cJ (13, .inr (.inr (.inr (.inr (fun i => some (w0_ad B b (88 + (i : Int)))))))))
  rw [q, vp_cell_q, vp_cell_q]
  refine congrArg some (w0_arr (fun i hi => ?_))
  have e1 := w0_row (B := B) (b := b) (t := 88) (c := 101) 88 13 (by intro i hi; rw [w0_pi_eq]; (repeat' split) <;> omega) rfl i hi
  have e2 : cn_ad B (101 + (i : Int)) = B + (101 + i) := by unfold cn_ad; omega
  rw [e1, e2]
theorem w0_88 {D : va_G} {B b : Nat} {cI cJ : ClassId} {xs : Nat → Int32} {H : Heap} (hX : ∀ (i : Nat) (e : cn_E), cl_28[i]? = some e → va_at D ol_cls (B + i, cn_e B cI cJ e) H) (hM : ∀ (i : Nat) (e : cn_E), w0_LM[i]? = some e → va_at D ol_cls (B + 132 + i, cn_e (B + 132) cI cJ e) H) : va_at D ol_cls (w0_ad B b 88, ol_E (w0_ad B b) cI cJ (w0_M xs) 88 (.inl 64)) H := hX 101 (.inl (64, fun _ => 0)) rfl
theorem w0_89 {D : va_G} {B b : Nat} {cI cJ : ClassId} {xs : Nat → Int32} {H : Heap} (hX : ∀ (i : Nat) (e : cn_E), cl_28[i]? = some e → va_at D ol_cls (B + i, cn_e B cI cJ e) H) (hM : ∀ (i : Nat) (e : cn_E), w0_LM[i]? = some e → va_at D ol_cls (B + 132 + i, cn_e (B + 132) cI cJ e) H) : va_at D ol_cls (w0_ad B b 89, ol_E (w0_ad B b) cI cJ (w0_M xs) 89 (.inl 64)) H := hX 102 (.inl (64, fun _ => 0)) rfl
theorem w0_90 {D : va_G} {B b : Nat} {cI cJ : ClassId} {xs : Nat → Int32} {H : Heap} (hX : ∀ (i : Nat) (e : cn_E), cl_28[i]? = some e → va_at D ol_cls (B + i, cn_e B cI cJ e) H) (hM : ∀ (i : Nat) (e : cn_E), w0_LM[i]? = some e → va_at D ol_cls (B + 132 + i, cn_e (B + 132) cI cJ e) H) : va_at D ol_cls (w0_ad B b 90, ol_E (w0_ad B b) cI cJ (w0_M xs) 90 (.inl 64)) H := hX 103 (.inl (64, fun _ => 0)) rfl
theorem w0_91 {D : va_G} {B b : Nat} {cI cJ : ClassId} {xs : Nat → Int32} {H : Heap} (hX : ∀ (i : Nat) (e : cn_E), cl_28[i]? = some e → va_at D ol_cls (B + i, cn_e B cI cJ e) H) (hM : ∀ (i : Nat) (e : cn_E), w0_LM[i]? = some e → va_at D ol_cls (B + 132 + i, cn_e (B + 132) cI cJ e) H) : va_at D ol_cls (w0_ad B b 91, ol_E (w0_ad B b) cI cJ (w0_M xs) 91 (.inl 64)) H := hX 104 (.inl (64, fun _ => 0)) rfl
theorem w0_92 {D : va_G} {B b : Nat} {cI cJ : ClassId} {xs : Nat → Int32} {H : Heap} (hX : ∀ (i : Nat) (e : cn_E), cl_28[i]? = some e → va_at D ol_cls (B + i, cn_e B cI cJ e) H) (hM : ∀ (i : Nat) (e : cn_E), w0_LM[i]? = some e → va_at D ol_cls (B + 132 + i, cn_e (B + 132) cI cJ e) H) : va_at D ol_cls (w0_ad B b 92, ol_E (w0_ad B b) cI cJ (w0_M xs) 92 (.inl 64)) H := hX 105 (.inl (64, fun _ => 0)) rfl
theorem w0_93 {D : va_G} {B b : Nat} {cI cJ : ClassId} {xs : Nat → Int32} {H : Heap} (hX : ∀ (i : Nat) (e : cn_E), cl_28[i]? = some e → va_at D ol_cls (B + i, cn_e B cI cJ e) H) (hM : ∀ (i : Nat) (e : cn_E), w0_LM[i]? = some e → va_at D ol_cls (B + 132 + i, cn_e (B + 132) cI cJ e) H) : va_at D ol_cls (w0_ad B b 93, ol_E (w0_ad B b) cI cJ (w0_M xs) 93 (.inl 64)) H := hX 106 (.inl (64, fun _ => 0)) rfl
theorem w0_94 {D : va_G} {B b : Nat} {cI cJ : ClassId} {xs : Nat → Int32} {H : Heap} (hX : ∀ (i : Nat) (e : cn_E), cl_28[i]? = some e → va_at D ol_cls (B + i, cn_e B cI cJ e) H) (hM : ∀ (i : Nat) (e : cn_E), w0_LM[i]? = some e → va_at D ol_cls (B + 132 + i, cn_e (B + 132) cI cJ e) H) : va_at D ol_cls (w0_ad B b 94, ol_E (w0_ad B b) cI cJ (w0_M xs) 94 (.inl 64)) H := hX 107 (.inl (64, fun _ => 0)) rfl
theorem w0_95 {D : va_G} {B b : Nat} {cI cJ : ClassId} {xs : Nat → Int32} {H : Heap} (hX : ∀ (i : Nat) (e : cn_E), cl_28[i]? = some e → va_at D ol_cls (B + i, cn_e B cI cJ e) H) (hM : ∀ (i : Nat) (e : cn_E), w0_LM[i]? = some e → va_at D ol_cls (B + 132 + i, cn_e (B + 132) cI cJ e) H) : va_at D ol_cls (w0_ad B b 95, ol_E (w0_ad B b) cI cJ (w0_M xs) 95 (.inl 64)) H := hX 108 (.inl (64, fun _ => 0)) rfl
theorem w0_96 {D : va_G} {B b : Nat} {cI cJ : ClassId} {xs : Nat → Int32} {H : Heap} (hX : ∀ (i : Nat) (e : cn_E), cl_28[i]? = some e → va_at D ol_cls (B + i, cn_e B cI cJ e) H) (hM : ∀ (i : Nat) (e : cn_E), w0_LM[i]? = some e → va_at D ol_cls (B + 132 + i, cn_e (B + 132) cI cJ e) H) : va_at D ol_cls (w0_ad B b 96, ol_E (w0_ad B b) cI cJ (w0_M xs) 96 (.inl 64)) H := hX 109 (.inl (64, fun _ => 0)) rfl
theorem w0_97 {D : va_G} {B b : Nat} {cI cJ : ClassId} {xs : Nat → Int32} {H : Heap} (hX : ∀ (i : Nat) (e : cn_E), cl_28[i]? = some e → va_at D ol_cls (B + i, cn_e B cI cJ e) H) (hM : ∀ (i : Nat) (e : cn_E), w0_LM[i]? = some e → va_at D ol_cls (B + 132 + i, cn_e (B + 132) cI cJ e) H) : va_at D ol_cls (w0_ad B b 97, ol_E (w0_ad B b) cI cJ (w0_M xs) 97 (.inl 64)) H := hX 110 (.inl (64, fun _ => 0)) rfl
theorem w0_98 {D : va_G} {B b : Nat} {cI cJ : ClassId} {xs : Nat → Int32} {H : Heap} (hX : ∀ (i : Nat) (e : cn_E), cl_28[i]? = some e → va_at D ol_cls (B + i, cn_e B cI cJ e) H) (hM : ∀ (i : Nat) (e : cn_E), w0_LM[i]? = some e → va_at D ol_cls (B + 132 + i, cn_e (B + 132) cI cJ e) H) : va_at D ol_cls (w0_ad B b 98, ol_E (w0_ad B b) cI cJ (w0_M xs) 98 (.inl 64)) H := hX 111 (.inl (64, fun _ => 0)) rfl
theorem w0_99 {D : va_G} {B b : Nat} {cI cJ : ClassId} {xs : Nat → Int32} {H : Heap} (hX : ∀ (i : Nat) (e : cn_E), cl_28[i]? = some e → va_at D ol_cls (B + i, cn_e B cI cJ e) H) (hM : ∀ (i : Nat) (e : cn_E), w0_LM[i]? = some e → va_at D ol_cls (B + 132 + i, cn_e (B + 132) cI cJ e) H) : va_at D ol_cls (w0_ad B b 99, ol_E (w0_ad B b) cI cJ (w0_M xs) 99 (.inl 64)) H := hX 112 (.inl (64, fun _ => 0)) rfl
theorem w0_100 {D : va_G} {B b : Nat} {cI cJ : ClassId} {xs : Nat → Int32} {H : Heap} (hX : ∀ (i : Nat) (e : cn_E), cl_28[i]? = some e → va_at D ol_cls (B + i, cn_e B cI cJ e) H) (hM : ∀ (i : Nat) (e : cn_E), w0_LM[i]? = some e → va_at D ol_cls (B + 132 + i, cn_e (B + 132) cI cJ e) H) : va_at D ol_cls (w0_ad B b 100, ol_E (w0_ad B b) cI cJ (w0_M xs) 100 (.inl 64)) H := hX 113 (.inl (64, fun _ => 0)) rfl
theorem w0_101 {D : va_G} {B b : Nat} {cI cJ : ClassId} {xs : Nat → Int32} {H : Heap} (hX : ∀ (i : Nat) (e : cn_E), cl_28[i]? = some e → va_at D ol_cls (B + i, cn_e B cI cJ e) H) (hM : ∀ (i : Nat) (e : cn_E), w0_LM[i]? = some e → va_at D ol_cls (B + 132 + i, cn_e (B + 132) cI cJ e) H) : va_at D ol_cls (w0_ad B b 101, ol_E (w0_ad B b) cI cJ (w0_M xs) 101 (.inl 8)) H := hX 114 (.inl (8, fun _ => 0)) rfl
theorem w0_102 {D : va_G} {B b : Nat} {cI cJ : ClassId} {xs : Nat → Int32} {H : Heap} (hX : ∀ (i : Nat) (e : cn_E), cl_28[i]? = some e → va_at D ol_cls (B + i, cn_e B cI cJ e) H) (hM : ∀ (i : Nat) (e : cn_E), w0_LM[i]? = some e → va_at D ol_cls (B + 132 + i, cn_e (B + 132) cI cJ e) H) : va_at D ol_cls (w0_ad B b 102, ol_E (w0_ad B b) cI cJ (w0_M xs) 102 (.inr (.inl (8, 103)))) H := by
  have q : H[B + 115]? = some (vp_cell cJ (8, .inr (.inr (.inr (.inr (fun i => some (cn_ad B (116 + (i : Int))))))))) := hX 115 (.inr (.inl (8, 116))) rfl
  show H[B + 115]? = some (vp_cell cJ (8, .inr (.inr (.inr (.inr (fun i => some (w0_ad B b (103 + (i : Int)))))))))
  rw [q, vp_cell_q, vp_cell_q]
  refine congrArg some (w0_arr (fun i hi => ?_))
  have e1 := w0_row (B := B) (b := b) (t := 103) (c := 116) 103 8 (by intro i hi; rw [w0_pi_eq]; (repeat' split) <;> omega) rfl i hi
  have e2 : cn_ad B (116 + (i : Int)) = B + (116 + i) := by unfold cn_ad; omega
  rw [e1, e2]
theorem w0_103 {D : va_G} {B b : Nat} {cI cJ : ClassId} {xs : Nat → Int32} {H : Heap} (hX : ∀ (i : Nat) (e : cn_E), cl_28[i]? = some e → va_at D ol_cls (B + i, cn_e B cI cJ e) H) (hM : ∀ (i : Nat) (e : cn_E), w0_LM[i]? = some e → va_at D ol_cls (B + 132 + i, cn_e (B + 132) cI cJ e) H) : va_at D ol_cls (w0_ad B b 103, ol_E (w0_ad B b) cI cJ (w0_M xs) 103 (.inl 169)) H := hX 116 (.inl (169, fun _ => 0)) rfl
theorem w0_104 {D : va_G} {B b : Nat} {cI cJ : ClassId} {xs : Nat → Int32} {H : Heap} (hX : ∀ (i : Nat) (e : cn_E), cl_28[i]? = some e → va_at D ol_cls (B + i, cn_e B cI cJ e) H) (hM : ∀ (i : Nat) (e : cn_E), w0_LM[i]? = some e → va_at D ol_cls (B + 132 + i, cn_e (B + 132) cI cJ e) H) : va_at D ol_cls (w0_ad B b 104, ol_E (w0_ad B b) cI cJ (w0_M xs) 104 (.inl 169)) H := hX 117 (.inl (169, fun _ => 0)) rfl
theorem w0_105 {D : va_G} {B b : Nat} {cI cJ : ClassId} {xs : Nat → Int32} {H : Heap} (hX : ∀ (i : Nat) (e : cn_E), cl_28[i]? = some e → va_at D ol_cls (B + i, cn_e B cI cJ e) H) (hM : ∀ (i : Nat) (e : cn_E), w0_LM[i]? = some e → va_at D ol_cls (B + 132 + i, cn_e (B + 132) cI cJ e) H) : va_at D ol_cls (w0_ad B b 105, ol_E (w0_ad B b) cI cJ (w0_M xs) 105 (.inl 169)) H := hX 118 (.inl (169, fun _ => 0)) rfl
theorem w0_106 {D : va_G} {B b : Nat} {cI cJ : ClassId} {xs : Nat → Int32} {H : Heap} (hX : ∀ (i : Nat) (e : cn_E), cl_28[i]? = some e → va_at D ol_cls (B + i, cn_e B cI cJ e) H) (hM : ∀ (i : Nat) (e : cn_E), w0_LM[i]? = some e → va_at D ol_cls (B + 132 + i, cn_e (B + 132) cI cJ e) H) : va_at D ol_cls (w0_ad B b 106, ol_E (w0_ad B b) cI cJ (w0_M xs) 106 (.inl 169)) H := hX 119 (.inl (169, fun _ => 0)) rfl
theorem w0_107 {D : va_G} {B b : Nat} {cI cJ : ClassId} {xs : Nat → Int32} {H : Heap} (hX : ∀ (i : Nat) (e : cn_E), cl_28[i]? = some e → va_at D ol_cls (B + i, cn_e B cI cJ e) H) (hM : ∀ (i : Nat) (e : cn_E), w0_LM[i]? = some e → va_at D ol_cls (B + 132 + i, cn_e (B + 132) cI cJ e) H) : va_at D ol_cls (w0_ad B b 107, ol_E (w0_ad B b) cI cJ (w0_M xs) 107 (.inl 169)) H := hX 120 (.inl (169, fun _ => 0)) rfl
theorem w0_108 {D : va_G} {B b : Nat} {cI cJ : ClassId} {xs : Nat → Int32} {H : Heap} (hX : ∀ (i : Nat) (e : cn_E), cl_28[i]? = some e → va_at D ol_cls (B + i, cn_e B cI cJ e) H) (hM : ∀ (i : Nat) (e : cn_E), w0_LM[i]? = some e → va_at D ol_cls (B + 132 + i, cn_e (B + 132) cI cJ e) H) : va_at D ol_cls (w0_ad B b 108, ol_E (w0_ad B b) cI cJ (w0_M xs) 108 (.inl 169)) H := hX 121 (.inl (169, fun _ => 0)) rfl
theorem w0_109 {D : va_G} {B b : Nat} {cI cJ : ClassId} {xs : Nat → Int32} {H : Heap} (hX : ∀ (i : Nat) (e : cn_E), cl_28[i]? = some e → va_at D ol_cls (B + i, cn_e B cI cJ e) H) (hM : ∀ (i : Nat) (e : cn_E), w0_LM[i]? = some e → va_at D ol_cls (B + 132 + i, cn_e (B + 132) cI cJ e) H) : va_at D ol_cls (w0_ad B b 109, ol_E (w0_ad B b) cI cJ (w0_M xs) 109 (.inl 169)) H := hX 122 (.inl (169, fun _ => 0)) rfl
theorem w0_110 {D : va_G} {B b : Nat} {cI cJ : ClassId} {xs : Nat → Int32} {H : Heap} (hX : ∀ (i : Nat) (e : cn_E), cl_28[i]? = some e → va_at D ol_cls (B + i, cn_e B cI cJ e) H) (hM : ∀ (i : Nat) (e : cn_E), w0_LM[i]? = some e → va_at D ol_cls (B + 132 + i, cn_e (B + 132) cI cJ e) H) : va_at D ol_cls (w0_ad B b 110, ol_E (w0_ad B b) cI cJ (w0_M xs) 110 (.inl 169)) H := hX 123 (.inl (169, fun _ => 0)) rfl
theorem w0_111 {D : va_G} {B b : Nat} {cI cJ : ClassId} {xs : Nat → Int32} {H : Heap} (hX : ∀ (i : Nat) (e : cn_E), cl_28[i]? = some e → va_at D ol_cls (B + i, cn_e B cI cJ e) H) (hM : ∀ (i : Nat) (e : cn_E), w0_LM[i]? = some e → va_at D ol_cls (B + 132 + i, cn_e (B + 132) cI cJ e) H) : va_at D ol_cls (w0_ad B b 111, ol_E (w0_ad B b) cI cJ (w0_M xs) 111 (.inr (.inr (4, [some 112, some 113, some 114])))) H := hX 124 (.inr (.inr (4, [some (.inr (.inr 125)), some (.inr (.inr 126)), some (.inr (.inr 127))]))) rfl
theorem w0_112 {D : va_G} {B b : Nat} {cI cJ : ClassId} {xs : Nat → Int32} {H : Heap} (hX : ∀ (i : Nat) (e : cn_E), cl_28[i]? = some e → va_at D ol_cls (B + i, cn_e B cI cJ e) H) (hM : ∀ (i : Nat) (e : cn_E), w0_LM[i]? = some e → va_at D ol_cls (B + 132 + i, cn_e (B + 132) cI cJ e) H) : va_at D ol_cls (w0_ad B b 112, ol_E (w0_ad B b) cI cJ (w0_M xs) 112 (.inl 4)) H := hX 125 (.inl (4, fun _ => 0)) rfl
theorem w0_113 {D : va_G} {B b : Nat} {cI cJ : ClassId} {xs : Nat → Int32} {H : Heap} (hX : ∀ (i : Nat) (e : cn_E), cl_28[i]? = some e → va_at D ol_cls (B + i, cn_e B cI cJ e) H) (hM : ∀ (i : Nat) (e : cn_E), w0_LM[i]? = some e → va_at D ol_cls (B + 132 + i, cn_e (B + 132) cI cJ e) H) : va_at D ol_cls (w0_ad B b 113, ol_E (w0_ad B b) cI cJ (w0_M xs) 113 (.inl 4)) H := hX 126 (.inl (4, ol_fl (fun _ => 0) (-1) 4)) rfl
theorem w0_114 {D : va_G} {B b : Nat} {cI cJ : ClassId} {xs : Nat → Int32} {H : Heap} (hX : ∀ (i : Nat) (e : cn_E), cl_28[i]? = some e → va_at D ol_cls (B + i, cn_e B cI cJ e) H) (hM : ∀ (i : Nat) (e : cn_E), w0_LM[i]? = some e → va_at D ol_cls (B + 132 + i, cn_e (B + 132) cI cJ e) H) : va_at D ol_cls (w0_ad B b 114, ol_E (w0_ad B b) cI cJ (w0_M xs) 114 (.inr (.inl (4, 115)))) H := by
  have q : H[B + 127]? = some (vp_cell cJ (4, .inr (.inr (.inr (.inr (fun i => some (cn_ad B (128 + (i : Int))))))))) := hX 127 (.inr (.inl (4, 128))) rfl
  show H[B + 127]? = some (vp_cell cJ (4, .inr (.inr (.inr (.inr (fun i => some (w0_ad B b (115 + (i : Int)))))))))
  rw [q, vp_cell_q, vp_cell_q]
  refine congrArg some (w0_arr (fun i hi => ?_))
  have e1 := w0_row (B := B) (b := b) (t := 115) (c := 128) 115 4 (by intro i hi; rw [w0_pi_eq]; (repeat' split) <;> omega) rfl i hi
  have e2 : cn_ad B (128 + (i : Int)) = B + (128 + i) := by unfold cn_ad; omega
  rw [e1, e2]
theorem w0_115 {D : va_G} {B b : Nat} {cI cJ : ClassId} {xs : Nat → Int32} {H : Heap} (hX : ∀ (i : Nat) (e : cn_E), cl_28[i]? = some e → va_at D ol_cls (B + i, cn_e B cI cJ e) H) (hM : ∀ (i : Nat) (e : cn_E), w0_LM[i]? = some e → va_at D ol_cls (B + 132 + i, cn_e (B + 132) cI cJ e) H) : va_at D ol_cls (w0_ad B b 115, ol_E (w0_ad B b) cI cJ (w0_M xs) 115 (.inl 60)) H := hX 128 (.inl (60, fun _ => 0)) rfl
theorem w0_116 {D : va_G} {B b : Nat} {cI cJ : ClassId} {xs : Nat → Int32} {H : Heap} (hX : ∀ (i : Nat) (e : cn_E), cl_28[i]? = some e → va_at D ol_cls (B + i, cn_e B cI cJ e) H) (hM : ∀ (i : Nat) (e : cn_E), w0_LM[i]? = some e → va_at D ol_cls (B + 132 + i, cn_e (B + 132) cI cJ e) H) : va_at D ol_cls (w0_ad B b 116, ol_E (w0_ad B b) cI cJ (w0_M xs) 116 (.inl 60)) H := hX 129 (.inl (60, fun _ => 0)) rfl
theorem w0_117 {D : va_G} {B b : Nat} {cI cJ : ClassId} {xs : Nat → Int32} {H : Heap} (hX : ∀ (i : Nat) (e : cn_E), cl_28[i]? = some e → va_at D ol_cls (B + i, cn_e B cI cJ e) H) (hM : ∀ (i : Nat) (e : cn_E), w0_LM[i]? = some e → va_at D ol_cls (B + 132 + i, cn_e (B + 132) cI cJ e) H) : va_at D ol_cls (w0_ad B b 117, ol_E (w0_ad B b) cI cJ (w0_M xs) 117 (.inl 60)) H := hX 130 (.inl (60, fun _ => 0)) rfl
theorem w0_118 {D : va_G} {B b : Nat} {cI cJ : ClassId} {xs : Nat → Int32} {H : Heap} (hX : ∀ (i : Nat) (e : cn_E), cl_28[i]? = some e → va_at D ol_cls (B + i, cn_e B cI cJ e) H) (hM : ∀ (i : Nat) (e : cn_E), w0_LM[i]? = some e → va_at D ol_cls (B + 132 + i, cn_e (B + 132) cI cJ e) H) : va_at D ol_cls (w0_ad B b 118, ol_E (w0_ad B b) cI cJ (w0_M xs) 118 (.inl 60)) H := hX 131 (.inl (60, fun _ => 0)) rfl
theorem w0_119 {D : va_G} {B b : Nat} {cI cJ : ClassId} {xs : Nat → Int32} {H : Heap} (hX : ∀ (i : Nat) (e : cn_E), cl_28[i]? = some e → va_at D ol_cls (B + i, cn_e B cI cJ e) H) (hM : ∀ (i : Nat) (e : cn_E), w0_LM[i]? = some e → va_at D ol_cls (B + 132 + i, cn_e (B + 132) cI cJ e) H) : va_at D ol_cls (w0_ad B b 119, ol_E (w0_ad B b) cI cJ (w0_M xs) 119 (.inr (.inl (12, 120)))) H := by
  have q : H[B + 1]? = some (vp_cell cJ (12, .inr (.inr (.inr (.inr (fun i => some (cn_ad B (2 + (i : Int))))))))) := hX 1 (.inr (.inl (12, 2))) rfl
  show H[B + 1]? = some (vp_cell cJ (12, .inr (.inr (.inr (.inr (fun i => some (w0_ad B b (120 + (i : Int)))))))))
  rw [q, vp_cell_q, vp_cell_q]
  refine congrArg some (w0_arr (fun i hi => ?_))
  have e1 := w0_row (B := B) (b := b) (t := 120) (c := 2) 120 12 (by intro i hi; rw [w0_pi_eq]; (repeat' split) <;> omega) rfl i hi
  have e2 : cn_ad B (2 + (i : Int)) = B + (2 + i) := by unfold cn_ad; omega
  rw [e1, e2]
theorem w0_120 {D : va_G} {B b : Nat} {cI cJ : ClassId} {xs : Nat → Int32} {H : Heap} (hX : ∀ (i : Nat) (e : cn_E), cl_28[i]? = some e → va_at D ol_cls (B + i, cn_e B cI cJ e) H) (hM : ∀ (i : Nat) (e : cn_E), w0_LM[i]? = some e → va_at D ol_cls (B + 132 + i, cn_e (B + 132) cI cJ e) H) : va_at D ol_cls (w0_ad B b 120, ol_E (w0_ad B b) cI cJ (w0_M xs) 120 (.inl 8)) H := hX 2 (.inl (8, fun _ => 0)) rfl
theorem w0_121 {D : va_G} {B b : Nat} {cI cJ : ClassId} {xs : Nat → Int32} {H : Heap} (hX : ∀ (i : Nat) (e : cn_E), cl_28[i]? = some e → va_at D ol_cls (B + i, cn_e B cI cJ e) H) (hM : ∀ (i : Nat) (e : cn_E), w0_LM[i]? = some e → va_at D ol_cls (B + 132 + i, cn_e (B + 132) cI cJ e) H) : va_at D ol_cls (w0_ad B b 121, ol_E (w0_ad B b) cI cJ (w0_M xs) 121 (.inl 8)) H := hX 3 (.inl (8, fun _ => 0)) rfl
theorem w0_122 {D : va_G} {B b : Nat} {cI cJ : ClassId} {xs : Nat → Int32} {H : Heap} (hX : ∀ (i : Nat) (e : cn_E), cl_28[i]? = some e → va_at D ol_cls (B + i, cn_e B cI cJ e) H) (hM : ∀ (i : Nat) (e : cn_E), w0_LM[i]? = some e → va_at D ol_cls (B + 132 + i, cn_e (B + 132) cI cJ e) H) : va_at D ol_cls (w0_ad B b 122, ol_E (w0_ad B b) cI cJ (w0_M xs) 122 (.inl 8)) H := hX 4 (.inl (8, fun _ => 0)) rfl
theorem w0_123 {D : va_G} {B b : Nat} {cI cJ : ClassId} {xs : Nat → Int32} {H : Heap} (hX : ∀ (i : Nat) (e : cn_E), cl_28[i]? = some e → va_at D ol_cls (B + i, cn_e B cI cJ e) H) (hM : ∀ (i : Nat) (e : cn_E), w0_LM[i]? = some e → va_at D ol_cls (B + 132 + i, cn_e (B + 132) cI cJ e) H) : va_at D ol_cls (w0_ad B b 123, ol_E (w0_ad B b) cI cJ (w0_M xs) 123 (.inl 8)) H := hX 5 (.inl (8, fun _ => 0)) rfl
theorem w0_124 {D : va_G} {B b : Nat} {cI cJ : ClassId} {xs : Nat → Int32} {H : Heap} (hX : ∀ (i : Nat) (e : cn_E), cl_28[i]? = some e → va_at D ol_cls (B + i, cn_e B cI cJ e) H) (hM : ∀ (i : Nat) (e : cn_E), w0_LM[i]? = some e → va_at D ol_cls (B + 132 + i, cn_e (B + 132) cI cJ e) H) : va_at D ol_cls (w0_ad B b 124, ol_E (w0_ad B b) cI cJ (w0_M xs) 124 (.inl 8)) H := hX 6 (.inl (8, fun _ => 0)) rfl
theorem w0_125 {D : va_G} {B b : Nat} {cI cJ : ClassId} {xs : Nat → Int32} {H : Heap} (hX : ∀ (i : Nat) (e : cn_E), cl_28[i]? = some e → va_at D ol_cls (B + i, cn_e B cI cJ e) H) (hM : ∀ (i : Nat) (e : cn_E), w0_LM[i]? = some e → va_at D ol_cls (B + 132 + i, cn_e (B + 132) cI cJ e) H) : va_at D ol_cls (w0_ad B b 125, ol_E (w0_ad B b) cI cJ (w0_M xs) 125 (.inl 8)) H := hX 7 (.inl (8, fun _ => 0)) rfl
theorem w0_126 {D : va_G} {B b : Nat} {cI cJ : ClassId} {xs : Nat → Int32} {H : Heap} (hX : ∀ (i : Nat) (e : cn_E), cl_28[i]? = some e → va_at D ol_cls (B + i, cn_e B cI cJ e) H) (hM : ∀ (i : Nat) (e : cn_E), w0_LM[i]? = some e → va_at D ol_cls (B + 132 + i, cn_e (B + 132) cI cJ e) H) : va_at D ol_cls (w0_ad B b 126, ol_E (w0_ad B b) cI cJ (w0_M xs) 126 (.inl 8)) H := hX 8 (.inl (8, fun _ => 0)) rfl
theorem w0_127 {D : va_G} {B b : Nat} {cI cJ : ClassId} {xs : Nat → Int32} {H : Heap} (hX : ∀ (i : Nat) (e : cn_E), cl_28[i]? = some e → va_at D ol_cls (B + i, cn_e B cI cJ e) H) (hM : ∀ (i : Nat) (e : cn_E), w0_LM[i]? = some e → va_at D ol_cls (B + 132 + i, cn_e (B + 132) cI cJ e) H) : va_at D ol_cls (w0_ad B b 127, ol_E (w0_ad B b) cI cJ (w0_M xs) 127 (.inl 8)) H := hX 9 (.inl (8, fun _ => 0)) rfl
theorem w0_128 {D : va_G} {B b : Nat} {cI cJ : ClassId} {xs : Nat → Int32} {H : Heap} (hX : ∀ (i : Nat) (e : cn_E), cl_28[i]? = some e → va_at D ol_cls (B + i, cn_e B cI cJ e) H) (hM : ∀ (i : Nat) (e : cn_E), w0_LM[i]? = some e → va_at D ol_cls (B + 132 + i, cn_e (B + 132) cI cJ e) H) : va_at D ol_cls (w0_ad B b 128, ol_E (w0_ad B b) cI cJ (w0_M xs) 128 (.inl 8)) H := hX 10 (.inl (8, fun _ => 0)) rfl
theorem w0_129 {D : va_G} {B b : Nat} {cI cJ : ClassId} {xs : Nat → Int32} {H : Heap} (hX : ∀ (i : Nat) (e : cn_E), cl_28[i]? = some e → va_at D ol_cls (B + i, cn_e B cI cJ e) H) (hM : ∀ (i : Nat) (e : cn_E), w0_LM[i]? = some e → va_at D ol_cls (B + 132 + i, cn_e (B + 132) cI cJ e) H) : va_at D ol_cls (w0_ad B b 129, ol_E (w0_ad B b) cI cJ (w0_M xs) 129 (.inl 8)) H := hX 11 (.inl (8, fun _ => 0)) rfl
theorem w0_130 {D : va_G} {B b : Nat} {cI cJ : ClassId} {xs : Nat → Int32} {H : Heap} (hX : ∀ (i : Nat) (e : cn_E), cl_28[i]? = some e → va_at D ol_cls (B + i, cn_e B cI cJ e) H) (hM : ∀ (i : Nat) (e : cn_E), w0_LM[i]? = some e → va_at D ol_cls (B + 132 + i, cn_e (B + 132) cI cJ e) H) : va_at D ol_cls (w0_ad B b 130, ol_E (w0_ad B b) cI cJ (w0_M xs) 130 (.inl 8)) H := hX 12 (.inl (8, fun _ => 0)) rfl
theorem w0_131 {D : va_G} {B b : Nat} {cI cJ : ClassId} {xs : Nat → Int32} {H : Heap} (hX : ∀ (i : Nat) (e : cn_E), cl_28[i]? = some e → va_at D ol_cls (B + i, cn_e B cI cJ e) H) (hM : ∀ (i : Nat) (e : cn_E), w0_LM[i]? = some e → va_at D ol_cls (B + 132 + i, cn_e (B + 132) cI cJ e) H) : va_at D ol_cls (w0_ad B b 131, ol_E (w0_ad B b) cI cJ (w0_M xs) 131 (.inl 8)) H := hX 13 (.inl (8, fun _ => 0)) rfl
theorem w0_132 {D : va_G} {B b : Nat} {cI cJ : ClassId} {xs : Nat → Int32} {H : Heap} (hX : ∀ (i : Nat) (e : cn_E), cl_28[i]? = some e → va_at D ol_cls (B + i, cn_e B cI cJ e) H) (hM : ∀ (i : Nat) (e : cn_E), w0_LM[i]? = some e → va_at D ol_cls (B + 132 + i, cn_e (B + 132) cI cJ e) H) : va_at D ol_cls (w0_ad B b 132, ol_E (w0_ad B b) cI cJ (w0_M xs) 132 (.inr (.inr (8, [some 133, some 134, some 135, some 136, none, some 137, some 138, none, some 139, none, some 140, some 141, some 142, some 143, some 144, none, some 145, none, some 146, some 147, some 148, some 149, some 150, some 151, none, none, none, some 152, some 153, none])))) H := hM 0 (.inr (.inr (8, [some (.inr (.inr 1)), some (.inr (.inr 2)), some (.inr (.inr 3)), some (.inr (.inr 4)), some (.inl 0), some (.inr (.inr 5)), some (.inr (.inr 6)), some (.inl 0), some (.inr (.inr 7)), some (.inl 0), some (.inr (.inr 8)), some (.inr (.inr 9)), some (.inr (.inr 10)), some (.inr (.inr 11)), some (.inr (.inr 12)), some (.inl 0), some (.inr (.inr 13)), some (.inl 0), some (.inr (.inr 14)), some (.inr (.inr 15)), some (.inr (.inr 16)), some (.inr (.inr 17)), some (.inr (.inr 18)), some (.inr (.inr 19)), some (.inl 0), some (.inl 0), some (.inl 0), some (.inr (.inr 20)), some (.inr (.inr 21)), some (.inl 0)]))) rfl
theorem w0_133 {D : va_G} {B b : Nat} {cI cJ : ClassId} {xs : Nat → Int32} {H : Heap} (hX : ∀ (i : Nat) (e : cn_E), cl_28[i]? = some e → va_at D ol_cls (B + i, cn_e B cI cJ e) H) (hM : ∀ (i : Nat) (e : cn_E), w0_LM[i]? = some e → va_at D ol_cls (B + 132 + i, cn_e (B + 132) cI cJ e) H) : va_at D ol_cls (w0_ad B b 133, ol_E (w0_ad B b) cI cJ (w0_M xs) 133 (.inl 4)) H := hM 1 (.inl (4, ol_rs (ol_rs (ol_rs (ol_rs (fun _ => 0) 0 (-1)) 1 (-1)) 2 (-1)) 3 (-1))) rfl
theorem w0_134 {D : va_G} {B b : Nat} {cI cJ : ClassId} {xs : Nat → Int32} {H : Heap} (hX : ∀ (i : Nat) (e : cn_E), cl_28[i]? = some e → va_at D ol_cls (B + i, cn_e B cI cJ e) H) (hM : ∀ (i : Nat) (e : cn_E), w0_LM[i]? = some e → va_at D ol_cls (B + 132 + i, cn_e (B + 132) cI cJ e) H) : va_at D ol_cls (w0_ad B b 134, ol_E (w0_ad B b) cI cJ (w0_M xs) 134 (.inl 4)) H := hM 2 (.inl (4, fun _ => 0)) rfl
theorem w0_135 {D : va_G} {B b : Nat} {cI cJ : ClassId} {xs : Nat → Int32} {H : Heap} (hX : ∀ (i : Nat) (e : cn_E), cl_28[i]? = some e → va_at D ol_cls (B + i, cn_e B cI cJ e) H) (hM : ∀ (i : Nat) (e : cn_E), w0_LM[i]? = some e → va_at D ol_cls (B + 132 + i, cn_e (B + 132) cI cJ e) H) : va_at D ol_cls (w0_ad B b 135, ol_E (w0_ad B b) cI cJ (w0_M xs) 135 (.inl 240)) H := hM 3 (.inl (240, fun _ => 0)) rfl
theorem w0_136 {D : va_G} {B b : Nat} {cI cJ : ClassId} {xs : Nat → Int32} {H : Heap} (hX : ∀ (i : Nat) (e : cn_E), cl_28[i]? = some e → va_at D ol_cls (B + i, cn_e B cI cJ e) H) (hM : ∀ (i : Nat) (e : cn_E), w0_LM[i]? = some e → va_at D ol_cls (B + 132 + i, cn_e (B + 132) cI cJ e) H) : va_at D ol_cls (w0_ad B b 136, ol_E (w0_ad B b) cI cJ (w0_M xs) 136 (.inl 60)) H := hM 4 (.inl (60, fun _ => 0)) rfl
theorem w0_137 {D : va_G} {B b : Nat} {cI cJ : ClassId} {xs : Nat → Int32} {H : Heap} (hX : ∀ (i : Nat) (e : cn_E), cl_28[i]? = some e → va_at D ol_cls (B + i, cn_e B cI cJ e) H) (hM : ∀ (i : Nat) (e : cn_E), w0_LM[i]? = some e → va_at D ol_cls (B + 132 + i, cn_e (B + 132) cI cJ e) H) : va_at D ol_cls (w0_ad B b 137, ol_E (w0_ad B b) cI cJ (w0_M xs) 137 (.inl 112)) H := hM 5 (.inl (112, fun _ => 0)) rfl
theorem w0_138 {D : va_G} {B b : Nat} {cI cJ : ClassId} {xs : Nat → Int32} {H : Heap} (hX : ∀ (i : Nat) (e : cn_E), cl_28[i]? = some e → va_at D ol_cls (B + i, cn_e B cI cJ e) H) (hM : ∀ (i : Nat) (e : cn_E), w0_LM[i]? = some e → va_at D ol_cls (B + 132 + i, cn_e (B + 132) cI cJ e) H) : va_at D ol_cls (w0_ad B b 138, ol_E (w0_ad B b) cI cJ (w0_M xs) 138 (.inl 2)) H := hM 6 (.inl (2, fun _ => 0)) rfl
theorem w0_139 {D : va_G} {B b : Nat} {cI cJ : ClassId} {xs : Nat → Int32} {H : Heap} (hX : ∀ (i : Nat) (e : cn_E), cl_28[i]? = some e → va_at D ol_cls (B + i, cn_e B cI cJ e) H) (hM : ∀ (i : Nat) (e : cn_E), w0_LM[i]? = some e → va_at D ol_cls (B + 132 + i, cn_e (B + 132) cI cJ e) H) : va_at D ol_cls (w0_ad B b 139, ol_E (w0_ad B b) cI cJ (w0_M xs) 139 (.inl 16)) H := hM 7 (.inl (16, fun _ => 0)) rfl
theorem w0_140 {D : va_G} {B b : Nat} {cI cJ : ClassId} {xs : Nat → Int32} {H : Heap} (hX : ∀ (i : Nat) (e : cn_E), cl_28[i]? = some e → va_at D ol_cls (B + i, cn_e B cI cJ e) H) (hM : ∀ (i : Nat) (e : cn_E), w0_LM[i]? = some e → va_at D ol_cls (B + 132 + i, cn_e (B + 132) cI cJ e) H) : va_at D ol_cls (w0_ad B b 140, ol_E (w0_ad B b) cI cJ (w0_M xs) 140 (.inl 48)) H := hM 8 (.inl (48, fun _ => 0)) rfl
theorem w0_141 {D : va_G} {B b : Nat} {cI cJ : ClassId} {xs : Nat → Int32} {H : Heap} (hX : ∀ (i : Nat) (e : cn_E), cl_28[i]? = some e → va_at D ol_cls (B + i, cn_e B cI cJ e) H) (hM : ∀ (i : Nat) (e : cn_E), w0_LM[i]? = some e → va_at D ol_cls (B + 132 + i, cn_e (B + 132) cI cJ e) H) : va_at D ol_cls (w0_ad B b 141, ol_E (w0_ad B b) cI cJ (w0_M xs) 141 (.inl 8)) H := hM 9 (.inl (8, fun _ => 0)) rfl
theorem w0_142 {D : va_G} {B b : Nat} {cI cJ : ClassId} {xs : Nat → Int32} {H : Heap} (hX : ∀ (i : Nat) (e : cn_E), cl_28[i]? = some e → va_at D ol_cls (B + i, cn_e B cI cJ e) H) (hM : ∀ (i : Nat) (e : cn_E), w0_LM[i]? = some e → va_at D ol_cls (B + 132 + i, cn_e (B + 132) cI cJ e) H) : va_at D ol_cls (w0_ad B b 142, ol_E (w0_ad B b) cI cJ (w0_M xs) 142 (.inl 8)) H := hM 10 (.inl (8, fun _ => 0)) rfl
theorem w0_143 {D : va_G} {B b : Nat} {cI cJ : ClassId} {xs : Nat → Int32} {H : Heap} (hX : ∀ (i : Nat) (e : cn_E), cl_28[i]? = some e → va_at D ol_cls (B + i, cn_e B cI cJ e) H) (hM : ∀ (i : Nat) (e : cn_E), w0_LM[i]? = some e → va_at D ol_cls (B + 132 + i, cn_e (B + 132) cI cJ e) H) : va_at D ol_cls (w0_ad B b 143, ol_E (w0_ad B b) cI cJ (w0_M xs) 143 (.inl 64)) H := hM 11 (.inl (64, fun _ => 0)) rfl
theorem w0_144 {D : va_G} {B b : Nat} {cI cJ : ClassId} {xs : Nat → Int32} {H : Heap} (hX : ∀ (i : Nat) (e : cn_E), cl_28[i]? = some e → va_at D ol_cls (B + i, cn_e B cI cJ e) H) (hM : ∀ (i : Nat) (e : cn_E), w0_LM[i]? = some e → va_at D ol_cls (B + 132 + i, cn_e (B + 132) cI cJ e) H) : va_at D ol_cls (w0_ad B b 144, ol_E (w0_ad B b) cI cJ (w0_M xs) 144 (.inl 8)) H := hM 12 (.inl (8, ol_rs (ol_rs (ol_rs (ol_rs (ol_rs (ol_rs (ol_rs (ol_rs (fun _ => 0) 0 2) 1 2) 2 2) 3 2) 4 2) 5 2) 6 2) 7 2)) rfl
theorem w0_145 {D : va_G} {B b : Nat} {cI cJ : ClassId} {xs : Nat → Int32} {H : Heap} (hX : ∀ (i : Nat) (e : cn_E), cl_28[i]? = some e → va_at D ol_cls (B + i, cn_e B cI cJ e) H) (hM : ∀ (i : Nat) (e : cn_E), w0_LM[i]? = some e → va_at D ol_cls (B + 132 + i, cn_e (B + 132) cI cJ e) H) : va_at D ol_cls (w0_ad B b 145, ol_E (w0_ad B b) cI cJ (w0_M xs) 145 (.inl 72)) H := hM 13 (.inl (72, fun _ => 0)) rfl
theorem w0_146 {D : va_G} {B b : Nat} {cI cJ : ClassId} {xs : Nat → Int32} {H : Heap} (hX : ∀ (i : Nat) (e : cn_E), cl_28[i]? = some e → va_at D ol_cls (B + i, cn_e B cI cJ e) H) (hM : ∀ (i : Nat) (e : cn_E), w0_LM[i]? = some e → va_at D ol_cls (B + 132 + i, cn_e (B + 132) cI cJ e) H) : va_at D ol_cls (w0_ad B b 146, ol_E (w0_ad B b) cI cJ (w0_M xs) 146 (.inl 32)) H := hM 14 (.inl (32, fun _ => 0)) rfl
theorem w0_147 {D : va_G} {B b : Nat} {cI cJ : ClassId} {xs : Nat → Int32} {H : Heap} (hX : ∀ (i : Nat) (e : cn_E), cl_28[i]? = some e → va_at D ol_cls (B + i, cn_e B cI cJ e) H) (hM : ∀ (i : Nat) (e : cn_E), w0_LM[i]? = some e → va_at D ol_cls (B + 132 + i, cn_e (B + 132) cI cJ e) H) : va_at D ol_cls (w0_ad B b 147, ol_E (w0_ad B b) cI cJ (w0_M xs) 147 (.inl 64)) H := hM 15 (.inl (64, fun _ => 0)) rfl
theorem w0_148 {D : va_G} {B b : Nat} {cI cJ : ClassId} {xs : Nat → Int32} {H : Heap} (hX : ∀ (i : Nat) (e : cn_E), cl_28[i]? = some e → va_at D ol_cls (B + i, cn_e B cI cJ e) H) (hM : ∀ (i : Nat) (e : cn_E), w0_LM[i]? = some e → va_at D ol_cls (B + 132 + i, cn_e (B + 132) cI cJ e) H) : va_at D ol_cls (w0_ad B b 148, ol_E (w0_ad B b) cI cJ (w0_M xs) 148 (.inl 24)) H := hM 16 (.inl (24, fun _ => 0)) rfl
theorem w0_149 {D : va_G} {B b : Nat} {cI cJ : ClassId} {xs : Nat → Int32} {H : Heap} (hX : ∀ (i : Nat) (e : cn_E), cl_28[i]? = some e → va_at D ol_cls (B + i, cn_e B cI cJ e) H) (hM : ∀ (i : Nat) (e : cn_E), w0_LM[i]? = some e → va_at D ol_cls (B + 132 + i, cn_e (B + 132) cI cJ e) H) : va_at D ol_cls (w0_ad B b 149, ol_E (w0_ad B b) cI cJ (w0_M xs) 149 (.inl 24)) H := hM 17 (.inl (24, fun _ => 0)) rfl
theorem w0_150 {D : va_G} {B b : Nat} {cI cJ : ClassId} {xs : Nat → Int32} {H : Heap} (hX : ∀ (i : Nat) (e : cn_E), cl_28[i]? = some e → va_at D ol_cls (B + i, cn_e B cI cJ e) H) (hM : ∀ (i : Nat) (e : cn_E), w0_LM[i]? = some e → va_at D ol_cls (B + 132 + i, cn_e (B + 132) cI cJ e) H) : va_at D ol_cls (w0_ad B b 150, ol_E (w0_ad B b) cI cJ (w0_M xs) 150 (.inl 8)) H := hM 18 (.inl (8, fun _ => 0)) rfl
theorem w0_151 {D : va_G} {B b : Nat} {cI cJ : ClassId} {xs : Nat → Int32} {H : Heap} (hX : ∀ (i : Nat) (e : cn_E), cl_28[i]? = some e → va_at D ol_cls (B + i, cn_e B cI cJ e) H) (hM : ∀ (i : Nat) (e : cn_E), w0_LM[i]? = some e → va_at D ol_cls (B + 132 + i, cn_e (B + 132) cI cJ e) H) : va_at D ol_cls (w0_ad B b 151, ol_E (w0_ad B b) cI cJ (w0_M xs) 151 (.inl 8)) H := hM 19 (.inl (8, fun _ => 0)) rfl
theorem w0_152 {D : va_G} {B b : Nat} {cI cJ : ClassId} {xs : Nat → Int32} {H : Heap} (hX : ∀ (i : Nat) (e : cn_E), cl_28[i]? = some e → va_at D ol_cls (B + i, cn_e B cI cJ e) H) (hM : ∀ (i : Nat) (e : cn_E), w0_LM[i]? = some e → va_at D ol_cls (B + 132 + i, cn_e (B + 132) cI cJ e) H) : va_at D ol_cls (w0_ad B b 152, ol_E (w0_ad B b) cI cJ (w0_M xs) 152 (.inl 32)) H := hM 20 (.inl (32, fun _ => 0)) rfl
theorem w0_153 {D : va_G} {B b : Nat} {cI cJ : ClassId} {xs : Nat → Int32} {H : Heap} (hX : ∀ (i : Nat) (e : cn_E), cl_28[i]? = some e → va_at D ol_cls (B + i, cn_e B cI cJ e) H) (hM : ∀ (i : Nat) (e : cn_E), w0_LM[i]? = some e → va_at D ol_cls (B + 132 + i, cn_e (B + 132) cI cJ e) H) : va_at D ol_cls (w0_ad B b 153, ol_E (w0_ad B b) cI cJ (w0_M xs) 153 (.inl 96)) H := hM 21 (.inl (96, fun _ => 0)) rfl
theorem w0_all {n : Nat} {D : va_G} {B b : Nat} {cI cJ : ClassId} {xs : Nat → Int32} {H : Heap} (hX : ∀ (i : Nat) (e : cn_E), cl_28[i]? = some e → va_at D ol_cls (B + i, cn_e B cI cJ e) H) (hM : ∀ (i : Nat) (e : cn_E), w0_LM[i]? = some e → va_at D ol_cls (B + 132 + i, cn_e (B + 132) cI cJ e) H) (j : Nat) (y : ol_Y) (hj : j < 154) (hy : ol_lay n (Int.ofNat j) = some y) : va_at D ol_cls (w0_ad B b (Int.ofNat j), ol_E (w0_ad B b) cI cJ (w0_M xs) (Int.ofNat j) y) H := by
  by_cases c1 : j < 77
  · skip
    by_cases c2 : j < 38
    · skip
      by_cases c3 : j < 19
      · skip
        by_cases c4 : j < 9
        · skip
          by_cases c5 : j < 4
          · skip
            by_cases c6 : j < 2
            · skip
              by_cases c7 : j < 1
              · skip
                obtain rfl : j = 0 := by omega
                exact Option.some.inj ((ly_0 (n := n)).symm.trans hy) ▸ w0_0 hX hM
              · skip
                obtain rfl : j = 1 := by omega
                exact Option.some.inj ((ly_1 (n := n)).symm.trans hy) ▸ w0_1 hX hM
            · skip
              by_cases c7 : j < 3
              · skip
                obtain rfl : j = 2 := by omega
                exact Option.some.inj ((ly_2 (n := n)).symm.trans hy) ▸ w0_2 hX hM
              · skip
                obtain rfl : j = 3 := by omega
                exact Option.some.inj ((ly_3 (n := n)).symm.trans hy) ▸ w0_3 hX hM
          · skip
            by_cases c6 : j < 6
            · skip
              by_cases c7 : j < 5
              · skip
                obtain rfl : j = 4 := by omega
                exact Option.some.inj ((ly_4 (n := n)).symm.trans hy) ▸ w0_4 hX hM
              · skip
                obtain rfl : j = 5 := by omega
                exact Option.some.inj ((ly_5 (n := n)).symm.trans hy) ▸ w0_5 hX hM
            · skip
              by_cases c7 : j < 7
              · skip
                obtain rfl : j = 6 := by omega
                exact Option.some.inj ((ly_6 (n := n)).symm.trans hy) ▸ w0_6 hX hM
              · skip
                by_cases c8 : j < 8
                · skip
                  obtain rfl : j = 7 := by omega
                  exact Option.some.inj ((ly_7 (n := n)).symm.trans hy) ▸ w0_7 hX hM
                · skip
                  obtain rfl : j = 8 := by omega
                  exact Option.some.inj ((ly_8 (n := n)).symm.trans hy) ▸ w0_8 hX hM
        · skip
          by_cases c5 : j < 14
          · skip
            by_cases c6 : j < 11
            · skip
              by_cases c7 : j < 10
              · skip
                obtain rfl : j = 9 := by omega
                exact Option.some.inj ((ly_9 (n := n)).symm.trans hy) ▸ w0_9 hX hM
              · skip
                obtain rfl : j = 10 := by omega
                exact Option.some.inj ((ly_10 (n := n)).symm.trans hy) ▸ w0_10 hX hM
            · skip
              by_cases c7 : j < 12
              · skip
                obtain rfl : j = 11 := by omega
                exact Option.some.inj ((ly_11 (n := n)).symm.trans hy) ▸ w0_11 hX hM
              · skip
                by_cases c8 : j < 13
                · skip
                  obtain rfl : j = 12 := by omega
                  exact Option.some.inj ((ly_12 (n := n)).symm.trans hy) ▸ w0_12 hX hM
                · skip
                  obtain rfl : j = 13 := by omega
                  exact Option.some.inj ((ly_13 (n := n)).symm.trans hy) ▸ w0_13 hX hM
          · skip
            by_cases c6 : j < 16
            · skip
              by_cases c7 : j < 15
              · skip
                obtain rfl : j = 14 := by omega
                exact Option.some.inj ((ly_14 (n := n)).symm.trans hy) ▸ w0_14 hX hM
              · skip
                obtain rfl : j = 15 := by omega
                exact Option.some.inj ((ly_15 (n := n)).symm.trans hy) ▸ w0_15 hX hM
            · skip
              by_cases c7 : j < 17
              · skip
                obtain rfl : j = 16 := by omega
                exact Option.some.inj ((ly_16 (n := n)).symm.trans hy) ▸ w0_16 hX hM
              · skip
                by_cases c8 : j < 18
                · skip
                  obtain rfl : j = 17 := by omega
                  exact Option.some.inj ((ly_17 (n := n)).symm.trans hy) ▸ w0_17 hX hM
                · skip
                  obtain rfl : j = 18 := by omega
                  exact Option.some.inj ((ly_18 (n := n)).symm.trans hy) ▸ w0_18 hX hM
      · skip
        by_cases c4 : j < 28
        · skip
          by_cases c5 : j < 23
          · skip
            by_cases c6 : j < 21
            · skip
              by_cases c7 : j < 20
              · skip
                obtain rfl : j = 19 := by omega
                exact Option.some.inj ((ly_19 (n := n)).symm.trans hy) ▸ w0_19 hX hM
              · skip
                obtain rfl : j = 20 := by omega
                exact Option.some.inj ((ly_20 (n := n)).symm.trans hy) ▸ w0_20 hX hM
            · skip
              by_cases c7 : j < 22
              · skip
                obtain rfl : j = 21 := by omega
                exact Option.some.inj ((ly_21 (n := n)).symm.trans hy) ▸ w0_21 hX hM
              · skip
                obtain rfl : j = 22 := by omega
                exact Option.some.inj ((ly_22 (n := n)).symm.trans hy) ▸ w0_22 hX hM
          · skip
            by_cases c6 : j < 25
            · skip
              by_cases c7 : j < 24
              · skip
                obtain rfl : j = 23 := by omega
                exact Option.some.inj ((ly_23 (n := n)).symm.trans hy) ▸ w0_23 hX hM
              · skip
                obtain rfl : j = 24 := by omega
                exact Option.some.inj ((ly_24 (n := n)).symm.trans hy) ▸ w0_24 hX hM
            · skip
              by_cases c7 : j < 26
              · skip
                obtain rfl : j = 25 := by omega
                exact Option.some.inj ((ly_25 (n := n)).symm.trans hy) ▸ w0_25 hX hM
              · skip
                by_cases c8 : j < 27
                · skip
                  obtain rfl : j = 26 := by omega
                  exact Option.some.inj ((ly_26 (n := n)).symm.trans hy) ▸ w0_26 hX hM
                · skip
                  obtain rfl : j = 27 := by omega
                  exact Option.some.inj ((ly_27 (n := n)).symm.trans hy) ▸ w0_27 hX hM
        · skip
          by_cases c5 : j < 33
          · skip
            by_cases c6 : j < 30
            · skip
              by_cases c7 : j < 29
              · skip
                obtain rfl : j = 28 := by omega
                exact Option.some.inj ((ly_28 (n := n)).symm.trans hy) ▸ w0_28 hX hM
              · skip
                obtain rfl : j = 29 := by omega
                exact Option.some.inj ((ly_29 (n := n)).symm.trans hy) ▸ w0_29 hX hM
            · skip
              by_cases c7 : j < 31
              · skip
                obtain rfl : j = 30 := by omega
                exact Option.some.inj ((ly_30 (n := n)).symm.trans hy) ▸ w0_30 hX hM
              · skip
                by_cases c8 : j < 32
                · skip
                  obtain rfl : j = 31 := by omega
                  exact Option.some.inj ((ly_31 (n := n)).symm.trans hy) ▸ w0_31 hX hM
                · skip
                  obtain rfl : j = 32 := by omega
                  exact Option.some.inj ((ly_32 (n := n)).symm.trans hy) ▸ w0_32 hX hM
          · skip
            by_cases c6 : j < 35
            · skip
              by_cases c7 : j < 34
              · skip
                obtain rfl : j = 33 := by omega
                exact Option.some.inj ((ly_33 (n := n)).symm.trans hy) ▸ w0_33 hX hM
              · skip
                obtain rfl : j = 34 := by omega
                exact Option.some.inj ((ly_34 (n := n)).symm.trans hy) ▸ w0_34 hX hM
            · skip
              by_cases c7 : j < 36
              · skip
                obtain rfl : j = 35 := by omega
                exact Option.some.inj ((ly_35 (n := n)).symm.trans hy) ▸ w0_35 hX hM
              · skip
                by_cases c8 : j < 37
                · skip
                  obtain rfl : j = 36 := by omega
                  exact Option.some.inj ((ly_36 (n := n)).symm.trans hy) ▸ w0_36 hX hM
                · skip
                  obtain rfl : j = 37 := by omega
                  exact Option.some.inj ((ly_37 (n := n)).symm.trans hy) ▸ w0_37 hX hM
    · skip
      by_cases c3 : j < 57
      · skip
        by_cases c4 : j < 47
        · skip
          by_cases c5 : j < 42
          · skip
            by_cases c6 : j < 40
            · skip
              by_cases c7 : j < 39
              · skip
                obtain rfl : j = 38 := by omega
                exact Option.some.inj ((ly_38 (n := n)).symm.trans hy) ▸ w0_38 hX hM
              · skip
                obtain rfl : j = 39 := by omega
                exact Option.some.inj ((ly_39 (n := n)).symm.trans hy) ▸ w0_39 hX hM
            · skip
              by_cases c7 : j < 41
              · skip
                obtain rfl : j = 40 := by omega
                exact Option.some.inj ((ly_40 (n := n)).symm.trans hy) ▸ w0_40 hX hM
              · skip
                obtain rfl : j = 41 := by omega
                exact Option.some.inj ((ly_41 (n := n)).symm.trans hy) ▸ w0_41 hX hM
          · skip
            by_cases c6 : j < 44
            · skip
              by_cases c7 : j < 43
              · skip
                obtain rfl : j = 42 := by omega
                exact Option.some.inj ((ly_42 (n := n)).symm.trans hy) ▸ w0_42 hX hM
              · skip
                obtain rfl : j = 43 := by omega
                exact Option.some.inj ((ly_43 (n := n)).symm.trans hy) ▸ w0_43 hX hM
            · skip
              by_cases c7 : j < 45
              · skip
                obtain rfl : j = 44 := by omega
                exact Option.some.inj ((ly_44 (n := n)).symm.trans hy) ▸ w0_44 hX hM
              · skip
                by_cases c8 : j < 46
                · skip
                  obtain rfl : j = 45 := by omega
                  exact Option.some.inj ((ly_45 (n := n)).symm.trans hy) ▸ w0_45 hX hM
                · skip
                  obtain rfl : j = 46 := by omega
                  exact Option.some.inj ((ly_46 (n := n)).symm.trans hy) ▸ w0_46 hX hM
        · skip
          by_cases c5 : j < 52
          · skip
            by_cases c6 : j < 49
            · skip
              by_cases c7 : j < 48
              · skip
                obtain rfl : j = 47 := by omega
                exact Option.some.inj ((ly_47 (n := n)).symm.trans hy) ▸ w0_47 hX hM
              · skip
                obtain rfl : j = 48 := by omega
                exact Option.some.inj ((ly_48 (n := n)).symm.trans hy) ▸ w0_48 hX hM
            · skip
              by_cases c7 : j < 50
              · skip
                obtain rfl : j = 49 := by omega
                exact Option.some.inj ((ly_49 (n := n)).symm.trans hy) ▸ w0_49 hX hM
              · skip
                by_cases c8 : j < 51
                · skip
                  obtain rfl : j = 50 := by omega
                  exact Option.some.inj ((ly_50 (n := n)).symm.trans hy) ▸ w0_50 hX hM
                · skip
                  obtain rfl : j = 51 := by omega
                  exact Option.some.inj ((ly_51 (n := n)).symm.trans hy) ▸ w0_51 hX hM
          · skip
            by_cases c6 : j < 54
            · skip
              by_cases c7 : j < 53
              · skip
                obtain rfl : j = 52 := by omega
                exact Option.some.inj ((ly_52 (n := n)).symm.trans hy) ▸ w0_52 hX hM
              · skip
                obtain rfl : j = 53 := by omega
                exact Option.some.inj ((ly_53 (n := n)).symm.trans hy) ▸ w0_53 hX hM
            · skip
              by_cases c7 : j < 55
              · skip
                obtain rfl : j = 54 := by omega
                exact Option.some.inj ((ly_54 (n := n)).symm.trans hy) ▸ w0_54 hX hM
              · skip
                by_cases c8 : j < 56
                · skip
                  obtain rfl : j = 55 := by omega
                  exact Option.some.inj ((ly_55 (n := n)).symm.trans hy) ▸ w0_55 hX hM
                · skip
                  obtain rfl : j = 56 := by omega
                  exact Option.some.inj ((ly_56 (n := n)).symm.trans hy) ▸ w0_56 hX hM
      · skip
        by_cases c4 : j < 67
        · skip
          by_cases c5 : j < 62
          · skip
            by_cases c6 : j < 59
            · skip
              by_cases c7 : j < 58
              · skip
                obtain rfl : j = 57 := by omega
                exact Option.some.inj ((ly_57 (n := n)).symm.trans hy) ▸ w0_57 hX hM
              · skip
                obtain rfl : j = 58 := by omega
                exact Option.some.inj ((ly_58 (n := n)).symm.trans hy) ▸ w0_58 hX hM
            · skip
              by_cases c7 : j < 60
              · skip
                obtain rfl : j = 59 := by omega
                exact Option.some.inj ((ly_59 (n := n)).symm.trans hy) ▸ w0_59 hX hM
              · skip
                by_cases c8 : j < 61
                · skip
                  obtain rfl : j = 60 := by omega
                  exact Option.some.inj ((ly_60 (n := n)).symm.trans hy) ▸ w0_60 hX hM
                · skip
                  obtain rfl : j = 61 := by omega
                  exact Option.some.inj ((ly_61 (n := n)).symm.trans hy) ▸ w0_61 hX hM
          · skip
            by_cases c6 : j < 64
            · skip
              by_cases c7 : j < 63
              · skip
                obtain rfl : j = 62 := by omega
                exact Option.some.inj ((ly_62 (n := n)).symm.trans hy) ▸ w0_62 hX hM
              · skip
                obtain rfl : j = 63 := by omega
                exact Option.some.inj ((ly_63 (n := n)).symm.trans hy) ▸ w0_63 hX hM
            · skip
              by_cases c7 : j < 65
              · skip
                obtain rfl : j = 64 := by omega
                exact Option.some.inj ((ly_64 (n := n)).symm.trans hy) ▸ w0_64 hX hM
              · skip
                by_cases c8 : j < 66
                · skip
                  obtain rfl : j = 65 := by omega
                  exact Option.some.inj ((ly_65 (n := n)).symm.trans hy) ▸ w0_65 hX hM
                · skip
                  obtain rfl : j = 66 := by omega
                  exact Option.some.inj ((ly_66 (n := n)).symm.trans hy) ▸ w0_66 hX hM
        · skip
          by_cases c5 : j < 72
          · skip
            by_cases c6 : j < 69
            · skip
              by_cases c7 : j < 68
              · skip
                obtain rfl : j = 67 := by omega
                exact Option.some.inj ((ly_67 (n := n)).symm.trans hy) ▸ w0_67 hX hM
              · skip
                obtain rfl : j = 68 := by omega
                exact Option.some.inj ((ly_68 (n := n)).symm.trans hy) ▸ w0_68 hX hM
            · skip
              by_cases c7 : j < 70
              · skip
                obtain rfl : j = 69 := by omega
                exact Option.some.inj ((ly_69 (n := n)).symm.trans hy) ▸ w0_69 hX hM
              · skip
                by_cases c8 : j < 71
                · skip
                  obtain rfl : j = 70 := by omega
                  exact Option.some.inj ((ly_70 (n := n)).symm.trans hy) ▸ w0_70 hX hM
                · skip
                  obtain rfl : j = 71 := by omega
                  exact Option.some.inj ((ly_71 (n := n)).symm.trans hy) ▸ w0_71 hX hM
          · skip
            by_cases c6 : j < 74
            · skip
              by_cases c7 : j < 73
              · skip
                obtain rfl : j = 72 := by omega
                exact Option.some.inj ((ly_72 (n := n)).symm.trans hy) ▸ w0_72 hX hM
              · skip
                obtain rfl : j = 73 := by omega
                exact Option.some.inj ((ly_73 (n := n)).symm.trans hy) ▸ w0_73 hX hM
            · skip
              by_cases c7 : j < 75
              · skip
                obtain rfl : j = 74 := by omega
                exact Option.some.inj ((ly_74 (n := n)).symm.trans hy) ▸ w0_74 hX hM
              · skip
                by_cases c8 : j < 76
                · skip
                  obtain rfl : j = 75 := by omega
                  exact Option.some.inj ((ly_75 (n := n)).symm.trans hy) ▸ w0_75 hX hM
                · skip
                  obtain rfl : j = 76 := by omega
                  exact Option.some.inj ((ly_76 (n := n)).symm.trans hy) ▸ w0_76 hX hM
  · skip
    by_cases c2 : j < 115
    · skip
      by_cases c3 : j < 96
      · skip
        by_cases c4 : j < 86
        · skip
          by_cases c5 : j < 81
          · skip
            by_cases c6 : j < 79
            · skip
              by_cases c7 : j < 78
              · skip
                obtain rfl : j = 77 := by omega
                exact Option.some.inj ((ly_77 (n := n)).symm.trans hy) ▸ w0_77 hX hM
              · skip
                obtain rfl : j = 78 := by omega
                exact Option.some.inj ((ly_78 (n := n)).symm.trans hy) ▸ w0_78 hX hM
            · skip
              by_cases c7 : j < 80
              · skip
                obtain rfl : j = 79 := by omega
                exact Option.some.inj ((ly_79 (n := n)).symm.trans hy) ▸ w0_79 hX hM
              · skip
                obtain rfl : j = 80 := by omega
                exact Option.some.inj ((ly_80 (n := n)).symm.trans hy) ▸ w0_80 hX hM
          · skip
            by_cases c6 : j < 83
            · skip
              by_cases c7 : j < 82
              · skip
                obtain rfl : j = 81 := by omega
                exact Option.some.inj ((ly_81 (n := n)).symm.trans hy) ▸ w0_81 hX hM
              · skip
                obtain rfl : j = 82 := by omega
                exact Option.some.inj ((ly_82 (n := n)).symm.trans hy) ▸ w0_82 hX hM
            · skip
              by_cases c7 : j < 84
              · skip
                obtain rfl : j = 83 := by omega
                exact Option.some.inj ((ly_83 (n := n)).symm.trans hy) ▸ w0_83 hX hM
              · skip
                by_cases c8 : j < 85
                · skip
                  obtain rfl : j = 84 := by omega
                  exact Option.some.inj ((ly_84 (n := n)).symm.trans hy) ▸ w0_84 hX hM
                · skip
                  obtain rfl : j = 85 := by omega
                  exact Option.some.inj ((ly_85 (n := n)).symm.trans hy) ▸ w0_85 hX hM
        · skip
          by_cases c5 : j < 91
          · skip
            by_cases c6 : j < 88
            · skip
              by_cases c7 : j < 87
              · skip
                obtain rfl : j = 86 := by omega
                exact Option.some.inj ((ly_86 (n := n)).symm.trans hy) ▸ w0_86 hX hM
              · skip
                obtain rfl : j = 87 := by omega
                exact Option.some.inj ((ly_87 (n := n)).symm.trans hy) ▸ w0_87 hX hM
            · skip
              by_cases c7 : j < 89
              · skip
                obtain rfl : j = 88 := by omega
                exact Option.some.inj ((ly_88 (n := n)).symm.trans hy) ▸ w0_88 hX hM
              · skip
                by_cases c8 : j < 90
                · skip
                  obtain rfl : j = 89 := by omega
                  exact Option.some.inj ((ly_89 (n := n)).symm.trans hy) ▸ w0_89 hX hM
                · skip
                  obtain rfl : j = 90 := by omega
                  exact Option.some.inj ((ly_90 (n := n)).symm.trans hy) ▸ w0_90 hX hM
          · skip
            by_cases c6 : j < 93
            · skip
              by_cases c7 : j < 92
              · skip
                obtain rfl : j = 91 := by omega
                exact Option.some.inj ((ly_91 (n := n)).symm.trans hy) ▸ w0_91 hX hM
              · skip
                obtain rfl : j = 92 := by omega
                exact Option.some.inj ((ly_92 (n := n)).symm.trans hy) ▸ w0_92 hX hM
            · skip
              by_cases c7 : j < 94
              · skip
                obtain rfl : j = 93 := by omega
                exact Option.some.inj ((ly_93 (n := n)).symm.trans hy) ▸ w0_93 hX hM
              · skip
                by_cases c8 : j < 95
                · skip
                  obtain rfl : j = 94 := by omega
                  exact Option.some.inj ((ly_94 (n := n)).symm.trans hy) ▸ w0_94 hX hM
                · skip
                  obtain rfl : j = 95 := by omega
                  exact Option.some.inj ((ly_95 (n := n)).symm.trans hy) ▸ w0_95 hX hM
      · skip
        by_cases c4 : j < 105
        · skip
          by_cases c5 : j < 100
          · skip
            by_cases c6 : j < 98
            · skip
              by_cases c7 : j < 97
              · skip
                obtain rfl : j = 96 := by omega
                exact Option.some.inj ((ly_96 (n := n)).symm.trans hy) ▸ w0_96 hX hM
              · skip
                obtain rfl : j = 97 := by omega
                exact Option.some.inj ((ly_97 (n := n)).symm.trans hy) ▸ w0_97 hX hM
            · skip
              by_cases c7 : j < 99
              · skip
                obtain rfl : j = 98 := by omega
                exact Option.some.inj ((ly_98 (n := n)).symm.trans hy) ▸ w0_98 hX hM
              · skip
                obtain rfl : j = 99 := by omega
                exact Option.some.inj ((ly_99 (n := n)).symm.trans hy) ▸ w0_99 hX hM
          · skip
            by_cases c6 : j < 102
            · skip
              by_cases c7 : j < 101
              · skip
                obtain rfl : j = 100 := by omega
                exact Option.some.inj ((ly_100 (n := n)).symm.trans hy) ▸ w0_100 hX hM
              · skip
                obtain rfl : j = 101 := by omega
                exact Option.some.inj ((ly_101 (n := n)).symm.trans hy) ▸ w0_101 hX hM
            · skip
              by_cases c7 : j < 103
              · skip
                obtain rfl : j = 102 := by omega
                exact Option.some.inj ((ly_102 (n := n)).symm.trans hy) ▸ w0_102 hX hM
              · skip
                by_cases c8 : j < 104
                · skip
                  obtain rfl : j = 103 := by omega
                  exact Option.some.inj ((ly_103 (n := n)).symm.trans hy) ▸ w0_103 hX hM
                · skip
                  obtain rfl : j = 104 := by omega
                  exact Option.some.inj ((ly_104 (n := n)).symm.trans hy) ▸ w0_104 hX hM
        · skip
          by_cases c5 : j < 110
          · skip
            by_cases c6 : j < 107
            · skip
              by_cases c7 : j < 106
              · skip
                obtain rfl : j = 105 := by omega
                exact Option.some.inj ((ly_105 (n := n)).symm.trans hy) ▸ w0_105 hX hM
              · skip
                obtain rfl : j = 106 := by omega
                exact Option.some.inj ((ly_106 (n := n)).symm.trans hy) ▸ w0_106 hX hM
            · skip
              by_cases c7 : j < 108
              · skip
                obtain rfl : j = 107 := by omega
                exact Option.some.inj ((ly_107 (n := n)).symm.trans hy) ▸ w0_107 hX hM
              · skip
                by_cases c8 : j < 109
                · skip
                  obtain rfl : j = 108 := by omega
                  exact Option.some.inj ((ly_108 (n := n)).symm.trans hy) ▸ w0_108 hX hM
                · skip
                  obtain rfl : j = 109 := by omega
                  exact Option.some.inj ((ly_109 (n := n)).symm.trans hy) ▸ w0_109 hX hM
          · skip
            by_cases c6 : j < 112
            · skip
              by_cases c7 : j < 111
              · skip
                obtain rfl : j = 110 := by omega
                exact Option.some.inj ((ly_110 (n := n)).symm.trans hy) ▸ w0_110 hX hM
              · skip
                obtain rfl : j = 111 := by omega
                exact Option.some.inj ((ly_111 (n := n)).symm.trans hy) ▸ w0_111 hX hM
            · skip
              by_cases c7 : j < 113
              · skip
                obtain rfl : j = 112 := by omega
                exact Option.some.inj ((ly_112 (n := n)).symm.trans hy) ▸ w0_112 hX hM
              · skip
                by_cases c8 : j < 114
                · skip
                  obtain rfl : j = 113 := by omega
                  exact Option.some.inj ((ly_113 (n := n)).symm.trans hy) ▸ w0_113 hX hM
                · skip
                  obtain rfl : j = 114 := by omega
                  exact Option.some.inj ((ly_114 (n := n)).symm.trans hy) ▸ w0_114 hX hM
    · skip
      by_cases c3 : j < 134
      · skip
        by_cases c4 : j < 124
        · skip
          by_cases c5 : j < 119
          · skip
            by_cases c6 : j < 117
            · skip
              by_cases c7 : j < 116
              · skip
                obtain rfl : j = 115 := by omega
                exact Option.some.inj ((ly_115 (n := n)).symm.trans hy) ▸ w0_115 hX hM
              · skip
                obtain rfl : j = 116 := by omega
                exact Option.some.inj ((ly_116 (n := n)).symm.trans hy) ▸ w0_116 hX hM
            · skip
              by_cases c7 : j < 118
              · skip
                obtain rfl : j = 117 := by omega
                exact Option.some.inj ((ly_117 (n := n)).symm.trans hy) ▸ w0_117 hX hM
              · skip
                obtain rfl : j = 118 := by omega
                exact Option.some.inj ((ly_118 (n := n)).symm.trans hy) ▸ w0_118 hX hM
          · skip
            by_cases c6 : j < 121
            · skip
              by_cases c7 : j < 120
              · skip
                obtain rfl : j = 119 := by omega
                exact Option.some.inj ((ly_119 (n := n)).symm.trans hy) ▸ w0_119 hX hM
              · skip
                obtain rfl : j = 120 := by omega
                exact Option.some.inj ((ly_120 (n := n)).symm.trans hy) ▸ w0_120 hX hM
            · skip
              by_cases c7 : j < 122
              · skip
                obtain rfl : j = 121 := by omega
                exact Option.some.inj ((ly_121 (n := n)).symm.trans hy) ▸ w0_121 hX hM
              · skip
                by_cases c8 : j < 123
                · skip
                  obtain rfl : j = 122 := by omega
                  exact Option.some.inj ((ly_122 (n := n)).symm.trans hy) ▸ w0_122 hX hM
                · skip
                  obtain rfl : j = 123 := by omega
                  exact Option.some.inj ((ly_123 (n := n)).symm.trans hy) ▸ w0_123 hX hM
        · skip
          by_cases c5 : j < 129
          · skip
            by_cases c6 : j < 126
            · skip
              by_cases c7 : j < 125
              · skip
                obtain rfl : j = 124 := by omega
                exact Option.some.inj ((ly_124 (n := n)).symm.trans hy) ▸ w0_124 hX hM
              · skip
                obtain rfl : j = 125 := by omega
                exact Option.some.inj ((ly_125 (n := n)).symm.trans hy) ▸ w0_125 hX hM
            · skip
              by_cases c7 : j < 127
              · skip
                obtain rfl : j = 126 := by omega
                exact Option.some.inj ((ly_126 (n := n)).symm.trans hy) ▸ w0_126 hX hM
              · skip
                by_cases c8 : j < 128
                · skip
                  obtain rfl : j = 127 := by omega
                  exact Option.some.inj ((ly_127 (n := n)).symm.trans hy) ▸ w0_127 hX hM
                · skip
                  obtain rfl : j = 128 := by omega
                  exact Option.some.inj ((ly_128 (n := n)).symm.trans hy) ▸ w0_128 hX hM
          · skip
            by_cases c6 : j < 131
            · skip
              by_cases c7 : j < 130
              · skip
                obtain rfl : j = 129 := by omega
                exact Option.some.inj ((ly_129 (n := n)).symm.trans hy) ▸ w0_129 hX hM
              · skip
                obtain rfl : j = 130 := by omega
                exact Option.some.inj ((ly_130 (n := n)).symm.trans hy) ▸ w0_130 hX hM
            · skip
              by_cases c7 : j < 132
              · skip
                obtain rfl : j = 131 := by omega
                exact Option.some.inj ((ly_131 (n := n)).symm.trans hy) ▸ w0_131 hX hM
              · skip
                by_cases c8 : j < 133
                · skip
                  obtain rfl : j = 132 := by omega
                  exact Option.some.inj ((ly_132 (n := n)).symm.trans hy) ▸ w0_132 hX hM
                · skip
                  obtain rfl : j = 133 := by omega
                  exact Option.some.inj ((ly_133 (n := n)).symm.trans hy) ▸ w0_133 hX hM
      · skip
        by_cases c4 : j < 144
        · skip
          by_cases c5 : j < 139
          · skip
            by_cases c6 : j < 136
            · skip
              by_cases c7 : j < 135
              · skip
                obtain rfl : j = 134 := by omega
                exact Option.some.inj ((ly_134 (n := n)).symm.trans hy) ▸ w0_134 hX hM
              · skip
                obtain rfl : j = 135 := by omega
                exact Option.some.inj ((ly_135 (n := n)).symm.trans hy) ▸ w0_135 hX hM
            · skip
              by_cases c7 : j < 137
              · skip
                obtain rfl : j = 136 := by omega
                exact Option.some.inj ((ly_136 (n := n)).symm.trans hy) ▸ w0_136 hX hM
              · skip
                by_cases c8 : j < 138
                · skip
                  obtain rfl : j = 137 := by omega
                  exact Option.some.inj ((ly_137 (n := n)).symm.trans hy) ▸ w0_137 hX hM
                · skip
                  obtain rfl : j = 138 := by omega
                  exact Option.some.inj ((ly_138 (n := n)).symm.trans hy) ▸ w0_138 hX hM
          · skip
            by_cases c6 : j < 141
            · skip
              by_cases c7 : j < 140
              · skip
                obtain rfl : j = 139 := by omega
                exact Option.some.inj ((ly_139 (n := n)).symm.trans hy) ▸ w0_139 hX hM
              · skip
                obtain rfl : j = 140 := by omega
                exact Option.some.inj ((ly_140 (n := n)).symm.trans hy) ▸ w0_140 hX hM
            · skip
              by_cases c7 : j < 142
              · skip
                obtain rfl : j = 141 := by omega
                exact Option.some.inj ((ly_141 (n := n)).symm.trans hy) ▸ w0_141 hX hM
              · skip
                by_cases c8 : j < 143
                · skip
                  obtain rfl : j = 142 := by omega
                  exact Option.some.inj ((ly_142 (n := n)).symm.trans hy) ▸ w0_142 hX hM
                · skip
                  obtain rfl : j = 143 := by omega
                  exact Option.some.inj ((ly_143 (n := n)).symm.trans hy) ▸ w0_143 hX hM
        · skip
          by_cases c5 : j < 149
          · skip
            by_cases c6 : j < 146
            · skip
              by_cases c7 : j < 145
              · skip
                obtain rfl : j = 144 := by omega
                exact Option.some.inj ((ly_144 (n := n)).symm.trans hy) ▸ w0_144 hX hM
              · skip
                obtain rfl : j = 145 := by omega
                exact Option.some.inj ((ly_145 (n := n)).symm.trans hy) ▸ w0_145 hX hM
            · skip
              by_cases c7 : j < 147
              · skip
                obtain rfl : j = 146 := by omega
                exact Option.some.inj ((ly_146 (n := n)).symm.trans hy) ▸ w0_146 hX hM
              · skip
                by_cases c8 : j < 148
                · skip
                  obtain rfl : j = 147 := by omega
                  exact Option.some.inj ((ly_147 (n := n)).symm.trans hy) ▸ w0_147 hX hM
                · skip
                  obtain rfl : j = 148 := by omega
                  exact Option.some.inj ((ly_148 (n := n)).symm.trans hy) ▸ w0_148 hX hM
          · skip
            by_cases c6 : j < 151
            · skip
              by_cases c7 : j < 150
              · skip
                obtain rfl : j = 149 := by omega
                exact Option.some.inj ((ly_149 (n := n)).symm.trans hy) ▸ w0_149 hX hM
              · skip
                obtain rfl : j = 150 := by omega
                exact Option.some.inj ((ly_150 (n := n)).symm.trans hy) ▸ w0_150 hX hM
            · skip
              by_cases c7 : j < 152
              · skip
                obtain rfl : j = 151 := by omega
                exact Option.some.inj ((ly_151 (n := n)).symm.trans hy) ▸ w0_151 hX hM
              · skip
                by_cases c8 : j < 153
                · skip
                  obtain rfl : j = 152 := by omega
                  exact Option.some.inj ((ly_152 (n := n)).symm.trans hy) ▸ w0_152 hX hM
                · skip
                  obtain rfl : j = 153 := by omega
                  exact Option.some.inj ((ly_153 (n := n)).symm.trans hy) ▸ w0_153 hX hM
theorem w0_H {n : Nat} {D : va_G} {B b : Nat} {cI cJ : ClassId} {xs : Nat → Int32} {H : Heap} (hX : ∀ (i : Nat) (e : cn_E), cl_28[i]? = some e → va_at D ol_cls (B + i, cn_e B cI cJ e) H) (hM : ∀ (i : Nat) (e : cn_E), w0_LM[i]? = some e → va_at D ol_cls (B + 132 + i, cn_e (B + 132) cI cJ e) H) : ol_H D (w0_ad B b) cI cJ (ol_lay n) (w0_M xs) H := by
  intro k y hy
  cases k with
  | ofNat j =>
    have hj : j < 154 := by
      have h1 : ol_tab[j]? = some y := hy
      have h2 := (List.getElem?_eq_some_iff.mp h1).1
      have h3 : ol_tab.length = 154 := by decide +kernel
      omega
    exact w0_all hX hM j y hj hy
  | negSucc j =>
    have e : none = some y := hy
    cases e
theorem w0_adi {n B b : Nat} (hb : b < B) : ∀ (i j : Int) (yi yj : ol_Y), ol_lay n i = some yi → ol_lay n j = some yj → w0_ad B b i = w0_ad B b j → i = j := by
  intro i j yi yj hi hj h
  cases i with
  | ofNat i =>
    cases j with
    | ofNat j =>
      have h1 : B + w0_pi i = B + w0_pi j := h
      rw [w0_inj (show w0_pi i = w0_pi j by omega)]
    | negSucc j =>
      have h1 : B + w0_pi i = b := h
      omega
  | negSucc i =>
    cases j with
    | ofNat j =>
      have h1 : b = B + w0_pi j := h
      omega
    | negSucc j => exact absurd (show none = some yi from hi) (by simp)
