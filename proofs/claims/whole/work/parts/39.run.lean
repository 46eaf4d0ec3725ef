/-! MONTHS: a world W (0 houses, 1 kinds, 2 heads, 3 terms, 30 + t what a term needs, 4 rations, 5 lendings, 6 .. 9 their month, house, to, letter, 10 writings, 11 .. 13 their month, house, term, 14: 1 if it is left out), a state X (0 stock, 1 what became, 2 what lacked, 3 fines, 4 spent) -/
def rn_hand (W : ol_M) (st : Int → Int) : Int → Int := fun j => if 0 ≤ j ∧ j < 8 * W 0 0 then (if W 1 (j / 8) = 1 then st j / 2 else 0) + W 4 (j % 8) * W 2 (j / 8) else st j
def rn_l1 (W : ol_M) (k : Int) (st : Int → Int) : Int → Int := if W 7 k < W 0 0 ∧ W 8 k < W 0 0 ∧ 0 < st (8 * W 7 k + W 9 k) then ol_rs (ol_rs st (8 * W 7 k + W 9 k) (st (8 * W 7 k + W 9 k) - 1)) (8 * W 8 k + W 9 k) (st (8 * W 8 k + W 9 k) + 1) else st
def rn_ls (W : ol_M) (m : Int) : Nat → (Int → Int) → Int → Int
  | 0, st => st
  | k + 1, st => if W 6 k = m then rn_l1 W k (rn_ls W m k st) else rn_ls W m k st
/-- what is wanting, of the first k letters; b ≠ 0: vowels not counted -/
def lk (nd st : Int → Int) (b : Int) : Nat → Int
  | 0 => 0
  | k + 1 => lk nd st b k + (if 0 < nd k - st k ∧ ¬ (b ≠ 0 ∧ ((k : Int) = 0 ∨ (k : Int) = 4)) then nd k - st k else 0)
def hoth (nd : Int → Int) : Prop := 0 < nd 1 ∨ 0 < nd 2 ∨ 0 < nd 3 ∨ 0 < nd 5 ∨ 0 < nd 6 ∨ 0 < nd 7
def rn_lack (W : ol_M) (h t b : Int) (st : Int → Int) : Int := lk (W (30 + t)) (fun l => st (8 * h + l)) b 8
def rn_sh (W : ol_M) (h t : Int) (st : Int → Int) : Prop := W 1 h = 2 ∧ (0 < W (30 + t) 1 ∨ 0 < W (30 + t) 2 ∨ 0 < W (30 + t) 3 ∨ 0 < W (30 + t) 5 ∨ 0 < W (30 + t) 6 ∨ 0 < W (30 + t) 7) ∧ rn_lack W h t 1 st = 0
noncomputable def rn_res (W : ol_M) (h t : Int) (st : Int → Int) : Int := if rn_lack W h t 0 st = 0 then 1 else @ite Int (rn_sh W h t st) (Classical.propDecidable _) 2 3
/-- what is taken: b ≠ 0: vowels not -/
def rn_tk (nd : Int → Int) (b l : Int) : Int := if b ≠ 0 ∧ (l = 0 ∨ l = 4) then 0 else nd l
def rn_sp (nd : Int → Int) (h b : Int) (st : Int → Int) : Int → Int := ol_rg st (8 * h) (8 * h + 8) (fun j => st j - rn_tk nd b (j - 8 * h))
def rn_st (nd : Int → Int) (b : Int) (sp : Int → Int) : Int → Int := ol_rg sp 0 8 (fun l => sp l + rn_tk nd b l)
noncomputable def rn_try (W : ol_M) (k : Int) (X : ol_M) : ol_M :=
  if W 12 k < W 0 0 ∧ W 13 k < W 3 0 then
    (if rn_res W (W 12 k) (W 13 k) (X 0) = 3 then ol_ms (ol_ms (ol_ms X 2 k (rn_lack W (W 12 k) (W 13 k) 0 (X 0))) 1 k 3) 3 (W 12 k) (X 3 (W 12 k) + 1)
     else ol_mp (ol_mp (ol_ms (ol_ms X 2 k (rn_lack W (W 12 k) (W 13 k) 0 (X 0))) 1 k (rn_res W (W 12 k) (W 13 k) (X 0))) 0 (rn_sp (W (30 + W 13 k)) (W 12 k) (rn_res W (W 12 k) (W 13 k) (X 0) - 1) (X 0))) 4 (rn_st (W (30 + W 13 k)) (rn_res W (W 12 k) (W 13 k) (X 0) - 1) (X 4)))
  else X
noncomputable def rn_ws (W : ol_M) (m : Int) : Nat → ol_M → ol_M
  | 0, X => X
  | k + 1, X => if W 14 k ≠ 1 ∧ W 11 k = m then rn_try W k (rn_ws W m k X) else rn_ws W m k X
noncomputable def rn_mo (W : ol_M) (m : Int) (X : ol_M) : ol_M := rn_ws W m (W 10 0).toNat (ol_mp X 0 (rn_ls W m (W 5 0).toNat (rn_hand W (X 0))))
def rn_x0 : ol_M := fun c => if c = 2 then fun _ => -1 else fun _ => 0
noncomputable def rn_lv (W : ol_M) : Nat → ol_M
  | 0 => rn_x0
  | m + 1 => rn_mo W m (rn_lv W m)
/-- a world's numbers are as they may be -/
def wk (W : ol_M) : Prop := (0 ≤ W 0 0 ∧ W 0 0 ≤ 8) ∧ (∀ h, 0 ≤ h → h < W 0 0 → (0 ≤ W 1 h ∧ W 1 h ≤ 2) ∧ (1 ≤ W 2 h ∧ W 2 h ≤ 9)) ∧ (0 ≤ W 3 0 ∧ W 3 0 ≤ 8) ∧ (∀ t, 0 ≤ t → t < W 3 0 → ∀ l, 0 ≤ l → l < 8 → 0 ≤ W (30 + t) l ∧ W (30 + t) l ≤ 6) ∧ (∀ l, 0 ≤ l → l < 8 → 0 ≤ W 4 l ∧ W 4 l ≤ 9) ∧ (0 ≤ W 5 0 ∧ W 5 0 ≤ 8) ∧ (∀ k, 0 ≤ k → k < W 5 0 → (0 ≤ W 6 k ∧ W 6 k ≤ 11) ∧ (0 ≤ W 7 k ∧ W 7 k ≤ 7) ∧ (0 ≤ W 8 k ∧ W 8 k ≤ 7) ∧ (0 ≤ W 9 k ∧ W 9 k ≤ 7) ∧ W 7 k ≠ W 8 k) ∧ (0 ≤ W 10 0 ∧ W 10 0 ≤ 24) ∧ (∀ k, 0 ≤ k → k < W 10 0 → (0 ≤ W 11 k ∧ W 11 k ≤ 11) ∧ (0 ≤ W 12 k ∧ W 12 k ≤ 7) ∧ (0 ≤ W 13 k ∧ W 13 k ≤ 7))
/-- stocks lie between 0 and B -/
def xb (B : Int) (st : Int → Int) : Prop := ∀ j, 0 ≤ j → j < 64 → 0 ≤ st j ∧ st j ≤ B
theorem xb.up {B B' : Int} {st : Int → Int} (h : xb B st) (hB : B ≤ B') : xb B' st := fun j a b => ⟨(h j a b).1, by have := (h j a b).2; omega⟩
theorem rn_hand_b {W : ol_M} (w : wk W) {st : Int → Int} (h : xb 1000 st) : xb 1000 (rn_hand W st) ∧ xb 581 (fun j => if j < 8 * W 0 0 then rn_hand W st j else 0) := by
  have key : ∀ j, 0 ≤ j → j < 64 → j < 8 * W 0 0 → 0 ≤ rn_hand W st j ∧ rn_hand W st j ≤ 581 := by
    intro j j0 j1 j2
    obtain ⟨w0, w1, w2, w3, w4, -⟩ := w
    have a := w4 (j % 8) (by omega) (by omega)
    have b := w1 (j / 8) (by omega) (by omega)
    have c := h j j0 j1
    have m0 : 0 ≤ W 4 (j % 8) * W 2 (j / 8) := Int.mul_nonneg a.1 (by omega)
    have m1 : W 4 (j % 8) * W 2 (j / 8) ≤ 9 * 9 := Int.mul_le_mul a.2 b.2.2 (by omega) (by decide)
    unfold rn_hand
    rw [if_pos ⟨j0, j2⟩]
    split <;> omega
  refine ⟨fun j j0 j1 => ?_, fun j j0 j1 => ?_⟩
  · by_cases q : j < 8 * W 0 0
    · have := key j j0 j1 q; omega
    · unfold rn_hand
      rw [if_neg (fun z => q z.2)]
      exact h j j0 j1
  · by_cases q : j < 8 * W 0 0
    · simp only [if_pos q]; exact key j j0 j1 q
    · simp only [if_neg q]; omega
theorem lk_nn {nd st : Int → Int} {b : Int} : ∀ (k : Nat), 0 ≤ lk nd st b k := by
  intro k
  induction k with
  | zero => exact Int.le_refl 0
  | succ k ih => unfold lk; split <;> omega
theorem lk_0 {nd st : Int → Int} {b : Int} : ∀ (k : Nat), lk nd st b k = 0 → ∀ l : Int, 0 ≤ l → l < k → ¬ (b ≠ 0 ∧ (l = 0 ∨ l = 4)) → nd l ≤ st l := by
  intro k
  induction k with
  | zero => intro _ l l0 l1; omega
  | succ k ih =>
    intro h l l0 l1 hv
    unfold lk at h
    have n0 := @lk_nn nd st b k
    by_cases q : l = (k : Int)
    · subst q
      split at h
      · omega
      · rename_i c
        by_cases d : 0 < nd (k : Int) - st (k : Int)
        · exact absurd ⟨d, hv⟩ c
        · omega
    · refine ih ?_ l l0 (by omega) hv
      split at h <;> omega
theorem lk_b {nd st : Int → Int} {b B : Int} (h0 : 0 ≤ B) : ∀ (k : Nat), (∀ l : Int, 0 ≤ l → l < k → nd l - st l ≤ B) → lk nd st b k ≤ k * B := by
  intro k
  induction k with
  | zero => intro _; show (0 : Int) ≤ 0 * B; omega
  | succ k ih =>
    intro h
    have i1 := ih (fun l a b => h l a (by omega))
    have i2 := h k (by omega) (by omega)
    have e : ((k + 1 : Nat) : Int) * B = k * B + B := by rw [show ((k + 1 : Nat) : Int) = k + 1 by omega, Int.add_mul, Int.one_mul]
    unfold lk
    rw [e]
    split <;> omega
theorem rn_res_r (W : ol_M) (h t : Int) (st : Int → Int) : rn_res W h t st = 1 ∨ rn_res W h t st = 2 ∨ rn_res W h t st = 3 := by
  unfold rn_res
  by_cases c : rn_lack W h t 0 st = 0
  · rw [if_pos c]; exact Or.inl rfl
  rw [if_neg c]
  by_cases d : rn_sh W h t st
  · rw [if_pos d]; exact Or.inr (Or.inl rfl)
  · rw [if_neg d]; exact Or.inr (Or.inr rfl)
/-- what is taken is there -/
theorem rn_tk_le {W : ol_M} {h t : Int} {st : Int → Int} (hr : rn_res W h t st ≠ 3) (l : Int) (l0 : 0 ≤ l) (l1 : l < 8) (s0 : 0 ≤ st (8 * h + l)) : rn_tk (W (30 + t)) (rn_res W h t st - 1) l ≤ st (8 * h + l) := by
  unfold rn_tk
  split
  · exact s0
  · rename_i c
    unfold rn_res at hr c
    by_cases d : rn_lack W h t 0 st = 0
    · exact lk_0 8 d l l0 l1 (fun q => q.1 rfl)
    rw [if_neg d] at hr c
    by_cases d2 : rn_sh W h t st
    · rw [if_pos d2] at c
      exact lk_0 8 d2.2.2 l l0 l1 (fun q => c ⟨by decide, q.2⟩)
    · rw [if_neg d2] at hr
      exact absurd rfl hr
theorem rn_try_0 {W : ol_M} {k : Int} {X : ol_M} : rn_try W k X 0 = if W 12 k < W 0 0 ∧ W 13 k < W 3 0 ∧ rn_res W (W 12 k) (W 13 k) (X 0) ≠ 3 then rn_sp (W (30 + W 13 k)) (W 12 k) (rn_res W (W 12 k) (W 13 k) (X 0) - 1) (X 0) else X 0 := by
  unfold rn_try
  by_cases c : W 12 k < W 0 0 ∧ W 13 k < W 3 0
  · rw [if_pos c]
    by_cases d : rn_res W (W 12 k) (W 13 k) (X 0) = 3
    · rw [if_pos d, if_neg (fun q => q.2.2 d)]
      simp [ol_ms, ol_mp, ol_rs]
    · rw [if_neg d, if_pos ⟨c.1, c.2, d⟩, ol_mp_ne _ _ (by decide), ol_mp_same]
  · rw [if_neg c, if_neg (fun q => c ⟨q.1, q.2.1⟩)]
theorem rn_tk_r {W : ol_M} (w : wk W) {t b l : Int} (t0 : 0 ≤ t) (t1 : t < W 3 0) (l0 : 0 ≤ l) (l1 : l < 8) : 0 ≤ rn_tk (W (30 + t)) b l ∧ rn_tk (W (30 + t)) b l ≤ 6 := by
  unfold rn_tk
  split
  · omega
  · exact w.2.2.2.1 t t0 t1 l l0 l1
theorem rn_try_b {W : ol_M} (w : wk W) {k B : Int} (k0 : 0 ≤ k) (k1 : k < W 10 0) {X : ol_M} (h : xb B (X 0)) : xb B (rn_try W k X 0) := by
  rw [rn_try_0]
  split
  · rename_i c
    have q := w.2.2.2.2.2.2.2.2 k k0 k1
    intro j j0 j1
    unfold rn_sp
    by_cases d : 8 * W 12 k ≤ j ∧ j < 8 * W 12 k + 8
    · rw [ol_rg_in d.1 d.2]
      have s := h j j0 j1
      have a := rn_tk_le c.2.2 (j - 8 * W 12 k) (by omega) (by omega) (by rw [show 8 * W 12 k + (j - 8 * W 12 k) = j by omega]; exact s.1)
      rw [show 8 * W 12 k + (j - 8 * W 12 k) = j by omega] at a
      have b := @rn_tk_r W w (W 13 k) (rn_res W (W 12 k) (W 13 k) (X 0) - 1) (j - 8 * W 12 k) q.2.2.1 c.2.1 (by omega) (by omega)
      omega
    · rw [ol_rg_out d]
      exact h j j0 j1
  · exact h
theorem rn_ws_b {W : ol_M} (w : wk W) {m B : Int} : ∀ (k : Nat) (X : ol_M), (k : Int) ≤ W 10 0 → xb B (X 0) → xb B (rn_ws W m k X 0) := by
  intro k
  induction k with
  | zero => intro X _ h; exact h
  | succ k ih =>
    intro X hk h
    unfold rn_ws
    split
    · exact rn_try_b w (by omega) (by omega) (ih X (by omega) h)
    · exact ih X (by omega) h
theorem rn_l1_b {W : ol_M} (w : wk W) {k B : Int} (k0 : 0 ≤ k) (k1 : k < W 5 0) {st : Int → Int} (h : xb B st) : xb (B + 1) (rn_l1 W k st) := by
  unfold rn_l1
  split
  · rename_i c
    have q := w.2.2.2.2.2.2.1 k k0 k1
    intro j j0 j1
    have s := h j j0 j1
    unfold ol_rs
    split
    · subst_vars; omega
    · split
      · subst_vars; omega
      · omega
  · exact h.up (by omega)
theorem rn_ls_b {W : ol_M} (w : wk W) {m B : Int} : ∀ (k : Nat) (st : Int → Int), (k : Int) ≤ W 5 0 → xb B st → xb (B + k) (rn_ls W m k st) := by
  intro k
  induction k with
  | zero => intro st _ h; exact h.up (by omega)
  | succ k ih =>
    intro st hk h
    have i := ih st (by omega) h
    unfold rn_ls
    split
    · exact (rn_l1_b w (by omega) (by omega) i).up (by omega)
    · exact i.up (by omega)
