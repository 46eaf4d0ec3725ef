/-! what the months leave, by the writings -/
theorem rn_try_r0 {W : ol_M} {k : Int} {X : ol_M} : rn_try W k X 0 = rn_set W (W 12 k) (W 13 k) (X 0) := rn_try_0
theorem rn_try_r1 {W : ol_M} {k : Int} {X : ol_M} : rn_try W k X 1 = if W 12 k < W 0 0 ∧ W 13 k < W 3 0 then ol_rs (X 1) k (rn_res W (W 12 k) (W 13 k) (X 0)) else X 1 := by
  unfold rn_try
  by_cases c : W 12 k < W 0 0 ∧ W 13 k < W 3 0
  · rw [if_pos c, if_pos c]
    by_cases d : rn_res W (W 12 k) (W 13 k) (X 0) = 3
    · rw [if_pos d, ol_ms_ne _ _ _ (by decide), ol_ms_row, ol_ms_ne _ _ _ (by decide), d]
    · rw [if_neg d, ol_mp_ne _ _ (by decide), ol_mp_ne _ _ (by decide), ol_ms_row, ol_ms_ne _ _ _ (by decide)]
  · rw [if_neg c, if_neg c]
theorem rn_try_r2 {W : ol_M} {k : Int} {X : ol_M} : rn_try W k X 2 = if W 12 k < W 0 0 ∧ W 13 k < W 3 0 then ol_rs (X 2) k (rn_lack W (W 12 k) (W 13 k) 0 (X 0)) else X 2 := by
  unfold rn_try
  by_cases c : W 12 k < W 0 0 ∧ W 13 k < W 3 0
  · rw [if_pos c, if_pos c]
    by_cases d : rn_res W (W 12 k) (W 13 k) (X 0) = 3
    · rw [if_pos d, ol_ms_ne _ _ _ (by decide), ol_ms_ne _ _ _ (by decide), ol_ms_row]
    · rw [if_neg d, ol_mp_ne _ _ (by decide), ol_mp_ne _ _ (by decide), ol_ms_ne _ _ _ (by decide), ol_ms_row]
  · rw [if_neg c, if_neg c]
theorem rn_try_r3 {W : ol_M} {k : Int} {X : ol_M} : rn_try W k X 3 = if (W 12 k < W 0 0 ∧ W 13 k < W 3 0) ∧ rn_res W (W 12 k) (W 13 k) (X 0) = 3 then ol_rs (X 3) (W 12 k) (X 3 (W 12 k) + 1) else X 3 := by
  unfold rn_try
  by_cases c : W 12 k < W 0 0 ∧ W 13 k < W 3 0
  · rw [if_pos c]
    by_cases d : rn_res W (W 12 k) (W 13 k) (X 0) = 3
    · rw [if_pos d, if_pos ⟨c, d⟩, ol_ms_row, ol_ms_ne _ _ _ (by decide), ol_ms_ne _ _ _ (by decide)]
    · rw [if_neg d, if_neg (fun q => d q.2), ol_mp_ne _ _ (by decide), ol_mp_ne _ _ (by decide), ol_ms_ne _ _ _ (by decide), ol_ms_ne _ _ _ (by decide)]
  · rw [if_neg c, if_neg (fun q => c q.1)]
theorem rn_try_r4 {W : ol_M} {k : Int} {X : ol_M} : rn_try W k X 4 = if (W 12 k < W 0 0 ∧ W 13 k < W 3 0) ∧ rn_res W (W 12 k) (W 13 k) (X 0) ≠ 3 then rn_st (W (30 + W 13 k)) (rn_res W (W 12 k) (W 13 k) (X 0) - 1) (X 4) else X 4 := by
  unfold rn_try
  by_cases c : W 12 k < W 0 0 ∧ W 13 k < W 3 0
  · rw [if_pos c]
    by_cases d : rn_res W (W 12 k) (W 13 k) (X 0) = 3
    · rw [if_pos d, if_neg (fun q => q.2 d), ol_ms_ne _ _ _ (by decide), ol_ms_ne _ _ _ (by decide), ol_ms_ne _ _ _ (by decide)]
    · rw [if_neg d, if_pos ⟨c, d⟩, ol_mp_same]
  · rw [if_neg c, if_neg (fun q => c q.1)]
theorem sm_congr {f g : Int → Int} : ∀ (n : Nat), (∀ k : Int, 0 ≤ k → k < n → f k = g k) → sm f n = sm g n := by
  intro n
  induction n with
  | zero => intro _; rfl
  | succ n ih =>
    intro h
    unfold sm
    rw [ih (fun k a b => h k a (by omega)), h n (by omega) (by omega)]
theorem sm_upd {f g : Int → Int} {i : Int} (i0 : 0 ≤ i) : ∀ (n : Nat), i < n → (∀ k : Int, 0 ≤ k → k < n → k ≠ i → g k = f k) → sm g n = sm f n + (g i - f i) := by
  intro n
  induction n with
  | zero => intro h; omega
  | succ n ih =>
    intro h hk
    unfold sm
    by_cases c : i = n
    · rw [sm_congr n (fun k a b => hk k a (by omega) (by omega)), c]; omega
    · rw [ih (by omega) (fun k a b d => hk k a (by omega) d), hk n (by omega) (by omega) (fun q => c q.symm)]; omega
/-- what a writing spent, of a letter -/
def wsp (W X : ol_M) (l k : Int) : Int := if X 1 k = 1 then W (30 + W 13 k) l else if X 1 k = 2 then rn_tk (W (30 + W 13 k)) 1 l else 0
def wfn (W X : ol_M) (h k : Int) : Int := if X 1 k = 3 ∧ W 12 k = h then 1 else 0
/-- fines and what was spent follow from what became of the writings -/
def ge (W X : ol_M) : Prop := (∀ h, X 3 h = sm (wfn W X h) (W 10 0).toNat) ∧ (∀ l, 0 ≤ l → l < 8 → X 4 l = sm (wsp W X l) (W 10 0).toNat) ∧ ∀ k, ¬ (W 12 k < W 0 0 ∧ W 13 k < W 3 0) → X 1 k = 0
theorem ge_try {W : ol_M} {k : Int} {X : ol_M} (k0 : 0 ≤ k) (k1 : k < W 10 0) (h : ge W X) (hz : X 1 k = 0) : ge W (rn_try W k X) := by
  obtain ⟨h1, h2, h3⟩ := h
  have N : (k : Int) < ((W 10 0).toNat : Nat) := by omega
  by_cases c : W 12 k < W 0 0 ∧ W 13 k < W 3 0
  · have e1 : rn_try W k X 1 = ol_rs (X 1) k (rn_res W (W 12 k) (W 13 k) (X 0)) := by rw [rn_try_r1, if_pos c]
    have rr := rn_res_r W (W 12 k) (W 13 k) (X 0)
    refine ⟨fun h => ?_, fun l l0 l1 => ?_, fun j hj => ?_⟩
    · have u := @sm_upd (wfn W X h) (wfn W (rn_try W k X) h) k k0 (W 10 0).toNat N (fun j _ _ d => by unfold wfn; rw [e1, ol_rsN _ _ d])
      rw [u, ← h1 h, rn_try_r3]
      unfold wfn
      rw [e1, ol_rsA, hz, if_neg (show ¬ ((0 : Int) = 3 ∧ W 12 k = h) from fun q => by omega)]
      by_cases d : rn_res W (W 12 k) (W 13 k) (X 0) = 3
      · rw [if_pos ⟨c, d⟩]
        by_cases e : W 12 k = h
        · rw [if_pos ⟨d, e⟩, ← e, ol_rsA]; omega
        · rw [if_neg (fun q => e q.2), ol_rsN _ _ (fun q => e q.symm)]; omega
      · rw [if_neg (fun q => d q.2), if_neg (fun q => d q.1)]; omega
    · have u := @sm_upd (wsp W X l) (wsp W (rn_try W k X) l) k k0 (W 10 0).toNat N (fun j _ _ d => by unfold wsp; rw [e1, ol_rsN _ _ d])
      rw [u, ← h2 l l0 l1, rn_try_r4]
      have z0 : wsp W X l k = 0 := by unfold wsp; rw [hz]; rfl
      rw [z0]
      unfold wsp
      rw [e1, ol_rsA]
      by_cases d : rn_res W (W 12 k) (W 13 k) (X 0) = 3
      · rw [if_neg (fun q => q.2 d), if_neg (by omega), if_neg (by omega)]; omega
      · rw [if_pos ⟨c, d⟩]
        unfold rn_st
        rw [ol_rg_in l0 l1]
        by_cases e : rn_res W (W 12 k) (W 13 k) (X 0) = 1
        · rw [if_pos e, e, show rn_tk (W (30 + W 13 k)) (1 - 1) l = W (30 + W 13 k) l by unfold rn_tk; rw [if_neg (fun q => q.1 rfl)]]; omega
        · rw [if_neg e, if_pos (by omega), show rn_res W (W 12 k) (W 13 k) (X 0) - 1 = 1 by omega]; omega
    · have jk : j ≠ k := fun q => by rw [q] at hj; exact hj c
      rw [e1, ol_rsN _ _ jk]
      exact h3 j hj
  · have e : rn_try W k X = X := by unfold rn_try; rw [if_neg c]
    rw [e]
    exact ⟨h1, h2, h3⟩
/-- writings that have not come yet -/
def fresh (W : ol_M) (m j : Int) (X : ol_M) : Prop := ∀ k, 0 ≤ k → k < W 10 0 → (m < W 11 k ∨ (W 11 k = m ∧ j ≤ k)) → X 1 k = 0
theorem fresh_try {W : ol_M} {m j k : Int} {X : ol_M} (h : fresh W m j X) (hk : k < j) (km : W 11 k = m) : fresh W m j (rn_try W k X) := by
  intro i i0 i1 q
  rw [rn_try_r1]
  split
  · rw [ol_rsN _ _ (by intro e; subst e; omega)]; exact h i i0 i1 q
  · exact h i i0 i1 q
theorem fresh.up {W : ol_M} {m j : Int} {X : ol_M} (h : fresh W m j X) : fresh W m (j + 1) X := fun k k0 k1 q => h k k0 k1 (by omega)
theorem ws_ge {W : ol_M} {m : Int} : ∀ (k : Nat) (X : ol_M), (k : Int) ≤ W 10 0 → ge W X → fresh W m 0 X → ge W (rn_ws W m k X) ∧ fresh W m k (rn_ws W m k X) := by
  intro k
  induction k with
  | zero => intro X _ g f; exact ⟨g, f⟩
  | succ k ih =>
    intro X hk g f
    obtain ⟨g1, f1⟩ := ih X (by omega) g f
    unfold rn_ws
    split
    · rename_i c
      exact ⟨ge_try (by omega) (by omega) g1 (f1 k (by omega) (by omega) (Or.inr ⟨c.2, Int.le_refl _⟩)), fresh_try f1.up (by omega) c.2⟩
    · exact ⟨g1, f1.up⟩
theorem mid_ge {W X : ol_M} {st : Int → Int} (g : ge W X) : ge W (ol_mp X 0 st) := by
  unfold ge at *
  rw [ol_mp_ne _ _ (show (1 : Int) ≠ 0 by decide), ol_mp_ne _ _ (show (3 : Int) ≠ 0 by decide), ol_mp_ne _ _ (show (4 : Int) ≠ 0 by decide)]
  refine ⟨fun h => ?_, fun l l0 l1 => ?_, g.2.2⟩
  · rw [g.1 h]
    exact sm_congr _ (fun k _ _ => by unfold wfn; rw [ol_mp_ne _ _ (show (1 : Int) ≠ 0 by decide)])
  · rw [g.2.1 l l0 l1]
    exact sm_congr _ (fun k _ _ => by unfold wsp; rw [ol_mp_ne _ _ (show (1 : Int) ≠ 0 by decide)])
theorem mid_fresh {W X : ol_M} {st : Int → Int} {m j : Int} (f : fresh W m j X) : fresh W m j (ol_mp X 0 st) := fun k k0 k1 q => by rw [ol_mp_ne _ _ (by decide)]; exact f k k0 k1 q
theorem x0_ge {W : ol_M} : ge W rn_x0 := by
  refine ⟨fun h => ?_, fun l _ _ => ?_, fun k _ => rfl⟩
  · show (0 : Int) = _
    rw [sm_congr (g := fun _ => 0) _ (fun k _ _ => by unfold wfn; rw [if_neg]; intro q; exact absurd q.1 (by show ¬ (0 : Int) = 3; decide))]
    induction (W 10 0).toNat with
    | zero => rfl
    | succ n ih => unfold sm; rw [← ih]; rfl
  · show (0 : Int) = _
    rw [sm_congr (g := fun _ => 0) _ (fun k _ _ => by unfold wsp; rw [show rn_x0 1 k = 0 from rfl, if_neg (show ¬ (0 : Int) = 1 by decide), if_neg (show ¬ (0 : Int) = 2 by decide)])]
    induction (W 10 0).toNat with
    | zero => rfl
    | succ n ih => unfold sm; rw [← ih]; rfl
theorem lv_ge {W : ol_M} (w : wk W) : ∀ m : Nat, ge W (rn_lv W m) ∧ fresh W m 0 (rn_lv W m) := by
  have w10 := w.2.2.2.2.2.2.2.1
  intro m
  induction m with
  | zero => exact ⟨x0_ge, fun _ _ _ _ => rfl⟩
  | succ m ih =>
    unfold rn_lv rn_mo
    obtain ⟨a, b⟩ := @ws_ge W m (W 10 0).toNat (ol_mp (rn_lv W m) 0 (rn_ls W m (W 5 0).toNat (rn_hand W (rn_lv W m 0)))) (by omega) (mid_ge ih.1) (mid_fresh ih.2)
    exact ⟨a, fun k k0 k1 q => b k k0 k1 (by omega)⟩
/-- what lacked is told once, when the writing comes -/
theorem ws_2 {W : ol_M} {m : Int} {v : Int} : ∀ (k : Nat) (X : ol_M), (W 11 v ≠ m ∨ W 14 v = 1 ∨ (k : Int) ≤ v) → rn_ws W m k X 2 v = X 2 v := by
  intro k
  induction k with
  | zero => intro X _; rfl
  | succ k ih =>
    intro X h
    unfold rn_ws
    split
    · rename_i c
      have kv : v ≠ (k : Int) := fun q => by
        rw [q] at h
        rcases h with h | h | h
        · exact h c.2
        · exact c.1 h
        · omega
      rw [rn_try_r2]
      split
      · rw [ol_rsN _ _ kv]; exact ih X (by omega)
      · exact ih X (by omega)
    · exact ih X (by omega)
theorem ws_2' {W : ol_M} {m : Int} {v : Nat} (vm : W 11 v = m) (v14 : W 14 v ≠ 1) {X : ol_M} : ∀ (k : Nat), v < k → rn_ws W m k X 2 v = rn_try W v (rn_ws W m v X) 2 v := by
  intro k
  induction k with
  | zero => intro h; omega
  | succ k ih =>
    intro h
    by_cases c : v = k
    · rw [← c]
      show (if W 14 (v : Int) ≠ 1 ∧ W 11 (v : Int) = m then rn_try W v (rn_ws W m v X) else rn_ws W m v X) 2 v = _
      rw [if_pos ⟨v14, vm⟩]
    · have i := ih (by omega)
      obtain ⟨z, hz⟩ : ∃ y, y = rn_try W v (rn_ws W m v X) 2 v := ⟨_, rfl⟩
      rw [← hz] at i ⊢
      unfold rn_ws
      split
      · rw [rn_try_r2]
        split
        · rw [ol_rsN _ _ (by omega)]; exact i
        · exact i
      · exact i
theorem lv_2 {W : ol_M} (w : wk W) {v : Nat} (v1 : (v : Int) < W 10 0) (v14 : W 14 v ≠ 1) : ∀ m : Nat, rn_lv W m 2 v = if (m : Int) ≤ W 11 v then -1 else rn_try W v (rn_ws W (W 11 v) v (ol_mp (rn_lv W (W 11 v).toNat) 0 (rn_ls W (W 11 v) (W 5 0).toNat (rn_hand W (rn_lv W (W 11 v).toNat 0))))) 2 v := by
  have q := (w.2.2.2.2.2.2.2.2 v (by omega) v1).1
  obtain ⟨z, hz⟩ : ∃ y, y = rn_try W v (rn_ws W (W 11 v) v (ol_mp (rn_lv W (W 11 v).toNat) 0 (rn_ls W (W 11 v) (W 5 0).toNat (rn_hand W (rn_lv W (W 11 v).toNat 0))))) 2 v := ⟨_, rfl⟩
  rw [← hz]
  intro m
  induction m with
  | zero => rw [if_pos (by omega)]; rfl
  | succ m ih =>
    have e : rn_lv W (m + 1) = rn_ws W m (W 10 0).toNat (ol_mp (rn_lv W m) 0 (rn_ls W m (W 5 0).toNat (rn_hand W (rn_lv W m 0)))) := rfl
    rw [e]
    by_cases c : W 11 v = m
    · rw [if_neg (by omega), ws_2' c v14 _ (by omega), hz, c, Int.toNat_natCast]
    · rw [ws_2 _ _ (Or.inl c), ol_mp_ne _ _ (by decide), ih]
      by_cases d : (m : Int) ≤ W 11 v
      · rw [if_pos d, if_pos (by omega)]
      · rw [if_neg d, if_neg (by omega)]
theorem ws_x2 {W : ol_M} {m : Int} {v : Int} (hv : ¬ (W 12 v < W 0 0 ∧ W 13 v < W 3 0)) : ∀ (k : Nat) (X : ol_M), rn_ws W m k X 2 v = X 2 v := by
  intro k
  induction k with
  | zero => intro X; rfl
  | succ k ih =>
    intro X
    unfold rn_ws
    split
    · rw [rn_try_r2]
      split
      · rename_i c
        have kv : v ≠ (k : Int) := fun q => by rw [q] at hv; exact hv c
        rw [ol_rsN _ _ kv]; exact ih X
      · exact ih X
    · exact ih X
