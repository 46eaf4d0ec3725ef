/-! THE CENSOR BY CHANCE: sums over all ways -/
def rng : Nat → List Int
  | 0 => []
  | n + 1 => (n : Int) :: rng n
theorem mem_rng {x : Int} : ∀ n : Nat, x ∈ rng n ↔ 0 ≤ x ∧ x < n := by
  intro n
  induction n with
  | zero => simp only [rng, List.not_mem_nil, false_iff]; omega
  | succ n ih => simp only [rng, List.mem_cons, ih]; omega
theorem rng_nodup : ∀ n : Nat, (rng n).Nodup := by
  intro n
  induction n with
  | zero => exact List.nodup_nil
  | succ n ih =>
    refine List.nodup_cons.mpr ⟨fun h => ?_, ih⟩
    have := (mem_rng n).mp h
    omega
theorem rng_len : ∀ n : Nat, (rng n).length = n := by
  intro n
  induction n with
  | zero => rfl
  | succ n ih => simp only [rng, List.length_cons, ih]
def Eg (c : Int) (Φ : (Int → Int) → Int) : List Int → (Int → Int) → Int
  | [], g => Φ g
  | k :: r, g => (16 - c) * Eg c Φ r (ol_rs g k 1) + c * Eg c Φ r (ol_rs g k 0)
theorem ol_rs_comm {g : Int → Int} {a b x y : Int} (h : a ≠ b) : ol_rs (ol_rs g a x) b y = ol_rs (ol_rs g b y) a x := by
  funext j
  by_cases p : j = b
  · subst p
    rw [ol_rsA, ol_rsN _ _ (fun q => h q.symm), ol_rsA]
  · rw [ol_rsN _ _ p]
    by_cases q : j = a
    · subst q; rw [ol_rsA, ol_rsA]
    · rw [ol_rsN _ _ q, ol_rsN _ _ q, ol_rsN _ _ p]
theorem ol_rs_rs {g : Int → Int} {a x y : Int} : ol_rs (ol_rs g a x) a y = ol_rs g a y := by
  funext j
  by_cases p : j = a
  · subst p; rw [ol_rsA, ol_rsA]
  · rw [ol_rsN _ _ p, ol_rsN _ _ p, ol_rsN _ _ p]
theorem Eg_perm {c : Int} {Φ : (Int → Int) → Int} {l l' : List Int} (h : l.Perm l') : ∀ g, Eg c Φ l g = Eg c Φ l' g := by
  induction h with
  | nil => intro g; rfl
  | cons x _ ih => intro g; simp only [Eg]; rw [ih, ih]
  | swap x y l =>
    intro g
    by_cases e : x = y
    · subst e; rfl
    · simp only [Eg]
      rw [ol_rs_comm (g := g) (a := x) (b := y) (x := 1) (y := 1) e, ol_rs_comm (g := g) (a := x) (b := y) (x := 1) (y := 0) e, ol_rs_comm (g := g) (a := x) (b := y) (x := 0) (y := 1) e, ol_rs_comm (g := g) (a := x) (b := y) (x := 0) (y := 0) e]
      simp only [Int.mul_add, Int.mul_left_comm c (16 - c)]
      omega
  | trans _ _ ih1 ih2 => intro g; rw [ih1, ih2]
theorem Eg_skip {c : Int} {Φ : (Int → Int) → Int} {k : Int} (h : ∀ g v, Φ (ol_rs g k v) = Φ g) : ∀ (r : List Int) (g : Int → Int) (v : Int), Eg c Φ r (ol_rs g k v) = Eg c Φ r g := by
  intro r
  induction r with
  | nil => intro g v; exact h g v
  | cons a r ih =>
    intro g v
    simp only [Eg]
    by_cases e : k = a
    · subst e; rw [ol_rs_rs, ol_rs_rs]
    · rw [ol_rs_comm e, ol_rs_comm e, ih, ih]
theorem Eg_nl {c : Int} {Φ : (Int → Int) → Int} {l : List Int} : ∀ (nl : List Int), (∀ k, k ∈ nl → ∀ g v, Φ (ol_rs g k v) = Φ g) → ∀ g, Eg c Φ (nl ++ l) g = 16 ^ nl.length * Eg c Φ l g := by
  intro nl
  induction nl with
  | nil => intro _ g; show Eg c Φ l g = 16 ^ 0 * Eg c Φ l g; rw [Int.pow_zero, Int.one_mul]
  | cons a r ih =>
    intro h g
    have hr := ih (fun k q => h k (List.mem_cons_of_mem _ q))
    simp only [List.cons_append, Eg, List.length_cons]
    rw [Eg_skip (h a (List.mem_cons_self ..)), Eg_skip (h a (List.mem_cons_self ..)), hr g, Int.pow_succ, Int.mul_comm (16 ^ r.length) 16, Int.mul_assoc, Int.sub_mul]
    omega
theorem Eg_congr {c : Int} {Φ Ψ : (Int → Int) → Int} : ∀ (r : List Int) (g : Int → Int), (∀ g', (∀ j, j ∉ r → g' j = g j) → Φ g' = Ψ g') → Eg c Φ r g = Eg c Ψ r g := by
  intro r
  induction r with
  | nil => intro g h; exact h g (fun _ _ => rfl)
  | cons a r ih =>
    intro g h
    simp only [Eg]
    rw [ih (ol_rs g a 1) (fun g' q => h g' (fun j hj => by
      rw [q j (fun z => hj (List.mem_cons_of_mem _ z)), ol_rsN _ _ (fun z => hj (by rw [z]; exact List.mem_cons_self ..))])), ih (ol_rs g a 0) (fun g' q => h g' (fun j hj => by
      rw [q j (fun z => hj (List.mem_cons_of_mem _ z)), ol_rsN _ _ (fun z => hj (by rw [z]; exact List.mem_cons_self ..))]))]
/-! all sets, by their bits -/
def ov (s : Int) (n : Nat) (g : Int → Int) : Int → Int := fun j => if 0 ≤ j ∧ j < n then s / 2 ^ j.toNat % 2 else g j
def tn (c : Int) (Φ : (Int → Int) → Int) (n : Nat) (g : Int → Int) : Nat → Int
  | 0 => 0
  | s + 1 => tn c Φ n g s + wt c s n * Φ (ov s n g)
theorem bit_hi {s : Int} {n : Nat} (s0 : 0 ≤ s) (s1 : s < 2 ^ n) : s / 2 ^ n % 2 = 0 := by
  rw [Int.ediv_eq_zero_of_lt s0 s1]; rfl
theorem bit_hi1 {s : Int} {n : Nat} (s0 : 0 ≤ s) (s1 : s < 2 ^ n) : (2 ^ n + s) / 2 ^ n % 2 = 1 := by
  have p := (@pw_le n n (Nat.le_refl _)).1
  rw [Int.add_ediv_of_dvd_left (Int.dvd_refl _), Int.ediv_self (by omega), Int.ediv_eq_zero_of_lt s0 s1]; rfl
theorem bit_lo {s : Int} {n j : Nat} (h : j < n) : (2 ^ n + s) / 2 ^ j % 2 = s / 2 ^ j % 2 := by
  obtain ⟨e, he⟩ : ∃ e, n = j + 1 + e := ⟨n - j - 1, by omega⟩
  have p := (@pw_le j j (Nat.le_refl _)).1
  have q : (2 : Int) ^ n = 2 ^ j * (2 * 2 ^ e) := by rw [he, Int.pow_add, Int.pow_succ, Int.mul_assoc]
  rw [q, Int.add_comm, Int.add_mul_ediv_left _ _ (by omega)]
  omega
theorem wt_lo {c s : Int} {n : Nat} : ∀ (k : Nat), k ≤ n → wt c (2 ^ n + s) k = wt c s k := by
  intro k
  induction k with
  | zero => intro _; rfl
  | succ k ih =>
    intro h
    unfold wt
    rw [ih (by omega), bit_lo (by omega)]
theorem ov_lo {s : Int} {n : Nat} {g : Int → Int} (s0 : 0 ≤ s) (s1 : s < 2 ^ n) : ov s (n + 1) g = ov s n (ol_rs g n 0) := by
  funext j
  unfold ov
  by_cases c : 0 ≤ j ∧ j < n
  · rw [if_pos c, if_pos ⟨c.1, by omega⟩]
  · rw [if_neg c]
    by_cases d : j = n
    · rw [if_pos ⟨by omega, by omega⟩, d, ol_rsA, Int.toNat_natCast, bit_hi s0 s1]
    · rw [if_neg (by omega), ol_rsN _ _ d]
theorem ov_hi {s : Int} {n : Nat} {g : Int → Int} (s0 : 0 ≤ s) (s1 : s < 2 ^ n) : ov (2 ^ n + s) (n + 1) g = ov s n (ol_rs g n 1) := by
  funext j
  unfold ov
  by_cases c : 0 ≤ j ∧ j < n
  · rw [if_pos c, if_pos ⟨c.1, by omega⟩, bit_lo (by omega)]
  · rw [if_neg c]
    by_cases d : j = n
    · rw [if_pos ⟨by omega, by omega⟩, d, ol_rsA, Int.toNat_natCast, bit_hi1 s0 s1]
    · rw [if_neg (by omega), ol_rsN _ _ d]
theorem pcast (n : Nat) : ((2 ^ n : Nat) : Int) = 2 ^ n := by exact_mod_cast rfl
theorem tn_lo {c : Int} {Φ : (Int → Int) → Int} {n : Nat} {g : Int → Int} : ∀ s : Nat, s ≤ 2 ^ n → tn c Φ (n + 1) g s = c * tn c Φ n (ol_rs g n 0) s := by
  intro s
  induction s with
  | zero => intro _; show (0 : Int) = c * 0; omega
  | succ s ih =>
    intro h
    have s1 : (s : Int) < 2 ^ n := by have := pcast n; omega
    show tn c Φ (n + 1) g s + wt c s (n + 1) * Φ (ov s (n + 1) g) = c * (tn c Φ n (ol_rs g n 0) s + wt c s n * Φ (ov s n (ol_rs g n 0)))
    rw [ih (by omega), ov_lo (by omega) s1]
    show _ + wt c s n * (if (s : Int) / 2 ^ n % 2 = 1 then 16 - c else c) * _ = _
    rw [bit_hi (by omega) s1, if_neg (by decide), Int.mul_add, Int.mul_comm (wt c s n) c, Int.mul_assoc]
theorem tn_hi {c : Int} {Φ : (Int → Int) → Int} {n : Nat} {g : Int → Int} : ∀ s : Nat, s ≤ 2 ^ n → tn c Φ (n + 1) g (2 ^ n + s) = tn c Φ (n + 1) g (2 ^ n) + (16 - c) * tn c Φ n (ol_rs g n 1) s := by
  intro s
  induction s with
  | zero => intro _; show tn c Φ (n + 1) g (2 ^ n) = tn c Φ (n + 1) g (2 ^ n) + (16 - c) * 0; omega
  | succ s ih =>
    intro h
    have s1 : (s : Int) < 2 ^ n := by have := pcast n; omega
    have e : ((2 ^ n + s : Nat) : Int) = 2 ^ n + s := by have := pcast n; omega
    show tn c Φ (n + 1) g (2 ^ n + s) + wt c ((2 ^ n + s : Nat) : Int) (n + 1) * Φ (ov ((2 ^ n + s : Nat) : Int) (n + 1) g) = _ + (16 - c) * (tn c Φ n (ol_rs g n 1) s + wt c s n * Φ (ov s n (ol_rs g n 1)))
    rw [ih (by omega), e, ov_hi (by omega) s1]
    show _ + wt c (2 ^ n + s) n * (if (2 ^ n + (s : Int)) / 2 ^ n % 2 = 1 then 16 - c else c) * _ = _
    rw [bit_hi1 (by omega) s1, if_pos rfl, wt_lo n (Nat.le_refl _), Int.mul_add, Int.mul_comm (wt c s n) (16 - c), Int.mul_assoc]
    omega
theorem tn_Eg {c : Int} {Φ : (Int → Int) → Int} : ∀ (n : Nat) (g : Int → Int), tn c Φ n g (2 ^ n) = Eg c Φ (rng n) g := by
  intro n
  induction n with
  | zero =>
    intro g
    show 0 + wt c 0 0 * Φ (ov 0 0 g) = Φ g
    have e : ov 0 0 g = g := by
      funext j
      unfold ov
      rw [if_neg (by omega)]
    rw [e]
    show 0 + 1 * Φ g = Φ g
    omega
  | succ n ih =>
    intro g
    have e : 2 ^ (n + 1) = 2 ^ n + 2 ^ n := by rw [Nat.pow_succ]; omega
    rw [e, tn_hi _ (Nat.le_refl _), tn_lo _ (Nat.le_refl _), ih, ih]
    simp only [rng, Eg]
    omega
/-! the months with some writings left out -/
noncomputable def wsg (W : ol_M) (g : Int → Int) (m : Int) : Nat → ol_M → ol_M
  | 0, X => X
  | k + 1, X => if g k ≠ 1 ∧ W 11 k = m then rn_try W k (wsg W g m k X) else wsg W g m k X
theorem ws_wsg {W : ol_M} (w : wk W) {g : Int → Int} {m : Int} {X : ol_M} : ∀ k : Nat, (k : Int) ≤ W 10 0 → rn_ws (ol_mp W 14 g) m k X = wsg W g m k X := by
  intro k
  induction k with
  | zero => intro _; rfl
  | succ k ih =>
    intro h
    have q := w.2.2.2.2.2.2.2.2 k (by omega) (by omega)
    unfold rn_ws wsg
    rw [ih (by omega), ol_mp_same, ol_mp_ne _ _ (show (11 : Int) ≠ 14 by decide), rn_try_e (W := W) (fun c z => ol_mp_ne _ _ (by omega)) (by rw [ol_mp_ne _ _ (by decide)]) (by rw [ol_mp_ne _ _ (by decide)]) q.2.2.1]
theorem lv_wsg {W : ol_M} (w : wk W) {g : Int → Int} (m : Nat) : rn_lv (ol_mp W 14 g) (m + 1) = wsg W g m (W 10 0).toNat (mid W m (rn_lv (ol_mp W 14 g) m)) := by
  have w10 := w.2.2.2.2.2.2.2.1
  show rn_ws (ol_mp W 14 g) m ((ol_mp W 14 g) 10 0).toNat (ol_mp (rn_lv (ol_mp W 14 g) m) 0 (rn_ls (ol_mp W 14 g) m ((ol_mp W 14 g) 5 0).toNat (rn_hand (ol_mp W 14 g) (rn_lv (ol_mp W 14 g) m 0)))) = _
  rw [ol_mp_ne _ _ (show (10 : Int) ≠ 14 by decide), ol_mp_ne _ _ (show (5 : Int) ≠ 14 by decide), rn_hand_e (W := W) (fun c q => ol_mp_ne _ _ (by omega)), rn_ls_e (W := W) (fun c q => ol_mp_ne _ _ (by omega)), ws_wsg w _ (by omega)]
  rfl
theorem wsg_ext {W : ol_M} {g g' : Int → Int} {m : Int} {X : ol_M} : ∀ k : Nat, (∀ j : Int, 0 ≤ j → j < k → W 12 j < W 0 0 ∧ W 13 j < W 3 0 → (g j = 1 ↔ g' j = 1)) → wsg W g m k X = wsg W g' m k X := by
  intro k
  induction k with
  | zero => intro _; rfl
  | succ k ih =>
    intro h
    unfold wsg
    rw [ih (fun j a b => h j a (by omega))]
    by_cases v : W 12 k < W 0 0 ∧ W 13 k < W 3 0
    · have q := h k (by omega) (by omega) v
      by_cases c : g k = 1
      · rw [if_neg (fun z => z.1 c), if_neg (fun z => z.1 (q.mp c))]
      · by_cases d : W 11 k = m
        · rw [if_pos ⟨c, d⟩, if_pos ⟨fun z => c (q.mpr z), d⟩]
        · rw [if_neg (fun z => d z.2), if_neg (fun z => d z.2)]
    · have e : ∀ Y, rn_try W k Y = Y := fun Y => by unfold rn_try; rw [if_neg v]
      rw [e]
      split <;> split <;> rfl
theorem lv_ext {W : ol_M} (w : wk W) {g g' : Int → Int} (h : ∀ j : Int, 0 ≤ j → j < W 10 0 → W 12 j < W 0 0 ∧ W 13 j < W 3 0 → (g j = 1 ↔ g' j = 1)) : ∀ m : Nat, rn_lv (ol_mp W 14 g) m = rn_lv (ol_mp W 14 g') m := by
  have w10 := w.2.2.2.2.2.2.2.1
  intro m
  induction m with
  | zero => rfl
  | succ m ih => rw [lv_wsg w, lv_wsg w, ih, wsg_ext _ (fun j a b => h j a (by omega))]
noncomputable def phi (W : ol_M) (h e : Int) (g : Int → Int) : Int := if rn_lv (ol_mp W 14 g) 12 3 h ≤ e then 1 else 0
theorem cs_tn {W : ol_M} (w : wk W) {c h e : Int} {g : Int → Int} : ∀ s : Nat, cs W c h e (W 10 0).toNat s = tn c (phi W h e) (W 10 0).toNat g s := by
  intro s
  induction s with
  | zero => rfl
  | succ s ih =>
    have x : phi W h e (ov s (W 10 0).toNat g) = phi W h e (fun j => (s : Int) / 2 ^ j.toNat % 2) := by
      unfold phi
      rw [lv_ext w (fun j a b _ => by unfold ov; rw [if_pos ⟨a, by omega⟩]) 12]
    show (if rn_lv (wg W s) 12 3 h ≤ e then cs W c h e (W 10 0).toNat s + wt c s (W 10 0).toNat else cs W c h e (W 10 0).toNat s) = tn c (phi W h e) (W 10 0).toNat g s + wt c s (W 10 0).toNat * phi W h e (ov s (W 10 0).toNat g)
    rw [x, ih]
    unfold phi wg
    split
    · rw [Int.mul_one]
    · rw [Int.mul_zero, Int.add_zero]
/-! live writings -/
theorem lm_mem {W : ol_M} {m x : Int} : ∀ k : Nat, x ∈ lm W m k ↔ (0 ≤ x ∧ x < k) ∧ W 11 x = m ∧ W 12 x < W 0 0 ∧ W 13 x < W 3 0 := by
  intro k
  induction k with
  | zero => simp only [lm, List.not_mem_nil, false_iff]; omega
  | succ k ih =>
    unfold lm
    split
    · rename_i c
      rw [List.mem_append, List.mem_singleton, ih]
      refine ⟨fun q => ?_, fun q => ?_⟩
      · rcases q with q | q
        · exact ⟨by omega, q.2⟩
        · rw [q]; exact ⟨by omega, c⟩
      · by_cases d : x = k
        · exact Or.inr d
        · exact Or.inl ⟨by omega, q.2⟩
    · rename_i c
      rw [ih]
      refine ⟨fun q => ⟨by omega, q.2⟩, fun q => ⟨?_, q.2⟩⟩
      have d : x ≠ k := fun z => by rw [z] at q; exact c q.2
      omega
theorem lm_nodup {W : ol_M} {m : Int} : ∀ k : Nat, (lm W m k).Nodup := by
  intro k
  induction k with
  | zero => exact List.nodup_nil
  | succ k ih =>
    unfold lm
    split
    · refine List.nodup_append.mpr ⟨ih, by simp, fun a ha b hb => ?_⟩
      have := ((lm_mem k).mp ha).1
      rw [List.mem_singleton] at hb
      omega
    · exact ih
theorem la_mem {W : ol_M} {x : Int} : ∀ m : Nat, x ∈ la W m → (0 ≤ x ∧ x < (W 10 0).toNat) ∧ W 11 x < m ∧ W 12 x < W 0 0 ∧ W 13 x < W 3 0 := by
  intro m
  induction m with
  | zero => intro h; simp [la] at h
  | succ m ih =>
    intro h
    unfold la at h
    rw [List.mem_append] at h
    rcases h with h | h
    · have := ih h
      exact ⟨this.1, by omega, this.2.2⟩
    · have := (lm_mem _).mp h
      exact ⟨this.1, by omega, this.2.2⟩
theorem la_nodup {W : ol_M} : ∀ m : Nat, (la W m).Nodup := by
  intro m
  induction m with
  | zero => exact List.nodup_nil
  | succ m ih =>
    unfold la
    refine List.nodup_append.mpr ⟨ih, lm_nodup _, fun a ha b hb => ?_⟩
    have p := (la_mem m ha).2.1
    have q := ((lm_mem _).mp hb).2.1
    intro z
    rw [z] at p
    omega
theorem la_in {W : ol_M} {x : Int} (h : (0 ≤ x ∧ x < (W 10 0).toNat) ∧ W 12 x < W 0 0 ∧ W 13 x < W 3 0) (x0 : 0 ≤ W 11 x) : ∀ m : Nat, W 11 x < m → x ∈ la W m := by
  intro m
  induction m with
  | zero => intro q; omega
  | succ m ih =>
    intro q
    unfold la
    rw [List.mem_append]
    by_cases c : W 11 x < m
    · exact Or.inl (ih c)
    · exact Or.inr ((lm_mem _).mpr ⟨h.1, by omega, h.2⟩)
theorem lvl_mem {W : ol_M} (w : wk W) {x : Int} : x ∈ lvl W ↔ (0 ≤ x ∧ x < (W 10 0).toNat) ∧ W 12 x < W 0 0 ∧ W 13 x < W 3 0 := by
  have w10 := w.2.2.2.2.2.2.2.1
  refine ⟨fun h => ?_, fun h => ?_⟩
  · have := la_mem 12 h
    exact ⟨this.1, this.2.2⟩
  · have q := (w.2.2.2.2.2.2.2.2 x h.1.1 (by omega)).1
    exact la_in h q.1 12 (by omega)
theorem lvl_len {W : ol_M} : (lvl W).length ≤ (W 10 0).toNat := by
  have h := List.Nodup.length_le_of_subset (l₂ := rng (W 10 0).toNat) (la_nodup (W := W) 12) (fun x hx => (mem_rng _).mpr (la_mem 12 hx).1)
  rw [rng_len] at h
  exact h
/-! one way, step by step -/
noncomputable def sg (W : ol_M) (h : Int) (g : Int → Int) (σ : Int × (Int → Int) × Int) (k : Int) : Int × (Int → Int) × Int :=
  (W 11 k, if g k = 1 then av W (W 11 k - σ.1).toNat (σ.1 + 1) σ.2.1 else rn_set W (W 12 k) (W 13 k) (av W (W 11 k - σ.1).toNat (σ.1 + 1) σ.2.1), if g k = 1 then σ.2.2 else if rn_out W (W 12 k) (W 13 k) (av W (W 11 k - σ.1).toNat (σ.1 + 1) σ.2.1) = 3 ∧ W 12 k = h then σ.2.2 + 1 else σ.2.2)
def sg0 : Int × (Int → Int) × Int := (-1, fun _ => 0, 0)
theorem av_s {W : ol_M} : ∀ (u : Nat) (a : Int) (st : Int → Int), av W (u + 1) a st = rn_ls W (a + u) (W 5 0).toNat (rn_hand W (av W u a st)) := by
  intro u
  induction u with
  | zero => intro a st; show rn_ls W a _ _ = rn_ls W (a + ((0 : Nat) : Int)) _ _; rw [show a + ((0 : Nat) : Int) = a by omega]; rfl
  | succ u ih =>
    intro a st
    show av W (u + 1) (a + 1) (rn_ls W a (W 5 0).toNat (rn_hand W st)) = _
    rw [ih, show a + 1 + (u : Int) = a + ((u + 1 : Nat) : Int) by omega]
    rfl
theorem sim_in {W : ol_M} {h : Int} {g : Int → Int} {m : Nat} {X : ol_M} {σ : Int × (Int → Int) × Int} (s0 : -1 ≤ σ.1) (s1 : σ.1 < m) (e0 : X 0 = av W (m - 1 - σ.1).toNat (σ.1 + 1) σ.2.1) (e3 : X 3 h = σ.2.2) : ∀ k : Nat, -1 ≤ ((lm W m k).foldl (sg W h g) σ).1 ∧ ((lm W m k).foldl (sg W h g) σ).1 ≤ m ∧ wsg W g m k (mid W m X) 0 = av W (m - ((lm W m k).foldl (sg W h g) σ).1).toNat (((lm W m k).foldl (sg W h g) σ).1 + 1) ((lm W m k).foldl (sg W h g) σ).2.1 ∧ wsg W g m k (mid W m X) 3 h = ((lm W m k).foldl (sg W h g) σ).2.2 := by
  intro k
  induction k with
  | zero =>
    refine ⟨s0, by show σ.1 ≤ m; omega, ?_, ?_⟩
    · show mid W m X 0 = av W (m - σ.1).toNat (σ.1 + 1) σ.2.1
      unfold mid
      rw [ol_mp_same, e0, show (m - σ.1).toNat = (m - 1 - σ.1).toNat + 1 by omega, av_s, show σ.1 + 1 + (((m - 1 - σ.1).toNat : Nat) : Int) = m by omega]
    · show mid W m X 3 h = σ.2.2
      unfold mid
      rw [ol_mp_ne _ _ (by decide)]; exact e3
  | succ k ih =>
    obtain ⟨τ, hτ⟩ : ∃ y, y = (lm W m k).foldl (sg W h g) σ := ⟨_, rfl⟩
    rw [← hτ] at ih
    obtain ⟨i1, i2, i3, i4⟩ := ih
    unfold lm wsg
    by_cases c : W 11 k = m
    · by_cases v : W 12 k < W 0 0 ∧ W 13 k < W 3 0
      · rw [if_pos ⟨c, v⟩, List.foldl_append, ← hτ]
        show -1 ≤ (sg W h g τ k).1 ∧ (sg W h g τ k).1 ≤ m ∧ _ = av W (m - (sg W h g τ k).1).toNat ((sg W h g τ k).1 + 1) (sg W h g τ k).2.1 ∧ _ = (sg W h g τ k).2.2
        unfold sg
        simp only []
        rw [c, show (m - (m : Int)).toNat = 0 by omega, ← i3]
        show -1 ≤ (m : Int) ∧ (m : Int) ≤ m ∧ _ = (if g k = 1 then wsg W g m k (mid W m X) 0 else rn_set W (W 12 k) (W 13 k) (wsg W g m k (mid W m X) 0)) ∧ _
        by_cases gk : g k = 1
        · rw [if_neg (fun z => z.1 gk), if_pos gk, if_pos gk]
          exact ⟨by omega, by omega, rfl, i4⟩
        · rw [if_pos ⟨gk, rfl⟩, if_neg gk, if_neg gk]
          refine ⟨by omega, by omega, rn_try_r0, ?_⟩
          have ro : rn_out W (W 12 k) (W 13 k) (wsg W g m k (mid W m X) 0) = rn_res W (W 12 k) (W 13 k) (wsg W g m k (mid W m X) 0) := by unfold rn_out; rw [if_pos v]
          rw [rn_try_r3, ro]
          by_cases r : rn_res W (W 12 k) (W 13 k) (wsg W g m k (mid W m X) 0) = 3
          · rw [if_pos ⟨v, r⟩]
            by_cases hh : W 12 k = h
            · rw [if_pos ⟨r, hh⟩, hh, ol_rsA, i4]
            · rw [if_neg (fun z => hh z.2), ol_rsN _ _ (fun z => hh z.symm), i4]
          · rw [if_neg (fun z => r z.2), if_neg (fun z => r z.1), i4]
      · rw [if_neg (fun z => v z.2), ← hτ]
        have e : ∀ Y, rn_try W k Y = Y := fun Y => by unfold rn_try; rw [if_neg v]
        rw [e, ite_self]
        exact ⟨i1, i2, i3, i4⟩
    · rw [if_neg (fun z => c z.1), if_neg (fun z => c z.2), ← hτ]
      exact ⟨i1, i2, i3, i4⟩
theorem sim_lv {W : ol_M} (w : wk W) {h : Int} {g : Int → Int} : ∀ m : Nat, -1 ≤ ((la W m).foldl (sg W h g) sg0).1 ∧ ((la W m).foldl (sg W h g) sg0).1 < m ∧ rn_lv (ol_mp W 14 g) m 0 = av W (m - 1 - ((la W m).foldl (sg W h g) sg0).1).toNat (((la W m).foldl (sg W h g) sg0).1 + 1) ((la W m).foldl (sg W h g) sg0).2.1 ∧ rn_lv (ol_mp W 14 g) m 3 h = ((la W m).foldl (sg W h g) sg0).2.2 := by
  intro m
  induction m with
  | zero => exact ⟨by show (-1 : Int) ≤ -1; decide, by show (-1 : Int) < ((0 : Nat) : Int); decide, rfl, rfl⟩
  | succ m ih =>
    obtain ⟨i1, i2, i3, i4⟩ := ih
    obtain ⟨j1, j2, j3, j4⟩ := @sim_in W h g m (rn_lv (ol_mp W 14 g) m) _ i1 i2 i3 i4 (W 10 0).toNat
    rw [lv_wsg w]
    unfold la
    rw [List.foldl_append, j3, j4]
    refine ⟨j1, by omega, ?_, rfl⟩
    rw [show ((m + 1 : Nat) : Int) - 1 = m by omega]
theorem phi_sg {W : ol_M} (w : wk W) {h e : Int} {g : Int → Int} : phi W h e g = if ((lvl W).foldl (sg W h g) sg0).2.2 ≤ e then 1 else 0 := by
  unfold phi lvl
  rw [(sim_lv w 12).2.2.2]
noncomputable def bw (W : ol_M) (h e c : Int) : List Int → Int × (Int → Int) × Int → Int
  | [], σ => if σ.2.2 ≤ e then 1 else 0
  | k :: r, σ => (16 - c) * bw W h e c r (sg W h (fun _ => 1) σ k) + c * bw W h e c r (sg W h (fun _ => 0) σ k)
theorem sg_at {W : ol_M} {h : Int} {g g' : Int → Int} {σ : Int × (Int → Int) × Int} {k : Int} (e : g k = g' k) : sg W h g σ k = sg W h g' σ k := by
  unfold sg
  rw [e]
theorem Eg_bw {W : ol_M} {h e c : Int} : ∀ (r : List Int) (σ : Int × (Int → Int) × Int) (g : Int → Int), r.Nodup → Eg c (fun g => if (r.foldl (sg W h g) σ).2.2 ≤ e then 1 else 0) r g = bw W h e c r σ := by
  intro r
  induction r with
  | nil => intro σ g _; rfl
  | cons k r ih =>
    intro σ g hn
    obtain ⟨h1, h2⟩ := List.nodup_cons.mp hn
    simp only [Eg, bw]
    rw [← ih (sg W h (fun _ => 1) σ k) (ol_rs g k 1) h2, ← ih (sg W h (fun _ => 0) σ k) (ol_rs g k 0) h2]
    rw [Eg_congr r (ol_rs g k 1) (Ψ := fun g => if (r.foldl (sg W h g) (sg W h (fun _ => 1) σ k)).2.2 ≤ e then 1 else 0) (fun g' q => by
      have z : g' k = 1 := by rw [q k h1, ol_rsA]
      show (if ((k :: r).foldl (sg W h g') σ).2.2 ≤ e then (1 : Int) else 0) = _
      rw [List.foldl_cons, sg_at (g' := fun _ => 1) z])]
    rw [Eg_congr r (ol_rs g k 0) (Ψ := fun g => if (r.foldl (sg W h g) (sg W h (fun _ => 0) σ k)).2.2 ≤ e then 1 else 0) (fun g' q => by
      have z : g' k = 0 := by rw [q k h1, ol_rsA]
      show (if ((k :: r).foldl (sg W h g') σ).2.2 ≤ e then (1 : Int) else 0) = _
      rw [List.foldl_cons, sg_at (g' := fun _ => 0) z])]
/-- the share, by the live writings alone -/
theorem above_bw {W : ol_M} (w : wk W) {c h e : Int} : rn_above W c h e = 16 ^ ((W 10 0).toNat - (lvl W).length) * bw W h e c (lvl W) sg0 := by
  have w10 := w.2.2.2.2.2.2.2.1
  obtain ⟨nl, hnl⟩ : ∃ y, y = (rng (W 10 0).toNat).filter (fun x => decide (x ∉ lvl W)) := ⟨_, rfl⟩
  have mem : ∀ x, x ∈ nl ↔ x ∈ rng (W 10 0).toNat ∧ x ∉ lvl W := fun x => by rw [hnl, List.mem_filter, decide_eq_true_iff]
  have nd : nl.Nodup := by rw [hnl]; exact (rng_nodup _).sublist List.filter_sublist
  have pm : (rng (W 10 0).toNat).Perm (nl ++ lvl W) := by
    refine (List.perm_ext_iff_of_nodup (rng_nodup _) (List.nodup_append.mpr ⟨nd, la_nodup 12, fun a ha b hb z => ((mem a).mp ha).2 (z ▸ hb)⟩)).mpr (fun x => ?_)
    rw [List.mem_append, mem]
    refine ⟨fun q => ?_, fun q => ?_⟩
    · by_cases z : x ∈ lvl W
      · exact Or.inr z
      · exact Or.inl ⟨q, z⟩
    · rcases q with q | q
      · exact q.1
      · exact (mem_rng _).mpr ((lvl_mem w).mp q).1
  have ln : nl.length + (lvl W).length = (W 10 0).toNat := by
    have := pm.length_eq
    rw [rng_len, List.length_append] at this
    omega
  unfold rn_above
  rw [cs_tn w (g := fun _ => 0), tn_Eg, Eg_perm pm, Eg_nl nl (fun k hk g v => ?_), show nl.length = (W 10 0).toNat - (lvl W).length by omega]
  · congr 1
    rw [← Eg_bw (lvl W) sg0 (fun _ => 0) (la_nodup 12)]
    exact Eg_congr _ _ (fun g' _ => phi_sg w)
  · have q := (mem k).mp hk
    have iv : ¬ (W 12 k < W 0 0 ∧ W 13 k < W 3 0) := fun z => q.2 ((lvl_mem w).mpr ⟨(mem_rng _).mp q.1, z⟩)
    unfold phi
    rw [lv_ext w (fun j a b vj => by
      have jk : j ≠ k := fun z => by rw [z] at vj; exact iv vj
      rw [ol_rsN _ _ jk]) 12]
