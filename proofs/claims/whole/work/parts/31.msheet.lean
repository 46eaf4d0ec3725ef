theorem im.h {S M : ol_M} (h : im S M) : im_h S M := h.2.2.2.2.2.2.2
theorem sp_ok.h {S : ol_M} (h : sp_ok S) : sp_ok_h S := h.2.2.2.2.2.2
/-- a loop from a to b -/
theorem ol_loop {P : Int → Prop} {a b : Int} (hab : a ≤ b) (step : ∀ i, a ≤ i → i < b → P (i + 1) → P i) (last : P b) : P a := by
  have key : ∀ (n : Nat) (i : Int), a ≤ i → i + n = b → P i := by
    intro n
    induction n with
    | zero => intro i h0 h1; rw [show i = b by omega]; exact last
    | succ n ih => intro i h0 h1; exact step i h0 (by omega) (ih (i + 1) (by omega) (by omega))
  exact key (b - a).toNat a (by omega) (by omega)
/-- a row whose items from a on, below b, are g's -/
def ol_rg (f : Int → Int) (a b : Int) (g : Int → Int) : Int → Int := fun j => if a ≤ j ∧ j < b then g j else f j
theorem ol_rg_0 (f : Int → Int) (a : Int) (g : Int → Int) : ol_rg f a a g = f := funext fun j => if_neg (by omega)
theorem ol_rg_s (f : Int → Int) {a b v : Int} (g : Int → Int) (h : a ≤ b) (hv : v = g b) : ol_rs (ol_rg f a b g) b v = ol_rg f a (b + 1) g := by
  funext j
  unfold ol_rs ol_rg
  by_cases q : j = b
  · rw [if_pos q, if_pos ⟨by omega, by omega⟩, hv, q]
  · rw [if_neg q]
    by_cases q2 : a ≤ j ∧ j < b
    · rw [if_pos q2, if_pos ⟨by omega, by omega⟩]
    · rw [if_neg q2, if_neg (by omega)]
theorem ol_rg_in {f : Int → Int} {a b : Int} {g : Int → Int} {j : Int} (h0 : a ≤ j) (h1 : j < b) : ol_rg f a b g j = g j := if_pos ⟨h0, h1⟩
theorem ol_rg_out {f : Int → Int} {a b : Int} {g : Int → Int} {j : Int} (h : ¬ (a ≤ j ∧ j < b)) : ol_rg f a b g j = f j := if_neg h
/-- one store into a row that a loop fills -/
theorem ol_rg_ms (M : ol_M) (k : Int) (f : Int → Int) {a b v : Int} (g : Int → Int) (h : a ≤ b) (hv : v = g b) : ol_ms (ol_mp M k (ol_rg f a b g)) k b v = ol_mp M k (ol_rg f a (b + 1) g) := by
  rw [ol_ms_mp, ol_rg_s f g h hv]
theorem ol_rg_mp0 (M : ol_M) (k a : Int) (g : Int → Int) : ol_mp M k (ol_rg (M k) a a g) = M := by rw [ol_rg_0, ol_mp_self]
theorem ol_rsA (f : Int → Int) (i v : Int) : ol_rs f i v i = v := if_pos rfl
theorem ol_rsN (f : Int → Int) {i j : Int} (v : Int) (h : j ≠ i) : ol_rs f i v j = f j := if_neg h
theorem ol_ms_row (M : ol_M) (k i v : Int) : ol_ms M k i v k = ol_rs (M k) i v := ol_mp_same _ _ _
/-- the sheets have changed, no more -/
theorem im.newh {S M S' M' : ol_M} (h : im S M) (eS : ∀ k, k < 15 → S' k = S k) (e1 : M' 132 = M 132) (eM : ∀ k, 136 < k → M' k = M k) (h8 : im_h S' M') : im S' M' := by
  obtain ⟨h1, h2, h3, h4, h5, h6, h7, -⟩ := h
  refine ⟨?_, ?_, ?_, ?_, ?_, ?_, ?_, h8⟩
  · unfold im_t at *
    rw [eM 138 (by decide), eM 137 (by decide), eS 0 (by decide), eS 1 (by decide), eS 2 (by decide)]
    exact h1
  · unfold im_r at *
    rw [eM 144 (by decide), eS 3 (by decide)]
    exact h2
  · unfold im_w at *
    rw [e1, eM 145 (by decide), eS 0 (by decide), eS 4 (by decide), eS 5 (by decide), eS 6 (by decide)]
    exact h3
  · unfold im_l at *
    rw [e1, eM 146 (by decide), eS 0 (by decide), eS 7 (by decide), eS 8 (by decide), eS 9 (by decide), eS 10 (by decide)]
    exact h4
  · unfold im_s at *
    rw [e1, eM 152 (by decide), eS 0 (by decide), eS 11 (by decide), eS 12 (by decide), eS 13 (by decide), eS 14 (by decide)]
    exact h5
  · unfold im_f at *
    rw [e1, eS 0 (by decide)]
    exact h6
  · unfold im_g at *
    rw [e1]
    exact h7
theorem m_sheet {n : Nat} {S M : ol_M} (h : im S M) (hs : sp_ok S) {s f c : Int} (r1 : ol_r s) (r2 : ol_r f) (r3 : ol_r c) : m_ok n 3 q_X9_sheet [.inl s, .inl f, .inl c] S M (sp_sheet S s f c) := by
  unfold sp_sheet
  by_cases b : ¬ (0 ≤ s ∧ s ≤ 3) ∨ ¬ (0 ≤ f ∧ f ≤ 2) ∨ 60 < c
  · rw [if_pos b]
    refine ⟨M, ol_Ri (q := q_X9_sheet) (by decide +kernel) (Nat.le_of_ble_eq_true rfl) (Or.inl rfl) (fun Rt A hA hr => b_X9_sheet_0 hA s f c M ?_), h, fm.rf⟩
    repeat' (first | exact hr | assumption | omega | exact ol_r_l (by assumption) | exact ⟨by decide, by decide⟩ | refine ol_if.mk (fun _ => ?_) (fun _ => ?_) | refine And.intro ?_ ?_)
  rw [if_neg b]
  by_cases b2 : c < 0
  · rw [if_pos b2]
    refine ⟨ol_ms M 132 4 5, ol_Ri (q := q_X9_sheet) (by decide +kernel) (Nat.le_of_ble_eq_true rfl) (Or.inl rfl) (fun Rt A hA hr => b_X9_sheet_0 hA s f c M ?_), h.find 5, fm.rf.ms⟩
    repeat' (first | exact hr | assumption | omega | exact ol_r_l (by assumption) | exact ⟨by decide, by decide⟩ | refine ol_if.mk (fun _ => ?_) (fun _ => ?_) | refine And.intro ?_ ?_)
  rw [if_neg b2]
  obtain ⟨M1, hM1⟩ : ∃ x, x = ol_ms (ol_ms M 133 s f) 134 s c := ⟨_, rfl⟩
  refine m_ok.of ⟨ol_mp M1 135 (ol_rg (M1 135) (60 * s) (60 * s + c) (fun _ => 0)), ol_Ri (q := q_X9_sheet) (by decide +kernel) (Nat.le_of_ble_eq_true rfl) (Or.inl rfl) (fun Rt A hA hr => b_X9_sheet_0 hA s f c M ?_), ?_, ?_⟩
  · refine ⟨r1, ol_if.pos (by omega) ⟨r2, ol_r_l r2, ol_if.pos (by omega) ⟨r3, ol_if.pos (by omega) ⟨r3, ol_if.pos (by omega) ⟨by omega, by omega, by omega, by omega, ?_⟩⟩⟩⟩⟩
    have z : A 55 [some (.inr (.inr 132)), some (.inl s), none, some (.inl c), some (.inl 0)] [] (ol_mp M1 135 (ol_rg (M1 135) (60 * s) (60 * s + 0) (fun _ => 0))) := by
      refine ol_loop (P := fun i => A 55 [some (.inr (.inr 132)), some (.inl s), none, some (.inl c), some (.inl i)] [] (ol_mp M1 135 (ol_rg (M1 135) (60 * s) (60 * s + i) (fun _ => 0)))) (a := 0) (b := c) (by omega) (fun i h0 h1 hi => ?_) ?_
      · refine b_X9_sheet_55 hA s c i _ ⟨⟨by omega, by omega⟩, r3, ol_if.neg (by omega) ⟨by omega, by omega, ?_⟩⟩
        rw [ol_rg_ms M1 135 _ _ (by omega) rfl, Int.add_assoc]
        exact hi
      · exact b_X9_sheet_55 hA s c c _ ⟨r3, r3, ol_if.pos (by omega) hr⟩
    rw [Int.add_zero, ol_rg_mp0, hM1] at z
    exact z
  · refine h.newh (fun k q => ?_) (by rw [hM1]; simp [ol_ms, ol_mp, ol_rs]) (fun k q => ?_) ?_
    · rw [ol_mp_ne _ _ (by omega), ol_ms_ne _ _ _ (by omega), ol_ms_ne _ _ _ (by omega)]
    · rw [hM1, ol_mp_ne _ _ (by omega), ol_ms_ne _ _ _ (by omega), ol_ms_ne _ _ _ (by omega)]
    · intro t h0 h9
      obtain ⟨e1, e2⟩ := h.h t h0 h9
      have g3 : M1 135 = M 135 := by rw [hM1]; simp [ol_ms, ol_mp, ol_rs]
      have g1 : ol_mp M1 135 (ol_rg (M1 135) (60 * s) (60 * s + c) (fun _ => 0)) 133 = ol_rs (M 133) s f := by rw [hM1]; simp [ol_ms, ol_mp, ol_rs]
      have g2 : ol_mp M1 135 (ol_rg (M1 135) (60 * s) (60 * s + c) (fun _ => 0)) 134 = ol_rs (M 134) s c := by rw [hM1]; simp [ol_ms, ol_mp, ol_rs]
      rw [g1, g2, ol_mp_same, g3]
      rw [ol_mp_ne _ _ (show (15 : Int) ≠ 20 + s by omega), ol_mp_ne _ _ (show (16 : Int) ≠ 20 + s by omega), ol_ms_ne _ _ _ (show (15 : Int) ≠ 16 by decide), ol_ms_row, ol_ms_row, ol_ms_ne _ _ _ (show (16 : Int) ≠ 15 by decide)]
      by_cases ts : t = s
      · subst ts
        rw [ol_rsA, ol_rsA, ol_rsA, ol_rsA]
        refine ⟨rfl, fun _ => ⟨rfl, fun i i0 i1 => ?_⟩⟩
        rw [ol_mp_same, ol_rg_in (by omega) (by omega)]
      · rw [ol_rsN _ _ ts, ol_rsN _ _ ts, ol_rsN _ _ ts, ol_rsN _ _ ts]
        refine ⟨e1, fun q => ⟨(e2 q).1, fun i i0 i1 => ?_⟩⟩
        have hz := ((hs.h t h0 h9).2 q).1
        rw [ol_mp_ne _ _ (by omega), ol_ms_ne _ _ _ (by omega), ol_ms_ne _ _ _ (by omega), ol_rg_out (by omega)]
        exact (e2 q).2 i i0 i1
  · rw [hM1]
    exact ((fm.rf.ms).ms).mp
theorem m_lose {n : Nat} {S M : ol_M} (h : im S M) (hs : sp_ok S) {s : Int} (r1 : ol_r s) : m_ok n 3 q_X9_lose [.inl s] S M (sp_lose S s) := by
  unfold sp_lose
  by_cases b : ¬ (0 ≤ s ∧ s ≤ 3)
  · rw [if_pos b]
    refine ⟨M, ol_Ri (q := q_X9_lose) (by decide +kernel) (Nat.le_of_ble_eq_true rfl) (Or.inl rfl) (fun Rt A hA hr => b_X9_lose_0 hA s M ?_), h, fm.rf⟩
    repeat' (first | exact hr | assumption | omega | exact ol_r_l (by assumption) | exact ⟨by decide, by decide⟩ | refine ol_if.mk (fun _ => ?_) (fun _ => ?_) | refine And.intro ?_ ?_)
  rw [if_neg b]
  obtain ⟨e1, e2⟩ := h.h s (by omega) (by omega)
  have k1 := (hs.h s (by omega) (by omega)).1
  have r2 : ol_r (M 133 s) := ⟨by omega, by omega⟩
  by_cases b2 : S 15 s < 0
  · rw [if_pos b2]
    refine ⟨ol_ms M 132 4 1, ol_Ri (q := q_X9_lose) (by decide +kernel) (Nat.le_of_ble_eq_true rfl) (Or.inl rfl) (fun Rt A hA hr => b_X9_lose_0 hA s M ?_), h.find 1, fm.rf.ms⟩
    repeat' (first | exact hr | assumption | omega | exact ol_r_l (by assumption) | exact ⟨by decide, by decide⟩ | refine ol_if.mk (fun _ => ?_) (fun _ => ?_) | refine And.intro ?_ ?_)
  rw [if_neg b2]
  refine m_ok.of ⟨ol_ms M 133 s (-1), ol_Ri (q := q_X9_lose) (by decide +kernel) (Nat.le_of_ble_eq_true rfl) (Or.inl rfl) (fun Rt A hA hr => b_X9_lose_0 hA s M ?_), ?_, fm.rf.ms⟩
  · rw [← (e2 (by omega)).1] at hr
    repeat' (first | exact hr | assumption | omega | exact ol_r_l (by assumption) | exact ⟨by decide, by decide⟩ | refine ol_if.mk (fun _ => ?_) (fun _ => ?_) | refine And.intro ?_ ?_)
  · refine h.newh (fun k q => ?_) (by simp [ol_ms, ol_mp, ol_rs]) (fun k q => ?_) ?_
    · exact ol_ms_ne _ _ _ (by omega)
    · exact ol_ms_ne _ _ _ (by omega)
    · intro t h0 h9
      obtain ⟨e3, e4⟩ := h.h t h0 h9
      rw [ol_ms_row, ol_ms_row, ol_ms_ne _ _ _ (show (134 : Int) ≠ 133 by decide), ol_ms_ne _ _ _ (show (135 : Int) ≠ 133 by decide)]
      rw [ol_ms_ne _ _ _ (show (16 : Int) ≠ 15 by decide), ol_ms_ne _ _ _ (show (20 + t : Int) ≠ 15 by omega)]
      by_cases ts : t = s
      · subst ts
        rw [ol_rsA, ol_rsA]
        exact ⟨rfl, fun q => absurd q (by decide)⟩
      · rw [ol_rsN _ _ ts, ol_rsN _ _ ts]
        exact ⟨e3, e4⟩
