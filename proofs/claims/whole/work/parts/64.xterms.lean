/-! THE CLASS READS THE TERMS' TEXT -/
def isv (v : Int) : Prop := v = 0 ∨ v = 4
/-- of the terms' rows only those of t, and of the cells 34, 35, 36 only the places t, have changed -/
def fr_e (t : Int) (M M' : ol_M) : Prop := (∀ c, c ≠ 8 + t → c ≠ 17 + t → c ≠ 26 + t → c ≠ 34 → c ≠ 35 → c ≠ 36 → M' c = M c) ∧ ∀ k, k ≠ t → M' 34 k = M 34 k ∧ M' 35 k = M 35 k ∧ M' 36 k = M 36 k
theorem fr_e.rf {t : Int} {M : ol_M} : fr_e t M M := ⟨fun _ _ _ _ _ _ _ => rfl, fun _ _ => ⟨rfl, rfl, rfl⟩⟩
theorem fr_e.tr {t : Int} {M M' M'' : ol_M} (h : fr_e t M M') (h' : fr_e t M' M'') : fr_e t M M'' := ⟨fun c a b d e f g => (h'.1 c a b d e f g).trans (h.1 c a b d e f g), fun k q => ⟨(h'.2 k q).1.trans (h.2 k q).1, (h'.2 k q).2.1.trans (h.2 k q).2.1, (h'.2 k q).2.2.trans (h.2 k q).2.2⟩⟩
/-- what is known of the term that is being read -/
def xcur (P M : ol_M) (t l : Int) : Prop := M 34 t = l ∧ M 35 t = hc (P (10 + t)) l.toNat ∧ (∀ i, 0 ≤ i → i < l → M (8 + t) i = P (10 + t) i) ∧ (∀ x, 0 ≤ x → x < 8 → M (17 + t) x = ct (P (10 + t)) x l.toNat) ∧ ∀ x, 0 ≤ x → x < 8 → M (26 + t) x = if x = 0 ∨ x = 4 then 0 else ct (P (10 + t)) x l.toNat
theorem hc_congr {f g : Int → Int} : ∀ {k : Nat}, (∀ i : Nat, i < k → f i = g i) → hc f k = hc g k := by
  intro k
  induction k with
  | zero => intro _; rfl
  | succ k ih =>
    intro h
    unfold hc
    rw [ih (fun i hi => h i (by omega)), h k (by omega)]
theorem x_begin {n : Nat} {P M : ol_M} {t : Int} (et : M 5 3 = t) (t0 : 0 ≤ t) (t1 : t < 8) : ∃ M', ol_R (ol_lay n) 2 q_X5_begin [.inr (.inr 5)] M none M' ∧ fr_e t M M' ∧ xcur P M' t 0 := by
  obtain ⟨M1, hM1⟩ : ∃ x, x = ol_ms (ol_ms M 34 t 0) 35 t 0 := ⟨_, rfl⟩
  obtain ⟨M2, hM2⟩ : ∃ x, x = ol_mp M1 (17 + t) (ol_fl (M1 (17 + t)) 0 8) := ⟨_, rfl⟩
  obtain ⟨M3, hM3⟩ : ∃ x, x = ol_mp M2 (26 + t) (ol_fl (M2 (26 + t)) 0 8) := ⟨_, rfl⟩
  have m1 : M1 34 = ol_rs (M 34) t 0 := by rw [hM1, ol_ms_ne _ _ _ (by decide), ol_ms_row]
  have m2 : M1 35 = ol_rs (M 35) t 0 := by rw [hM1, ol_ms_row, ol_ms_ne _ _ _ (by decide)]
  have m3 : ∀ c, c ≠ 34 → c ≠ 35 → M1 c = M c := fun c a b => by rw [hM1, ol_ms_ne _ _ _ b, ol_ms_ne _ _ _ a]
  have n3 : ∀ c, c ≠ 17 + t → c ≠ 26 + t → M3 c = M1 c := fun c a b => by rw [hM3, ol_mp_ne _ _ b, hM2, ol_mp_ne _ _ a]
  have e2 : M2 5 3 = t := by rw [hM2, ol_mp_ne _ _ (by omega), m3 5 (by decide) (by decide)]; exact et
  refine ⟨M3, ol_Ri (q := q_X5_begin) (by decide +kernel) (Nat.le_of_ble_eq_true rfl) rfl (fun Rt A hA hr => b_X5_begin_0 hA M ?_), ⟨fun c a b d e f g => by rw [n3 c b d, m3 c e f], fun k q => ?_⟩, ?_⟩
  · rw [et, ← hM1, ← hM2, e2, ← hM3]
    exact ⟨t0, t1, t0, t1, t0, t1, t0, t1, hr⟩
  · rw [n3 34 (by omega) (by omega), n3 35 (by omega) (by omega), n3 36 (by omega) (by omega), m1, m2, m3 36 (by decide) (by decide), ol_rsN _ _ q, ol_rsN _ _ q]
    exact ⟨rfl, rfl, rfl⟩
  · refine ⟨by rw [n3 34 (by omega) (by omega), m1, ol_rsA], by rw [n3 35 (by omega) (by omega), m2, ol_rsA]; rfl, fun i i0 i1 => by omega, fun x x0 x1 => ?_, fun x x0 x1 => ?_⟩
    · rw [hM3, ol_mp_ne _ _ (by omega), hM2, ol_mp_same]
      unfold ol_fl
      rw [if_pos ⟨x0, by omega⟩]; rfl
    · rw [hM3, ol_mp_same]
      unfold ol_fl
      rw [if_pos ⟨x0, by omega⟩]
      split <;> rfl
set_option maxRecDepth 4000 in
theorem x_addLetter {n : Nat} {P M : ol_M} {t l v : Int} (et : M 5 3 = t) (t0 : 0 ≤ t) (t1 : t < 8) (l0 : 0 ≤ l) (l1 : l < 6) (v0 : 0 ≤ v) (v1 : v < 8) (h : xcur P M t l) : ∃ M', ol_R (ol_lay n) 2 q_X5_addLetter [.inr (.inr 5), .inl v] M none M' ∧ fr_e t M M' ∧ xcur (ol_ms P (10 + t) l v) M' t (l + 1) := by
  obtain ⟨h1, h2, h3, h4, h5⟩ := h
  obtain ⟨M1, hM1⟩ : ∃ x, x = ol_ms M (8 + t) l v := ⟨_, rfl⟩
  have p1 : ∀ c, c ≠ 8 + t → M1 c = M c := fun c a => by rw [hM1, ol_ms_ne _ _ _ a]
  have q1 : M1 (8 + t) = ol_rs (M (8 + t)) l v := by rw [hM1, ol_ms_row]
  have f1 : M1 5 3 = t := by rw [p1 5 (by omega)]; exact et
  have g1 : M1 34 t = l := by rw [p1 34 (by omega)]; exact h1
  obtain ⟨M2, hM2⟩ : ∃ x, x = ol_ms M1 34 t (l + 1) := ⟨_, rfl⟩
  have p2 : ∀ c, c ≠ 34 → M2 c = M1 c := fun c a => by rw [hM2, ol_ms_ne _ _ _ a]
  have q2 : M2 34 = ol_rs (M1 34) t (l + 1) := by rw [hM2, ol_ms_row]
  obtain ⟨M3, hM3⟩ : ∃ x, x = ol_ms M2 (17 + t) v (M2 (17 + t) v + 1) := ⟨_, rfl⟩
  have p3 : ∀ c, c ≠ 17 + t → M3 c = M2 c := fun c a => by rw [hM3, ol_ms_ne _ _ _ a]
  have q3 : M3 (17 + t) = ol_rs (M2 (17 + t)) v (M2 (17 + t) v + 1) := by rw [hM3, ol_ms_row]
  have f3 : M3 5 3 = t := by rw [p3 5 (by omega), p2 5 (by decide)]; exact f1
  obtain ⟨M4, hM4⟩ : ∃ x, x = ol_ms M3 (26 + t) v (M3 (26 + t) v + 1) := ⟨_, rfl⟩
  have p4 : ∀ c, c ≠ 26 + t → M4 c = M3 c := fun c a => by rw [hM4, ol_ms_ne _ _ _ a]
  have q4 : M4 (26 + t) = ol_rs (M3 (26 + t)) v (M3 (26 + t) v + 1) := by rw [hM4, ol_ms_row]
  have f4 : M4 5 3 = t := by rw [p4 5 (by omega)]; exact f3
  obtain ⟨M5, hM5⟩ : ∃ x, x = ol_ms M4 35 t (M4 35 t + 1) := ⟨_, rfl⟩
  have p5 : ∀ c, c ≠ 35 → M5 c = M4 c := fun c a => by rw [hM5, ol_ms_ne _ _ _ a]
  have q5 : M5 35 = ol_rs (M4 35) t (M4 35 t + 1) := by rw [hM5, ol_ms_row]
  have rv : ol_r v := ⟨by omega, by omega⟩
  have wp : ∀ {Rt : Option ol_V → ol_M → Prop} {A : Nat → ol_Ls → ol_St → ol_M → Prop} (hA : ol_C q_X5_addLetter.1.cls q_X5_addLetter.2.1 1 (ol_lay n) Rt A), ol_if (v = 0 ∨ v = 4) (Rt none M3) (Rt none M5) → A 0 [some (.inr (.inr 5)), some (.inl v)] [] M := by
    intro Rt A hA hr
    refine b_X5_addLetter_0 hA v M ?_
    rw [et, h1, ← hM1, f1, g1, ← hM2, ← hM3, f3, ← hM4, f4, ← hM5]
    refine ⟨t0, t1, t0, t1, l0, l1, t0, t1, t0, t1, t0, t1, v0, v1, v0, v1, rv, ol_if.mk (fun c => hr.1 c) (fun c => ⟨t0, t1, v0, v1, v0, v1, t0, t1, t0, t1, hr.2 c⟩)⟩
  -- the letters, and how many of each
  have eP : (ol_ms P (10 + t) l v) (10 + t) = ol_rs (P (10 + t)) l v := ol_ms_row _ _ _ _
  have tn : (l + 1).toNat = l.toNat + 1 := by omega
  have ln : ((l.toNat : Nat) : Int) = l := Int.toNat_of_nonneg l0
  have ctl : ∀ x, ct (ol_rs (P (10 + t)) l v) x (l + 1).toNat = ct (P (10 + t)) x l.toNat + (if v = x then 1 else 0) := by
    intro x
    rw [tn]
    simp only [ct]
    rw [ln, ol_rsA, ct_congr (fun i hi => ol_rsN _ _ (by omega))]
  have hcl : hc (ol_rs (P (10 + t)) l v) (l + 1).toNat = hc (P (10 + t)) l.toNat + (if v = 0 ∨ v = 4 then 0 else 1) := by
    rw [tn]
    simp only [hc]
    rw [ln, ol_rsA, hc_congr (fun i hi => ol_rsN _ _ (by omega))]
  have a8 : M3 (8 + t) = ol_rs (M (8 + t)) l v := by rw [p3 _ (by omega), p2 _ (by omega), q1]
  have a34 : M3 34 = ol_rs (M 34) t (l + 1) := by rw [p3 _ (by omega), q2, p1 _ (by omega)]
  have a35 : M3 35 = M 35 := by rw [p3 _ (by omega), p2 _ (by omega), p1 _ (by omega)]
  have a36 : M3 36 = M 36 := by rw [p3 _ (by omega), p2 _ (by omega), p1 _ (by omega)]
  have a17 : M3 (17 + t) = ol_rs (M (17 + t)) v (M (17 + t) v + 1) := by rw [q3, p2 _ (by omega), p1 _ (by omega)]
  have a26 : M3 (26 + t) = M (26 + t) := by rw [p3 _ (by omega), p2 _ (by omega), p1 _ (by omega)]
  have x8 : ∀ i, 0 ≤ i → i < l + 1 → ol_rs (M (8 + t)) l v i = ol_rs (P (10 + t)) l v i := by
    intro i i0 i1
    by_cases c : i = l
    · rw [c, ol_rsA, ol_rsA]
    · rw [ol_rsN _ _ c, ol_rsN _ _ c]; exact h3 i i0 (by omega)
  have x17 : ∀ x, 0 ≤ x → x < 8 → ol_rs (M (17 + t)) v (M (17 + t) v + 1) x = ct (P (10 + t)) x l.toNat + (if v = x then 1 else 0) := by
    intro x x0 x1
    by_cases c : x = v
    · rw [c, ol_rsA, if_pos rfl, h4 v v0 v1]
    · rw [ol_rsN _ _ c, if_neg (fun q => c q.symm), Int.add_zero]; exact h4 x x0 x1
  by_cases c : v = 0 ∨ v = 4
  · refine ⟨M3, ol_Ri (q := q_X5_addLetter) (by decide +kernel) (Nat.le_of_ble_eq_true rfl) rfl (fun Rt A hA hr => wp hA (ol_if.pos c hr)), ⟨fun k a b d e f g => by rw [p3 _ b, p2 _ e, p1 _ a], fun k q => ?_⟩, ?_⟩
    · rw [a34, a35, a36, ol_rsN _ _ q]
      exact ⟨rfl, rfl, rfl⟩
    · unfold xcur
      rw [eP, hcl, a34, a35, a8, a17, a26, if_pos c, Int.add_zero]
      refine ⟨ol_rsA _ _ _, h2, x8, fun x x0 x1 => by rw [ctl]; exact x17 x x0 x1, fun x x0 x1 => ?_⟩
      rw [ctl, h5 x x0 x1]
      by_cases d : x = 0 ∨ x = 4
      · rw [if_pos d, if_pos d]
      · rw [if_neg d, if_neg d, if_neg (by omega), Int.add_zero]
  · have b34 : M5 34 = M3 34 := by rw [p5 _ (by decide), p4 _ (by omega)]
    have b35 : M5 35 = ol_rs (M 35) t (M 35 t + 1) := by rw [q5, p4 _ (by omega), a35]
    have b36 : M5 36 = M3 36 := by rw [p5 _ (by decide), p4 _ (by omega)]
    have b8 : M5 (8 + t) = M3 (8 + t) := by rw [p5 _ (by omega), p4 _ (by omega)]
    have b17 : M5 (17 + t) = M3 (17 + t) := by rw [p5 _ (by omega), p4 _ (by omega)]
    have b26 : M5 (26 + t) = ol_rs (M (26 + t)) v (M (26 + t) v + 1) := by rw [p5 _ (by omega), q4, a26]
    refine ⟨M5, ol_Ri (q := q_X5_addLetter) (by decide +kernel) (Nat.le_of_ble_eq_true rfl) rfl (fun Rt A hA hr => wp hA (ol_if.neg c hr)), ⟨fun k a b d e f g => by rw [p5 _ f, p4 _ d, p3 _ b, p2 _ e, p1 _ a], fun k q => ?_⟩, ?_⟩
    · rw [b34, b35, b36, a34, a36, ol_rsN _ _ q, ol_rsN _ _ q]
      exact ⟨rfl, rfl, rfl⟩
    · unfold xcur
      rw [eP, hcl, b34, b35, b8, b17, b26, a34, a8, a17, if_neg c]
      refine ⟨ol_rsA _ _ _, by rw [ol_rsA, h2], x8, fun x x0 x1 => by rw [ctl]; exact x17 x x0 x1, fun x x0 x1 => ?_⟩
      rw [ctl]
      by_cases d : x = v
      · rw [d, ol_rsA, h5 v v0 v1, if_neg c, if_neg c, if_pos rfl]
      · rw [ol_rsN _ _ d, h5 x x0 x1, if_neg (show ¬ v = x from fun q => d q.symm), Int.add_zero]
theorem x_refuse5 {n : Nat} {M : ol_M} {p : Int} : ol_R (ol_lay n) 1 q_X6_refuse [.inr (.inr 5), .inl p] M none (ol_ms (ol_ms M 5 3 0) 5 4 p) :=
  ol_Ri (q := q_X6_refuse) (by decide +kernel) (Nat.le_of_ble_eq_true rfl) rfl (fun Rt A hA hr => b_X6_refuse_5_0 hA p M hr)
/-- a byte inside a term, or at its beginning -/
theorem x_next5 {n : Nat} {P M : ol_M} {t l s b : Int} (et : M 5 3 = t) (t0 : 0 ≤ t) (t1 : t ≤ 8) (l0 : 0 ≤ l) (l1 : l ≤ 6) (rb : 0 ≤ b ∧ b ≤ 255) (hs : s = if l = 0 then 0 else 1) (h8 : t = 8 → l = 0) (h : 0 < l → xcur P M t l) :
    (((97 ≤ b ∧ b ≤ 104) ∧ l < 6 ∧ t < 8) → ∃ M', ol_R (ol_lay n) 4 q_X6_next [.inr (.inr 5), .inl s, .inl b] M (some (.inl 1)) M' ∧ fr_e t M M' ∧ xcur (ol_ms P (10 + t) l (b - 97)) M' t (l + 1)) ∧
    (((48 ≤ b ∧ b ≤ 57) ∧ 0 < l) → ol_R (ol_lay n) 4 q_X6_next [.inr (.inr 5), .inl s, .inl b] M (some (.inl 2)) (ol_ms (ol_ms M 36 t (b - 48)) 5 3 (t + 1))) ∧
    (¬ ((97 ≤ b ∧ b ≤ 104) ∧ l < 6 ∧ t < 8) → ¬ ((48 ≤ b ∧ b ≤ 57) ∧ 0 < l) → ∃ M', ol_R (ol_lay n) 4 q_X6_next [.inr (.inr 5), .inl s, .inl b] M (some (.inl 3)) M' ∧ (t < 8 → fr_e t M M') ∧ (t = 8 → M' = M)) := by
  have r2 : ol_r b := ⟨by omega, by omega⟩
  have hs1 : s = 0 ∨ s = 1 := by rw [hs]; split; exact Or.inl rfl; exact Or.inr rfl
  have rs : ol_r s := ⟨by omega, by omega⟩
  have rt : ol_r (M 5 3) := ⟨by omega, by omega⟩
  have nx : ∀ {x : Int} {M' : ol_M}, t < 8 → ol_R (ol_lay n) 3 q_X5_step [.inr (.inr 5), .inl s, .inl b] M (some (.inl x)) M' → ol_R (ol_lay n) 4 q_X6_next [.inr (.inr 5), .inl s, .inl b] M (some (.inl x)) M' := fun ht hq => ol_Ri (q := q_X6_next) (by decide +kernel) (Nat.le_of_ble_eq_true rfl) (Or.inl rfl) (fun Rt A hA hr => b_X6_next_5_0 hA s b M (ol_if.neg (by omega) ⟨rs, rt, ol_if.neg (by omega) ⟨_, _, hq, hr⟩⟩))
  -- behind the beginning of a term
  have bg : t < 8 → ∃ M1, fr_e t M M1 ∧ xcur P M1 t l ∧ ∀ {Rt : Option ol_V → ol_M → Prop} {A : Nat → ol_Ls → ol_St → ol_M → Prop} (hA : ol_C q_X5_step.1.cls q_X5_step.2.1 2 (ol_lay n) Rt A), A 8 [some (.inr (.inr 5)), some (.inl s), some (.inl b)] [] M1 → A 0 [some (.inr (.inr 5)), some (.inl s), some (.inl b)] [] M := by
    intro ht
    by_cases c : l = 0
    · obtain ⟨M1, q, f, x⟩ := @x_begin n P M t et t0 ht
      rw [c]
      rw [if_pos c] at hs
      exact ⟨M1, f, x, fun hA hr => b_X5_step_0 hA s b M (ol_if.pos hs ⟨M1, q, hr⟩)⟩
    · rw [if_neg c] at hs
      exact ⟨M, fr_e.rf, h (by omega), fun hA hr => b_X5_step_0 hA s b M (ol_if.neg (by omega) ⟨rs, hr⟩)⟩
  refine ⟨fun c => ?_, fun c => ?_, fun c d => ?_⟩
  · obtain ⟨M1, f, x, go⟩ := bg c.2.2
    have et1 : M1 5 3 = t := by rw [f.1 5 (by omega) (by omega) (by omega) (by decide) (by decide) (by decide)]; exact et
    obtain ⟨M', q, f', x'⟩ := @x_addLetter n P M1 t l (b - 97) et1 t0 c.2.2 l0 c.2.1 (by omega) (by omega) x
    refine ⟨M', nx c.2.2 (ol_Ri (q := q_X5_step) (by decide +kernel) (Nat.le_of_ble_eq_true rfl) (Or.inl rfl) (fun Rt A hA hr => go hA (b_X5_step_8 hA s b M1 ?_))), f.tr f', x'⟩
    rw [et1, x.1]
    exact ⟨r2, ol_if.neg (by omega) ⟨r2, ol_if.neg (by omega) ⟨t0, c.2.2, ⟨by omega, by omega⟩, ol_if.neg (by omega) ⟨M', q, hr⟩⟩⟩⟩
  · have ht : t < 8 := by by_cases q : t = 8; have := h8 q; omega; omega
    have hs0 : s = 1 := by rw [hs, if_neg (by omega)]
    refine nx ht (ol_Ri (q := q_X5_step) (by decide +kernel) (Nat.le_of_ble_eq_true rfl) (Or.inl rfl) (fun Rt A hA hr => b_X5_step_0 hA s b M (ol_if.neg (by omega) ⟨rs, b_X5_step_8 hA s b M ?_⟩)))
    rw [et]
    exact ⟨r2, ol_if.pos (by omega) (ol_if.neg (by omega) ⟨rs, r2, ol_if.neg (by omega) ⟨r2, ol_if.pos (by omega) ⟨t0, ht, hr⟩⟩⟩)⟩
  · by_cases ht : t < 8
    · obtain ⟨M1, f, x, go⟩ := bg ht
      have et1 : M1 5 3 = t := by rw [f.1 5 (by omega) (by omega) (by omega) (by decide) (by decide) (by decide)]; exact et
      refine ⟨M1, nx ht (ol_Ri (q := q_X5_step) (by decide +kernel) (Nat.le_of_ble_eq_true rfl) (Or.inl rfl) (fun Rt A hA hr => go hA (b_X5_step_8 hA s b M1 ?_))), fun _ => f, fun q => by omega⟩
      rw [et1, x.1]
      have bad : ∀ Y : Prop, ol_if (s = 0) (Rt (some (.inl 3)) M1) (ol_r s ∧ ol_r b ∧ ol_if (b < 48) (Rt (some (.inl 3)) M1) (ol_r b ∧ ol_if (b ≤ 57) Y (Rt (some (.inl 3)) M1))) := fun Y => ol_if.mk (fun _ => hr) (fun e => ⟨rs, r2, ol_if.mk (fun _ => hr) (fun g => ⟨r2, ol_if.neg (fun k => d ⟨by omega, by
        by_cases z : l = 0
        · rw [if_pos z] at hs; omega
        · omega⟩) hr⟩)⟩)
      exact ⟨r2, ol_if.mk (fun _ => bad _) (fun e => ⟨r2, ol_if.mk (fun _ => bad _) (fun g => ⟨t0, ht, ⟨by omega, by omega⟩, ol_if.pos (by omega) (bad _)⟩)⟩)⟩
    · refine ⟨M, ol_Ri (q := q_X6_next) (by decide +kernel) (Nat.le_of_ble_eq_true rfl) (Or.inl rfl) (fun Rt A hA hr => b_X6_next_5_0 hA s b M (ol_if.neg (by omega) ⟨rs, rt, ol_if.pos (by omega) hr⟩)), fun q => absurd q ht, fun _ => rfl⟩
theorem x_next5e {n : Nat} {M : ol_M} {b : Int} (r : ol_r b) : ol_R (ol_lay n) 4 q_X6_next [.inr (.inr 5), .inl 2, .inl b] M (some (.inl (if b = 59 then 0 else 3))) M := by
  refine ol_Ri (q := q_X6_next) (by decide +kernel) (Nat.le_of_ble_eq_true rfl) (Or.inl rfl) (fun Rt A hA hr => b_X6_next_5_0 hA 2 b M (ol_if.pos rfl (ol_if.mk (fun c => ?_) (fun c => ⟨r, ?_⟩))))
  · rw [if_pos c] at hr; exact hr
  · rw [if_neg c] at hr; exact hr
/-- only the terms that were read have changed -/
def fr_x (M M' : ol_M) : Prop := (∀ c, c ≠ 5 → ¬ (8 ≤ c ∧ c ≤ 36) → M' c = M c) ∧ ∀ j, j ≠ 3 → j ≠ 4 → M' 5 j = M 5 j
theorem fr_x.rf {M : ol_M} : fr_x M M := ⟨fun _ _ _ => rfl, fun _ _ _ => rfl⟩
theorem fr_x.s5 {M M' : ol_M} (h : fr_x M M') {j v : Int} (hj : j = 3 ∨ j = 4) : fr_x M (ol_ms M' 5 j v) := ⟨fun c a b => (ol_ms_ne _ _ _ a).trans (h.1 c a b), fun i a b => (ol_ms_i _ _ _ (by omega)).trans (h.2 i a b)⟩
theorem fr_x.e {M M' M'' : ol_M} {t : Int} (t0 : 0 ≤ t) (t1 : t < 8) (h : fr_x M M') (f : fr_e t M' M'') : fr_x M M'' := ⟨fun c a b => (f.1 c (by omega) (by omega) (by omega) (by omega) (by omega) (by omega)).trans (h.1 c a b), fun j a b => by rw [f.1 5 (by omega) (by omega) (by omega) (by decide) (by decide) (by decide)]; exact h.2 j a b⟩
theorem x_tm.e {P M M' : ol_M} {t k : Int} (h : x_tm P M k) (k0 : 0 ≤ k) (kt : k < t) (t1 : t < 8) (f : fr_e t M M') : x_tm P M' k := by
  unfold x_tm at *
  have g := f.2 k (by omega)
  rw [g.1, g.2.1, g.2.2, f.1 (8 + k) (by omega) (by omega) (by omega) (by omega) (by omega) (by omega), f.1 (17 + k) (by omega) (by omega) (by omega) (by omega) (by omega) (by omega), f.1 (26 + k) (by omega) (by omega) (by omega) (by omega) (by omega) (by omega)]
  exact h
theorem x_readAgain5 {n : Nat} {S M : ol_M} (hs : sp_ok_t S) (e2 : M 5 2 = S 0 1) (eb : ∀ j, 0 ≤ j → j < S 0 1 → M 6 j = S 2 j) : ∃ M', ol_R (ol_lay n) 5 q_X6_readAgain [.inr (.inr 5)] M none M' ∧ fr_x M M' ∧ ix_q S M' := by
  obtain ⟨o1, o2, o3, o4⟩ := hs
  obtain ⟨N, hN⟩ : ∃ x, x = S 0 1 := ⟨_, rfl⟩
  rw [← hN] at o2 e2 eb o4
  have rN : ol_r N := ⟨by omega, by omega⟩
  have key : ∀ (u : Nat) (i t l e : Int) (P Mi : ol_M), 0 ≤ i → i ≤ N → i + u = 56 → pt_i t l e P → fr_x M Mi → Mi 5 3 = t → Mi 5 4 = -1 → (∀ k, 0 ≤ k → k < t → x_tm P Mi k) → (0 < l → xcur P Mi t l) → ∃ M', ol_T n q_X6_readAgain 4 14 [some (.inr (.inr 5)), some (.inl (if e = 1 then 2 else if l = 0 then 0 else 1)), some (.inl i)] [] Mi none M' ∧ fr_x M M' ∧ M' 5 4 = (pt (S 2) N u i t l e P).1 ∧ M' 5 3 = (pt (S 2) N u i t l e P).2.1 ∧ ∀ k, 0 ≤ k → k < (pt (S 2) N u i t l e P).2.1 → x_tm (pt (S 2) N u i t l e P).2.2 M' k := by
    intro u
    induction u with
    | zero => intro i t l e P Mi i0 i1 i2; omega
    | succ u ih =>
      intro i t l e P Mi i0 i1 i2 hp fr e53 e54 ht hc
      obtain ⟨p1, p2, p3, p4, p5, p6, p7⟩ := id hp
      have ri : ol_r i := ⟨by omega, by omega⟩
      have e52 : Mi 5 2 = N := (fr.2 2 (by decide) (by decide)).trans e2
      obtain ⟨st, hst⟩ : ∃ x : Int, x = (if e = 1 then 2 else if l = 0 then 0 else 1) := ⟨_, rfl⟩
      rw [← hst]
      unfold pt
      have rs : ol_r st := by
        rw [hst]
        repeat' split
        all_goals exact ⟨by decide, by decide⟩
      by_cases c0 : N ≤ i
      · rw [if_pos c0]
        by_cases c1 : 0 < N ∧ e = 0
        · rw [if_pos c1]
          refine ⟨ol_ms (ol_ms Mi 5 3 0) 5 4 N, fun Rt A hA hr => b_X6_readAgain_5_14 hA _ i Mi ?_, (fr.s5 (Or.inl rfl)).s5 (Or.inr rfl), ol_msA _ _ _ _, by rw [ol_ms_i _ _ _ (by decide), ol_msA], fun k k0 k1 => absurd k1 (by show ¬ k < 0; omega)⟩
          rw [e52]
          refine ⟨ri, rN, ol_if.pos c0 ⟨rN, ol_if.neg (by omega) (ol_if.neg ?_ ⟨rs, _, x_refuse5, hr⟩)⟩⟩
          rw [hst, if_neg (by omega)]
          split <;> decide
        · rw [if_neg c1]
          refine ⟨Mi, fun Rt A hA hr => b_X6_readAgain_5_14 hA _ i Mi ?_, fr, e54, e53, ht⟩
          rw [e52]
          refine ⟨ri, rN, ol_if.pos c0 ⟨rN, ol_if.mk (fun _ => hr) (fun d => ol_if.pos ?_ hr)⟩⟩
          rw [hst, if_pos (by omega)]
      rw [if_neg c0]
      have ebi : Mi 6 i = S 2 i := by rw [fr.1 6 (by decide) (by decide)]; exact eb i i0 (by omega)
      have rb := o4 i i0 (by omega)
      have go : ∀ {x : Int} {M7 M' : ol_M}, ol_R (ol_lay n) 4 q_X6_next [.inr (.inr 5), .inl st, .inl (S 2 i)] Mi (some (.inl x)) M7 → x ≠ 3 → ol_r x → ol_T n q_X6_readAgain 4 14 [some (.inr (.inr 5)), some (.inl x), some (.inl (i + 1))] [] M7 none M' → ol_T n q_X6_readAgain 4 14 [some (.inr (.inr 5)), some (.inl st), some (.inl i)] [] Mi none M' := fun nx x3 rx hT Rt A hA hr => b_X6_readAgain_5_14 hA _ i Mi (by
        rw [e52, ebi]
        exact ⟨ri, rN, ol_if.neg c0 ⟨ri, ol_if.neg (by omega) ⟨i0, by omega, _, _, nx, ol_if.neg x3 ⟨rx, hT Rt A hA hr⟩⟩⟩⟩)
      have stop : ∀ {M7 : ol_M}, ol_R (ol_lay n) 4 q_X6_next [.inr (.inr 5), .inl st, .inl (S 2 i)] Mi (some (.inl 3)) M7 → ol_T n q_X6_readAgain 4 14 [some (.inr (.inr 5)), some (.inl st), some (.inl i)] [] Mi none (ol_ms (ol_ms M7 5 3 0) 5 4 i) := fun nx Rt A hA hr => b_X6_readAgain_5_14 hA _ i Mi (by
        rw [e52, ebi]
        exact ⟨ri, rN, ol_if.neg c0 ⟨ri, ol_if.neg (by omega) ⟨i0, by omega, _, _, nx, ol_if.pos rfl ⟨_, x_refuse5, hr⟩⟩⟩⟩)
      by_cases ce : e = 1
      · -- behind a term
        rw [if_neg (fun q => by omega), if_neg (fun q => by omega)]
        have nx := @x_next5e n Mi (S 2 i) ⟨by omega, by omega⟩
        by_cases c3 : e = 1 ∧ S 2 i = 59
        · rw [if_pos c3]
          rw [if_pos c3.2] at nx
          subst ce
          have l0 : l = 0 := p4 rfl
          obtain ⟨M', hT, hf, h4, h3, hP⟩ := ih (i + 1) t l 0 P Mi (by omega) (by omega) (by omega) hp.next fr e53 e54 ht hc
          rw [if_neg (by decide), if_pos l0] at hT
          exact ⟨M', go (by rw [hst, if_pos rfl]; exact nx) (by decide) ⟨by decide, by decide⟩ hT, hf, h4, h3, hP⟩
        · rw [if_neg c3]
          rw [if_neg (fun q => c3 ⟨ce, q⟩)] at nx
          exact ⟨_, stop (by rw [hst, if_pos ce]; exact nx), (fr.s5 (Or.inl rfl)).s5 (Or.inr rfl), ol_msA _ _ _ _, by rw [ol_ms_i _ _ _ (by decide), ol_msA], fun k k0 k1 => absurd k1 (by show ¬ k < 0; omega)⟩
      · have e0 : e = 0 := by omega
        obtain ⟨n1, n2, n3⟩ := @x_next5 n P Mi t l st (S 2 i) e53 p1.1 p1.2 p2.1 p2.2 rb (by rw [hst, if_neg ce]) p5 hc
        by_cases c1 : e = 0 ∧ (97 ≤ S 2 i ∧ S 2 i ≤ 104) ∧ l < 6 ∧ t < 8
        · rw [if_pos c1]
          obtain ⟨M7, nx, f7, x7⟩ := n1 c1.2
          have c2 := c1.2
          subst e0
          obtain ⟨M', hT, hf, h4, h3, hP⟩ := ih (i + 1) t (l + 1) 0 (ol_ms P (10 + t) l (S 2 i - 97)) M7 (by omega) (by omega) (by omega) (hp.letter c2) (fr.e p1.1 c2.2.2 f7) (by rw [f7.1 5 (by omega) (by omega) (by omega) (by decide) (by decide) (by decide)]; exact e53) (by rw [f7.1 5 (by omega) (by omega) (by omega) (by decide) (by decide) (by decide)]; exact e54) (fun k k0 k1 => by
            have z := (ht k k0 k1).e k0 k1 c2.2.2 f7
            unfold x_tm at z ⊢
            rw [ol_ms_ne P _ _ (show (0 : Int) ≠ 10 + t by omega), ol_ms_ne P _ _ (show (1 : Int) ≠ 10 + t by omega), ol_ms_ne P _ _ (show (10 + k : Int) ≠ 10 + t by omega)]
            exact z) (fun _ => x7)
          rw [if_neg (by decide), if_neg (by omega)] at hT
          exact ⟨M', go nx (by decide) ⟨by decide, by decide⟩ hT, hf, h4, h3, hP⟩
        rw [if_neg c1]
        by_cases c2 : e = 0 ∧ (48 ≤ S 2 i ∧ S 2 i ≤ 57) ∧ 0 < l
        · rw [if_pos c2]
          have nx := n2 c2.2
          have c3 := c2.2
          subst e0
          have t8 : t < 8 := by by_cases q : t = 8; have := p5 q; omega; omega
          obtain ⟨y1, y2, y3, y4, y5⟩ := hc c3.2
          obtain ⟨M7, hM7⟩ : ∃ x, x = ol_ms (ol_ms Mi 36 t (S 2 i - 48)) 5 3 (t + 1) := ⟨_, rfl⟩
          rw [← hM7] at nx
          have m7 : ∀ c, c ≠ 5 → c ≠ 36 → M7 c = Mi c := fun c a b => by rw [hM7, ol_ms_ne _ _ _ a, ol_ms_ne _ _ _ b]
          have m36 : M7 36 = ol_rs (Mi 36) t (S 2 i - 48) := by rw [hM7, ol_ms_ne _ _ _ (by decide), ol_ms_row]
          have m53 : M7 5 3 = t + 1 := by rw [hM7, ol_msA]
          have m54 : M7 5 4 = -1 := by rw [hM7, ol_ms_i _ _ _ (by decide), ol_ms_ne _ _ _ (by decide)]; exact e54
          have fr7 : fr_x M M7 := ⟨fun c a b => (m7 c a (by omega)).trans (fr.1 c a b), fun j a b => by rw [hM7, ol_ms_i _ _ _ a, ol_ms_ne _ _ _ (by decide)]; exact fr.2 j a b⟩
          obtain ⟨M', hT, hf, h4, h3, hP⟩ := ih (i + 1) (t + 1) 0 1 (ol_ms (ol_ms P 0 t l) 1 t (S 2 i - 48)) M7 (by omega) (by omega) (by omega) (hp.figure c3) fr7 m53 m54 (fun k k0 k1 => by
            unfold x_tm
            rw [m7 34 (by decide) (by decide), m7 35 (by decide) (by decide), m36, m7 (8 + k) (by omega) (by omega), m7 (17 + k) (by omega) (by omega), m7 (26 + k) (by omega) (by omega)]
            rw [ol_ms_ne _ _ _ (show (0 : Int) ≠ 1 by decide), ol_ms_row, ol_ms_row, ol_ms_ne _ _ _ (show (1 : Int) ≠ 0 by decide), ol_ms_ne _ _ _ (show (10 + k : Int) ≠ 1 by omega), ol_ms_ne _ _ _ (show (10 + k : Int) ≠ 0 by omega)]
            by_cases q : k = t
            · rw [q, ol_rsA, ol_rsA, ol_rsA]
              exact ⟨y1, rfl, y3, y4, y5, y2⟩
            · rw [ol_rsN _ _ q, ol_rsN _ _ q, ol_rsN _ _ q]
              exact ht k k0 (by omega)) (fun q => absurd q (by decide))
          rw [if_pos rfl] at hT
          exact ⟨M', go nx (by decide) ⟨by decide, by decide⟩ hT, hf, h4, h3, hP⟩
        rw [if_neg c2, if_neg (fun q => ce q.1)]
        obtain ⟨M7, nx, f7, f8⟩ := n3 (fun q => c1 ⟨e0, q⟩) (fun q => c2 ⟨e0, q⟩)
        have fr7 : fr_x M M7 := by
          by_cases q : t < 8
          · exact fr.e p1.1 q (f7 q)
          · rw [f8 (by omega)]; exact fr
        exact ⟨_, stop nx, (fr7.s5 (Or.inl rfl)).s5 (Or.inr rfl), ol_msA _ _ _ _, by rw [ol_ms_i _ _ _ (by decide), ol_msA], fun k k0 k1 => absurd k1 (by show ¬ k < 0; omega)⟩
  obtain ⟨M', hT, hf, h4, h3, hP⟩ := key 56 0 0 0 0 (fun _ _ => 0) (ol_ms (ol_ms M 5 3 0) 5 4 (-1)) (by decide) (by omega) (by decide) pt_i0 ((fr_x.rf.s5 (Or.inl rfl)).s5 (Or.inr rfl)) (by rw [ol_ms_i _ _ _ (by decide), ol_msA]) (ol_msA _ _ _ _) (fun k k0 k1 => by omega) (fun q => absurd q (by decide))
  have ept : sp_pt S = pt (S 2) N 56 0 0 0 0 (fun _ _ => 0) := by unfold sp_pt; rw [← hN]
  refine ⟨M', ol_Ri (q := q_X6_readAgain) (by decide +kernel) (Nat.le_of_ble_eq_true rfl) rfl (fun Rt A hA hr => b_X6_readAgain_5_0 hA M ?_), hf, ?_⟩
  · exact hT Rt A hA hr
  · unfold ix_q sp_nT sp_tf
    rw [ept]
    exact ⟨h3, h4, hP⟩
