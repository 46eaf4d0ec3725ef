/-! THE ROWS OF THE KIT GIVE IT: a frame of the machine is such a predicate -/
theorem ol_ctc (ad : Int → Nat) (v : ol_V) : (ol_cv ad v).category = ol_ct v := by
  rcases v with a | b | k <;> rfl
theorem ol_smc (ad : Int → Nat) (st : ol_St) : ((st.map (ol_cv ad)).map fun v => v.category).sum = ol_sm st := by
  induction st with
  | nil => rfl
  | cons v r ih => simp only [List.map_cons, List.sum_cons, ol_sm, ih, ol_ctc]
theorem ol_up_get (g : Nat → Option ol_V → Option ol_V) (ls : ol_Ls) (n j : Nat) : (ol_up g n ls)[j]? = (ls[j]?).map (g (n + j)) := by
  induction ls generalizing n j with
  | nil => simp [ol_up]
  | cons o r ih =>
    cases j with
    | zero => simp [ol_up]
    | succ j => simp only [ol_up, List.getElem?_cons_succ, ih]; rw [show n + 1 + j = n + (j + 1) by omega]
theorem ol_up_len (g : Nat → Option ol_V → Option ol_V) (ls : ol_Ls) (n : Nat) : (ol_up g n ls).length = ls.length := by
  induction ls generalizing n with
  | nil => rfl
  | cons o r ih => simp [ol_up, ih]
def ol_lv (ad : Int → Nat) (a : Array Slot) (nL : Nat) (ls : ol_Ls) : Prop := a.size = nL ∧ lv_wf a ∧ ls.length = nL ∧ ∀ (i : Nat) (v : ol_V), ls[i]? = some (some v) → a[i]? = some (.val (ol_cv ad v))
def ol_prs (ad : Int → Nat) : Nat → ol_Ls → List (Nat × Value)
  | _, [] => []
  | n, none :: r => ol_prs ad (n + 1) r
  | n, some v :: r => (n, ol_cv ad v) :: ol_prs ad (n + 1) r
theorem ol_prs_mem {ad : Int → Nat} {ls : ol_Ls} {n : Nat} {q : Nat × Value} : q ∈ ol_prs ad n ls ↔ ∃ (j : Nat) (v : ol_V), ls[j]? = some (some v) ∧ q = (n + j, ol_cv ad v) := by
  induction ls generalizing n with
  | nil => simp [ol_prs]
  | cons o r ih =>
    cases o with
    | none =>
      simp only [ol_prs, ih]
      constructor
      · rintro ⟨j, v, h1, h2⟩
        exact ⟨j + 1, v, by simpa using h1, by rw [h2]; simp; omega⟩
      · rintro ⟨j, v, h1, h2⟩
        cases j with
        | zero => simp at h1
        | succ j => exact ⟨j, v, by simpa using h1, by rw [h2]; simp; omega⟩
    | some w =>
      simp only [ol_prs, List.mem_cons, ih]
      constructor
      · rintro (rfl | ⟨j, v, h1, h2⟩)
        · exact ⟨0, w, rfl, rfl⟩
        · exact ⟨j + 1, v, by simpa using h1, by rw [h2]; simp; omega⟩
      · rintro ⟨j, v, h1, h2⟩
        cases j with
        | zero => simp at h1; subst h1; exact Or.inl h2
        | succ j => exact Or.inr ⟨j, v, by simpa using h1, by rw [h2]; simp; omega⟩
theorem ol_lv.has {ad : Int → Nat} {a : Array Slot} {nL : Nat} {ls : ol_Ls} (h : ol_lv ad a nL ls) : lv_has a nL (ol_prs ad 0 ls) := by
  refine ⟨h.1, h.2.1, fun q hq => ?_⟩
  obtain ⟨j, v, h1, rfl⟩ := ol_prs_mem.mp hq
  simpa using h.2.2.2 j v h1
theorem ol_islc {ad : Int → Nat} {v : ol_V} : ol_isl (some v) = true ↔ (ol_cv ad v).category = 2 := by
  rcases v with a | b | k <;> simp [ol_isl, ol_cv, Value.category]
theorem ol_lv.st1 {ad : Int → Nat} {a b : Array Slot} {nL : Nat} {ls : ol_Ls} (h : ol_lv ad a nL ls) {i : Nat} {v : ol_V} (hb : lv_has b nL ((i, ol_cv ad v) :: (ol_prs ad 0 ls).filter (fun q => !(q.1 == i) && !(q.1 + 1 == i && q.2.category == 2)))) : ol_lv ad b nL (ol_s1 ls i v) := by
  refine ⟨hb.1, hb.2.1, by rw [ol_s1, ol_up_len]; exact h.2.2.1, fun j w hj => ?_⟩
  rw [ol_s1, ol_up_get] at hj
  cases hl : ls[j]? with
  | none => rw [hl] at hj; cases hj
  | some o =>
    rw [hl] at hj
    simp only [Option.map_some, Nat.zero_add, Option.some.injEq] at hj
    by_cases hji : j = i
    · subst hji
      rw [show Nat.beq j j = true from Nat.beq_refl j] at hj
      simp only [cond_true, Option.some.injEq] at hj
      subst hj
      exact hb.2.2 (j, ol_cv ad v) List.mem_cons_self
    · rw [show Nat.beq j i = false from Bool.eq_false_iff.mpr (fun q => hji (Nat.eq_of_beq_eq_true q))] at hj
      simp only [cond_false] at hj
      cases hq : (Nat.beq (j + 1) i && ol_isl o) with
      | true => rw [hq] at hj; simp at hj
      | false =>
        rw [hq] at hj
        simp only [cond_false] at hj
        subst hj
        refine hb.2.2 (j, ol_cv ad w) (List.mem_cons_of_mem _ (List.mem_filter.mpr ⟨ol_prs_mem.mpr ⟨j, w, hl, by simp⟩, ?_⟩))
        rw [Bool.and_eq_false_iff] at hq
        simp only [Bool.and_eq_true, Bool.not_eq_true', beq_eq_false_iff_ne, ne_eq, hji, not_false_eq_true, true_and, Bool.and_eq_false_iff]
        rcases hq with hq | hq
        · left
          intro e
          simp [e] at hq
        · right
          intro e
          rw [(ol_islc (ad := ad)).mpr e] at hq
          cases hq
theorem ol_lv.st2 {ad : Int → Nat} {a b : Array Slot} {nL : Nat} {ls : ol_Ls} (h : ol_lv ad a nL ls) {i : Nat} {v : ol_V} (hb : lv_has b nL ((i, ol_cv ad v) :: (ol_prs ad 0 ls).filter (fun q => !(q.1 == i) && (!(q.1 == i + 1) && !(q.1 + 1 == i && q.2.category == 2))))) : ol_lv ad b nL (ol_s2 ls i v) := by
  refine ⟨hb.1, hb.2.1, by rw [ol_s2, ol_up_len]; exact h.2.2.1, fun j w hj => ?_⟩
  rw [ol_s2, ol_up_get] at hj
  cases hl : ls[j]? with
  | none => rw [hl] at hj; cases hj
  | some o =>
    rw [hl] at hj
    simp only [Option.map_some, Nat.zero_add, Option.some.injEq] at hj
    by_cases hji : j = i
    · subst hji
      rw [show Nat.beq j j = true from Nat.beq_refl j] at hj
      simp only [cond_true, Option.some.injEq] at hj
      subst hj
      exact hb.2.2 (j, ol_cv ad v) List.mem_cons_self
    · rw [show Nat.beq j i = false from Bool.eq_false_iff.mpr (fun q => hji (Nat.eq_of_beq_eq_true q))] at hj
      simp only [cond_false] at hj
      by_cases hji1 : j = i + 1
      · subst hji1
        rw [show Nat.beq (i + 1) (i + 1) = true from Nat.beq_refl _] at hj
        simp at hj
      · rw [show Nat.beq j (i + 1) = false from Bool.eq_false_iff.mpr (fun q => hji1 (Nat.eq_of_beq_eq_true q))] at hj
        simp only [cond_false] at hj
        cases hq : (Nat.beq (j + 1) i && ol_isl o) with
        | true => rw [hq] at hj; simp at hj
        | false =>
          rw [hq] at hj
          simp only [cond_false] at hj
          subst hj
          refine hb.2.2 (j, ol_cv ad w) (List.mem_cons_of_mem _ (List.mem_filter.mpr ⟨ol_prs_mem.mpr ⟨j, w, hl, by simp⟩, ?_⟩))
          rw [Bool.and_eq_false_iff] at hq
          simp only [Bool.and_eq_true, Bool.not_eq_true', beq_eq_false_iff_ne, ne_eq, hji, hji1, not_false_eq_true, true_and, Bool.and_eq_false_iff]
          rcases hq with hq | hq
          · left
            intro e
            simp [e] at hq
          · right
            intro e
            rw [(ol_islc (ad := ad)).mpr e] at hq
            cases hq
theorem ol_lv.le {ad : Int → Nat} {a : Array Slot} {nL : Nat} {ls ls0 : ol_Ls} (h : ol_lv ad a nL ls) (hle : ol_le ls0 ls) : ol_lv ad a nL ls0 := by
  have key : ∀ (l0 l1 : ol_Ls), ol_le l0 l1 → l0.length = l1.length ∧ ∀ (i : Nat) (v : ol_V), l0[i]? = some (some v) → l1[i]? = some (some v) := by
    intro l0
    induction l0 with
    | nil =>
      intro l1 h
      cases l1 with
      | nil => exact ⟨rfl, fun i v h => by simp at h⟩
      | cons o r => exact absurd h (by simp [ol_le])
    | cons o0 r0 ih =>
      intro l1 h
      cases l1 with
      | nil => cases o0 <;> exact absurd h (by simp [ol_le])
      | cons o r =>
        cases o0 with
        | none =>
          obtain ⟨e1, e2⟩ := ih r h
          refine ⟨by simp [e1], fun i v hi => ?_⟩
          cases i with
          | zero => simp at hi
          | succ i => simpa using e2 i v (by simpa using hi)
        | some w =>
          obtain ⟨rfl, h2⟩ := h
          obtain ⟨e1, e2⟩ := ih r h2
          refine ⟨by simp [e1], fun i v hi => ?_⟩
          cases i with
          | zero => simpa using hi
          | succ i => simpa using e2 i v (by simpa using hi)
  obtain ⟨e1, e2⟩ := key ls0 ls hle
  exact ⟨h.1, h.2.1, e1.trans h.2.2.1, fun i v hi => h.2.2.2 i v (e2 i v hi)⟩
