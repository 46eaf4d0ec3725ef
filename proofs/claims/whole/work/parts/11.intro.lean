/-! A METHOD BY ITS CODE -/
def ol_en : List ol_V → ol_Ls
  | [] => []
  | .inr (.inl b) :: r => some (.inr (.inl b)) :: none :: ol_en r
  | v :: r => some v :: ol_en r
def ol_nn : Nat → ol_Ls
  | 0 => []
  | n + 1 => none :: ol_nn n
def ol_ent (as : List ol_V) (n : Nat) : ol_Ls := ol_en as ++ ol_nn (n - (ol_en as).length)
def ol_rok (ret : Option FieldType) (v : Option ol_V) : Prop := match v with
  | none => ret = none
  | some (.inl a) => ret = some .int ∨ (ret = some .boolean ∧ (a = 0 ∨ a = 1))
  | some (.inr (.inl _)) => ret = some .long
  | some (.inr (.inr _)) => ∃ n, ret = some (.object n)
theorem ol_en_len (ad : Int → Nat) (as : List ol_V) : (lg_sl (as.map (ol_cv ad))).length = (ol_en as).length := by
  induction as with
  | nil => rfl
  | cons v r ih =>
    have e : lg_sl ((v :: r).map (ol_cv ad)) = (if (ol_cv ad v).category = 2 then [Slot.val (ol_cv ad v), .second] else [.val (ol_cv ad v)]) ++ lg_sl (r.map (ol_cv ad)) := by
      simp [lg_sl]
    rw [e, List.length_append, ih]
    rcases v with a | b | k <;> simp [ol_en, ol_cv, Value.category] <;> omega
theorem ol_en_mem (ad : Int → Nat) : ∀ (as : List ol_V) (n j : Nat) (v : ol_V), (ol_en as)[j]? = some (some v) → (n + j, ol_cv ad v) ∈ lv_args n (as.map (ol_cv ad)) := by
  intro as
  induction as with
  | nil => intro n j v h; simp [ol_en] at h
  | cons w r ih =>
    intro n j v h
    rcases w with a | b | k
    · cases j with
      | zero => simp [ol_en] at h; subst h; simp [lv_args]
      | succ j =>
        have := ih (n + 1) j v (by simpa [ol_en] using h)
        rw [show n + 1 + j = n + (j + 1) by omega] at this
        exact List.mem_cons_of_mem _ this
    · match j, h with
      | 0, h => simp [ol_en] at h; subst h; simp [lv_args]
      | 1, h => simp [ol_en] at h
      | j + 2, h =>
        have := ih (n + 2) j v (by simpa [ol_en] using h)
        rw [show n + 2 + j = n + (j + 2) by omega] at this
        exact List.mem_cons_of_mem _ this
    · cases j with
      | zero => simp [ol_en] at h; subst h; simp [lv_args]
      | succ j =>
        have := ih (n + 1) j v (by simpa [ol_en] using h)
        rw [show n + 1 + j = n + (j + 1) by omega] at this
        exact List.mem_cons_of_mem _ this
theorem ol_nn_get (n j : Nat) (v : ol_V) : (ol_nn n)[j]? ≠ some (some v) := by
  induction n generalizing j with
  | zero => simp [ol_nn]
  | succ n ih =>
    cases j with
    | zero => simp [ol_nn]
    | succ j => simpa [ol_nn] using ih j
theorem ol_nn_len (n : Nat) : (ol_nn n).length = n := by
  induction n with
  | zero => rfl
  | succ n ih => simp [ol_nn, ih]
theorem ol_lv_entry (ad : Int → Nat) (as : List ol_V) {n : Nat} (h : (ol_en as).length ≤ n) : ol_lv ad ((lg_sl (as.map (ol_cv ad)) ++ List.replicate (n - (lg_sl (as.map (ol_cv ad))).length) Slot.unset).toArray) n (ol_ent as n) := by
  have hl := lv_entry (as.map (ol_cv ad)) (n := n) (by rw [ol_en_len]; exact h)
  refine ⟨hl.1, hl.2.1, by rw [ol_ent, List.length_append, ol_nn_len]; omega, fun i v hi => ?_⟩
  have hm : (0 + i, ol_cv ad v) ∈ lv_args 0 (as.map (ol_cv ad)) := by
    by_cases hlt : i < (ol_en as).length
    · rw [ol_ent, List.getElem?_append_left hlt] at hi
      exact ol_en_mem ad as 0 i v hi
    · rw [ol_ent, List.getElem?_append_right (by omega)] at hi
      exact absurd hi (ol_nn_get _ _ _)
  rw [Nat.zero_add] at hm
  exact hl.2.2 _ hm
theorem ol_Ri {lay : ol_L} {d : Nat} {q : ol_MD} {as : List ol_V} {M : ol_M} {v : Option ol_V} {M' : ol_M} (hpl : plainName q.1.cls = true) (hlen : (ol_en as).length ≤ q.2.2.1) (hro : ol_rok q.2.2.2 v)
    (body : ∀ (Rt : Option ol_V → ol_M → Prop) (A : Nat → ol_Ls → ol_St → ol_M → Prop), ol_C q.1.cls q.2.1 d lay Rt A → Rt v M' → A 0 (ol_ent as q.2.2.1) [] M) : ol_R lay (d + 1) q as M v M' := by
  intro l D ad cI cJ
  refine Met.ofW (cc := q.2.1) (maxL := q.2.2.1) (ret := q.2.2.2) hpl rfl ?_
  intro p e s m args below meth c s₁ B hml hv
  obtain ⟨rfl, hH, hK⟩ := hv
  have hts0 := atoms_spec (ws := ol_ws q) B.pre
  have hts : ∀ w ∈ ol_gt, w.before (as.map (ol_cv ad)).toArray s = true := fun w hw => hts0 w (List.mem_cons_of_mem _ hw)
  have hown : s.vm.findClass q.1.cls = some m.cls := findClass_of_methodNamed B.named
  have F : ol_Fr p (headSpec (ol_ws q) (ol_rm (d + 1))).room s m (as.map (ol_cv ad)).toArray c 0 0 q.2.1 q.2.2.1 q.1.cls d D ad cI cJ lay := ⟨B.exec, B.bytes, hml, hown, hts, hK, Nat.le_refl _, Nat.le_refl _, Nat.zero_le _, Nat.zero_le _⟩
  have hS : va_S (ol_A ad lay) s.heap s.heap [] := va_S.rf
  have hlocks := B.notSynchronized
  have hR : ol_RW p l e (headSpec (ol_ws q) (ol_rm (d + 1))).room s m (as.map (ol_cv ad)).toArray below meth c 0 0 (MQ below (fun _ st oc t => oc = .returned (v.map (ol_cv ad)) ∧ ol_H D ad cI cJ lay M' t.heap ∧ va_F (ol_A ad lay) st t) (as.map (ol_cv ad)).toArray s 0 0 (ol_A ad lay)) q.2.1 D ad cI cJ lay v M' := by
    intro pc a H locs hH1 hS1 hdg
    have hr := B.returns
    match v, hro, hdg with
    | none, hro, hdg =>
      exact W.vret B.exec B.bytes (hr.trans hro) (fun t ht hW => ⟨rfl, by rw [ht]; exact hH1, hS1.F ht⟩) hS1.2.2 hdg
    | some (.inl x), hro, hdg =>
      obtain ⟨ty, h1, h2⟩ : ∃ ty, q.2.2.2 = some ty ∧ narrow ty (.int (Int32.ofInt x)) = .int (Int32.ofInt x) := by
        rcases hro with h | ⟨h, rfl | rfl⟩
        · exact ⟨_, h, rfl⟩
        · exact ⟨_, h, by decide⟩
        · exact ⟨_, h, by decide⟩
      exact W.zret B.exec B.bytes (hr.trans h1) h2 (fun t ht hW => ⟨rfl, by rw [ht]; exact hH1, hS1.F ht⟩) hS1.2.2 hdg
    | some (.inr (.inl x)), hro, hdg =>
      exact W.lret B.exec B.bytes (hr.trans hro) (fun t ht hW => ⟨rfl, by rw [ht]; exact hH1, hS1.F ht⟩) hS1.2.2 hdg
    | some (.inr (.inr x)), hro, hdg =>
      obtain ⟨n, hn⟩ := hro
      exact W.aret B.exec B.bytes (hr.trans hn) (Or.inl ⟨n, rfl⟩) (Or.inr ⟨_, rfl⟩) (fun t ht hW => ⟨rfl, by rw [ht]; exact hH1, hS1.F ht⟩) hS1.2.2 hdg
  have K := body _ _ (ol_closed (Q := MQ below (fun _ st oc t => oc = .returned (v.map (ol_cv ad)) ∧ ol_H D ad cI cJ lay M' t.heap ∧ va_F (ol_A ad lay) st t) (as.map (ol_cv ad)).toArray s 0 0 (ol_A ad lay)) (l := l) (e := e) (below := below) (meth := meth) F) hR
  rw [lg_entry_eq]
  exact K _ _ _ (ol_lv_entry ad as hlen) hH hS
