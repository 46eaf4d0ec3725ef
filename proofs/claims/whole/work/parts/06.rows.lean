section OLS
variable {p : Program} {l : Launch} {e : Env} {R : Room} {s : State} {m : MethodId} {args : Array Value} {below : List Frame} {meth : Method} {c : Code} {cells slots : Nat} {Q : State → Prop}
variable {cc : ByteArray} {nL : Nat} {own : String} {d : Nat} {D : va_G} {ad : Int → Nat} {cI cJ : ClassId} {lay : ol_L}
/-- what stands fast in a frame -/
def ol_Fr (p : Program) (R : Room) (s : State) (m : MethodId) (args : Array Value) (c : Code) (cells slots : Nat) (cc : ByteArray) (nL : Nat) (own : String) (d : Nat) (D : va_G) (ad : Int → Nat) (cI cJ : ClassId) (lay : ol_L) : Prop :=
  p.tables.exec = Jvm.exec ∧ c.code = cc ∧ c.maxLocals = nL ∧ s.vm.findClass own = some m.cls ∧ (∀ w ∈ ol_gt, w.before args s = true) ∧ ol_K D ad cI cJ lay s ∧ d + 1 ≤ R.frames ∧ 60 * (d + 1) ≤ R.locals ∧ cells ≤ R.cells ∧ slots ≤ R.slots
def ol_AW (p : Program) (l : Launch) (e : Env) (R : Room) (s : State) (m : MethodId) (args : Array Value) (below : List Frame) (meth : Method) (c : Code) (cells slots : Nat) (Q : State → Prop) (nL : Nat) (D : va_G) (ad : Int → Nat) (cI cJ : ClassId) (lay : ol_L) (pc : Nat) (ls : ol_Ls) (st : ol_St) (M : ol_M) : Prop :=
  ∀ (a : Array Slot) (H : Heap) (locs : List Loc), ol_lv ad a nL ls → ol_H D ad cI cJ lay M H → va_S (ol_A ad lay) s.heap H locs → W p l e R s m args below meth c H locs cells slots Q (F0 m pc a (st.map (ol_cv ad)))
def ol_ri (v : Option ol_V) : Instr := match v with
  | none => .return_
  | some (.inl _) => .ireturn
  | some (.inr (.inl _)) => .lreturn
  | some (.inr (.inr _)) => .areturn
def ol_RW (p : Program) (l : Launch) (e : Env) (R : Room) (s : State) (m : MethodId) (args : Array Value) (below : List Frame) (meth : Method) (c : Code) (cells slots : Nat) (Q : State → Prop) (cc : ByteArray) (D : va_G) (ad : Int → Nat) (cI cJ : ClassId) (lay : ol_L) (v : Option ol_V) (M : ol_M) : Prop :=
  ∀ (pc : Nat) (a : Array Slot) (H : Heap) (locs : List Loc), ol_H D ad cI cJ lay M H → va_S (ol_A ad lay) s.heap H locs → decode cc pc = .ok (ol_ri v, 1) → W p l e R s m args below meth c H locs cells slots Q (F0 m pc a (v.toList.map (ol_cv ad)))
/-- one cell of the world, as the kit's rows take it -/
theorem ol_H.one {M : ol_M} {H : Heap} (h : ol_H D ad cI cJ lay M H) {k : Int} {y : ol_Y} (hk : lay k = some y) : va_P D ol_cls [(ad k, ol_E ad cI cJ M k y)] H := by
  intro j q hq
  have h0 : j < 1 := (List.getElem?_eq_some_iff.mp hq).1
  rw [show j = 0 by omega] at hq
  cases hq
  exact h k y hk
theorem ol_fs_len (M : ol_M) (k : Int) (fs : List (Option Int)) (n : Nat) : (ol_fs ad M k n fs).length = fs.length := by
  induction fs generalizing n with
  | nil => rfl
  | cons o r ih => simp [ol_fs, ih]
theorem ol_fs_get (M : ol_M) (k : Int) (fs : List (Option Int)) (n j : Nat) : (ol_fs ad M k n fs)[j]? = (fs[j]?).map (fun o => ol_cv ad (ol_fv M k (n + j) o)) := by
  induction fs generalizing n j with
  | nil => simp [ol_fs]
  | cons o r ih =>
    cases j with
    | zero => simp [ol_fs]
    | succ j =>
      simp only [ol_fs, List.getElem?_cons_succ, ih]
      rw [show n + 1 + j = n + (j + 1) by omega]
theorem ol_fs_set (M : ol_M) (k : Int) (fs : List (Option Int)) (j : Nat) (a : Int) (hj : fs[j]? = some none) : (ol_fs ad M k 0 fs).set j (.int (Int32.ofInt a)) = ol_fs ad (ol_ms M k j a) k 0 fs := by
  apply List.ext_getElem?
  intro i
  rw [ol_fs_get, List.getElem?_set]
  have hl : j < fs.length := (List.getElem?_eq_some_iff.mp hj).1
  by_cases h : j = i
  · subst h
    simp only [if_true, ol_fs_len, hl, hj, Option.map_some, Nat.zero_add]
    simp [ol_fv, ol_ms, ol_mp, ol_rs, ol_cv]
  · rw [if_neg h, ol_fs_get]
    congr 1
    funext o
    cases o with
    | none =>
      have : ¬ ((0 + i : Nat) : Int) = (j : Int) := by omega
      simp only [ol_fv, ol_ms, ol_mp, ol_rs, if_true, if_neg this]
    | some t => rfl
theorem ol_E_ne {M : ol_M} {k k' : Int} (f : Int → Int) (y : ol_Y) (h : k' ≠ k) : ol_E ad cI cJ (ol_mp M k f) k' y = ol_E ad cI cJ M k' y := by
  have e : ol_mp M k f k' = M k' := if_neg h
  have e2 : ∀ (n : Nat) (fs : List (Option Int)), ol_fs ad (ol_mp M k f) k' n fs = ol_fs ad M k' n fs := by
    intro n fs
    apply List.ext_getElem?
    intro i
    rw [ol_fs_get, ol_fs_get]
    congr 1
    funext o
    cases o with
    | none => simp only [ol_fv, e]
    | some t => rfl
  rcases y with n | ⟨n, b⟩ | ⟨ci, fs⟩
  · simp only [ol_E, e]
  · rfl
  · simp only [ol_E, e2]
/-- a cell is changed, the others stay -/
theorem ol_H.set {M : ol_M} {H H1 : Heap} (h : ol_H D ad cI cJ lay M H) (hinj : ∀ (i j : Int) (yi yj : ol_Y), lay i = some yi → lay j = some yj → ad i = ad j → i = j) {k : Int} {y : ol_Y} (hk : lay k = some y) (f : Int → Int) (hn : va_at D ol_cls (ad k, ol_E ad cI cJ (ol_mp M k f) k y) H1) (oq : ∀ q : Nat, q ≠ ad k → H1[q]? = H[q]?) : ol_H D ad cI cJ lay (ol_mp M k f) H1 := by
  intro k' y' hk'
  by_cases e : k' = k
  · subst e
    cases hk.symm.trans hk'
    exact hn
  · rw [ol_E_ne f y' e]
    exact (h k' y' hk').kept (oq _ (fun q => e (hinj k' k y' y hk' hk q)))
end OLS
