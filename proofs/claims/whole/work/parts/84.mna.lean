/-! AN ARRAY OF ARRAYS OF INTS is made: multianewarray of two dimensions -/
def mg_o (cA : ClassId) (N h i : Nat) : Cell := { cls := cA, slots := Array.ofFn (n := N) (fun j => if j.val < i then Value.ref (h + 1 + j.val) else Value.null), vm := .none }
def mg_i (cI : ClassId) (K : Nat) : Cell := { cls := cI, slots := Array.replicate K (.int 0), vm := .none }
theorem mg_o_size (cA : ClassId) (N h i : Nat) : (mg_o cA N h i).slots.size = N := by simp [mg_o]
theorem mg_o_get (cA : ClassId) (N h i j : Nat) : (mg_o cA N h i).slots[j]? = if j < N then some (if j < i then Value.ref (h + 1 + j) else Value.null) else none := by
  by_cases q : j < N
  · simp [mg_o, q]
  · simp [mg_o, q]
theorem mg_o_set (cA : ClassId) {N h i : Nat} : (mg_o cA N h i).setSlot i (.ref (h + 1 + i)) = mg_o cA N h (i + 1) := by
  have e : (mg_o cA N h i).slots.setIfInBounds i (.ref (h + 1 + i)) = (mg_o cA N h (i + 1)).slots := by
    apply Array.ext_getElem?
    intro j
    rw [Array.getElem?_setIfInBounds, mg_o_get, mg_o_get, mg_o_size]
    by_cases q : i = j
    · subst q
      rw [if_pos rfl]
      by_cases r : i < N
      · rw [if_pos r, if_pos r, if_pos (by omega)]
      · rw [if_neg r, if_neg r]
    · rw [if_neg q]
      by_cases r : j < i
      · rw [if_pos r, if_pos (show j < i + 1 by omega)]
      · rw [if_neg r, if_neg (show ¬ j < i + 1 by omega)]
  show ({ (mg_o cA N h i) with slots := (mg_o cA N h i).slots.setIfInBounds i (.ref (h + 1 + i)) } : Cell) = _
  rw [e]
  rfl
theorem mg_o_zero (cA : ClassId) (N h : Nat) : ({ cls := cA, slots := Array.replicate N .null } : Cell) = mg_o cA N h 0 := by
  have e : Array.replicate N Value.null = (mg_o cA N h 0).slots := by
    apply Array.ext
    · simp [mg_o]
    · intro j h1 h2
      simp [mg_o]
  rw [e]
  rfl
/-- the first i rows are made -/
def mg_T (T : State) (cA cI : ClassId) (N K : Nat) : Nat → State
  | 0 => T.pushCell (mg_o cA N T.heap.size 0)
  | i + 1 => ((mg_T T cA cI N K i).pushCell (mg_i cI K)).setCell T.heap.size (mg_o cA N T.heap.size (i + 1))
theorem mg_T_f (T : State) (cA cI : ClassId) (N K : Nat) : ∀ i, (mg_T T cA cI N K i).heap.size = T.heap.size + 1 + i ∧ (mg_T T cA cI N K i).heap[T.heap.size]? = some (mg_o cA N T.heap.size i) ∧ (mg_T T cA cI N K i).vm = T.vm ∧ (∀ q, q < T.heap.size → (mg_T T cA cI N K i).heap[q]? = T.heap[q]?) ∧ (∀ j, j < i → (mg_T T cA cI N K i).heap[T.heap.size + 1 + j]? = some (mg_i cI K)) := by
  intro i
  induction i with
  | zero => exact ⟨by simp [mg_T], by simp [mg_T], rfl, fun q h => State.heap_pushCell_of_lt _ _ h, fun j h => absurd h (Nat.not_lt_zero _)⟩
  | succ i ih =>
    obtain ⟨h1, h2, h3, h4, h5⟩ := ih
    have lt : T.heap.size < (mg_T T cA cI N K i).heap.size := by omega
    have hc : ((mg_T T cA cI N K i).pushCell (mg_i cI K)).heap[T.heap.size]? = some (mg_o cA N T.heap.size i) := by
      rw [State.heap_pushCell_of_lt (h := lt)]; exact h2
    refine ⟨?_, State.heap_setCell_self hc, ?_, fun q hq => ?_, fun j hj => ?_⟩
    · simp [mg_T, State.setCell, h1]; omega
    · simp [mg_T, h3]
    · show (((mg_T T cA cI N K i).pushCell (mg_i cI K)).setCell T.heap.size _).heap[q]? = _
      rw [State.heap_setCell_other (Nat.ne_of_gt hq), State.heap_pushCell_of_lt (h := Nat.lt_trans hq lt)]
      exact h4 q hq
    · show (((mg_T T cA cI N K i).pushCell (mg_i cI K)).setCell T.heap.size _).heap[T.heap.size + 1 + j]? = _
      rw [State.heap_setCell_other (show T.heap.size ≠ T.heap.size + 1 + j by omega)]
      by_cases q : j < i
      · have lt2 : T.heap.size + 1 + j < (mg_T T cA cI N K i).heap.size := by rw [h1]; omega
        rw [State.heap_pushCell_of_lt (h := lt2)]
        exact h5 j q
      · rw [show j = i by omega, ← h1]
        exact State.heap_pushCell_size _ _
theorem mg_T_top (T : State) (f : JFrame) (cA cI : ClassId) (N K : Nat) : ∀ i, mg_T (T.setTop f) cA cI N K i = (mg_T T cA cI N K i).setTop f := by
  intro i
  induction i with
  | zero => rfl
  | succ i ih => simp only [mg_T, ih, State.heap_setTop, State.pushCell_setTop, State.setCell_setTop]
section MG
variable {p : Program} {l : Launch} {e : Env} {R : Room} {s : State} {m : MethodId} {args : Array Value} {below : List Frame} {meth : Method} {c : Code} {T : State} {locs : List Loc} {cells slots : Nat} {H : Heap} {Q : State → Prop}
theorem mg_S (X : Stand p l e R s m args below meth c T locs cells slots) (hge : s.heap.size ≤ T.heap.size) (cA cI : ClassId) (N K : Nat) : ∀ i, Stand p l e R s m args below meth c (mg_T T cA cI N K i) locs (cells + 1 + i) (slots + N + i * K) := by
  intro i
  induction i with
  | zero =>
    have h := X.pushed (mg_o cA N T.heap.size 0)
    rw [mg_o_size] at h
    simpa [mg_T] using h
  | succ i ih =>
    obtain ⟨h1, h2, h3, h4, h5⟩ := mg_T_f T cA cI N K i
    have lt : T.heap.size < (mg_T T cA cI N K i).heap.size := by omega
    have hc : ((mg_T T cA cI N K i).pushCell (mg_i cI K)).heap[T.heap.size]? = some (mg_o cA N T.heap.size i) := by
      rw [State.heap_pushCell_of_lt (h := lt)]; exact h2
    have h := (ih.pushed (mg_i cI K)).stored hc i (.ref (T.heap.size + 1 + i))
    rw [mg_o_set, show (mg_i cI K).slots.size = K by simp [mg_i]] at h
    have h := h.dropFresh (fun x hx => by rw [List.mem_singleton.mp hx]; exact hge)
    rw [show slots + N + (i + 1) * K = slots + N + i * K + K by rw [Nat.succ_mul]; omega]
    exact h
end MG
section MH
variable {E : CtlPost} {e : Env} {d : Bool} {acts : List Action} {s : State}
theorem mg_in {cI cc : ClassId} {kc : Class} {k : Int32} (hkc : s.vm.classes[cI]? = some kc) (hkind : kc.kind = .array cc .int) (hk : ¬ k < 0) (hl : ¬ k.toNatClampNeg > e.platform.arrayLengthLimit) (hh : ¬ k.toNatClampNeg * componentBytes .int > e.platform.maxHeapBytes) (h1 : s.heap.size < e.platform.maxCells) (h2 : s.slotsUsed + k.toNatClampNeg ≤ e.platform.maxSlots) {Q : Addr → Pre} (hq : ∀ acts', Q s.heap.size d acts' (s.pushCell (mg_i cI k.toNatClampNeg))) : wp (multianewarray.make cI [k]) Q E e d acts s := by
  rw [multianewarray.make]
  simp only [wp_bind', Jvm.W.ite, hk, if_false, wp_pure', Jvm.W.theClass, hkc, hkind, Option.some.injEq, exists_eq_left']
  exact Jvm.W.newArray_of hkc hkind hl hh h1 h2 rfl hq
theorem mg_out {cA cI cc : ClassId} {ka kc : Class} {n k : Int32} (hka : s.vm.classes[cA]? = some ka) (hkinda : ka.kind = .array cI (.array .int)) (hkc : s.vm.classes[cI]? = some kc) (hkind : kc.kind = .array cc .int) (hn : ¬ n < 0) (hk : ¬ k < 0)
    (hl1 : ¬ n.toNatClampNeg > e.platform.arrayLengthLimit) (hh1 : ¬ n.toNatClampNeg * componentBytes (.array .int) > e.platform.maxHeapBytes) (hl : ¬ k.toNatClampNeg > e.platform.arrayLengthLimit) (hh : ¬ k.toNatClampNeg * componentBytes .int > e.platform.maxHeapBytes)
    (hc : s.heap.size + 1 + n.toNatClampNeg ≤ e.platform.maxCells) (hs : ∀ i, i ≤ n.toNatClampNeg → (mg_T s cA cI n.toNatClampNeg k.toNatClampNeg i).slotsUsed = s.slotsUsed + n.toNatClampNeg + i * k.toNatClampNeg) (hs2 : s.slotsUsed + n.toNatClampNeg + n.toNatClampNeg * k.toNatClampNeg ≤ e.platform.maxSlots)
    {Q : Addr → Pre} (hq : ∀ d' acts', Q s.heap.size d' acts' (mg_T s cA cI n.toNatClampNeg k.toNatClampNeg n.toNatClampNeg)) : wp (multianewarray.make cA [n, k]) Q E e d acts s := by
  have hfind : ([k].find? (· < 0)) = none := by simp [hk]
  rw [multianewarray.make]
  simp only [wp_bind', Jvm.W.ite, hn, if_false, wp_pure', Jvm.W.theClass, hka, hkinda, Option.some.injEq, exists_eq_left']
  refine Jvm.W.newArray_of hka hkinda hl1 hh1 (by omega) (by omega) rfl (fun acts' => ?_)
  rw [mg_o_zero cA n.toNatClampNeg s.heap.size]
  simp only [hfind]
  rw [ite_self, wp_bind', Std.Legacy.Range.forIn_eq_forIn_range']
  have hsz : ([:n.toNatClampNeg] : Std.Legacy.Range).size = n.toNatClampNeg := by simp [Std.Legacy.Range.size]
  rw [hsz]
  show wp (forIn (List.range' 0 n.toNatClampNeg 1) PUnit.unit _) _ E e d acts' _
  refine wp_forIn_inv (fun rest s' => ∃ i, i ≤ n.toNatClampNeg ∧ rest = List.range' i (n.toNatClampNeg - i) ∧ s' = mg_T s cA cI n.toNatClampNeg k.toNatClampNeg i) _ _ ⟨0, Nat.zero_le _, rfl, rfl⟩ ?_ ?_
  · rintro x rest s' d' acts2 Q' ⟨i, hi, hr, rfl⟩ nx
    have lt : i < n.toNatClampNeg := by
      by_cases q : i < n.toNatClampNeg
      · exact q
      · rw [show n.toNatClampNeg - i = 0 by omega] at hr
        cases hr
    obtain ⟨rfl, hrest⟩ : x = i ∧ rest = List.range' (i + 1) (n.toNatClampNeg - (i + 1)) := by
      rw [show n.toNatClampNeg - i = (n.toNatClampNeg - (i + 1)) + 1 by omega, List.range'_succ] at hr
      exact ⟨(List.cons.inj hr).1, (List.cons.inj hr).2⟩
    obtain ⟨h1, h2, h3, h4, h5⟩ := mg_T_f s cA cI n.toNatClampNeg k.toNatClampNeg x
    have u := hs x hi
    have mu : x * k.toNatClampNeg + k.toNatClampNeg ≤ n.toNatClampNeg * k.toNatClampNeg := by
      have := Nat.mul_le_mul_right k.toNatClampNeg (show x + 1 ≤ n.toNatClampNeg from lt)
      rw [Nat.succ_mul] at this
      exact this
    simp only [wp_bind']
    refine mg_in (by rw [h3]; exact hkc) hkind hk hl hh (by rw [h1]; omega) (by rw [u]; omega) (fun acts3 => ?_)
    have lt0 : s.heap.size < (mg_T s cA cI n.toNatClampNeg k.toNatClampNeg x).heap.size := by rw [h1]; omega
    simp only [wp_bind', Jvm.W.writeLoc, wp_pure']
    refine ⟨mg_o cA n.toNatClampNeg s.heap.size x, by rw [State.heap_pushCell_of_lt (h := lt0)]; exact h2, by simp [mg_o], by rw [mg_o_size]; exact lt, ?_, nx _ _ _ ⟨x + 1, lt, hrest, ?_⟩⟩
    · simp [State.fitsSlot, State.slotType?, mg_o, h3, hka, hkinda]
      rfl
    · rw [h1, mg_o_set]; rfl
  · rintro s' d' acts2 ⟨i, hi, hr, rfl⟩
    have e : i = n.toNatClampNeg := by
      by_cases q : i < n.toNatClampNeg
      · rw [show n.toNatClampNeg - i = (n.toNatClampNeg - (i + 1)) + 1 by omega, List.range'_succ] at hr
        cases hr
      · omega
    subst e
    simp only [wp_pure']
    exact hq _ _
end MH
theorem mg_used (T : State) (cA cI : ClassId) (N K : Nat) : ∀ i, (mg_T T cA cI N K i).slotsUsed = T.slotsUsed + N + i * K := by
  intro i
  induction i with
  | zero => simp [mg_T, mg_o]
  | succ i ih => simp [mg_T, ih, mg_i, Nat.succ_mul]; omega
/-- the two classes of arrays -/
def cn_J (cI cJ : ClassId) (U : State) : Prop := U.vm.findClass "[[I" = some cJ ∧ U.vm.findClass "[I" = some cI ∧ ∃ kA : Class, U.vm.classes[cJ]? = some kA ∧ kA.kind = .array cI (.array .int)
theorem cn_J.moved {cI cJ : ClassId} {u U : State} (hvm : u.vm.Alike U.vm) (h : cn_J cI cJ u) : cn_J cI cJ U := by
  obtain ⟨h1, h2, kA, h3, h4⟩ := h
  obtain ⟨k', hk', he⟩ := hvm.2.2 _ _ h3
  exact ⟨by rw [hvm.findClass]; exact h1, by rw [hvm.findClass]; exact h2, k', hk', by rw [he]; exact h4⟩
/-- what the heap is behind it -/
def mg (H0 : Heap) (cA cI : ClassId) (N K : Nat) (H : Heap) : Prop := H.size = H0.size + 1 + N ∧ (∀ q, q < H0.size → H[q]? = H0[q]?) ∧ H[H0.size]? = some (mg_o cA N H0.size N) ∧ ∀ j, j < N → H[H0.size + 1 + j]? = some (mg_i cI K)
section MW
variable {p : Program} {l : Launch} {e : Env} {R : Room} {s : State} {m : MethodId} {args : Array Value} {below : List Frame} {meth : Method} {c : Code} {locs : List Loc} {cells slots : Nat} {H : Heap} {Q : State → Prop}
theorem ol_mna {cc : ByteArray} (hexec : p.tables.exec = Jvm.exec) (hb : c.code = cc) {own : String} {index : Nat} (hown : s.vm.findClass own = some m.cls) (hclink : (Cond.classLink own index "[[I").before args s = true) {cI cA : ClassId} (hJ : cn_J cI cA s) (harr : (Cond.arrayClass .int).before args s = true)
    {pc : Nat} {ls : Array Slot} {rest : List Value} {n k : Int32} {N K : Nat} (hn : ¬ n < 0) (hk : ¬ k < 0) (hN : n.toNatClampNeg = N) (hK : k.toNatClampNeg = K) (hN2 : N ≤ 1000) (hK2 : K ≤ 1000) (hdg : decode cc pc = .ok (.multianewarray index 2, 4)) (hcells : cells + (1 + N) ≤ R.cells) (hslots : slots + (N + N * K) ≤ R.slots)
    (kk : ∀ (H1 : Heap), mg H cA cI N K H1 → W p l e R s m args below meth c H1 locs (cells + 1 + N) (slots + N + N * K) Q (F0 m (pc + 4) ls (.ref H.size :: rest))) : W p l e R s m args below meth c H locs cells slots Q (F0 m pc ls (.int k :: .int n :: rest)) := by
  intro T hT X
  subst hT; subst hb; subst hN; subst hK
  have hpl : e.platform.magicAccessors = ({} : Platform).magicAccessors := by rw [X.admits.platform]
  obtain ⟨hnameA, hcomp, kA, hkA, hkindA⟩ := hJ
  obtain ⟨cI', kC, cc, hcomp', hkC, hkindC⟩ := Cond.arrayClass_spec harr
  have e2 : "[" ++ FieldType.int.toString = "[I" := by decide +kernel
  rw [e2] at hcomp'
  have ecomp : cI' = cI := Option.some.inj (hcomp'.symm.trans hcomp)
  subst ecomp
  obtain ⟨c0, hfc0, hcl⟩ := Cond.classLink_spec hown hclink e.platform hpl
  cases hnameA.symm.trans hfc0
  obtain ⟨hg₁, hwarm₁, hready₁⟩ := State.classEntry (e := e) X.warmed hcl
  generalize T.vm.noted m.cls index (.cls cA) = vm₁ at hg₁ hwarm₁ hready₁
  have hal : s.vm.Alike vm₁ := hwarm₁.alike
  obtain ⟨kA₁, hkA₁, heA⟩ := hal.2.2 _ _ hkA
  obtain ⟨kC₁, hkC₁, heC⟩ := hal.2.2 _ _ hkC
  have hkindA₁ : kA₁.kind = .array cI' (.array .int) := by rw [heA]; exact hkindA
  have hkindC₁ : kC₁.kind = .array cc .int := by rw [heC]; exact hkindC
  have X₁ := X.noted hwarm₁
  obtain ⟨hr1, hr2⟩ := X.roomAbove hcells hslots
  have hge : s.heap.size ≤ T.heap.size := X.heapGrown
  have XF := mg_S X₁ hge cA cI' n.toNatClampNeg k.toNatClampNeg n.toNatClampNeg
  obtain ⟨f1, f2, f3, f4, f5⟩ := mg_T_f (T.setVm vm₁) cA cI' n.toNatClampNeg k.toNatClampNeg n.toNatClampNeg
  obtain ⟨t, a1, b1⟩ := kk (mg_T (T.setVm vm₁) cA cI' n.toNatClampNeg k.toNatClampNeg n.toNatClampNeg).heap ⟨f1, f4, f2, f5⟩ _ rfl XF
  refine ⟨t, ?_, b1⟩
  have hl1 : ¬ n.toNatClampNeg > e.platform.arrayLengthLimit := by rw [Launch.admits_arrayLengthLimit X.admits]; omega
  have hh1 : ¬ n.toNatClampNeg * componentBytes (.array .int) > e.platform.maxHeapBytes := by
    rw [Launch.admits_maxHeapBytes X.admits]; show ¬ n.toNatClampNeg * 4 > 536870912; omega
  have hl2 : ¬ k.toNatClampNeg > e.platform.arrayLengthLimit := by rw [Launch.admits_arrayLengthLimit X.admits]; omega
  have hh2 : ¬ k.toNatClampNeg * componentBytes .int > e.platform.maxHeapBytes := by
    rw [Launch.admits_maxHeapBytes X.admits]; show ¬ k.toNatClampNeg * 4 > 536870912; omega
  jvm_step X.here [hexec, hdg]
  simp only [multianewarray.sem, wp_bind', Jvm.W.resolveClassAt_links (State.method?_setTop (F0 m pc ls (.int k :: .int n :: rest)) X.here.top) hg₁]
  rw [Jvm.W.popN, if_neg (by decide)]
  refine ⟨F0 m pc ls (.int k :: .int n :: rest), State.topJava?_setTop' (s := T.setVm vm₁) _ X.here.top, [.int n, .int k], rest, rfl, rfl, ?_⟩
  simp only [List.mapM_cons, List.mapM_nil, wp_bind', wp_pure']
  have eS : ((T.setTop (F0 m pc ls (.int k :: .int n :: rest))).setVm vm₁).setTop { F0 m pc ls (.int k :: .int n :: rest) with stack := rest } = (T.setVm vm₁).setTop { F0 m pc ls (.int k :: .int n :: rest) with stack := rest } := by
    show ((T.setVm vm₁).setTop _).setTop _ = _
    rw [State.setTop_setTop]
  rw [eS]
  refine mg_out (ka := kA₁) (kc := kC₁) (cI := cI') (cc := cc) hkA₁ hkindA₁ hkC₁ hkindC₁ hn hk hl1 hh1 hl2 hh2 (by show T.heap.size + 1 + _ ≤ _; omega) (fun i _ => mg_used _ _ _ _ _ i) (by show T.slotsUsed + _ + _ ≤ _; omega) (fun d' acts' => ?_)
  rw [mg_T_top]
  simp only [wp_bind', Jvm.W.mark, Jvm.W.pushRef, State.topJava?_setTop' _ XF.here.top, Option.some.injEq, exists_eq_left', State.setTop_setTop, State.heap_setTop]
  intro acts
  simp [jvm, XF.here.top]
  exact a1
end MW
