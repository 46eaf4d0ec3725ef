/-! AT THE LAW'S ENTRY: what the tables say; the two objects are made -/
/-- a private method of a class above -/
theorem ol_selp {C : String} {y y0 : MethodName} {s : State} {args : Array Value} (hy : y.cls ≠ "java/lang/invoke/MethodHandle" ∧ y.cls ≠ "java/lang/invoke/VarHandle") (h0 : (Cond.selects C y0 y0).before args s = true) (hcl : y0.cls = y.cls) (hpriv : (Cond.privateMethod y).before args s = true) (hinst : (Cond.instanceMethod y).before args s = true) : (Cond.selects C y y).before args s = true := by
  obtain ⟨mk, methM, hnamed, hmethM, -, -⟩ := Cond.instanceMethod_spec hinst
  have hfound : s.methodFound? y.cls y.name y.desc = some mk := State.methodFound?_of_named hnamed hy
  simp only [Cond.before, Cond.holds, Cond.value] at h0 ⊢
  cases hC : s.vm.findClass C with
  | none => simp [hC] at h0
  | some c =>
    have hsel : selectMethod {} s.vm c mk = .method mk := selectMethod_private hmethM (Cond.privateMethod_at hpriv mk methM hnamed hmethM)
    cases hf0 : s.methodFound? y0.cls y0.name y0.desc with
    | none => simp [hC, hf0] at h0
    | some r0 =>
      cases hn0 : s.methodNamed? y0 with
      | none => simp [hC, hf0, hn0] at h0
      | some m0 =>
        have ecls : m0.cls = mk.cls := Option.some.inj ((findClass_of_methodNamed hn0).symm.trans (by rw [hcl]; exact findClass_of_methodNamed hnamed))
        simp only [hC, hf0, hn0] at h0
        have h1 : (s.vm.classes[m0.cls]?).any (fun k => !k.isInterface) = true := by
          cases hs : selectMethod {} s.vm c r0 <;> simp [hs] at h0
          simpa using h0.2
        rw [ecls] at h1
        simp only [hfound, hnamed, hsel]
        simp at h1 ⊢
        exact h1
theorem ol_ex_ok {s : State} {args : Array Value} (hts : ∀ w ∈ lw_tbl, w.before args s = true) : ∀ w ∈ ol_gt, w.before args s = true := by
  intro w hw
  have hm := (List.mem_filter.mp hw).1
  rcases List.mem_append.mp hm with h | h
  · have p1 := hts (.privateMethod ⟨"OunceLetters$Text", "next", "(II)I"⟩) (by decide +kernel)
    have p2 := hts (.privateMethod ⟨"OunceLetters$Text", "refuse", "(I)V"⟩) (by decide +kernel)
    have i1 := hts (.instanceMethod ⟨"OunceLetters$Text", "next", "(II)I"⟩) (by decide +kernel)
    have i2 := hts (.instanceMethod ⟨"OunceLetters$Text", "refuse", "(I)V"⟩) (by decide +kernel)
    have s1 := hts (.selects "OunceLetters$Houses" ⟨"OunceLetters$Text", "readAgain", "()V"⟩ ⟨"OunceLetters$Text", "readAgain", "()V"⟩) (by decide +kernel)
    have s2 := hts (.selects "OunceLetters$Terms" ⟨"OunceLetters$Text", "readAgain", "()V"⟩ ⟨"OunceLetters$Text", "readAgain", "()V"⟩) (by decide +kernel)
    simp only [ol_ex, List.mem_cons, List.not_mem_nil, or_false] at h
    rcases h with rfl | rfl | rfl | rfl
    · exact ol_selp ⟨by decide, by decide⟩ s1 rfl p1 i1
    · exact ol_selp ⟨by decide, by decide⟩ s2 rfl p1 i1
    · exact ol_selp ⟨by decide, by decide⟩ s1 rfl p2 i2
    · exact ol_selp ⟨by decide, by decide⟩ s2 rfl p2 i2
  · exact hts w h
theorem cn_known {s : State} {args : Array Value} (hts : ∀ w ∈ lw_tbl, w.before args s = true) : ∃ (D : va_G) (cI cJ : ClassId), cn_K D cI cJ s := by
  have hg := ol_ex_ok hts
  obtain ⟨c0, i0, k0⟩ := u_known (n := 7) hg ol_inX0 (hts (.instantiable "OunceLetters$Chance" 7) (by decide +kernel))
  obtain ⟨c1, i1, k1⟩ := u_known (n := 7) hg ol_inX1 (hts (.instantiable "OunceLetters$Houses" 7) (by decide +kernel))
  obtain ⟨c2, i2, k2⟩ := u_known (n := 3) hg ol_inX2 (hts (.instantiable "OunceLetters$Rules" 3) (by decide +kernel))
  obtain ⟨c3, i3, k3⟩ := u_known (n := 8) hg ol_inX3 (hts (.instantiable "OunceLetters$Run" 8) (by decide +kernel))
  obtain ⟨c4, i4, k4⟩ := u_known (n := 3) hg ol_inX4 (hts (.instantiable "OunceLetters$Sheets" 3) (by decide +kernel))
  obtain ⟨c5, i5, k5⟩ := u_known (n := 11) hg ol_inX5 (hts (.instantiable "OunceLetters$Terms" 11) (by decide +kernel))
  obtain ⟨c6, i6, k6⟩ := u_known (n := 15) hg ol_inX7 (hts (.instantiable "OunceLetters$Told" 15) (by decide +kernel))
  obtain ⟨c7, i7, k7⟩ := u_known (n := 12) hg ol_inX8 (hts (.instantiable "OunceLetters" 12) (by decide +kernel))
  obtain ⟨c8, i8, k8⟩ := u_known (n := 30) hg ol_inX9 (hts (.instantiable "OunceLettersModel" 30) (by decide +kernel))
  obtain ⟨cI, kC, cc, hI, hkC, hkindC⟩ := Cond.arrayClass_spec (hts (.arrayClass .int) (by decide +kernel))
  obtain ⟨cI', cJ, kA, hcomp, -, hkA, hkindA, hJ⟩ := arrayOverA_spec (hts (.arrayOver (.array .int)) (by decide +kernel))
  have e1 : "[" ++ (FieldType.array .int).toString = "[[I" := by decide +kernel
  have e2 : (FieldType.array .int).toString = "[I" := by decide +kernel
  have e3 : "[" ++ FieldType.int.toString = "[I" := by decide +kernel
  have hI' := hI
  have hJ' := hJ
  rw [e3] at hI'
  rw [e1] at hJ'
  rw [e2] at hcomp
  have ec : cI' = cI := Option.some.inj (hcomp.symm.trans hI')
  subst ec
  refine ⟨(fun k => [c0, c1, c2, c3, c4, c5, c6, c7, c8].getD k 0, fun k => [i0, i1, i2, i3, i4, i5, i6, i7, i8].getD k i0), cI', cJ, ⟨fun k q hq => ?_, fun k q hk => ?_⟩, ⟨hJ', hI', kA, hkA, hkindA⟩, ?_, ?_⟩
  · match k, hq with
    | 0, hq => cases hq; exact k0
    | 1, hq => cases hq; exact k1
    | 2, hq => cases hq; exact k2
    | 3, hq => cases hq; exact k3
    | 4, hq => cases hq; exact k4
    | 5, hq => cases hq; exact k5
    | 6, hq => cases hq; exact k6
    | 7, hq => cases hq; exact k7
    | 8, hq => cases hq; exact k8
    | n + 9, hq => simp [ol_cls] at hq
  · match k, hk with
    | 0, hk => cases hk; exact ⟨fun n z => ⟨fun k h => (by cases h), kC, hkC, cc, hkindC⟩, hI⟩
    | 1, hk => cases hk; exact ⟨fun n z => ⟨fun k h => (by cases h), kA, hkA, cI', hkindA⟩, hJ⟩
    | n + 2, hk => simp at hk
  · intro x hx
    simp only [ol_nst, List.mem_cons, List.not_mem_nil, or_false] at hx
    rcases hx with rfl | rfl | rfl
    · exact va_Nw.of rfl (hts (.methodLinkNest "OunceLetters$Terms" 49 ⟨"OunceLetters", "isVowel", "(I)Z"⟩ "OunceLetters") (by decide +kernel))
    · exact va_Nw.of rfl (hts (.methodLinkNest "OunceLetters$Chance" 110 ⟨"OunceLetters", "power", "(JI)J"⟩ "OunceLetters") (by decide +kernel))
    · exact va_Nw.of rfl (hts (.methodLinkNest "OunceLetters$Sheets" 33 ⟨"OunceLetters", "isBelow", "(II)Z"⟩ "OunceLetters") (by decide +kernel))
  · exact va_Nw.of rfl (hts (.declares ol_abs) (by decide +kernel))
section CW
variable {p : Program} {l : Launch} {e : Env} {R : Room} {s : State} {m : MethodId} {args : Array Value} {below : List Frame} {meth : Method} {c : Code} {Q : State → Prop} {cc : ByteArray} {nL : Nat} {own : String} {D : va_G} {B : Nat} {cI cJ : ClassId} {x y pc : Nat} {H : Heap} {locs : List Loc} {a : Array Slot} {rest : List Value}
/-- new, as the first of a world -/
theorem cw_new (hx : p.tables.exec = Jvm.exec) (hb : c.code = cc) (hown : s.vm.findClass own = some m.cls) (hts : ∀ w ∈ ol_gt, w.before args s = true) (hK : cn_K D cI cJ s) {w ci : Nat} {q : vw_C} (hq : ol_cls[ci]? = some q) (zs : List Bool) (hz : cn_zok q zs = true) (h1 : Cond.classLink own w q.1 ∈ ol_gt) (h2 : Cond.instantiable q.1 q.2.2 ∈ ol_gt) (h3 : Cond.initialized q.1 ∈ ol_gt) (hc : x + 1 ≤ R.cells) (hs : y + q.2.2 ≤ R.slots) (hB : H.size = B) (hS : va_S (cn_A s.heap.size) s.heap H locs) (hd : decode cc pc = .ok (.new w, 3))
    (kk : ∀ H1, cn_H D B cI cJ ([] ++ [.inr (.inr (ci, cn_zf zs))]) H1 → (∀ q, q < B → H1[q]? = H[q]?) → va_S (cn_A s.heap.size) s.heap H1 locs → W p l e R s m args below meth c H1 locs (x + 1) (y + q.2.2) Q (F0 m (pc + 3) a (.ref B :: rest))) : W p l e R s m args below meth c H locs x y Q (F0 m pc a rest) := by
  obtain ⟨hin, ⟨ty, hpt⟩, hnm⟩ := ol_cok hq
  have hKn := hK.1.1 ci _ hq
  have hH : cn_H D B cI cJ [] H := ⟨hB, fun i e h => by simp at h⟩
  refine W.newcK hx hb hown (hts _ h1) (hts _ h2) (hts _ h3) rfl hd hc hs hKn.2.1 hB fun H1 kC hkC e1 z1 o1 => ?_
  refine kk H1 (hH.push (by rw [z1, hB]) (fun q hq => o1 q (by rw [← hB]; exact hq)) ?_) o1 ⟨Nat.le_trans hS.1 (by rw [z1, hB]; omega), fun q h1 h2 => (o1 q (Nat.lt_of_lt_of_le h1 (by rw [← hB]; exact hS.1))).trans (hS.2.1 q h1 h2), hS.2.2⟩
  rw [hB]
  exact ⟨_, hq, (u_born ty hts hin hKn hkC e1 hpt).to (cn_zv hz B hpt)⟩
/-- a constructor without arguments -/
theorem cw_call (hx : p.tables.exec = Jvm.exec) (hb : c.code = cc) (hml : c.maxLocals = nL) (hown : s.vm.findClass own = some m.cls) (hts : ∀ w ∈ ol_gt, w.before args s = true) (hK : cn_K D cI cJ s) {w d' C' Z' : Nat} {q : ol_MD} {L L' : List cn_E} (hL : ol_MK q 0) (hy : q.1.name = "<init>") (hret : q.2.2.2 = none) (hlk : Cond.methodLink own w q.1 ∈ ol_gt) (hin : Cond.instanceMethod q.1 ∈ ol_gt) (hfr : d' + 1 ≤ R.frames) (hlo : 60 * (d' + 1) ≤ R.locals) (hC : x + C' ≤ R.cells) (hZ : y + Z' ≤ R.slots) (ha : a.size = nL) (hsm : (rest.map fun v => v.category).sum ≤ 8) (hM : cn_R d' C' Z' q [.inr (.inr 0)] L L') (hH : cn_H D B cI cJ L H) (hBs : s.heap.size ≤ B) (hS : va_S (cn_A s.heap.size) s.heap H locs) (hd : decode cc pc = .ok (.invokespecial w, 3))
    (kk : ∀ H1 locs1, cn_H D B cI cJ L' H1 → (∀ q, q < B → H1[q]? = H[q]?) → va_S (cn_A s.heap.size) s.heap H1 locs1 → W p l e R s m args below meth c H1 locs1 (x + C') (y + Z') Q (F0 m (pc + 3) a rest)) : W p l e R s m args below meth c H locs x y Q (F0 m pc a (.ref B :: rest)) := by
  obtain ⟨h1, h2, h3, h4, h5⟩ := hL
  have hW : 2 * (F0 m pc a (.ref B :: rest)).monitorRoom + (rest.map fun v => v.category).sum ≤ 8 := lv_room hsm
  have hw : ol_ws q = Cond.code q.1 q.2.1 q.2.2.1 none :: ol_gt := by unfold ol_ws; rw [hret]
  have hpre : PreS s H (va_Pc (([.inr (.inr 0)] : List ol_V).map (ol_cv (cn_ad B))) (fun U => cn_H D B cI cJ L U.heap ∧ cn_K D cI cJ U)) (.ref B :: []) :=
    ⟨fun a U g mk q => ⟨q.1, q.2.1, cn_K.same rfl q.2.2⟩, fun U hU hW => ⟨rfl, by rw [hU]; exact hH, hK.moved hW⟩⟩
  have hr := va_runI (Ts := ol_gt) (own := own) (index := w) (e := e) (R := R) (below := below) (meth := meth) (locs := locs) (cells := x) (slots := y) (g := F0 m pc a (.ref B :: rest)) (b := B) (As := []) (rest := rest) ⟨hx, hb, hml, hown, hts⟩ (hM l D B cI cJ) ⟨callB_of 0 hts (ol_good h1) hw rfl rfl (hts _ h2) (hts _ hlk) ⟨h3.1, h3.2, h4⟩ ⟨by show d' + 1 ≤ R.frames; omega, by show 8 + (q.2.2.1 + 11) + 60 * d' ≤ R.locals; omega⟩, hy, hts _ hin⟩ hpre rfl rfl ha rfl hW hd ⟨hC, hZ⟩
  intro T hT X
  obtain ⟨w', st₀, t, T', Lc, h0, X', hLc, e1, e2, ⟨hv, hh, hz, hq⟩, stp⟩ := hr T hT X
  have hw' : w' = none := by cases hv; rfl
  subst hw'
  rw [h0] at hz hq
  have hB1 : B ≤ H.size := by rw [hH.1]; omega
  have hold : ∀ q, q < B → T'.heap[q]? = H[q]? := fun q h1 => by rw [e1]; exact hq q (Nat.lt_of_lt_of_le h1 hB1) (fun z => absurd (show B ≤ q from z) (by omega))
  have hS' : va_S (cn_A s.heap.size) s.heap T'.heap (locs ++ Lc) := by
    refine ⟨Nat.le_trans hS.1 (by rw [e1]; exact hz), fun q h1 h2 => ?_, fun q hq2 => ?_⟩
    · rw [hold q (Nat.lt_of_lt_of_le h1 hBs)]
      exact hS.2.1 q h1 h2
    · rcases List.mem_append.mp hq2 with h | h
      · exact hS.2.2 q h
      · exact Nat.le_trans hBs (hLc q h)
  obtain ⟨t2, a1, b1⟩ := kk T'.heap (locs ++ Lc) (by rw [e1]; exact hh) hold hS' T' rfl X'
  exact ⟨t2, stp t2 a1, b1⟩
end CW
