/-! WHAT CONSTRUCTORS MAKE: cells one behind another from the address B on; a list of what stands in them -/
abbrev cn_E : Type := (Nat × (Int → Int)) ⊕ ((Nat × Int) ⊕ (Nat × List (Option ol_V)))
def cn_ad (B : Nat) (k : Int) : Nat := B + k.toNat
def cn_v (B : Nat) (o : Option ol_V) : Value := match o with
  | none => .null
  | some v => ol_cv (cn_ad B) v
def cn_e (B : Nat) (cI cJ : ClassId) (e : cn_E) : va_E := match e with
  | .inl (n, f) => .inl (cI, n, .inl (fun j => Int32.ofInt (f (j : Int))))
  | .inr (.inl (n, b)) => .inl (cJ, n, .inr (.inr (.inr (.inr (fun i => some (cn_ad B (b + (i : Int))))))))
  | .inr (.inr (ci, fs)) => .inr (ci, fs.map (cn_v B))
def cn_H (D : va_G) (B : Nat) (cI cJ : ClassId) (L : List cn_E) (H : Heap) : Prop := H.size = B + L.length ∧ ∀ (i : Nat) (e : cn_E), L[i]? = some e → va_at D ol_cls (B + i, cn_e B cI cJ e) H
def cn_K (D : va_G) (cI cJ : ClassId) (U : State) : Prop := va_K D ol_cls [(cI, .int), (cJ, .array .int)] U ∧ cn_J cI cJ U ∧ (∀ x ∈ ol_nst, va_Nw (.methodLinkNest x.1 x.2.1 x.2.2.1 x.2.2.2) U) ∧ va_Nw (.declares ol_abs) U
theorem cn_K.moved {D : va_G} {cI cJ : ClassId} {s U : State} (hW : s.WarmedH U.vm) (h : cn_K D cI cJ s) : cn_K D cI cJ U :=
  ⟨va_K.moved hW.alike h.1, h.2.1.moved hW.alike, fun x hx => va_Nw.warmM hW (h.2.2.1 x hx), va_Nw.warmD hW h.2.2.2⟩
theorem cn_K.same {D : va_G} {cI cJ : ClassId} {s U : State} (hv : s.vm = U.vm) (h : cn_K D cI cJ s) : cn_K D cI cJ U :=
  ⟨va_K.moved (hv ▸ Vm.Alike.refl s.vm) h.1, h.2.1.moved (hv ▸ Vm.Alike.refl s.vm), fun x hx => va_Nw.same rfl hv (h.2.2.1 x hx), va_Nw.same rfl hv h.2.2.2⟩
def cn_A (B : Nat) : Nat → Prop := fun q => B ≤ q
theorem cn_H.pushes {D : va_G} {B : Nat} {cI cJ : ClassId} {L es : List cn_E} {H H1 : Heap} (h : cn_H D B cI cJ L H) (hz : H1.size = H.size + es.length) (ho : ∀ q, q < H.size → H1[q]? = H[q]?) (he : ∀ (j : Nat) (e : cn_E), es[j]? = some e → va_at D ol_cls (H.size + j, cn_e B cI cJ e) H1) : cn_H D B cI cJ (L ++ es) H1 := by
  refine ⟨by rw [hz, h.1, List.length_append]; omega, fun i e hi => ?_⟩
  by_cases q : i < L.length
  · rw [List.getElem?_append_left q] at hi
    exact (h.2 i e hi).kept (ho _ (by rw [h.1]; show B + i < _; omega))
  · rw [List.getElem?_append_right (by omega)] at hi
    have := he _ e hi
    rw [h.1] at this
    rw [show B + i = B + L.length + (i - L.length) by omega]
    exact this
theorem cn_H.push {D : va_G} {B : Nat} {cI cJ : ClassId} {L : List cn_E} {x : cn_E} {H H1 : Heap} (h : cn_H D B cI cJ L H) (hz : H1.size = H.size + 1) (ho : ∀ q, q < H.size → H1[q]? = H[q]?) (he : va_at D ol_cls (H.size, cn_e B cI cJ x) H1) : cn_H D B cI cJ (L ++ [x]) H1 := by
  refine h.pushes hz ho (fun j e hj => ?_)
  have : j < 1 := (List.getElem?_eq_some_iff.mp hj).1
  rw [show j = 0 by omega] at hj ⊢
  cases hj
  exact he
theorem cn_H.set {D : va_G} {B : Nat} {cI cJ : ClassId} {L : List cn_E} {x x0 : cn_E} {k : Nat} {H H1 : Heap} (h : cn_H D B cI cJ L H) (hk : L[k]? = some x0) (hz : H1.size = H.size) (ho : ∀ q, q ≠ B + k → H1[q]? = H[q]?) (he : va_at D ol_cls (B + k, cn_e B cI cJ x) H1) : cn_H D B cI cJ (L.set k x) H1 := by
  refine ⟨by rw [hz, h.1, List.length_set], fun i e hi => ?_⟩
  by_cases q : i = k
  · subst q
    rw [List.getElem?_set_self (List.getElem?_eq_some_iff.mp hk).1] at hi
    cases hi
    exact he
  · rw [List.getElem?_set_ne (Ne.symm q)] at hi
    exact (h.2 i e hi).kept (ho _ (by show B + i ≠ _; omega))
theorem cn_H.one {D : va_G} {B : Nat} {cI cJ : ClassId} {L : List cn_E} {x0 : cn_E} {k : Nat} {H : Heap} (h : cn_H D B cI cJ L H) (hk : L[k]? = some x0) : va_P D ol_cls [(B + k, cn_e B cI cJ x0)] H := by
  intro j q hq
  have h0 : j < 1 := (List.getElem?_eq_some_iff.mp hq).1
  rw [show j = 0 by omega] at hq
  cases hq
  exact h.2 k x0 hk
def cn_AW (p : Program) (l : Launch) (e : Env) (R : Room) (s : State) (m : MethodId) (args : Array Value) (below : List Frame) (meth : Method) (c : Code) (Q : State → Prop) (nL : Nat) (D : va_G) (B : Nat) (cI cJ : ClassId) (pc : Nat) (ls : ol_Ls) (st : ol_St) (L : List cn_E) (x y : Nat) : Prop :=
  ∀ (a : Array Slot) (H : Heap) (locs : List Loc), ol_lv (cn_ad B) a nL ls → cn_H D B cI cJ L H → va_S (cn_A B) s.heap H locs → W p l e R s m args below meth c H locs x y Q (F0 m pc a (st.map (ol_cv (cn_ad B))))
def cn_Fr (p : Program) (R : Room) (s : State) (m : MethodId) (args : Array Value) (meth : Method) (c : Code) (cc : ByteArray) (nL : Nat) (own : String) (ini : Bool) (d C Z L0 : Nat) (D : va_G) (B : Nat) (cI cJ : ClassId) : Prop :=
  p.tables.exec = Jvm.exec ∧ c.code = cc ∧ c.maxLocals = nL ∧ s.vm.findClass own = some m.cls ∧ (∀ w ∈ ol_gt, w.before args s = true) ∧ cn_K D cI cJ s ∧ d + 1 ≤ R.frames ∧ 60 * (d + 1) ≤ R.locals ∧ C ≤ R.cells ∧ Z ≤ R.slots ∧ (ini = true → meth.name = "<init>") ∧ s.heap.size = B + L0
/-- a frame in which things are made -/
def cn_T (cc : ByteArray) (nL : Nat) (own : String) (ini : Bool) (d C Z L0 : Nat) (A : Nat → ol_Ls → ol_St → List cn_E → Nat → Nat → Prop) : Prop :=
  ∃ (p : Program) (l : Launch) (e : Env) (R : Room) (s : State) (m : MethodId) (args : Array Value) (below : List Frame) (meth : Method) (c : Code) (Q : State → Prop) (D : va_G) (B : Nat) (cI cJ : ClassId), A = cn_AW p l e R s m args below meth c Q nL D B cI cJ ∧ cn_Fr p R s m args meth c cc nL own ini d C Z L0 D B cI cJ
section CN
variable {cc : ByteArray} {nL : Nat} {own : String} {ini : Bool} {d C Z L0 : Nat} {A : Nat → ol_Ls → ol_St → List cn_E → Nat → Nat → Prop} {pc : Nat} {ls : ol_Ls} {st r : ol_St} {L : List cn_E} {x y : Nat}
theorem cn_iconst (h : cn_T cc nL own ini d C Z L0 A) {v : Int} (hd : decode cc pc = .ok (.iconst v, 1)) (kk : A (pc + 1) ls (.inl v :: st) L x y) : A pc ls st L x y := by
  obtain ⟨p, l, e, R, s, m, args, below, meth, c, Q, D, B, cI, cJ, rfl, hx, hb, -⟩ := h
  intro a H locs hl hH hS
  exact lv_iconst hx hb hd rfl (kk a H locs hl hH hS)
theorem cn_bipush (h : cn_T cc nL own ini d C Z L0 A) {v : Int} (hv : -128 ≤ v ∧ v ≤ 127) (hd : decode cc pc = .ok (.bipush v, 2)) (kk : A (pc + 2) ls (.inl v :: st) L x y) : A pc ls st L x y := by
  obtain ⟨p, l, e, R, s, m, args, below, meth, c, Q, D, B, cI, cJ, rfl, hx, hb, -⟩ := h
  intro a H locs hl hH hS
  exact lv_bipush hx hb hd (ol_bip hv) (kk a H locs hl hH hS)
theorem cn_sipush (h : cn_T cc nL own ini d C Z L0 A) {v : Int} (hv : -32768 ≤ v ∧ v ≤ 32767) (hd : decode cc pc = .ok (.sipush v, 3)) (kk : A (pc + 3) ls (.inl v :: st) L x y) : A pc ls st L x y := by
  obtain ⟨p, l, e, R, s, m, args, below, meth, c, Q, D, B, cI, cJ, rfl, hx, hb, -⟩ := h
  intro a H locs hl hH hS
  exact lv_sipush hx hb hd (ol_sip hv) (kk a H locs hl hH hS)
theorem cn_aload (h : cn_T cc nL own ini d C Z L0 A) {k : Fin 4} {v : Int} (hv : ls[(k : Nat)]? = some (some (.inr (.inr v)))) (hd : decode cc pc = .ok (.aload_n k, 1)) (kk : A (pc + 1) ls (.inr (.inr v) :: st) L x y) : A pc ls st L x y := by
  obtain ⟨p, l, e, R, s, m, args, below, meth, c, Q, D, B, cI, cJ, rfl, hx, hb, -⟩ := h
  intro a H locs hl hH hS
  exact lv_aload_n hx hb hd rfl (hl.2.2.2 _ _ hv) (kk a H locs hl hH hS)
theorem cn_iload (h : cn_T cc nL own ini d C Z L0 A) {k : Fin 4} {v : Int} (hv : ls[(k : Nat)]? = some (some (.inl v))) (hd : decode cc pc = .ok (.iload_n k, 1)) (kk : A (pc + 1) ls (.inl v :: st) L x y) : A pc ls st L x y := by
  obtain ⟨p, l, e, R, s, m, args, below, meth, c, Q, D, B, cI, cJ, rfl, hx, hb, -⟩ := h
  intro a H locs hl hH hS
  exact lv_iload_n hx hb hd rfl (hl.2.2.2 _ _ hv) (kk a H locs hl hH hS)
theorem cn_istore (h : cn_T cc nL own ini d C Z L0 A) {k : Fin 4} {v : Int} (hk : (k : Nat) < ls.length) (hd : decode cc pc = .ok (.istore_n k, 1)) (kk : A (pc + 1) (ol_s1 ls k (.inl v)) st L x y) : A pc ls (.inl v :: st) L x y := by
  obtain ⟨p, l, e, R, s, m, args, below, meth, c, Q, D, B, cI, cJ, rfl, hx, hb, -⟩ := h
  intro a H locs hl hH hS
  exact lv_istore_n hx hb hd rfl hl.has (by rw [← hl.2.2.1]; exact hk) rfl (fun a' ha' => kk a' H locs (hl.st1 ha') hH hS)
theorem cn_astore (h : cn_T cc nL own ini d C Z L0 A) {k : Fin 4} {v : Int} (hk : (k : Nat) < ls.length) (hd : decode cc pc = .ok (.astore_n k, 1)) (kk : A (pc + 1) (ol_s1 ls k (.inr (.inr v))) st L x y) : A pc ls (.inr (.inr v) :: st) L x y := by
  obtain ⟨p, l, e, R, s, m, args, below, meth, c, Q, D, B, cI, cJ, rfl, hx, hb, -⟩ := h
  intro a H locs hl hH hS
  exact lv_astore_n hx hb hd rfl hl.has (by rw [← hl.2.2.1]; exact hk) rfl (fun a' ha' => kk a' H locs (hl.st1 ha') hH hS)
theorem cn_iinc (h : cn_T cc nL own ini d C Z L0 A) {k : Nat} {n v : Int} (h1 : ls[k]? = some (some (.inl v))) (hd : decode cc pc = .ok (.iinc k n, 3)) (kk : A (pc + 3) (ol_s1 ls k (.inl (v + n))) st L x y) : A pc ls st L x y := by
  obtain ⟨p, l, e, R, s, m, args, below, meth, c, Q, D, B, cI, cJ, rfl, hx, hb, -⟩ := h
  intro a H locs hl hH hS
  obtain ⟨z, hz⟩ := List.getElem?_of_mem (ol_prs_mem.mpr ⟨k, .inl v, h1, rfl⟩ : (0 + k, ol_cv (cn_ad B) (.inl v)) ∈ ol_prs (cn_ad B) 0 ls)
  rw [Nat.zero_add] at hz
  exact lv_iinc (v := Int32.ofInt (v + n)) hx hb hd hl.has hz (by rw [Int32.ofInt_add]) (by rw [← hl.2.2.1]; exact (List.getElem?_eq_some_iff.mp h1).1) rfl (fun a' ha' => kk a' H locs (hl.st1 (v := .inl (v + n)) ha') hH hS)
theorem cn_goto (h : cn_T cc nL own ini d C Z L0 A) {off : Int} {t : Nat} (ht : (t : Int) = pc + off) (hd : decode cc pc = .ok (.goto off, 3)) (kk : A t ls st L x y) : A pc ls st L x y := by
  obtain ⟨p, l, e, R, s, m, args, below, meth, c, Q, D, B, cI, cJ, rfl, hx, hb, -⟩ := h
  intro a H locs hl hH hS
  exact lv_goto hx hb hd ht.symm (kk a H locs hl hH hS)
theorem cn_dup (h : cn_T cc nL own ini d C Z L0 A) {v : ol_V} (hv : ol_ct v = 1) (hd : decode cc pc = .ok (.dup, 1)) (kk : A (pc + 1) ls (v :: v :: st) L x y) : A pc ls (v :: st) L x y := by
  obtain ⟨p, l, e, R, s, m, args, below, meth, c, Q, D, B, cI, cJ, rfl, hx, hb, -⟩ := h
  intro a H locs hl hH hS
  exact lv_dup hx hb hd (by rw [ol_ctc]; exact hv) (kk a H locs hl hH hS)
/-- if_icmpge of two numbers: it jumps, or not -/
theorem cn_geT (h : cn_T cc nL own ini d C Z L0 A) {off a b : Int} {t : Nat} (ht : (t : Int) = pc + off) (ra : ol_r a) (rb : ol_r b) (ab : b ≤ a) (hd : decode cc pc = .ok (.if_icmp .ge off, 3)) (kk : A t ls st L x y) : A pc ls (.inl b :: .inl a :: st) L x y := by
  obtain ⟨p, l, e, R, s, m, args, below, meth, c, Q, D, B, cI, cJ, rfl, hx, hb, -⟩ := h
  intro ar H locs hl hH hS
  exact ol_brI hx hb hd ht (T := True) (F := False) ⟨ra, rb, ol_if.pos ab trivial⟩ (fun _ => kk ar H locs hl hH hS) (fun q => q.elim)
theorem cn_geF (h : cn_T cc nL own ini d C Z L0 A) {off a b : Int} {t : Nat} (ht : (t : Int) = pc + off) (ra : ol_r a) (rb : ol_r b) (ab : ¬ b ≤ a) (hd : decode cc pc = .ok (.if_icmp .ge off, 3)) (kk : A (pc + 3) ls st L x y) : A pc ls (.inl b :: .inl a :: st) L x y := by
  obtain ⟨p, l, e, R, s, m, args, below, meth, c, Q, D, B, cI, cJ, rfl, hx, hb, -⟩ := h
  intro ar H locs hl hH hS
  exact ol_brI hx hb hd ht (T := False) (F := True) ⟨ra, rb, ol_if.neg ab trivial⟩ (fun q => q.elim) (fun _ => kk ar H locs hl hH hS)
/-- fewer locals told -/
theorem cn_less (h : cn_T cc nL own ini d C Z L0 A) {ls0 : ol_Ls} (hle : ol_le ls0 ls) (kk : A pc ls0 st L x y) : A pc ls st L x y := by
  obtain ⟨p, l, e, R, s, m, args, below, meth, c, Q, D, B, cI, cJ, rfl, -⟩ := h
  intro a H locs hl hH hS
  exact kk a H locs (hl.le hle) hH hS
theorem cn_newa (h : cn_T cc nL own ini d C Z L0 A) {n k : Int} (hk : (L.length : Int) = k) (n0 : 0 ≤ n) (n1 : n ≤ 1000) (hc : x + 1 ≤ C) (hz : y + n.toNat ≤ Z) (hd : decode cc pc = .ok (.newarray .int, 2)) (kk : A (pc + 2) ls (.inr (.inr k) :: st) (L ++ [.inl (n.toNat, fun _ => 0)]) (x + 1) (y + n.toNat)) : A pc ls (.inl n :: st) L x y := by
  subst hk
  obtain ⟨p, l, e, R, s, m, args, below, meth, c, Q, D, B, cI, cJ, rfl, hx, hb, hml, hown, hts, hK, hfr, hlo, hce, hsl, -, hB⟩ := h
  intro a H locs hl hH hS
  have e0 : (Int32.ofInt n).toInt = n := ol_toI ⟨by omega, by omega⟩
  have hn : ¬ Int32.ofInt n < 0 := by
    intro q
    have q2 := Int32.lt_iff_toInt_lt.mp q
    rw [e0] at q2
    have q3 : n < 0 := q2
    omega
  have hN : (Int32.ofInt n).toNatClampNeg = n.toNat := by
    show (Int32.ofInt n).toInt.toNat = n.toNat
    rw [e0]
  refine va_newaK (atype := .int) (N := n.toNat) hx hb (hts _ (ol_gd (.arrayClass .int) (by decide +kernel))) rfl hd rfl hn hN (by show n.toNat * 4 ≤ _; omega) (by omega) (by omega) hH.1 fun H1 cA e1 z1 o1 hAr hNm => ?_
  have ec : cA = cI := by
    have q := hK.2.1.2.1
    have e2 : "[" ++ (newarray.typeOf .int).toString = "[I" := by decide +kernel
    rw [e2] at hNm
    exact Option.some.inj (hNm.symm.trans q)
  subst ec
  refine kk a H1 locs hl (hH.push (by rw [z1, hH.1]) (fun q hq => o1 q (by rw [← hH.1]; exact hq)) ?_) ⟨Nat.le_trans hS.1 (by rw [z1, hH.1]; omega), fun q h1 h2 => (o1 q (Nat.lt_of_lt_of_le h1 (by rw [← hH.1]; exact hS.1))).trans (hS.2.1 q h1 h2), hS.2.2⟩
  show H1[H.size]? = some (vp_cell _ _)
  rw [hH.1, e1]
  rfl
end CN
