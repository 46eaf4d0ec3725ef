/-! what is made, put, called -/
def cn_R (d C Z : Nat) (q : ol_MD) (as : List ol_V) (L L' : List cn_E) : Prop :=
  ∀ (l : Launch) (D : va_G) (B : Nat) (cI cJ : ClassId), Met l q.1 (ol_ws q) { frames := d, cells := C, slots := Z, locals := 60 * d } (va_Pc (as.map (ol_cv (cn_ad B))) (fun U => cn_H D B cI cJ L U.heap ∧ cn_K D cI cJ U)) (fun _ st oc t => oc = .returned none ∧ cn_H D B cI cJ L' t.heap ∧ va_F (cn_A B) st t) C Z (cn_A B)
def cn_zf (zs : List Bool) : List (Option ol_V) := zs.map (fun b => bif b then some (.inl 0) else none)
def cn_zok (q : vw_C) (zs : List Bool) : Bool := Nat.beq zs.length q.2.2 && (List.range q.2.2).all (fun j => decide ((parseFieldDescriptor (q.2.1 j).2.2.1).map defaultValue = some (bif zs.getD j false then .int 0 else .null)))
theorem cn_zv {q : vw_C} {zs : List Bool} (h : cn_zok q zs = true) (B : Nat) {ty : Nat → FieldType} (hty : ∀ k, k < q.2.2 → parseFieldDescriptor (q.2.1 k).2.2.1 = some (ty k)) : ∀ j, j < q.2.2 → defaultValue (ty j) = vp_V ((cn_zf zs).map (cn_v B)) j := by
  intro j hj
  unfold cn_zok at h
  rw [Bool.and_eq_true] at h
  have hl : zs.length = q.2.2 := Nat.eq_of_beq_eq_true h.1
  have h2 := of_decide_eq_true (List.all_eq_true.mp h.2 j (List.mem_range.mpr hj))
  rw [hty j hj] at h2
  have h3 := Option.some.inj h2
  rw [h3]
  have hj2 : j < zs.length := by omega
  simp only [vp_V, cn_zf, List.getD, List.map_map, List.getElem?_map, List.getElem?_eq_getElem hj2, Option.map_some, Option.getD_some, Function.comp]
  cases zs[j] <;> rfl
section CN
variable {cc : ByteArray} {nL : Nat} {own : String} {ini : Bool} {d C Z L0 : Nat} {A : Nat → ol_Ls → ol_St → List cn_E → Nat → Nat → Prop} {pc : Nat} {ls : ol_Ls} {st r : ol_St} {L : List cn_E} {x y : Nat}
theorem cn_new (h : cn_T cc nL own ini d C Z L0 A) {k : Int} {w ci : Nat} {q : vw_C} (hq : ol_cls[ci]? = some q) (zs : List Bool) (hz : cn_zok q zs = true) (hk : (L.length : Int) = k) (h1 : Cond.classLink own w q.1 ∈ ol_gt) (h2 : Cond.instantiable q.1 q.2.2 ∈ ol_gt) (h3 : Cond.initialized q.1 ∈ ol_gt) (hc : x + 1 ≤ C) (hs : y + q.2.2 ≤ Z) (hd : decode cc pc = .ok (.new w, 3)) (kk : A (pc + 3) ls (.inr (.inr k) :: st) (L ++ [.inr (.inr (ci, cn_zf zs))]) (x + 1) (y + q.2.2)) : A pc ls st L x y := by
  subst hk
  obtain ⟨p, l, e, R, s, m, args, below, meth, c, Q, D, B, cI, cJ, rfl, hx, hb, hml, hown, hts, hK, hfr, hlo, hce, hsl, -, hB⟩ := h
  intro a H locs hl hH hS
  obtain ⟨hin, ⟨ty, hpt⟩, hnm⟩ := ol_cok hq
  have hKn := hK.1.1 ci _ hq
  refine W.newcK hx hb hown (hts _ h1) (hts _ h2) (hts _ h3) rfl hd (by omega) (by omega) hKn.2.1 hH.1 fun H1 kC hkC e1 z1 o1 => ?_
  refine kk a H1 locs hl (hH.push (by rw [z1, hH.1]) (fun q hq => o1 q (by rw [← hH.1]; exact hq)) ?_) ⟨Nat.le_trans hS.1 (by rw [z1, hH.1]; omega), fun q h1 h2 => (o1 q (Nat.lt_of_lt_of_le h1 (by rw [← hH.1]; exact hS.1))).trans (hS.2.1 q h1 h2), hS.2.2⟩
  rw [hH.1]
  exact ⟨_, hq, (u_born ty hts hin hKn hkC e1 hpt).to (cn_zv hz B hpt)⟩
theorem cn_mna (h : cn_T cc nL own ini d C Z L0 A) {n k o : Int} {w : Nat} (hk : (L.length : Int) = o) (n0 : 0 ≤ n) (n1 : n ≤ 1000) (k0 : 0 ≤ k) (k1 : k ≤ 1000) (h1 : Cond.classLink own w "[[I" ∈ ol_gt) (hc : x + (1 + n.toNat) ≤ C) (hz : y + (n.toNat + n.toNat * k.toNat) ≤ Z) (hd : decode cc pc = .ok (.multianewarray w 2, 4)) (kk : A (pc + 4) ls (.inr (.inr o) :: st) (L ++ .inr (.inl (n.toNat, o + 1)) :: List.replicate n.toNat (.inl (k.toNat, fun _ => 0))) (x + 1 + n.toNat) (y + n.toNat + n.toNat * k.toNat)) : A pc ls (.inl k :: .inl n :: st) L x y := by
  subst hk
  obtain ⟨p, l, e, R, s, m, args, below, meth, c, Q, D, B, cI, cJ, rfl, hx, hb, hml, hown, hts, hK, hfr, hlo, hce, hsl, -, hB⟩ := h
  intro a H locs hl hH hS
  have e0 : ∀ v : Int, 0 ≤ v → v ≤ 1000 → ¬ Int32.ofInt v < 0 ∧ (Int32.ofInt v).toNatClampNeg = v.toNat := by
    intro v v0 v1
    have e0 : (Int32.ofInt v).toInt = v := ol_toI ⟨by omega, by omega⟩
    refine ⟨fun q => ?_, ?_⟩
    · have q2 := Int32.lt_iff_toInt_lt.mp q
      rw [e0] at q2
      have q3 : v < 0 := q2
      omega
    · show (Int32.ofInt v).toInt.toNat = v.toNat
      rw [e0]
  refine ol_mna hx hb hown (hts _ h1) hK.2.1 (hts _ (ol_gd (.arrayClass .int) (by decide +kernel))) (e0 n n0 n1).1 (e0 k k0 k1).1 (e0 n n0 n1).2 (e0 k k0 k1).2 (by omega) (by omega) hd (by omega) (by omega) (fun H1 g => ?_)
  obtain ⟨g1, g2, g3, g4⟩ := g
  have kz := kk a H1 locs hl (hH.pushes (by rw [g1]; simp; omega) g2 (fun j x hj => ?_)) ⟨Nat.le_trans hS.1 (by rw [g1]; omega), fun q h1 h2 => (g2 q (Nat.lt_of_lt_of_le h1 hS.1)).trans (hS.2.1 q h1 h2), hS.2.2⟩
  · rw [hH.1]
    exact kz
  · cases j with
    | zero =>
      cases hj
      show H1[H.size]? = some (vp_cell _ _)
      rw [g3, vp_cell_q]
      unfold mg_o arrV
      congr 2
      refine congrArg (Array.ofFn (n := n.toNat)) (funext fun i => ?_)
      rw [if_pos i.isLt]
      show Value.ref (H.size + 1 + i.val) = Value.ref (B + (((L.length : Int) + 1) + (i.val : Int)).toNat)
      have hz1 : H.size = B + L.length := hH.1
      have hz2 : (H.size + 1 + i.val : Nat) = B + (((L.length : Int) + 1) + (i.val : Int)).toNat := by omega
      exact congrArg Value.ref hz2
    | succ j =>
      rw [List.getElem?_cons_succ] at hj
      have hjn : j < n.toNat := by
        have := (List.getElem?_eq_some_iff.mp hj).1
        simpa using this
      rw [List.getElem?_replicate, if_pos hjn] at hj
      cases hj
      show H1[H.size + (j + 1)]? = some (vp_cell _ _)
      rw [show H.size + (j + 1) = H.size + 1 + j by omega, g4 j hjn, vp_cell_i]
      exact congrArg some (arrV_new cI k.toNat (.int 0))
theorem cn_getf (h : cn_T cc nL own ini d C Z L0 A) {w ci j : Nat} {fs : List (Option ol_V)} {k : Int} {v : ol_V} (hk : L[k.toNat]? = some (.inr (.inr (ci, fs)))) (hF : ol_LF own w ci j) (ho : fs[j]? = some (some v)) (hd : decode cc pc = .ok (.getfield w, 3)) (kk : A (pc + 3) ls (v :: st) L x y) : A pc ls (.inr (.inr k) :: st) L x y := by
  obtain ⟨p, l, e, R, s, m, args, below, meth, c, Q, D, B, cI, cJ, rfl, hx, hb, hml, hown, hts, hK, hfr, hlo, hce, hsl, -, hB⟩ := h
  intro a H locs hl hH hS
  obtain ⟨q, ref, hq, hj, hlk, hs⟩ := hF
  have hin := (ol_cok hq).1
  exact va_get (D := D) (cl := ol_cls) (ci := ci) (C := q.1) (T := q.2.1) (N := q.2.2) (Ts := ol_gt) hx hb hts hin hown hK.1 (hH.one hk) 0 rfl hq j hj (hts _ hlk) (ol_sf hts hs) (by rw [List.getElem?_map, ho]; rfl) hd (kk a H locs hl hH hS)
theorem cn_putf (h : cn_T cc nL own ini d C Z L0 A) {w ci j : Nat} {fs : List (Option ol_V)} {k : Int} {v : ol_V} {q : vw_C} {t0 : FieldType} (hq : ol_cls[ci]? = some q) (hk : L[k.toNat]? = some (.inr (.inr (ci, fs)))) (hF : ol_LF own w ci j) (hjl : j < fs.length) (ht0 : parseFieldDescriptor (q.2.1 j).2.2.1 = some t0) (hn : ∀ B, narrow t0 (ol_cv (cn_ad B) v) = ol_cv (cn_ad B) v ∧ Jvm.fits t0 (ol_cv (cn_ad B) v) = true) (hfin : (q.2.1 j).2.2.2 = false ∨ ((q.2.1 j).2.2.2 = true ∧ (q.2.1 j).1 = own ∧ ini = true)) (hd : decode cc pc = .ok (.putfield w, 3)) (kk : A (pc + 3) ls st (L.set k.toNat (.inr (.inr (ci, fs.set j (some v))))) x y) : A pc ls (v :: .inr (.inr k) :: st) L x y := by
  obtain ⟨p, l, e, R, s, m, args, below, meth, c, Q, D, B, cI, cJ, rfl, hx, hb, hml, hown, hts, hK, hfr, hlo, hce, hsl, hini, hB⟩ := h
  intro a H locs hl hH hS
  obtain ⟨q', ref, hq', hj, hlk, hs⟩ := hF
  cases hq.symm.trans hq'
  obtain ⟨hin, ⟨ty, hpt⟩, hnm⟩ := ol_cok hq
  have hap := va_apart (own := own) (D := D) (cl := ol_cls) (tys := [(cI, .int), (cJ, .array .int)]) hts hin ty hpt hnm hK.1 hq
  obtain ⟨r0, e1, cell, q1, q2, q3, q4⟩ := hH.2 k.toNat _ hk
  have hr0 : r0 = q := Option.some.inj (e1.symm.trans hq)
  subst hr0
  obtain ⟨hSl, hfc, kC, hkC, hkind⟩ := hK.1.1 ci _ hq
  obtain ⟨cf, kf, fi, f, hi, hsl'⟩ := hSl j hj
  have hlay := hts _ (hin _ (u_in_lay hj))
  unfold u_lay at hlay
  have hst := (u_facts hfc hkC (u_lays hts hin hj) hi).1
  have fin : ∀ H' : Heap, H'[B + k.toNat]? = some (cell.setSlot (D.2 ci j) (ol_cv (cn_ad B) v)) → H'.size = H.size → (∀ q, q ≠ B + k.toNat → H'[q]? = H[q]?) → W p l e R s m args below meth c H' (locs ++ [⟨B + k.toNat, D.2 ci j⟩]) x y Q (F0 m (pc + 3) a (st.map (ol_cv (cn_ad B)))) := by
    intro H' e1' e2 e3
    refine kk a H' _ hl (hH.set hk e2 e3 ?_) (hS.put e2 e3 (Nat.le_add_right B _))
    refine ⟨_, hq, t_OB.to (V := updV (vp_V (fs.map (cn_v B))) j (ol_cv (cn_ad B) v)) ⟨_, e1', q2, q3, t_set q4 hap hj _⟩ (fun i _ => ?_)⟩
    rw [vp_updV_set (by rw [List.length_map]; exact hjl)]
    show _ = vp_V ((fs.set j (some v)).map (cn_v B)) i
    rw [List.map_set]
    rfl
  rcases hfin with hf | ⟨hf, hdecl, hi1⟩
  · rw [if_neg (by rw [hf]; decide)] at hlay
    have h6 := u_store hfc hkC hkind hlay hi ht0 (hn B).1 (hn B).2
    refine W.putK hx hb (f := f) ⟨hown, hts _ hlk, ⟨_, _, _, ol_sf hts hs _ hi⟩, hst⟩ (by rw [q2]; exact h6) q1 q3 (by rw [hsl']; exact k2_hasslot (q4 j hj)) rfl rfl hd fun H' e1' e2 e3 => ?_
    rw [hsl'] at e1' ⊢
    exact fin H' e1' e2 e3
  · rw [if_pos hf] at hlay
    have hcf : m.cls = cf := by
      obtain ⟨_, _, c', _, _, _, -, -, hf', -, -, -, hown2, -⟩ := Cond.laysFinal_spec hlay
      have e1 : c' = cf := by have := hi.symm.trans hf'; simp at this; exact this.1.symm
      rw [hdecl] at hown2
      rw [← e1]; exact Option.some.inj (hown.symm.trans hown2)
    have h6 := u_fits hfc hkC hkind (Or.inr hlay) hi ht0 (hn B).1 (hn B).2
    refine W.putFinK hx hb hown (hts _ hlk) (ol_sf hts hs _ hi) hst hcf (hini hi1) (by rw [q2]; exact h6) q1 q3 (by rw [hsl']; exact k2_hasslot (q4 j hj)) rfl rfl hd fun H' e1' e2 e3 => ?_
    rw [hsl'] at e1' ⊢
    exact fin H' e1' e2 e3
theorem cn_iast (h : cn_T cc nL own ini d C Z L0 A) {n : Nat} {f : Int → Int} {k i v : Int} (hk : L[k.toNat]? = some (.inl (n, f))) (h0 : 0 ≤ i) (h1 : i < n) (hn : n < 1000000) (hd : decode cc pc = .ok (.iastore, 1)) (kk : A (pc + 1) ls st (L.set k.toNat (.inl (n, ol_rs f i v))) x y) : A pc ls (.inl v :: .inl i :: .inr (.inr k) :: st) L x y := by
  obtain ⟨p, l, e, R, s, m, args, below, meth, c, Q, D, B, cI, cJ, rfl, hx, hb, hml, hown, hts, hK, hfr, hlo, hce, hsl, -, hB⟩ := h
  intro a H locs hl hH hS
  refine W.iast hx hb (hH.2 _ _ hk) ((hK.1.2 0 _ rfl).1 n (fun j => .int (Int32.ofInt (f (j : Int))))) (fun q => by cases q) (by show ¬ (_ ∨ (arrV _ _ _).slots.size ≤ _); rw [arrV_size]; exact ol_inR h0 h1 hn) rfl rfl hd fun H1 e z oq => ?_
  refine kk a H1 _ hl (hH.set hk z oq ?_) (hS.put z oq (Nat.le_add_right B _))
  show H1[B + k.toNat]? = some (vp_cell _ _)
  rw [e]
  rw [vp_cell_i, vp_cell_i, arrV_store, ol_nat h0 (by omega)]
  congr 2
  funext q
  unfold updV
  by_cases hq : q = i.toNat
  · subst hq
    simp [ol_rs, Int.max_eq_left h0]
  · have : ¬ (q : Int) = i := by omega
    simp [hq, ol_rs, this]
theorem cn_obj (h : cn_T cc nL own ini d C Z L0 A) {k : Int} {w : Nat} (h1 : Cond.methodLink own w Lib.objectInit ∈ ol_gt) (hsm : ol_sm st ≤ 8) (hd : decode cc pc = .ok (.invokespecial w, 3)) (kk : A (pc + 3) ls st L x y) : A pc ls (.inr (.inr k) :: st) L x y := by
  obtain ⟨p, l, e, R, s, m, args, below, meth, c, Q, D, B, cI, cJ, rfl, hx, hb, hml, hown, hts, hK, hfr, hlo, hce, hsl, -, hB⟩ := h
  intro a H locs hl hH hS
  refine W.objInit hx hb hown (hts _ h1) (hts _ (ol_gd (.instanceMethod Lib.objectInit) (by decide +kernel))) (hts _ (ol_gd (.code Lib.objectInit ⟨#[0xb1]⟩ 1 none) (by decide +kernel))) rfl (by rw [hml]; exact hl.1) rfl hd (by omega) ?_ (kk a H locs hl hH hS)
  show 2 * 0 + ((st.map (ol_cv (cn_ad B))).map fun v => v.category).sum + 12 ≤ R.locals
  rw [ol_smc]
  omega
theorem cn_call (h : cn_T cc nL own ini d C Z L0 A) {k : Int} {w n d' C' Z' : Nat} {q : ol_MD} {as : List ol_V} {L' : List cn_E} (hst : st = as.reverse ++ .inr (.inr k) :: r) (hL : ol_MK q n) (hy : q.1.name = "<init>") (hret : q.2.2.2 = none) (hlk : Cond.methodLink own w q.1 ∈ ol_gt) (hin : Cond.instanceMethod q.1 ∈ ol_gt) (hd' : d' ≤ d) (hC : x + C' ≤ C) (hZ : y + Z' ≤ Z) (hn : as.length = n) (hsm : ol_sm r ≤ 8) (hM : cn_R d' C' Z' q (.inr (.inr k) :: as) L L') (hd : decode cc pc = .ok (.invokespecial w, 3)) (kk : A (pc + 3) ls r L' (x + C') (y + Z')) : A pc ls st L x y := by
  obtain ⟨p, l, e, R, s, m, args, below, meth, c, Q, D, B, cI, cJ, rfl, hx, hb, hml, hown, hts, hK, hfr, hlo, hce, hsl, -, hB⟩ := h
  intro a H locs hl hH hS
  obtain ⟨h1, h2, h3, h4, h5⟩ := hL
  have hstk : (F0 m pc a (st.map (ol_cv (cn_ad B)))).stack = (as.map (ol_cv (cn_ad B))).reverse ++ .ref (cn_ad B k) :: r.map (ol_cv (cn_ad B)) := by
    show st.map (ol_cv (cn_ad B)) = _
    rw [hst, List.map_append, List.map_reverse]
    rfl
  have hW : 2 * (F0 m pc a (st.map (ol_cv (cn_ad B)))).monitorRoom + ((r.map (ol_cv (cn_ad B))).map fun v => v.category).sum ≤ 8 := lv_room (by rw [ol_smc]; exact hsm)
  have hw : ol_ws q = Cond.code q.1 q.2.1 q.2.2.1 none :: ol_gt := by unfold ol_ws; rw [hret]
  have hpre : PreS s H (va_Pc ((.inr (.inr k) :: as : List ol_V).map (ol_cv (cn_ad B))) (fun U => cn_H D B cI cJ L U.heap ∧ cn_K D cI cJ U)) (.ref (cn_ad B k) :: as.map (ol_cv (cn_ad B))) :=
    ⟨fun a U g mk q => ⟨q.1, q.2.1, cn_K.same rfl q.2.2⟩, fun U hU hW => ⟨rfl, by rw [hU]; exact hH, hK.moved hW⟩⟩
  have hr := va_runI (Ts := ol_gt) (own := own) (index := w) (e := e) (R := R) (below := below) (meth := meth) (locs := locs) (cells := x) (slots := y) (b := cn_ad B k) (As := as.map (ol_cv (cn_ad B))) (rest := r.map (ol_cv (cn_ad B))) ⟨hx, hb, hml, hown, hts⟩ (hM l D B cI cJ) ⟨callB_of n hts (ol_good h1) hw rfl rfl (hts _ h2) (hts _ hlk) ⟨h3.1, h3.2, h4⟩ ⟨by show d' + 1 ≤ R.frames; omega, by show 8 + (q.2.2.1 + 11) + 60 * d' ≤ R.locals; omega⟩, hy, hts _ hin⟩ hpre rfl (by rw [List.length_map]; exact hn) hl.1 hstk hW hd ⟨by omega, by omega⟩
  intro T hT X
  obtain ⟨w', st₀, t, T', Lc, h0, X', hLc, e1, e2, ⟨hv, hh, hz, hq⟩, stp⟩ := hr T hT X
  have hw' : w' = none := by cases hv; rfl
  subst hw'
  rw [h0] at hz hq
  have hS' : va_S (cn_A B) s.heap T'.heap (locs ++ Lc) := by
    refine ⟨Nat.le_trans hS.1 (by rw [e1]; exact hz), fun q h1 h2 => ?_, fun q hq2 => ?_⟩
    · rw [e1, hq q (Nat.lt_of_lt_of_le h1 hS.1) h2]
      exact hS.2.1 q h1 h2
    · rcases List.mem_append.mp hq2 with h | h
      · exact hS.2.2 q h
      · exact hLc q h
  obtain ⟨t2, a1, b1⟩ := kk a T'.heap (locs ++ Lc) hl (by rw [e1]; exact hh) hS' T' rfl X'
  exact ⟨t2, stp t2 a1, b1⟩
theorem cn_fill (h : cn_T cc nL own ini d C Z L0 A) {k v : Int} {w n : Nat} {f : Int → Int} (h0 : 0 ≤ k) (hk : L[k.toNat]? = some (.inl (n, f))) (hn : n < 1000000) (hL : ol_LS own w q_J7_fill_53178 2) (hd1 : 1 ≤ d) (hxy : x ≤ C ∧ y ≤ Z) (hL0 : L.length = L0 + x) (hsm : ol_sm st ≤ 8) (hd : decode cc pc = .ok (.invokestatic w, 3)) (kk : A (pc + 3) ls st (L.set k.toNat (.inl (n, ol_fl f v n))) x y) : A pc ls (.inl v :: .inr (.inr k) :: st) L x y := by
  obtain ⟨p, l, e, R, s, m, args, below, meth, c, Q, D, B, cI, cJ, rfl, hx, hb, hml, hown, hts, hK, hfr, hlo, hce, hsl, -, hB⟩ := h
  intro a H locs hl hH hS
  have hp := p_fill (lay := fun i => if i = k then some (.inl n) else none) (k := k) (v := v) (M := fun _ => f) (if_pos rfl) h0 hn
  have hHl : ol_H D (cn_ad B) cI cJ (fun i => if i = k then some (.inl n) else none) (fun _ => f) H := by
    intro i z hi
    have hi : (if i = k then some (Sum.inl n) else none : Option ol_Y) = some z := hi
    by_cases q : i = k
    · rw [if_pos q] at hi
      cases hi
      rw [q]
      exact hH.2 _ _ hk
    · rw [if_neg q] at hi; cases hi
  have hKl : ol_K D (cn_ad B) cI cJ (fun i => if i = k then some (.inl n) else none) s := by
    refine ⟨hK.1, fun i j yi yj hi hj _ => ?_, hK.2.2.1, hK.2.2.2⟩
    have hi : (if i = k then some (Sum.inl n) else none : Option ol_Y) = some yi := hi
    have hj : (if j = k then some (Sum.inl n) else none : Option ol_Y) = some yj := hj
    by_cases q : i = k
    · by_cases q2 : j = k
      · rw [q, q2]
      · rw [if_neg q2] at hj; cases hj
    · rw [if_neg q] at hi; cases hi
  obtain ⟨⟨h1, h2, h3, h4, h5⟩, hst, hlk⟩ := hL
  have hW : 2 * (F0 m pc a ((.inl v :: .inr (.inr k) :: st : ol_St).map (ol_cv (cn_ad B)))).monitorRoom + ((st.map (ol_cv (cn_ad B))).map fun v => v.category).sum ≤ 8 := lv_room (by rw [ol_smc]; exact hsm)
  rcases hlk with hlk | ⟨ho, hnest⟩
  · have hr := va_runS (Ts := ol_gt) (own := own) (index := w) (e := e) (R := R) (below := below) (meth := meth) (locs := locs) (cells := x) (slots := y) (g := F0 m pc a ((.inl v :: .inr (.inr k) :: st : ol_St).map (ol_cv (cn_ad B)))) (As := ([.inr (.inr k), .inl v] : List ol_V).map (ol_cv (cn_ad B))) (rest := st.map (ol_cv (cn_ad B))) ⟨hx, hb, hml, hown, hts⟩ (hp l D (cn_ad B) cI cJ) ⟨callB_of 2 hts (ol_good h1) rfl rfl rfl (hts _ h2) (hts _ hlk) ⟨h3.1, h3.2, h4⟩ (ol_roomd (d := d) hd1 h5 hfr hlo), hts _ hst⟩ (ol_pre hHl hKl) rfl rfl hl.1 rfl hW hd ⟨by omega, by omega⟩
    intro T hT X
    obtain ⟨w', st₀, t, T', Lc, hh0, X', hLc, e1, e2, ⟨hv, hh, hz, hq⟩, stp⟩ := hr T hT X
    have hw' : w' = none := by cases hv; rfl
    subst hw'
    rw [hh0] at hz hq
    have hAk : ∀ q, ol_A (cn_ad B) (fun i => if i = k then some (.inl n) else none) q → q = B + k.toNat := by
      rintro q ⟨i, z, i0, hi, rfl⟩
      have hi : (if i = k then some (Sum.inl n) else none : Option ol_Y) = some z := hi
      by_cases qi : i = k
      · rw [qi]; rfl
      · rw [if_neg qi] at hi; cases hi
    have hlen : k.toNat < L.length := (List.getElem?_eq_some_iff.mp hk).1
    have hz2 : T'.heap.size = H.size := by
      have z1 : H.size ≤ T'.heap.size := by rw [e1]; exact hz
      have z2 : T'.heap.size ≤ s.heap.size + x := X'.same.2.2.1
      rw [hH.1] at z1 ⊢
      rw [hB] at z2
      omega
    have hoq : ∀ q, q ≠ B + k.toNat → T'.heap[q]? = H[q]? := by
      intro q hne
      rw [e1]
      by_cases ql : q < H.size
      · exact hq q ql (fun z => hne (hAk q z))
      · rw [Array.getElem?_eq_none (by rw [← e1, hz2]; omega), Array.getElem?_eq_none (by omega)]
    have hat : va_at D ol_cls (B + k.toNat, cn_e B cI cJ (.inl (n, ol_fl f v n))) T'.heap := by
      rw [e1]
      have := hh k (.inl n) (if_pos rfl)
      have em : ol_mp (fun _ => f) k (ol_fl f v n) k = ol_fl f v n := ol_mp_same _ _ _
      have e3 : ol_E (cn_ad B) cI cJ (ol_mp (fun _ => f) k (ol_fl f v n)) k (.inl n) = cn_e B cI cJ (.inl (n, ol_fl f v n)) := by
        show (Sum.inl (cI, n, Sum.inl (fun j : Nat => Int32.ofInt (ol_mp (fun _ => f) k (ol_fl f v n) k (j : Int)))) : va_E) = _
        rw [em]
        rfl
      rw [e3] at this
      exact this
    have hS' : va_S (cn_A B) s.heap T'.heap (locs ++ Lc) := by
      refine ⟨by rw [hz2]; exact hS.1, fun q h1 h2 => ?_, fun q hq2 => ?_⟩
      · rw [hoq q (fun z => h2 (by rw [z]; exact Nat.le_add_right B _))]
        exact hS.2.1 q h1 h2
      · rcases List.mem_append.mp hq2 with h | h
        · exact hS.2.2 q h
        · rw [hAk _ (hLc q h)]; exact Nat.le_add_right B _
    obtain ⟨t2, a1, b1⟩ := kk a T'.heap (locs ++ Lc) hl (hH.set hk hz2 hoq hat) hS' T' rfl X'
    exact ⟨t2, stp t2 a1, b1⟩
  · exact absurd hnest (by
      intro hm
      rcases List.mem_cons.mp hm with h | hm
      · exact absurd (congrArg (fun z : String × Nat × MethodName × String => z.2.2.1.cls) h) (show ¬ (q_J7_fill_53178.1.cls = "OunceLetters") by decide +kernel)
      rcases List.mem_cons.mp hm with h | hm
      · exact absurd (congrArg (fun z : String × Nat × MethodName × String => z.2.2.1.cls) h) (show ¬ (q_J7_fill_53178.1.cls = "OunceLetters") by decide +kernel)
      rcases List.mem_cons.mp hm with h | hm
      · exact absurd (congrArg (fun z : String × Nat × MethodName × String => z.2.2.1.cls) h) (show ¬ (q_J7_fill_53178.1.cls = "OunceLetters") by decide +kernel)
      · cases hm)
end CN
/-- a constructor by its code -/
theorem cn_Ri {d C Z : Nat} {q : ol_MD} {as : List ol_V} {L L' : List cn_E} (hpl : plainName q.1.cls = true) (hlen : (ol_en as).length ≤ q.2.2.1) (hret : q.2.2.2 = none) (hy : q.1.name = "<init>")
    (body : ∀ A, cn_T q.2.1 q.2.2.1 q.1.cls true d C Z L.length A → (∀ pc ls x y, x ≤ C → y ≤ Z → decode q.2.1 pc = .ok (.return_, 1) → A pc ls [] L' x y) → A 0 (ol_ent as q.2.2.1) [] L 0 0) : cn_R (d + 1) C Z q as L L' := by
  intro l D B cI cJ
  refine Met.ofW (cc := q.2.1) (maxL := q.2.2.1) (ret := q.2.2.2) hpl rfl ?_
  intro p e s m args below meth c s₁ Bd hml hv
  obtain ⟨rfl, hH, hK⟩ := hv
  have hts0 := atoms_spec (ws := ol_ws q) Bd.pre
  have hts : ∀ w ∈ ol_gt, w.before (as.map (ol_cv (cn_ad B))).toArray s = true := fun w hw => hts0 w (List.mem_cons_of_mem _ hw)
  have hown : s.vm.findClass q.1.cls = some m.cls := findClass_of_methodNamed Bd.named
  have hin : meth.name = "<init>" := by rw [(name_of_methodNamed Bd.named Bd.method).1]; exact hy
  have hlocks := Bd.notSynchronized
  have hr := Bd.returns
  have K := body (cn_AW p l e (headSpec (ol_ws q) { frames := d + 1, cells := C, slots := Z, locals := 60 * (d + 1) }).room s m (as.map (ol_cv (cn_ad B))).toArray below meth c (MQ below (fun _ st oc t => oc = .returned none ∧ cn_H D B cI cJ L' t.heap ∧ va_F (cn_A B) st t) (as.map (ol_cv (cn_ad B))).toArray s C Z (cn_A B)) q.2.2.1 D B cI cJ)
    ⟨p, l, e, _, s, m, _, below, meth, c, _, D, B, cI, cJ, rfl, Bd.exec, Bd.bytes, hml, hown, hts, hK, Nat.le_refl _, Nat.le_refl _, Nat.le_refl _, Nat.le_refl _, fun _ => hin, hH.1⟩
    (fun pc ls x y hx hy hd a H locs hl hH1 hS1 => W.widen hx hy (W.vret Bd.exec Bd.bytes (hr.trans hret) (fun t ht hW => ⟨rfl, by rw [ht]; exact hH1, hS1.F ht⟩) hS1.2.2 hd))
  rw [lg_entry_eq]
  exact K _ _ _ (ol_lv_entry (cn_ad B) as hlen) hH va_S.rf
