section OLS
variable {p : Program} {l : Launch} {e : Env} {R : Room} {s : State} {m : MethodId} {args : Array Value} {below : List Frame} {meth : Method} {c : Code} {cells slots : Nat} {Q : State → Prop}
variable {cc : ByteArray} {nL : Nat} {own : String} {d : Nat} {D : va_G} {ad : Int → Nat} {cI cJ : ClassId} {lay : ol_L}
theorem ol_E_i {M : ol_M} {k : Int} {n : Nat} : ol_E ad cI cJ M k (.inl n) = .inl (cI, n, .inl (fun j => Int32.ofInt (M k (j : Int)))) := rfl
/-- fields -/
theorem ol_sf {a0 : Array Value} {ref O f dsc : String} (hts : ∀ w ∈ ol_gt, w.before a0 s = true) (h : ref = O ∨ Cond.sameField ref O f dsc ∈ ol_gt) : ∀ x, s.fieldFound? O f dsc = some x → s.fieldFound? ref f dsc = some x := by
  intro x hx
  rcases h with rfl | h
  · exact hx
  · exact u_same (hts _ h) x hx
theorem ol_get (F : ol_Fr p R s m args c cells slots cc nL own d D ad cI cJ lay) {x ci j : Nat} {fs : List (Option Int)} {o : Option Int} {k : Int} {M : ol_M} {H : Heap} {locs : List Loc} {pc : Nat} {a : Array Slot} {r : List Value} (hy : lay k = some (.inr (.inr (ci, fs)))) (hF : ol_LF own x ci j) (ho : fs[j]? = some o) (hH : ol_H D ad cI cJ lay M H) (hd : decode cc pc = .ok (.getfield x, 3))
    (kk : W p l e R s m args below meth c H locs cells slots Q (F0 m (pc + 3) a (ol_cv ad (ol_fv M k j o) :: r))) : W p l e R s m args below meth c H locs cells slots Q (F0 m pc a (.ref (ad k) :: r)) := by
  obtain ⟨hx, hb, hml, hown, hts, hk, -⟩ := F
  obtain ⟨q, ref, hq, hj, hlk, hs⟩ := hF
  have hin := (ol_cok hq).1
  exact va_get (D := D) (cl := ol_cls) (ci := ci) (C := q.1) (T := q.2.1) (N := q.2.2) (Ts := ol_gt) hx hb hts hin hown hk.1 (hH.one hy) 0 rfl hq j hj (hts _ hlk) (ol_sf hts hs) (by rw [ol_fs_get, ho]; simp) hd kk
theorem ol_put (F : ol_Fr p R s m args c cells slots cc nL own d D ad cI cJ lay) {x ci j : Nat} {fs : List (Option Int)} {k v : Int} {M : ol_M} {H : Heap} {locs : List Loc} {pc : Nat} {a : Array Slot} {r : List Value} (hy : lay k = some (.inr (.inr (ci, fs)))) (hF : ol_LF own x ci j) (ho : fs[j]? = some none) (h0 : 0 ≤ k) (hp : ol_PF ci j v) (hH : ol_H D ad cI cJ lay M H) (hS : va_S (ol_A ad lay) s.heap H locs) (hd : decode cc pc = .ok (.putfield x, 3))
    (kk : ∀ (H1 : Heap) (locs1 : List Loc), ol_H D ad cI cJ lay (ol_ms M k j v) H1 → va_S (ol_A ad lay) s.heap H1 locs1 → W p l e R s m args below meth c H1 locs1 cells slots Q (F0 m (pc + 3) a r)) : W p l e R s m args below meth c H locs cells slots Q (F0 m pc a (.int (Int32.ofInt v) :: .ref (ad k) :: r)) := by
  obtain ⟨hx, hb, hml, hown, hts, hk, -⟩ := F
  obtain ⟨q, ref, hq, hj, hlk, hs⟩ := hF
  obtain ⟨q', hq', hfin, hty⟩ := hp
  cases hq.symm.trans hq'
  obtain ⟨hin, ⟨ty, hpt⟩, hnm⟩ := ol_cok hq
  have hap := va_apart (own := own) (D := D) (cl := ol_cls) (tys := [(cI, .int), (cJ, .array .int)]) hts hin ty hpt hnm hk.1 hq
  obtain ⟨r0, e1, cell, q1, q2, q3, q4⟩ := hH k _ hy
  have hr0 : r0 = q := Option.some.inj (e1.symm.trans hq)
  subst hr0
  obtain ⟨hSl, hfc, kC, hkC, hkind⟩ := hk.1.1 ci _ hq
  obtain ⟨cf, kf, fi, f, hi, hsl⟩ := hSl j hj
  have hlay := hts _ (hin _ (u_in_lay hj))
  unfold u_lay at hlay
  rw [if_neg (by rw [hfin]; decide)] at hlay
  have hst := (u_facts hfc hkC (u_lays hts hin hj) hi).1
  obtain ⟨t0, ht0, hn, hfit⟩ : ∃ t0, parseFieldDescriptor (r0.2.1 j).2.2.1 = some t0 ∧ narrow t0 (.int (Int32.ofInt v)) = .int (Int32.ofInt v) ∧ fits t0 (.int (Int32.ofInt v)) = true := by
    rcases hty with h | ⟨h, h | h⟩
    · exact ⟨.int, by rw [h]; decide +kernel, rfl, rfl⟩
    · subst h
      exact ⟨.boolean, by rw [h]; decide +kernel, by decide, by decide⟩
    · subst h
      exact ⟨.boolean, by rw [h]; decide +kernel, by decide, by decide⟩
  have h6 := u_store hfc hkC hkind hlay hi ht0 hn hfit
  refine W.putK hx hb (f := f) ⟨hown, hts _ hlk, ⟨_, _, _, ol_sf hts hs _ hi⟩, hst⟩ (by rw [q2]; exact h6) q1 q3 (by rw [hsl]; exact k2_hasslot (q4 j hj)) rfl rfl hd fun H' e1' e2 e3 => ?_
  rw [hsl] at e1' ⊢
  refine kk H' _ (hH.set hk.2.1 hy _ ?_ e3) (hS.put e2 e3 ⟨k, _, h0, hy, rfl⟩)
  refine ⟨_, hq, t_OB.to (V := updV (vp_V (ol_fs ad M k 0 fs)) j (.int (Int32.ofInt v))) ⟨_, e1', q2, q3, t_set q4 hap hj _⟩ (fun i _ => ?_)⟩
  rw [vp_updV_set (by rw [ol_fs_len]; exact (List.getElem?_eq_some_iff.mp ho).1), ol_fs_set M k fs j v ho]
  rfl
theorem ol_ald (F : ol_Fr p R s m args c cells slots cc nL own d D ad cI cJ lay) {n : Nat} {k i : Int} {M : ol_M} {H : Heap} {locs : List Loc} {pc : Nat} {a : Array Slot} {r : List Value} (hy : lay k = some (.inl n)) (h0 : 0 ≤ i) (h1 : i < n) (hn : n < 1000000) (hH : ol_H D ad cI cJ lay M H) (hd : decode cc pc = .ok (.iaload, 1))
    (kk : W p l e R s m args below meth c H locs cells slots Q (F0 m (pc + 1) a (.int (Int32.ofInt (M k i)) :: r))) : W p l e R s m args below meth c H locs cells slots Q (F0 m pc a (.int (Int32.ofInt i) :: .ref (ad k) :: r)) := by
  obtain ⟨hx, hb, hml, hown, hts, hk, -⟩ := F
  refine va_iald (D := D) (cl := ol_cls) hx hb hk.1 (hH.one hy) 0 0 rfl rfl (ol_inR h0 h1 hn) hd ?_
  rw [ol_nat h0 (by omega), Int.toNat_of_nonneg h0]
  exact kk
theorem ol_aaq (F : ol_Fr p R s m args c cells slots cc nL own d D ad cI cJ lay) {n : Nat} {k i b : Int} {M : ol_M} {H : Heap} {locs : List Loc} {pc : Nat} {a : Array Slot} {r : List Value} (hy : lay k = some (.inr (.inl (n, b)))) (h0 : 0 ≤ i) (h1 : i < n) (hn : n < 1000000) (hH : ol_H D ad cI cJ lay M H) (hd : decode cc pc = .ok (.aaload, 1))
    (kk : W p l e R s m args below meth c H locs cells slots Q (F0 m (pc + 1) a (.ref (ad (b + i)) :: r))) : W p l e R s m args below meth c H locs cells slots Q (F0 m pc a (.int (Int32.ofInt i) :: .ref (ad k) :: r)) := by
  obtain ⟨hx, hb, hml, hown, hts, hk, -⟩ := F
  have hq := hH k _ hy
  have hlt : (Int32.ofInt i).toNatClampNeg < n := by rw [ol_nat h0 (by omega)]; omega
  refine W.aald (v := .ref (ad (b + i))) (ty := .array .int) hx hb hq ((hk.1.2 1 _ rfl).1 n (fun j => va_rf (some (ad (b + (j : Int)))))) rfl (fun q => by cases q) (by show ¬ (_ ∨ (arrV _ _ _).slots.size ≤ _); rw [arrV_size]; exact ol_inR h0 h1 hn) (by show (arrV _ _ _).slots[_]? = _; rw [arrV_read _ _ hlt, ol_nat h0 (by omega)]; show some (Value.ref (ad (b + ((i.toNat : Nat) : Int)))) = _; rw [Int.toNat_of_nonneg h0]) rfl rfl hd kk
theorem ol_ast (F : ol_Fr p R s m args c cells slots cc nL own d D ad cI cJ lay) {n : Nat} {k i v : Int} {M : ol_M} {H : Heap} {locs : List Loc} {pc : Nat} {a : Array Slot} {r : List Value} (hy : lay k = some (.inl n)) (hk0 : 0 ≤ k) (h0 : 0 ≤ i) (h1 : i < n) (hn : n < 1000000) (hH : ol_H D ad cI cJ lay M H) (hS : va_S (ol_A ad lay) s.heap H locs) (hd : decode cc pc = .ok (.iastore, 1))
    (kk : ∀ (H1 : Heap) (locs1 : List Loc), ol_H D ad cI cJ lay (ol_ms M k i v) H1 → va_S (ol_A ad lay) s.heap H1 locs1 → W p l e R s m args below meth c H1 locs1 cells slots Q (F0 m (pc + 1) a r)) : W p l e R s m args below meth c H locs cells slots Q (F0 m pc a (.int (Int32.ofInt v) :: .int (Int32.ofInt i) :: .ref (ad k) :: r)) := by
  obtain ⟨hx, hb, hml, hown, hts, hk, -⟩ := F
  refine W.iast hx hb (hH k _ hy) ((hk.1.2 0 _ rfl).1 n (fun j => .int (Int32.ofInt (M k (j : Int))))) (fun q => by cases q) (by show ¬ (_ ∨ (arrV _ _ _).slots.size ≤ _); rw [arrV_size]; exact ol_inR h0 h1 hn) rfl rfl hd fun H1 e z oq => ?_
  refine kk H1 _ (hH.set hk.2.1 hy _ ?_ oq) (hS.put z oq ⟨k, _, hk0, hy, rfl⟩)
  show H1[ad k]? = some (vp_cell _ _)
  rw [e]
  rw [vp_cell_i, vp_cell_i, arrV_store, ol_nat h0 (by omega)]
  congr 2
  funext q
  unfold updV
  by_cases hq : q = i.toNat
  · subst hq
    simp [ol_mp, ol_rs, Int.max_eq_left h0]
  · have : ¬ (q : Int) = i := by omega
    simp [hq, ol_mp, ol_rs, this]
theorem ol_aln (F : ol_Fr p R s m args c cells slots cc nL own d D ad cI cJ lay) {n : Nat} {k : Int} {M : ol_M} {H : Heap} {locs : List Loc} {pc : Nat} {a : Array Slot} {r : List Value} (hy : lay k = some (.inl n)) (hH : ol_H D ad cI cJ lay M H) (hd : decode cc pc = .ok (.arraylength, 1))
    (kk : W p l e R s m args below meth c H locs cells slots Q (F0 m (pc + 1) a (.int (Int32.ofInt n) :: r))) : W p l e R s m args below meth c H locs cells slots Q (F0 m pc a (.ref (ad k) :: r)) := by
  obtain ⟨hx, hb, hml, hown, hts, hk, -⟩ := F
  exact va_alen (D := D) (cl := ol_cls) hx hb hk.1 (hH.one hy) 0 0 rfl rfl (by first | exact (Int32.ofInt_eq_ofNat n).symm | exact Int32.ofInt_eq_ofNat.symm | exact (Int32.ofInt_natCast n).symm) hd kk
theorem ol_arc : Cond.native arraycopyName ∈ ol_gt ∧ Cond.static arraycopyName ∈ ol_gt ∧ Cond.initialized "java/lang/System" ∈ ol_gt := ⟨ol_gd _ (by decide +kernel), ol_gd _ (by decide +kernel), ol_gd _ (by decide +kernel)⟩
theorem ol_acp (F : ol_Fr p R s m args c cells slots cc nL own d D ad cI cJ lay) {x na nb : Nat} {ka kb sp dp n : Int} {M : ol_M} {H : Heap} {locs : List Loc} {pc : Nat} {a : Array Slot} {r : List Value} (hlk : Cond.methodLink own x arraycopyName ∈ ol_gt) (hsz : a.size = nL) (hrw : (r.map fun v => v.category).sum ≤ 8) (hya : lay ka = some (.inl na)) (hyb : lay kb = some (.inl nb)) (h0 : 0 ≤ kb) (h1 : 0 ≤ sp) (h2 : 0 ≤ dp) (h3 : 0 ≤ n) (h4 : sp + n ≤ na) (h5 : dp + n ≤ nb) (h6 : na < 1000000) (h7 : nb < 1000000) (hH : ol_H D ad cI cJ lay M H) (hS : va_S (ol_A ad lay) s.heap H locs) (hd : decode cc pc = .ok (.invokestatic x, 3))
    (kk : ∀ (H1 : Heap) (locs1 : List Loc), ol_H D ad cI cJ lay (ol_mp M kb (ol_cp (M ka) (M kb) sp dp n)) H1 → va_S (ol_A ad lay) s.heap H1 locs1 → W p l e R s m args below meth c H1 locs1 cells slots Q (F0 m (pc + 3) a r)) : W p l e R s m args below meth c H locs cells slots Q (F0 m pc a (.int (Int32.ofInt n) :: .int (Int32.ofInt dp) :: .ref (ad kb) :: .int (Int32.ofInt sp) :: .ref (ad ka) :: r)) := by
  obtain ⟨hx, hb, hml, hown, hts, hk, hfr, hlo, hce, hsl⟩ := F
  have neg : ∀ z : Int, 0 ≤ z → z < 1000000 → ¬ Int32.ofInt z < 0 := fun z a b q => absurd ((ol_ltI (b := 0) ⟨by omega, by omega⟩ ol_r0).mp q) (by omega)
  have tI : ∀ z : Int, 0 ≤ z → z < 1000000 → (Int32.ofInt z).toInt = z := fun z a b => ol_toI ⟨by omega, by omega⟩
  intro T hT X
  have hc0 : H[ad ka]? = some (vp_cell cI (na, .inl (fun j => Int32.ofInt (M ka (j : Int))))) := hH ka _ hya
  have hc1 : H[ad kb]? = some (vp_cell cI (nb, .inl (fun j => Int32.ofInt (M kb (j : Int))))) := hH kb _ hyb
  obtain ⟨-, k0, hk0, cm0, hkk0⟩ := (hk.1.2 0 _ rfl).1 na (fun j => .int (Int32.ofInt (M ka (j : Int))))
  have harc := ol_arc
  obtain ⟨vm', X', step⟩ := X.arraycopy hx hown (hts _ hlk) (hts _ harc.1) (hts _ harc.2.1) (hts _ harc.2.2) (src := ad ka) (dst := ad kb) (cs := vp_cell cI (na, .inl (fun j => Int32.ofInt (M ka (j : Int))))) (cd := vp_cell cI (nb, .inl (fun j => Int32.ofInt (M kb (j : Int))))) (srcPos := Int32.ofInt sp) (destPos := Int32.ofInt dp) (n := Int32.ofInt n) (by rw [hT]; exact hc0) (by rw [hT]; exact hc1)
    (fun _ h => by cases h) (fun _ h => by cases h) (fun h => by cases h) (fun h => by cases h) hk0 hk0 hkk0 hkk0 (by simp [refKind]) (neg sp h1 (by omega)) (neg dp h2 (by omega)) (neg n h3 (by omega))
    (by rw [tI sp h1 (by omega), tI n h3 (by omega)]; show ¬ _ > ((arrV cI na (fun j => .int (Int32.ofInt (M ka (j : Int))))).slots.size : Int); rw [arrV_size]; omega)
    (by rw [tI dp h2 (by omega), tI n h3 (by omega)]; show ¬ _ > ((arrV cI nb (fun j => .int (Int32.ofInt (M kb (j : Int))))).slots.size : Int); rw [arrV_size]; omega)
    (fun vm₁ _ i hi => by
      have hi' : i < n.toNat := by rw [ol_nat h3 (by omega)] at hi; exact hi
      have e : (vp_cell cI (na, .inl (fun j => Int32.ofInt (M ka (j : Int))))).slots.getD ((Int32.ofInt sp).toNatClampNeg + i) .null = .int (Int32.ofInt (M ka (((Int32.ofInt sp).toNatClampNeg + i : Nat) : Int))) := by
        show (arrV cI na (fun j => .int (Int32.ofInt (M ka (j : Int))))).slots.getD _ _ = _
        rw [Array.getD_eq_getD_getElem?, arrV_read _ _ (by rw [ol_nat h1 (by omega)]; omega)]
        rfl
      refine ⟨?_, ?_⟩
      · rw [e]
        rfl
      · rw [e]
        exact trivial)
    (g := F0 m pc a (.int (Int32.ofInt n) :: .int (Int32.ofInt dp) :: .ref (ad kb) :: .int (Int32.ofInt sp) :: .ref (ad ka) :: r)) rfl (by rw [hml]; exact hsz) (rest := r) rfl (by rw [hb]; exact hd) (by omega) (by show 2 * 0 + _ + (5 + 2 + 11) ≤ _; omega)
  have e1 : copied (vp_cell cI (na, .inl (fun j => Int32.ofInt (M ka (j : Int))))) (vp_cell cI (nb, .inl (fun j => Int32.ofInt (M kb (j : Int))))) (Int32.ofInt sp) (Int32.ofInt dp) (Int32.ofInt n) = vp_cell cI (nb, .inl (fun j => Int32.ofInt (ol_cp (M ka) (M kb) sp dp n (j : Int)))) := by
    refine (va_copied (fun z => .int z) cI cI (fun j => Int32.ofInt (M ka (j : Int))) (fun j => Int32.ofInt (M kb (j : Int))) (by rw [ol_nat h1 (by omega), ol_nat h3 (by omega)]; omega)).trans ?_
    rw [ol_nat h1 (by omega), ol_nat h2 (by omega), ol_nat h3 (by omega)]
    rw [vp_cell_i]
    refine congrArg (arrV cI nb) (funext fun j => ?_)
    unfold va_cpy ol_cp
    by_cases hj : dp.toNat ≤ j ∧ j < dp.toNat + n.toNat
    · rw [if_pos hj, if_pos ⟨by omega, by omega⟩]
      show Value.int (Int32.ofInt (M ka ((sp.toNat + (j - dp.toNat) : Nat) : Int))) = _
      rw [show ((sp.toNat + (j - dp.toNat) : Nat) : Int) = sp + ((j : Int) - dp) by omega]
    · rw [if_neg hj, if_neg (fun q => hj ⟨by omega, by omega⟩)]
  rw [e1] at X' step
  have hl : ad kb < H.size := (Array.getElem?_eq_some_iff.mp hc1).1
  have hheap : ((T.setVm vm').setCell (ad kb) (vp_cell cI (nb, .inl (fun j => Int32.ofInt (ol_cp (M ka) (M kb) sp dp n (j : Int)))))).heap = H.setIfInBounds (ad kb) (vp_cell cI (nb, .inl (fun j => Int32.ofInt (ol_cp (M ka) (M kb) sp dp n (j : Int))))) := by rw [← hT]; rfl
  have oq : ∀ q : Nat, q ≠ ad kb → (H.setIfInBounds (ad kb) (vp_cell cI (nb, .inl (fun j => Int32.ofInt (ol_cp (M ka) (M kb) sp dp n (j : Int))))))[q]? = H[q]? := fun q hq => by simp [Array.getElem?_setIfInBounds, Ne.symm hq]
  have hA : ol_A ad lay (ad kb) := ⟨kb, _, h0, hyb, rfl⟩
  obtain ⟨t, a1, b1⟩ := kk _ _ (hH.set hk.2.1 hyb _ (show (H.setIfInBounds (ad kb) _)[ad kb]? = some (vp_cell cI (nb, .inl (fun j => Int32.ofInt (ol_mp M kb (ol_cp (M ka) (M kb) sp dp n) kb (j : Int))))) by simp [Array.getElem?_setIfInBounds, hl, ol_mp]) oq) ⟨by simp; exact hS.1, fun q g1 g2 => by
      rw [oq q (fun e => g2 (by rw [e]; exact hA))]
      exact hS.2.1 q g1 g2, fun q hq => by
      rcases List.mem_append.mp hq with h | h
      · exact hS.2.2 q h
      · obtain ⟨z, -, hz⟩ := List.mem_map.mp h
        rw [← hz]
        exact hA⟩ _ hheap X'
  exact ⟨t, step t a1, b1⟩
end OLS
