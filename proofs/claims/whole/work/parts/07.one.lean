theorem ol_p1.e {st : ol_St} {f : Int → ol_St → Prop} (h : ol_p1 st f) : ∃ a r, st = .inl a :: r ∧ f a r := by
  unfold ol_p1 at h
  split at h
  · exact ⟨_, _, rfl, h⟩
  · exact h.elim
theorem ol_p2.e {st : ol_St} {f : Int → Int → ol_St → Prop} (h : ol_p2 st f) : ∃ a b r, st = .inl b :: .inl a :: r ∧ f a b r := by
  unfold ol_p2 at h
  split at h
  · exact ⟨_, _, _, rfl, h⟩
  · exact h.elim
theorem ol_q1.e {st : ol_St} {f : Int → ol_St → Prop} (h : ol_q1 st f) : ∃ a r, st = .inr (.inl a) :: r ∧ f a r := by
  unfold ol_q1 at h
  split at h
  · exact ⟨_, _, rfl, h⟩
  · exact h.elim
theorem ol_q2.e {st : ol_St} {f : Int → Int → ol_St → Prop} (h : ol_q2 st f) : ∃ a b r, st = .inr (.inl b) :: .inr (.inl a) :: r ∧ f a b r := by
  unfold ol_q2 at h
  split at h
  · exact ⟨_, _, _, rfl, h⟩
  · exact h.elim
theorem ol_li.e {st : ol_St} {f : Int → Int → ol_St → Prop} (h : ol_li st f) : ∃ a b r, st = .inl b :: .inr (.inl a) :: r ∧ f a b r := by
  unfold ol_li at h
  split at h
  · exact ⟨_, _, _, rfl, h⟩
  · exact h.elim
theorem ol_a1.e {st : ol_St} {f : Int → ol_St → Prop} (h : ol_a1 st f) : ∃ k r, st = .inr (.inr k) :: r ∧ f k r := by
  unfold ol_a1 at h
  split at h
  · exact ⟨_, _, rfl, h⟩
  · exact h.elim
theorem ol_ai.e {st : ol_St} {f : Int → Int → ol_St → Prop} (h : ol_ai st f) : ∃ k i r, st = .inl i :: .inr (.inr k) :: r ∧ f k i r := by
  unfold ol_ai at h
  split at h
  · exact ⟨_, _, _, rfl, h⟩
  · exact h.elim
theorem ol_aii.e {st : ol_St} {f : Int → Int → Int → ol_St → Prop} (h : ol_aii st f) : ∃ k i v r, st = .inl v :: .inl i :: .inr (.inr k) :: r ∧ f k i v r := by
  unfold ol_aii at h
  split at h
  · exact ⟨_, _, _, _, rfl, h⟩
  · exact h.elim
theorem ol_cpy.e {st : ol_St} {f : Int → Int → Int → Int → Int → ol_St → Prop} (h : ol_cpy st f) : ∃ a sp b dp n r, st = .inl n :: .inl dp :: .inr (.inr b) :: .inl sp :: .inr (.inr a) :: r ∧ f a sp b dp n r := by
  unfold ol_cpy at h
  split at h
  · exact ⟨_, _, _, _, _, _, rfl, h⟩
  · exact h.elim
section OLS
variable {p : Program} {l : Launch} {e : Env} {R : Room} {s : State} {m : MethodId} {args : Array Value} {below : List Frame} {meth : Method} {c : Code} {cells slots : Nat} {Q : State → Prop}
variable {cc : ByteArray} {nL : Nat} {own : String} {d : Nat} {D : va_G} {ad : Int → Nat} {cI cJ : ClassId} {lay : ol_L}
/-- behind a call -/
theorem ol_go {H : Heap} {locs : List Loc} {pc : Nat} {a : Array Slot} {st0 rest : List Value} {v : Option ol_V} {M' : ol_M} {ls : ol_Ls} {r : ol_St}
    (hr : va_Run p l e R s m args below meth c H locs cells slots 0 0 (F0 m pc a st0) rest (fun st oc t => oc = .returned (v.map (ol_cv ad)) ∧ ol_H D ad cI cJ lay M' t.heap ∧ va_F (ol_A ad lay) st t) (ol_A ad lay))
    (hS : va_S (ol_A ad lay) s.heap H locs) (hl : ol_lv ad a nL ls) (hrest : rest = r.map (ol_cv ad)) (kk : ol_AW p l e R s m args below meth c cells slots Q nL D ad cI cJ lay (pc + 3) ls (v.toList ++ r) M') : W p l e R s m args below meth c H locs cells slots Q (F0 m pc a st0) := by
  intro T hT X
  obtain ⟨w, st₀, t, T', L, h0, X', hL, e1, e2, ⟨hv, hh, hz, hq⟩, st⟩ := hr T hT X
  have hw : w = v.map (ol_cv ad) := by cases hv; rfl
  subst hw
  rw [h0] at hz hq
  have hS' : va_S (ol_A ad lay) s.heap T'.heap (locs ++ L) := by
    refine ⟨Nat.le_trans hS.1 (by rw [e1]; exact hz), fun q h1 h2 => ?_, fun q hq2 => ?_⟩
    · rw [e1, hq q (Nat.lt_of_lt_of_le h1 hS.1) h2]
      exact hS.2.1 q h1 h2
    · rcases List.mem_append.mp hq2 with h | h
      · exact hS.2.2 q h
      · exact hL q h
  have K := kk a T'.heap (locs ++ L) hl (by rw [e1]; exact hh) hS'
  obtain ⟨t2, a1, b1⟩ := K T' rfl X'
  refine ⟨t2, st t2 ?_, b1⟩
  have e5 : (v.map (ol_cv ad)).toList ++ rest = (v.toList ++ r).map (ol_cv ad) := by
    rw [hrest, List.map_append]
    cases v <;> rfl
  show Steps p.tables e below (T'.setTop { F0 m pc a st0 with pc := pc + 3, stack := (v.map (ol_cv ad)).toList ++ rest }) t2
  rw [e5]
  exact a1
theorem ol_good {q : ol_MD} (h : Cond.code q.1 q.2.1 q.2.2.1 q.2.2.2 ∈ ol_gt) : GoodIn ol_gt (ol_ws q) := by
  intro w hw
  have : w ∈ ol_gt := by
    rcases List.mem_cons.mp hw with rfl | h'
    · exact h
    · exact h'
  exact ⟨this, good_of_word (List.mem_filter.mp this).2⟩
theorem ol_goodW {ws : List Cond} (h : ∀ w ∈ ws, w ∈ ol_gt) : GoodIn ol_gt ws := fun w hw => ⟨h w hw, good_of_word (List.mem_filter.mp (h w hw)).2⟩
theorem ol_rev {n : Nat} {st : ol_St} (h : (st.take n).length = n) : st.map (ol_cv ad) = ((st.take n).reverse.map (ol_cv ad)).reverse ++ (st.drop n).map (ol_cv ad) := by
  rw [← List.map_reverse, List.reverse_reverse, ← List.map_append, List.take_append_drop]
theorem ol_roomd {d' : Nat} {q : ol_MD} (hd : d' ≤ d) (hq : q.2.2.1 ≤ 40) (hfr : d + 1 ≤ R.frames) (hlo : 60 * (d + 1) ≤ R.locals) : (ol_rm d').frames + 1 ≤ R.frames ∧ 8 + (q.2.2.1 + 11) + (ol_rm d').locals ≤ R.locals := by
  constructor
  · show d' + 1 ≤ R.frames
    omega
  · show 8 + (q.2.2.1 + 11) + 60 * d' ≤ R.locals
    omega
theorem ol_pre {M : ol_M} {H : Heap} {as : List ol_V} (hH : ol_H D ad cI cJ lay M H) (hk : ol_K D ad cI cJ lay s) : PreS s H (va_Pc (as.map (ol_cv ad)) (fun U => ol_H D ad cI cJ lay M U.heap ∧ ol_K D ad cI cJ lay U)) (as.map (ol_cv ad)) := by
  refine ⟨fun a U g mk q => ⟨q.1, q.2.1, ol_K.same rfl q.2.2⟩, fun U hU hW => ⟨rfl, by rw [hU]; exact hH, hk.moved hW⟩⟩
/-- a call of a static method -/
theorem ol_cS (F : ol_Fr p R s m args c cells slots cc nL own d D ad cI cJ lay) {x n d' : Nat} {q : ol_MD} (hL : ol_LS own x q n) (hd' : d' ≤ d) {pc : Nat} {a : Array Slot} {H : Heap} {locs : List Loc} {ls : ol_Ls} {st : ol_St} {M M' : ol_M} {v : Option ol_V} (hn : (st.take n).length = n) (hsm : ol_sm (st.drop n) ≤ 8) (hM : ol_R lay d' q (st.take n).reverse M v M')
    (hl : ol_lv ad a nL ls) (hH : ol_H D ad cI cJ lay M H) (hS : va_S (ol_A ad lay) s.heap H locs) (hdg : decode cc pc = .ok (.invokestatic x, 3)) (kk : ol_AW p l e R s m args below meth c cells slots Q nL D ad cI cJ lay (pc + 3) ls (v.toList ++ st.drop n) M') : W p l e R s m args below meth c H locs cells slots Q (F0 m pc a (st.map (ol_cv ad))) := by
  obtain ⟨hx, hb, hml, hown, hts, hk, hfr, hlo, hce, hsl⟩ := F
  obtain ⟨⟨h1, h2, h3, h4, h5⟩, hst, hlk⟩ := hL
  have hn2 : ((st.take n).reverse.map (ol_cv ad)).length = n := by simpa using hn
  have hW : 2 * (F0 m pc a (st.map (ol_cv ad))).monitorRoom + (((st.drop n).map (ol_cv ad)).map fun v => v.category).sum ≤ 8 := lv_room (by rw [ol_smc]; exact hsm)
  rcases hlk with hlk | ⟨ho, hnest⟩
  · refine ol_go (va_runS (Ts := ol_gt) (own := own) (index := x) (As := (st.take n).reverse.map (ol_cv ad)) (rest := (st.drop n).map (ol_cv ad)) ⟨hx, hb, hml, hown, hts⟩ (hM l D ad cI cJ) ⟨callB_of n hts (ol_good h1) rfl rfl rfl (hts _ h2) (hts _ hlk) ⟨h3.1, h3.2, h4⟩ (ol_roomd hd' h5 hfr hlo), hts _ hst⟩ (ol_pre hH hk) rfl hn2 hl.1 (ol_rev hn) hW hdg ⟨hce, hsl⟩) hS hl rfl kk
  · have hN := hk.2.2.1 _ hnest
    refine ol_go (va_runSN (Ts := ol_gt) (own := own) (index := x) (As := (st.take n).reverse.map (ol_cv ad)) (rest := (st.drop n).map (ol_cv ad)) ⟨hx, hb, hml, hown, hts⟩ (hM l D ad cI cJ) ⟨va_cnB (host := ho) n hts (ol_good h1) rfl rfl rfl hN (hts _ h2) ⟨h3.1, h3.2, h4⟩ (ol_roomd hd' h5 hfr hlo), hts _ hst, trivial⟩ (ol_pre hH hk) rfl hn2 hl.1 (ol_rev hn) hW hdg ⟨hce, hsl⟩) hS hl rfl kk
/-- a call of an object's method -/
theorem ol_cV (F : ol_Fr p R s m args c cells slots cc nL own d D ad cI cJ lay) {x n d' ci : Nat} {fs : List (Option Int)} {q : ol_MD} (hL : ol_LV own x ci q n) (hd' : d' ≤ d) {pc : Nat} {a : Array Slot} {H : Heap} {locs : List Loc} {ls : ol_Ls} {st r : ol_St} {k : Int} {M M' : ol_M} {v : Option ol_V} (hdr : st.drop n = .inr (.inr k) :: r) (hy : lay k = some (.inr (.inr (ci, fs)))) (hn : (st.take n).length = n) (hsm : ol_sm r ≤ 8) (hM : ol_R lay d' q (.inr (.inr k) :: (st.take n).reverse) M v M')
    (hl : ol_lv ad a nL ls) (hH : ol_H D ad cI cJ lay M H) (hS : va_S (ol_A ad lay) s.heap H locs) (hdg : decode cc pc = .ok (.invokevirtual x, 3)) (kk : ol_AW p l e R s m args below meth c cells slots Q nL D ad cI cJ lay (pc + 3) ls (v.toList ++ r) M') : W p l e R s m args below meth c H locs cells slots Q (F0 m pc a (st.map (ol_cv ad))) := by
  obtain ⟨hx, hb, hml, hown, hts, hk, hfr, hlo, hce, hsl⟩ := F
  obtain ⟨⟨h1, h2, h3, h4, h5⟩, hin, c0, hc0, hlk⟩ := hL
  have hn2 : ((st.take n).reverse.map (ol_cv ad)).length = n := by simpa using hn
  have hstk : (F0 m pc a (st.map (ol_cv ad))).stack = ((st.take n).reverse.map (ol_cv ad)).reverse ++ .ref (ad k) :: r.map (ol_cv ad) := by
    have := ol_rev (ad := ad) hn
    rw [hdr] at this
    exact this
  have hW : 2 * (F0 m pc a (st.map (ol_cv ad))).monitorRoom + ((r.map (ol_cv ad)).map fun v => v.category).sum ≤ 8 := lv_room (by rw [ol_smc]; exact hsm)
  have hpre := ol_pre (s := s) (as := .inr (.inr k) :: (st.take n).reverse) hH hk
  have hrecv : ∃ cellB : Cell, H[ad k]? = some cellB ∧ cellB.vm.isStatics = false ∧ s.vm.findClass c0.1 = some cellB.cls := va_recv hk.1 (hH.one hy) hc0 (q0 := 0) rfl
  have hPV : PreV s H c0.1 (ad k) (va_Pc ((.inr (.inr k) :: (st.take n).reverse : List ol_V).map (ol_cv ad)) (fun U => ol_H D ad cI cJ lay M U.heap ∧ ol_K D ad cI cJ lay U)) ((st.take n).reverse.map (ol_cv ad)) := ⟨hpre.1, hrecv, hpre.2⟩
  rcases hlk with ⟨hlk, hsel, hcc⟩ | ⟨xm, ow, hlk, hsame, hsel, how, hpn, hor⟩
  · refine ol_go (va_runV (Ts := ol_gt) (own := own) (C := c0.1) (index := x) (As := (st.take n).reverse.map (ol_cv ad)) (rest := r.map (ol_cv ad)) ⟨hx, hb, hml, hown, hts⟩ (hM l D ad cI cJ) ⟨callB_of n hts (ol_good h1) rfl rfl rfl (hts _ h2) (hts _ hlk) ⟨h3.1, h3.2, h4⟩ (ol_roomd hd' h5 hfr hlo), hts _ hin, hts _ hsel⟩ hPV rfl hn2 hl.1 hstk hW hdg ⟨hce, hsl⟩) hS hl rfl kk
  · have hG : GoodIn ol_gt (va_wsU own x c0.1 ow xm q.1 (ol_ws q)) := by
      refine ol_goodW (fun w hw => ?_)
      unfold va_wsU at hw
      rcases List.mem_append.mp hw with h | h
      · simp only [List.mem_cons, List.not_mem_nil, or_false] at h
        rcases h with rfl | rfl | rfl | rfl | rfl
        · exact hlk
        · exact hsame
        · exact hsel
        · exact hin
        · exact h2
      · exact (ol_good h1 w h).1
    rcases hor with hor | hor
    · refine ol_go (va_runU (Ts := ol_gt) (own := own) (C := c0.1) (owner := ow) (x := xm) (index := x) (As := (st.take n).reverse.map (ol_cv ad)) (rest := r.map (ol_cv ad)) ⟨hx, hb, hml, hown, hts⟩ (hM l D ad cI cJ) (va_cwU n hts hG rfl rfl rfl hor ⟨how.1, how.2, hpn⟩ (ol_roomd hd' h5 hfr hlo)) hPV rfl hn2 hl.1 hstk hW hdg ⟨hce, hsl⟩) hS hl rfl kk
    · refine ol_go (va_runU (Ts := ol_gt) (own := own) (C := c0.1) (owner := ow) (x := xm) (index := x) (As := (st.take n).reverse.map (ol_cv ad)) (rest := r.map (ol_cv ad)) ⟨hx, hb, hml, hown, hts⟩ (hM l D ad cI cJ) (va_cwA n hts hG rfl rfl rfl (by rw [hor]; exact hk.2.2.2) ⟨how.1, how.2, hpn⟩ (ol_roomd hd' h5 hfr hlo)) hPV rfl hn2 hl.1 hstk hW hdg ⟨hce, hsl⟩) hS hl rfl kk
end OLS
