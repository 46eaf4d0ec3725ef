theorem zk_X8 : cn_zok ("OunceLetters", ol_TX8, 12) [false, false, false, false, false, false, false, false, false, true, true, true] = true := by decide +kernel
theorem wi_X8 : Cond.instantiable "OunceLetters" 12 ∈ ol_gt := ol_gi 81 (by decide +kernel) rfl
theorem wn_X8 : Cond.initialized "OunceLetters" ∈ ol_gt := ol_gi 66 (by decide +kernel) rfl
theorem mk_X8_init : ol_MK q_X8_init 0 := ⟨ol_gi 84 (by decide +kernel) rfl, ol_gi 66 (by decide +kernel) rfl, ⟨by decide, by decide⟩, by decide +kernel, by decide⟩
theorem wt_X8_init : Cond.instanceMethod ⟨"OunceLetters", "<init>", "()V"⟩ ∈ ol_gt := ol_gi 83 (by decide +kernel) rfl
theorem wm_L_9 : Cond.methodLink "OunceLettersLaw" 9 ⟨"OunceLetters", "<init>", "()V"⟩ ∈ ol_gt := ol_gi 82 (by decide +kernel) rfl
theorem zk_X9 : cn_zok ("OunceLettersModel", ol_TX9, 30) [false, false, false, false, true, false, false, true, false, true, false, false, false, false, false, true, false, true, false, false, false, false, false, false, true, true, true, false, false, true] = true := by decide +kernel
theorem wi_X9 : Cond.instantiable "OunceLettersModel" 30 ∈ ol_gt := ol_gi 825 (by decide +kernel) rfl
theorem wn_X9 : Cond.initialized "OunceLettersModel" ∈ ol_gt := ol_gi 77 (by decide +kernel) rfl
theorem mk_X9_init : ol_MK q_X9_init 0 := ⟨ol_gi 828 (by decide +kernel) rfl, ol_gi 77 (by decide +kernel) rfl, ⟨by decide, by decide⟩, by decide +kernel, by decide⟩
theorem wt_X9_init : Cond.instanceMethod ⟨"OunceLettersModel", "<init>", "()V"⟩ ∈ ol_gt := ol_gi 827 (by decide +kernel) rfl
theorem wm_L_12 : Cond.methodLink "OunceLettersLaw" 12 ⟨"OunceLettersModel", "<init>", "()V"⟩ ∈ ol_gt := ol_gi 826 (by decide +kernel) rfl
/-! THE CLAIM OUT OF ONE WALK OF THE LAW'S BODY. Your part is whole_start (and what it stands on); all else here is the same for every law, but numbers. -/
def R_law : String := "OunceLettersLaw"
def lw_P (b : Addr) (xs : List Int32) (args : Array Value) (s : State) : Prop := args = #[.ref b] ∧ s.IntsAt b xs ∧ xs.length ≤ 384 ∧ (Jvm.Cond.and given_1 narrow_1).before args s = true
def lw_Q (_ : Array Value) (s : State) (o : Outcome) (t : State) : Prop := o = .returned (some (.int 1)) ∧ Framed s o t [] 600000 7302250
def lw_Z (below : List Frame) (a : Array Value) (s : State) : State → Prop := fun t => ∃ o, t.status = .running ∧ Ended t below o ∧ lw_Q a s o t
/-- the law's own end, with 1 on the stack, nothing written that was there before, its room as the claim has it -/
theorem lw_ret {p : Program} {l : Launch} {e : Env} {s : State} {m : MethodId} {below : List Frame} {meth : Method} {c : Code} {b : Nat} (hx : p.tables.exec = Jvm.exec) (hb : c.code = code) (hr : meth.sig.returnType = ret) (hlocks : meth.locks = false) {pc : Nat} {H : Heap} {ls : Array Slot} (hdg : decode code pc = .ok (.ireturn, 1)) : W p l e room_1 s m #[Value.ref b] below meth c H [] 600000 7302250 (lw_Z below #[Value.ref b] s) (F0 m pc ls [.int 1]) := by
  intro T hT X
  obtain ⟨fs, hret, hrun, hended, hW, hframe⟩ := X.leave (v := some (.int 1)) (hlocks := hlocks) (fun h => by rw [hr] at h; cases h)
  have hmeth' : T.vm.method? m = some meth := X.method'
  refine ⟨T.setFrames fs, ?_, .returned (some (.int 1)), hrun, hended, rfl, ⟨_, rfl⟩, hW, hframe⟩
  jvm_step X.here [X.here.top, hx, hb, hdg, hmeth', hr, ret, narrow_b1]
  (try refine ⟨rfl, ?_⟩); (try refine ⟨rfl, ?_⟩)
  first | (intro acts; rw [hret _ acts rfl rfl rfl]) | rw [hret _ _ rfl rfl rfl]
  exact Steps.refl _
/-- what holds at the law's entry: the machine, the code, the tables' words (any of lw_tbl by 'hts w (by decide +kernel)'), the script of L ints xs at the cell b, what the Statement gives of the start (any of its parts by flat_of_before) -/
def lw_At (p : Program) (s : State) (m : MethodId) (meth : Method) (c : Code) (b L : Nat) (xs : Nat → Int32) : Prop :=
  p.tables.exec = Jvm.exec ∧ c.code = code ∧ meth.sig.returnType = ret ∧ c.maxLocals = 4 ∧ s.vm.findClass R_law = some m.cls ∧ (∀ w ∈ lw_tbl, w.before #[Value.ref b] s = true) ∧ va_X b L xs s s.heap ∧ b < s.heap.size ∧ meth.locks = false ∧ (Jvm.Cond.and given_1 narrow_1).before #[Value.ref b] s = true
theorem whole_start {p : Program} {e : Env} {s : State} {m : MethodId} {below : List Frame} {meth : Method} {c : Code} (l : Launch) {b L : Nat} {xs : Nat → Int32} (hL : L ≤ 384) (C0 : lw_At p s m meth c b L xs) : W p l e room_1 s m #[Value.ref b] below meth c s.heap [] 0 0 (lw_Z below #[Value.ref b] s) (entryFrame m ([Value.ref b] : List Value).toArray 4) := by
  obtain ⟨hx, hb, hr, hml, hown, hts, hX, hbl, hlocks, hgv⟩ := C0
  have hg := ol_ex_ok hts
  obtain ⟨D, cI, cJ, hK⟩ := cn_known hts
  have hl := lv_entry ([.ref b]) (n := 4) (Nat.le_of_ble_eq_true rfl)
  rw [lg_entry_eq]
  generalize (lg_sl ([.ref b]) ++ List.replicate (4 - (lg_sl ([.ref b])).length) Slot.unset).toArray = ls at hl ⊢
  have hl : lv_has ls 4 [(0, .ref b)] := hl
  refine cw_new (B := s.heap.size) (ci := 7) (q := ("OunceLetters", ol_TX8, 12)) (w := 7) (own := "OunceLettersLaw") hx hb hown hg hK rfl [false, false, false, false, false, false, false, false, false, true, true, true] zk_X8 wc_L_7 wi_X8 wn_X8 (Nat.le_of_ble_eq_true rfl) (Nat.le_of_ble_eq_true rfl) rfl va_S.rf (by decide +kernel) (fun H1 h1 o1 s1 => ?_)
  refine lv_dup hx hb (by decide +kernel) rfl ?_
  refine cw_call (B := s.heap.size) (q := q_X8_init) (w := 9) (own := "OunceLettersLaw") (rest := [.ref s.heap.size]) hx hb hml hown hg hK mk_X8_init rfl rfl wm_L_9 wt_X8_init (Nat.le_of_ble_eq_true rfl) (Nat.le_of_ble_eq_true rfl) (Nat.le_of_ble_eq_true rfl) (Nat.le_of_ble_eq_true rfl) hl.1 (Nat.le_of_ble_eq_true rfl) c_X8_init h1 (Nat.le_refl _) s1 (by decide +kernel) (fun H2 locs2 h2 o2 s2 => ?_)
  refine lv_astore_n (k := 1) (i := 1) hx hb (by decide +kernel) rfl hl (by decide) rfl (fun a1 ha1 => ?_)
  have ha1 : lv_has a1 4 [(1, .ref s.heap.size), (0, .ref b)] := ha1
  have hz2 : H2.size = s.heap.size + 132 := h2.1
  refine cw_new (B := s.heap.size + 132) (ci := 8) (q := ("OunceLettersModel", ol_TX9, 30)) (w := 10) (own := "OunceLettersLaw") hx hb hown hg hK rfl [false, false, false, false, true, false, false, true, false, true, false, false, false, false, false, true, false, true, false, false, false, false, false, false, true, true, true, false, false, true] zk_X9 wc_L_10 wi_X9 wn_X9 (Nat.le_of_ble_eq_true rfl) (Nat.le_of_ble_eq_true rfl) hz2 s2 (by decide +kernel) (fun H3 h3 o3 s3 => ?_)
  refine lv_dup hx hb (by decide +kernel) rfl ?_
  refine cw_call (B := s.heap.size + 132) (q := q_X9_init) (w := 12) (own := "OunceLettersLaw") (rest := [.ref (s.heap.size + 132)]) hx hb hml hown hg hK mk_X9_init rfl rfl wm_L_12 wt_X9_init (Nat.le_of_ble_eq_true rfl) (Nat.le_of_ble_eq_true rfl) (Nat.le_of_ble_eq_true rfl) (Nat.le_of_ble_eq_true rfl) ha1.1 (Nat.le_of_ble_eq_true rfl) (c_X9_init (P := []) rfl) h3 (by omega) s3 (by decide +kernel) (fun H4 locs4 h4 o4 s4 => ?_)
  refine lv_astore_n (k := 2) (i := 2) hx hb (by decide +kernel) rfl ha1 (by decide) rfl (fun a2 ha2 => ?_)
  have ha2 : lv_has a2 4 [(2, .ref (s.heap.size + 132)), (1, .ref s.heap.size), (0, .ref b)] := ha2
  refine va_forget (fun q hq => s4.2.2 q hq) ?_
  have hold : ∀ q, q < s.heap.size + 132 → H4[q]? = H2[q]? := fun q h => (o4 q h).trans (o3 q h)
  have hW0 : ol_H D (w0_ad s.heap.size b) cI cJ (ol_lay L) (w0_M xs) H4 := w0_H (fun i e hi => (h2.2 i e hi).kept (hold _ (by have h9 := (h2.2 i e hi).lt; rw [hz2] at h9; exact h9))) (fun i e hi => h4.2 i e hi)
  have hge : ∀ q, ol_A (w0_ad s.heap.size b) (ol_lay L) q → s.heap.size ≤ q := by
    rintro q ⟨k, y, k0, hk, rfl⟩
    cases k with
    | ofNat j => exact Nat.le_add_right _ _
    | negSucc j => exact absurd k0 (by omega)
  have hAb : ¬ ol_A (w0_ad s.heap.size b) (ol_lay L) b := fun q => absurd (hge b q) (by omega)
  have F : ol_Fr p room_1 s m #[Value.ref b] c (0 + 1 + 131 + 1 + 21) (0 + 12 + 4833 + 30 + 934) code 4 "OunceLettersLaw" 19 D (w0_ad s.heap.size b) cI cJ (ol_lay L) := ⟨hx, hb, hml, hown, hg, ⟨hK.1, w0_adi hbl, hK.2.2.1, hK.2.2.2⟩, Nat.le_of_ble_eq_true rfl, Nat.le_of_ble_eq_true rfl, Nat.le_of_ble_eq_true rfl, Nat.le_of_ble_eq_true rfl⟩
  have hC := ol_closed (l := l) (e := e) (below := below) (meth := meth) (Q := lw_Z below #[Value.ref b] s) F
  have hCL : ol_CL L (fun j => (xs j.toNat).toInt) (ol_RW p l e room_1 s m #[Value.ref b] below meth c (0 + 1 + 131 + 1 + 21) (0 + 12 + 4833 + 30 + 934) (lw_Z below #[Value.ref b] s) code D (w0_ad s.heap.size b) cI cJ (ol_lay L)) (ol_AW p l e room_1 s m #[Value.ref b] below meth c (0 + 1 + 131 + 1 + 21) (0 + 12 + 4833 + 30 + 934) (lw_Z below #[Value.ref b] s) 4 D (w0_ad s.heap.size b) cI cJ (ol_lay L)) := by
    refine ⟨hC, ?_, ?_⟩
    · intro pc ls st M i hd i0 i1 kk a H locs hl hH hS
      refine va_sld hx hb hX hbl hAb hS (i := Int32.ofInt i) (ol_inR i0 i1 (by omega)) hd ?_
      rw [ol_nat i0 (by omega)]
      have kz := kk a H locs hl hH hS
      have e1 : ol_cv (w0_ad s.heap.size b) (.inl (xs i.toNat).toInt) = .int (xs i.toNat) := by
        show Value.int (Int32.ofInt (xs i.toNat).toInt) = _
        rw [Int32.ofInt_toInt]
      rw [List.map_cons, e1] at kz
      exact kz
    · intro pc ls st M hd kk a H locs hl hH hS
      refine va_slen hx hb hX hbl hAb hS hd ?_
      have kz := kk a H locs hl hH hS
      have e1 : ol_cv (w0_ad s.heap.size b) (.inl (L : Int)) = .int (Int32.ofNat L) := by
        show Value.int (Int32.ofInt (L : Int)) = _
        first | rw [Int32.ofInt_eq_ofNat] | rw [Int32.ofInt_natCast] | rfl
      rw [List.map_cons, e1] at kz
      exact kz
  have hend : ∀ M, ol_RW p l e room_1 s m #[Value.ref b] below meth c (0 + 1 + 131 + 1 + 21) (0 + 12 + 4833 + 30 + 934) (lw_Z below #[Value.ref b] s) code D (w0_ad s.heap.size b) cI cJ (ol_lay L) (some (.inl 1)) M := by
    intro M pc a H locs hH hS hd
    exact va_forget (fun q hq => hge _ (hS.2.2 q hq)) (W.widen (k := 600000) (n := 7302250) (Nat.le_of_ble_eq_true rfl) (Nat.le_of_ble_eq_true rfl) (lw_ret hx hb hr hlocks hd))
  have K := law_loop hCL hL hend (fun j _ _ => ⟨Int32.le_toInt _, Int.le_of_lt_add_one (Int32.toInt_lt _)⟩) L 0 w0_S (w0_M xs) (Int.le_refl 0) (by omega) (by omega) w0_ok (w0_im xs) (w0_ix xs)
  have K2 := hC [.iconst 0, .istore_n 3] 16 [some (.inr (.inr (-1))), some (.inr (.inr 0)), some (.inr (.inr 132)), none] [] (w0_M xs) (by decide +kernel) ⟨by decide, [some (.inr (.inr (-1))), some (.inr (.inr 0)), some (.inr (.inr 132)), some (.inl 0)], ⟨rfl, rfl, rfl, rfl, trivial⟩, K⟩
  refine K2 a2 H4 [] ⟨ha2.1, ha2.2.1, rfl, fun i v hi => ?_⟩ hW0 ⟨s4.1, fun q h1 h2 => s4.2.1 q h1 (Nat.not_le.mpr h1), fun _ h => by cases h⟩
  match i, hi with
  | 0, hi => cases hi; exact ha2.2.2 (0, .ref b) (by simp)
  | 1, hi => cases hi; exact ha2.2.2 (1, .ref s.heap.size) (by simp)
  | 2, hi => cases hi; exact ha2.2.2 (2, .ref (s.heap.size + 132)) (by simp)
  | 3, hi => cases hi
  | n + 4, hi => simp at hi

set_option maxHeartbeats 4000000 in
theorem lw_walk (l : Launch) (b : Addr) (xs : List Int32) : MetFree l x (headSpec (Jvm.Cond.code x code maxLocals ret :: tables_1) room_1) (lw_P b xs) (fun _ _ _ _ _ => True) lw_Q := by
  refine MetFree.of_bodyS (code := code) (maxLocals := maxLocals) (ret := ret) (by decide) ?_ ?_
  · intro args s m h hn
    obtain ⟨meth, c, h1, h2, h3, h4, h5, h6, -, -⟩ := Cond.code_spec hn (atoms_spec (ws := Jvm.Cond.code x code maxLocals ret :: tables_1) h _ List.mem_cons_self)
    exact ⟨meth, c, h1, h2, h3, h4, h5, h6⟩
  · intro p e s m args below meth c s₁ B hml0 hP _
    obtain ⟨rfl, hx, hbd, hgv⟩ := hP
    obtain ⟨scr, harrAt, hlist, hof, hsmall⟩ := hx
    obtain ⟨hcb, hkn, -, -⟩ := State.arrayAt?_spec harrAt
    have hown : s.vm.findClass R_law = some m.cls := findClass_of_methodNamed B.named
    have hts0 : ∀ c ∈ (Jvm.Cond.code x code maxLocals ret :: tables_1), c.before #[Value.ref b] s = true := atoms_spec (ws := Jvm.Cond.code x code maxLocals ret :: tables_1) B.pre
    have hts : ∀ w ∈ lw_tbl, w.before #[Value.ref b] s = true := k2_hts_sels lw_privs (fun w hw => hts0 w (List.mem_cons_of_mem _ hw)) lw_privs_ok
    have hml : c.maxLocals = 4 := B.maxLocals_eq (hts0 _ List.mem_cons_self)
    have X₀ : Stand p l e room_1 s m #[Value.ref b] below meth c s₁ [] 0 0 := Stand.of_body B
    have hh0 : s₁.heap = s.heap := by rw [B.state]; rfl
    have hsz : scr.slots.size = xs.length := by rw [← Array.length_toList, hlist, List.length_map]
    have hval : ∀ j : Nat, j < xs.length → scr.slots[j]? = some (.int (xs.getD j 0)) := fun j hj => by
      rw [← Array.getElem?_toList, hlist]
      simp [hj]
    have hbl : b < s.heap.size := (Array.getElem?_eq_some_iff.mp hcb).1
    have hX : va_X b xs.length (fun j => xs.getD j 0) s s.heap := ⟨scr, hcb, hof, hkn, hsz, hval⟩
    have K : W p l e room_1 s m #[Value.ref b] below meth c s₁.heap [] 0 0 (lw_Z below #[Value.ref b] s) (entryFrame m ([Value.ref b] : List Value).toArray 4) := by
      rw [hh0]
      exact whole_start l hbd ⟨B.exec, B.bytes, B.returns, hml, hown, hts, hX, hbl, B.notSynchronized, hgv⟩
    obtain ⟨t, a1, o, b1, b2, b3⟩ := K s₁ rfl X₀
    exact ⟨t, o, a1, b1, b2, b3⟩
theorem lw_pre_spec {args : Array Value} {s : State} (h : (Jvm.Cond.and given_1 narrow_1).before args s = true) (hr : rest_1_c.before args s = true) : ∃ (b : Addr) (xs : List Int32), lw_P b xs args s := by
  have hs := flat_of_before _ h
  have hq := flat_of_before _ hr
  have hc : (Cond.count 1).before args s = true := hs _ (by decide +kernel)
  have harr : (Cond.arrayOf (.arg 0) .int).before args s = true := hs _ (by decide +kernel)
  have hle : (Cond.le (.length (.arg 0)) (.int 384)).before args s = true := hs _ (by decide +kernel)
  have hlen : (Cond.isInt (.length (.arg 0))).before args s = true := hq _ (by decide +kernel)
  have hall : (Cond.all (.arg 0) (.isInt (.elem (.arg 0) (.index 0)))).before args s = true := hq _ (by decide +kernel)
  obtain ⟨b, xs, hb, hx⟩ := State.ints_of_pre rfl harr hlen hall
  have hsm : xs.length < 2 ^ 31 := hx.choose_spec.2.2.2
  have hev : (Term.length (.arg 0)).eval args s none [] s = some (.int xs.length.toInt32) := hx.length_eval hb
  have hv := Cond.le_ints hev (show (Term.int 384).eval args s none [] s = some (.int 384) from rfl)
  have hd : xs.length.toInt32 ≤ 384 := by
    simpa [Cond.before, Cond.holds, hv] using hle
  have hN : xs.length ≤ 384 := (Int32.ofNat_le_ofNat hsm (by decide)).mp (show Int32.ofNat xs.length ≤ Int32.ofNat 384 from hd)
  exact ⟨b, xs, Cond.one_arg hc (show args[0]? = some (.ref b) from hb), hx, hN, h⟩
theorem lw_comes (l : Launch) : Comes l x (Jvm.Cond.code x code maxLocals ret :: tables_1) room_1 (fun tb e args s => Calls_1 tb e args s ∧ rest_1 tb e args s ∧ Pre_1 tb e args s)
    (fun _ _ args s o t => lw_Q args s o t) := by
  intro p e ha hc hk s m args below hf hfit hheap happ hpre
  obtain ⟨b, xs, hP⟩ := lw_pre_spec hpre.2.2 hpre.2.1
  obtain ⟨k, o, h1, h2, h3, hQ⟩ := lw_walk l b xs p e ha hc hk s m args below hf ((Spec.applies_iff_loose hf).mp happ).1 hP trivial
  exact ⟨k, o, h1, h2, h3, hQ⟩
theorem lw_frame {s t : State} {o : Outcome} {args : Array Value} (h : Framed s o t [] 600000 7302250) :
    Framed s o t (fieldLocs frame_1_writes args s ++ arrayLocs frame_1_arrays args s ++ staticLocs frame_1_statics s) 600000 7302250 := h
theorem lw_limb (L : Cond) (hL : ∀ (args : Array Value) (s t : State), L.after args s (.returned (some (.int 1))) t = true) :
    ArmFor flags0 classFile x code maxLocals ret World_1 tables_1 room_1 Calls_1 rest_1 Pre_1
      (fun tb e a s o t => postC L tb e a s o t ∧ Framed s o t (fieldLocs frame_1_writes a s ++ arrayLocs frame_1_arrays a s ++ staticLocs frame_1_statics s) 600000 7302250) := by
  intro l _ _ _ p e ha hc hk s m args below hf hfit hheap happ hpre
  obtain ⟨k, o, h1, h2, h3, rfl, hF⟩ := lw_comes l p e ha hc hk s m args below hf hfit hheap happ hpre
  exact ⟨k, _, h1, h2, h3, hL args s _, lw_frame hF⟩
theorem i_vc : Claimed_1_1 ∧ Claimed_1_2 := ⟨lw_limb limb_1_1 (fun args s t => by simp [limb_1_1, Cond.after, Cond.holds, Cond.value]), lw_limb limb_1_2 (fun args s t => Cond.after_iff.mpr (by
  first | (rw [show limb_1_2 = Cond.eq .result (.int 1) from rfl, Cond.eq_ints (x := 1) (y := 1) rfl rfl]; simp; done) | (simp [limb_1_2, Cond.value, Term.eval]; done)))⟩
