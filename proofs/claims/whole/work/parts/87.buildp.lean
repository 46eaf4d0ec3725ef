/-! the same rows where what stands ahead doesn't matter -/
theorem cn_pg {P t : List cn_E} {n j : Nat} {k : Int} {e : cn_E} (hP : P.length = n) (hk : k = ((n + j : Nat) : Int)) (h : t[j]? = some e) : (P ++ t)[k.toNat]? = some e := by
  subst hk
  rw [List.getElem?_append_right (by omega)]
  have : ((n + j : Nat) : Int).toNat - P.length = j := by omega
  rw [this]
  exact h
theorem cn_ps {P t : List cn_E} {n j : Nat} {k : Int} {e : cn_E} (hP : P.length = n) (hk : k = ((n + j : Nat) : Int)) : (P ++ t).set k.toNat e = P ++ t.set j e := by
  subst hk
  have e1 : ((n + j : Nat) : Int).toNat = n + j := by omega
  rw [e1, List.set_append, if_neg (by omega)]
  rw [show n + j - P.length = j by omega]
section CN
variable {cc : ByteArray} {nL : Nat} {own : String} {ini : Bool} {d C Z L0 : Nat} {A : Nat → ol_Ls → ol_St → List cn_E → Nat → Nat → Prop} {pc : Nat} {ls : ol_Ls} {st r : ol_St} {P t t2 : List cn_E} {x y n : Nat}
theorem cq_newa (h : cn_T cc nL own ini d C Z L0 A) (hP : P.length = n) {v k : Int} {N : Nat} (hN : v.toNat = N) (hk : ((n + t.length : Nat) : Int) = k) (n0 : 0 ≤ v) (n1 : v ≤ 1000) (hc : x + 1 ≤ C) (hz : y + N ≤ Z) (hd : decode cc pc = .ok (.newarray .int, 2)) (ht : t ++ [.inl (N, fun _ => 0)] = t2) (kk : A (pc + 2) ls (.inr (.inr k) :: st) (P ++ t2) (x + 1) (y + N)) : A pc ls (.inl v :: st) (P ++ t) x y := by
  subst ht
  subst hN
  refine cn_newa h (k := k) (by rw [List.length_append, hP]; exact hk) n0 n1 hc hz hd ?_
  rw [List.append_assoc]
  exact kk
theorem cq_mna (h : cn_T cc nL own ini d C Z L0 A) (hP : P.length = n) {v k o o1 : Int} {w N K : Nat} (hN : v.toNat = N) (hK : k.toNat = K) (ho : o + 1 = o1) (hk : ((n + t.length : Nat) : Int) = o) (n0 : 0 ≤ v) (n1 : v ≤ 1000) (k0 : 0 ≤ k) (k1 : k ≤ 1000) (h1 : Cond.classLink own w "[[I" ∈ ol_gt) (hc : x + (1 + N) ≤ C) (hz : y + (N + N * K) ≤ Z) (hd : decode cc pc = .ok (.multianewarray w 2, 4)) (ht : t ++ .inr (.inl (N, o1)) :: List.replicate N (.inl (K, fun _ => 0)) = t2) (kk : A (pc + 4) ls (.inr (.inr o) :: st) (P ++ t2) (x + 1 + N) (y + N + N * K)) : A pc ls (.inl k :: .inl v :: st) (P ++ t) x y := by
  subst ht
  subst hN
  subst hK
  subst ho
  refine cn_mna h (o := o) (by rw [List.length_append, hP]; exact hk) n0 n1 k0 k1 h1 hc hz hd ?_
  rw [List.append_assoc]
  exact kk
theorem cq_getf (h : cn_T cc nL own ini d C Z L0 A) (hP : P.length = n) {w ci j i : Nat} {fs : List (Option ol_V)} {k : Int} {v : ol_V} (hi : k = ((n + i : Nat) : Int)) (hk : t[i]? = some (.inr (.inr (ci, fs)))) (hF : ol_LF own w ci j) (ho : fs[j]? = some (some v)) (hd : decode cc pc = .ok (.getfield w, 3)) (kk : A (pc + 3) ls (v :: st) (P ++ t) x y) : A pc ls (.inr (.inr k) :: st) (P ++ t) x y :=
  cn_getf h (cn_pg hP hi hk) hF ho hd kk
theorem cq_putf (h : cn_T cc nL own ini d C Z L0 A) (hP : P.length = n) {w ci j i : Nat} {fs : List (Option ol_V)} {k : Int} {v : ol_V} {q : vw_C} {t0 : FieldType} (hi : k = ((n + i : Nat) : Int)) (hq : ol_cls[ci]? = some q) (hk : t[i]? = some (.inr (.inr (ci, fs)))) (hF : ol_LF own w ci j) (hjl : j < fs.length) (ht0 : parseFieldDescriptor (q.2.1 j).2.2.1 = some t0) (hn : ∀ B, narrow t0 (ol_cv (cn_ad B) v) = ol_cv (cn_ad B) v ∧ Jvm.fits t0 (ol_cv (cn_ad B) v) = true) (hfin : (q.2.1 j).2.2.2 = false ∨ ((q.2.1 j).2.2.2 = true ∧ (q.2.1 j).1 = own ∧ ini = true)) (hd : decode cc pc = .ok (.putfield w, 3)) (ht : t.set i (.inr (.inr (ci, fs.set j (some v)))) = t2) (kk : A (pc + 3) ls st (P ++ t2) x y) : A pc ls (v :: .inr (.inr k) :: st) (P ++ t) x y := by
  subst ht
  refine cn_putf h hq (cn_pg hP hi hk) hF hjl ht0 hn hfin hd ?_
  rw [cn_ps hP hi]
  exact kk
theorem cq_iast (h : cn_T cc nL own ini d C Z L0 A) (hP : P.length = n) {N j : Nat} {f : Int → Int} {k i v : Int} (hi : k = ((n + j : Nat) : Int)) (hk : t[j]? = some (.inl (N, f))) (h0 : 0 ≤ i) (h1 : i < N) (hn : N < 1000000) (hd : decode cc pc = .ok (.iastore, 1)) (ht : t.set j (.inl (N, ol_rs f i v)) = t2) (kk : A (pc + 1) ls st (P ++ t2) x y) : A pc ls (.inl v :: .inl i :: .inr (.inr k) :: st) (P ++ t) x y := by
  subst ht
  refine cn_iast h (cn_pg hP hi hk) h0 h1 hn hd ?_
  rw [cn_ps hP hi]
  exact kk
theorem cq_fill (h : cn_T cc nL own ini d C Z L0 A) (hP : P.length = n) {k v : Int} {w N j : Nat} {f : Int → Int} (hi : k = ((n + j : Nat) : Int)) (hk : t[j]? = some (.inl (N, f))) (hn : N < 1000000) (hL : ol_LS own w q_J7_fill_53178 2) (hd1 : 1 ≤ d) (hxy : x ≤ C ∧ y ≤ Z) (hL0 : n + t.length = L0 + x) (hsm : ol_sm st ≤ 8) (hd : decode cc pc = .ok (.invokestatic w, 3)) (ht : t.set j (.inl (N, ol_fl f v N)) = t2) (kk : A (pc + 3) ls st (P ++ t2) x y) : A pc ls (.inl v :: .inr (.inr k) :: st) (P ++ t) x y := by
  subst ht
  refine cn_fill h (by omega) (cn_pg hP hi hk) hn hL hd1 hxy (by rw [List.length_append, hP]; exact hL0) hsm hd ?_
  rw [cn_ps hP hi]
  exact kk
theorem cq_new (h : cn_T cc nL own ini d C Z L0 A) (hP : P.length = n) {k : Int} {w ci : Nat} {q : vw_C} (hq : ol_cls[ci]? = some q) (zs : List Bool) (hz : cn_zok q zs = true) (hk : ((n + t.length : Nat) : Int) = k) (h1 : Cond.classLink own w q.1 ∈ ol_gt) (h2 : Cond.instantiable q.1 q.2.2 ∈ ol_gt) (h3 : Cond.initialized q.1 ∈ ol_gt) (hc : x + 1 ≤ C) (hs : y + q.2.2 ≤ Z) (hd : decode cc pc = .ok (.new w, 3)) (ht : t ++ [.inr (.inr (ci, cn_zf zs))] = t2) (kk : A (pc + 3) ls (.inr (.inr k) :: st) (P ++ t2) (x + 1) (y + q.2.2)) : A pc ls st (P ++ t) x y := by
  subst ht
  refine cn_new h (k := k) hq zs hz (by rw [List.length_append, hP]; exact hk) h1 h2 h3 hc hs hd ?_
  rw [List.append_assoc]
  exact kk
end CN
/-- a constructor by its code, whatever stands ahead -/
theorem cq_Ri {d C Z n : Nat} {q : ol_MD} {as : List ol_V} {P t t2 : List cn_E} (hP : P.length = n) (hpl : plainName q.1.cls = true) (hlen : (ol_en as).length ≤ q.2.2.1) (hret : q.2.2.2 = none) (hy : q.1.name = "<init>")
    (body : ∀ A, cn_T q.2.1 q.2.2.1 q.1.cls true d C Z (n + t.length) A → (∀ pc ls x y, x ≤ C → y ≤ Z → decode q.2.1 pc = .ok (.return_, 1) → A pc ls [] (P ++ t2) x y) → A 0 (ol_ent as q.2.2.1) [] (P ++ t) 0 0) : cn_R (d + 1) C Z q as (P ++ t) (P ++ t2) :=
  cn_Ri hpl hlen hret hy (fun A h ret => body A (by rw [List.length_append, hP] at h; exact h) ret)
