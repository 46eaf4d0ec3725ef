/-! THE WORLD, WHAT A METHOD DOES, AND WHAT MUST HOLD AHEAD OF AN INSTRUCTION -/
def ol_fs (ad : Int → Nat) (M : ol_M) (k : Int) : Nat → List (Option Int) → List Value
  | _, [] => []
  | n, o :: r => ol_cv ad (ol_fv M k n o) :: ol_fs ad M k (n + 1) r
def ol_E (ad : Int → Nat) (cI cJ : ClassId) (M : ol_M) (k : Int) (y : ol_Y) : va_E := match y with
  | .inl n => .inl (cI, n, .inl (fun j => Int32.ofInt (M k (j : Int))))
  | .inr (.inl (n, b)) => .inl (cJ, n, .inr (.inr (.inr (.inr (fun i => some (ad (b + (i : Int))))))))
  | .inr (.inr (ci, fs)) => .inr (ci, ol_fs ad M k 0 fs)
def ol_H (D : va_G) (ad : Int → Nat) (cI cJ : ClassId) (lay : ol_L) (M : ol_M) (H : Heap) : Prop := ∀ (k : Int) (y : ol_Y), lay k = some y → va_at D ol_cls (ad k, ol_E ad cI cJ M k y) H
def ol_K (D : va_G) (ad : Int → Nat) (cI cJ : ClassId) (lay : ol_L) (U : State) : Prop :=
  va_K D ol_cls [(cI, .int), (cJ, .array .int)] U ∧ (∀ (i j : Int) (yi yj : ol_Y), lay i = some yi → lay j = some yj → ad i = ad j → i = j) ∧ (∀ x ∈ ol_nst, va_Nw (.methodLinkNest x.1 x.2.1 x.2.2.1 x.2.2.2) U) ∧ va_Nw (.declares ol_abs) U
theorem ol_K.moved {D : va_G} {ad : Int → Nat} {cI cJ : ClassId} {lay : ol_L} {s U : State} (hW : s.WarmedH U.vm) (h : ol_K D ad cI cJ lay s) : ol_K D ad cI cJ lay U :=
  ⟨va_K.moved hW.alike h.1, h.2.1, fun x hx => va_Nw.warmM hW (h.2.2.1 x hx), va_Nw.warmD hW h.2.2.2⟩
theorem ol_K.same {D : va_G} {ad : Int → Nat} {cI cJ : ClassId} {lay : ol_L} {s U : State} (hv : s.vm = U.vm) (h : ol_K D ad cI cJ lay s) : ol_K D ad cI cJ lay U :=
  ⟨va_K.moved (hv ▸ Vm.Alike.refl s.vm) h.1, h.2.1, fun x hx => va_Nw.same rfl hv (h.2.2.1 x hx), va_Nw.same rfl hv h.2.2.2⟩
/-- the cells that may be changed -/
def ol_A (ad : Int → Nat) (lay : ol_L) : Nat → Prop := fun q => ∃ (k : Int) (y : ol_Y), 0 ≤ k ∧ lay k = some y ∧ q = ad k
def ol_ws (q : ol_MD) : List Cond := Cond.code q.1 q.2.1 q.2.2.1 q.2.2.2 :: ol_gt
def ol_rm (d : Nat) : Room := { frames := d, cells := 0, slots := 0, locals := 60 * d }
/-- the method q, called with these values over this memory, answers v and leaves that memory -/
def ol_R (lay : ol_L) (d : Nat) (q : ol_MD) (as : List ol_V) (M : ol_M) (v : Option ol_V) (M' : ol_M) : Prop :=
  ∀ (l : Launch) (D : va_G) (ad : Int → Nat) (cI cJ : ClassId), Met l q.1 (ol_ws q) (ol_rm d) (va_Pc (as.map (ol_cv ad)) (fun U => ol_H D ad cI cJ lay M U.heap ∧ ol_K D ad cI cJ lay U)) (fun _ st oc t => oc = .returned (v.map (ol_cv ad)) ∧ ol_H D ad cI cJ lay M' t.heap ∧ va_F (ol_A ad lay) st t) 0 0 (ol_A ad lay)
/-- what must hold ahead of one instruction: K what must hold behind it, Q at another place of the code, Rt at the method's end -/
def ol_in (own : String) (d : Nat) (lay : ol_L) (Rt : Option ol_V → ol_M → Prop) (Q : Nat → ol_Ls → ol_St → ol_M → Prop) (i : Instr) (pc : Nat) (ls : ol_Ls) (st : ol_St) (M : ol_M) (K : ol_Ls → ol_St → ol_M → Prop) : Prop := match i with
  | .iconst c => K ls (.inl c :: st) M
  | .bipush c => (-128 ≤ c ∧ c ≤ 127) ∧ K ls (.inl c :: st) M
  | .sipush c => (-32768 ≤ c ∧ c ≤ 32767) ∧ K ls (.inl c :: st) M
  | .lconst c => K ls (.inr (.inl ((c : Nat) : Int)) :: st) M
  | .ldc x => ∃ v : Int, Cond.constant own x (Int32.ofInt v) ∈ ol_gt ∧ K ls (.inl v :: st) M
  | .ldc_w x => ∃ v : Int, Cond.constant own x (Int32.ofInt v) ∈ ol_gt ∧ K ls (.inl v :: st) M
  | .ldc2_w x => ∃ v : Int, Cond.constantLong own x (Int64.ofInt v) ∈ ol_gt ∧ K ls (.inr (.inl v) :: st) M
  | .iload_n k => ∃ a, ls[(k : Nat)]? = some (some (.inl a)) ∧ K ls (.inl a :: st) M
  | .iload k => ∃ a, ls[k]? = some (some (.inl a)) ∧ K ls (.inl a :: st) M
  | .lload_n k => ∃ a, ls[(k : Nat)]? = some (some (.inr (.inl a))) ∧ K ls (.inr (.inl a) :: st) M
  | .lload k => ∃ a, ls[k]? = some (some (.inr (.inl a))) ∧ K ls (.inr (.inl a) :: st) M
  | .aload_n k => ∃ a, ls[(k : Nat)]? = some (some (.inr (.inr a))) ∧ K ls (.inr (.inr a) :: st) M
  | .aload k => ∃ a, ls[k]? = some (some (.inr (.inr a))) ∧ K ls (.inr (.inr a) :: st) M
  | .istore_n k => ol_p1 st fun a r => (k : Nat) < ls.length ∧ K (ol_s1 ls k (.inl a)) r M
  | .istore k => ol_p1 st fun a r => k < ls.length ∧ K (ol_s1 ls k (.inl a)) r M
  | .lstore_n k => ol_q1 st fun a r => (k : Nat) + 1 < ls.length ∧ K (ol_s2 ls k (.inr (.inl a))) r M
  | .lstore k => ol_q1 st fun a r => k + 1 < ls.length ∧ K (ol_s2 ls k (.inr (.inl a))) r M
  | .astore_n k => ol_a1 st fun a r => (k : Nat) < ls.length ∧ K (ol_s1 ls k (.inr (.inr a))) r M
  | .astore k => ol_a1 st fun a r => k < ls.length ∧ K (ol_s1 ls k (.inr (.inr a))) r M
  | .iinc k c => ∃ a, ls[k]? = some (some (.inl a)) ∧ K (ol_s1 ls k (.inl (a + c))) st M
  | .iadd => ol_p2 st fun a b r => K ls (.inl (a + b) :: r) M
  | .isub => ol_p2 st fun a b r => K ls (.inl (a - b) :: r) M
  | .imul => ol_p2 st fun a b r => K ls (.inl (a * b) :: r) M
  | .idiv => ol_p2 st fun a b r => ol_r a ∧ ol_r b ∧ b ≠ 0 ∧ K ls (.inl (a.tdiv b) :: r) M
  | .irem => ol_p2 st fun a b r => ol_r a ∧ ol_r b ∧ b ≠ 0 ∧ K ls (.inl (a.tmod b) :: r) M
  | .iand => ol_p2 st fun a b r => K ls (.inl (ol_and a b) :: r) M
  | .ior => ol_p2 st fun a b r => K ls (.inl (ol_or a b) :: r) M
  | .ishl => ol_p2 st fun a b r => 0 ≤ b ∧ b < 32 ∧ K ls (.inl (a * 2 ^ b.toNat) :: r) M
  | .ishr => ol_p2 st fun a b r => ol_r a ∧ 0 ≤ b ∧ b < 32 ∧ K ls (.inl (a / 2 ^ b.toNat) :: r) M
  | .iushr => ol_p2 st fun a b r => 0 ≤ b ∧ b < 32 ∧ K ls (.inl ((a % 4294967296) / 2 ^ b.toNat) :: r) M
  | .i2l => ol_p1 st fun a r => ol_r a ∧ K ls (.inr (.inl a) :: r) M
  | .i2b => ol_p1 st fun a r => K ls (.inl (a.bmod 256) :: r) M
  | .i2s => ol_p1 st fun a r => K ls (.inl (a.bmod 65536) :: r) M
  | .ladd => ol_q2 st fun a b r => K ls (.inr (.inl (a + b)) :: r) M
  | .lsub => ol_q2 st fun a b r => K ls (.inr (.inl (a - b)) :: r) M
  | .lmul => ol_q2 st fun a b r => K ls (.inr (.inl (a * b)) :: r) M
  | .ldiv => ol_q2 st fun a b r => ol_rl a ∧ ol_rl b ∧ b ≠ 0 ∧ K ls (.inr (.inl (a.tdiv b)) :: r) M
  | .lrem => ol_q2 st fun a b r => ol_rl a ∧ ol_rl b ∧ b ≠ 0 ∧ K ls (.inr (.inl (a.tmod b)) :: r) M
  | .land => ol_q2 st fun a b r => K ls (.inr (.inl (ol_andl a b)) :: r) M
  | .lshl => ol_li st fun a b r => 0 ≤ b ∧ b < 64 ∧ K ls (.inr (.inl (a * 2 ^ b.toNat)) :: r) M
  | .lshr => ol_li st fun a b r => ol_rl a ∧ 0 ≤ b ∧ b < 64 ∧ K ls (.inr (.inl (a / 2 ^ b.toNat)) :: r) M
  | .lcmp => ol_q2 st fun a b r => ol_if (a = b) (K ls (.inl 0 :: r) M) (ol_rl a ∧ ol_rl b ∧ K ls (.inl (if a < b then -1 else 1) :: r) M)
  | .dup => match st with
    | v :: r => ol_ct v = 1 ∧ K ls (v :: v :: r) M
    | _ => False
  | .dup2 => match st with
    | v :: w :: r => ol_ct v = 1 ∧ ol_ct w = 1 ∧ K ls (v :: w :: v :: w :: r) M
    | _ => False
  | .pop => match st with
    | v :: r => ol_ct v = 1 ∧ K ls r M
    | _ => False
  | .goto off => (ol_tg pc off : Int) = pc + off ∧ Q (ol_tg pc off) ls st M
  | .ifCond c off => (ol_tg pc off : Int) = pc + off ∧ ol_p1 st fun a r => ol_br c a 0 (Q (ol_tg pc off) ls r M) (K ls r M)
  | .if_icmp c off => (ol_tg pc off : Int) = pc + off ∧ ol_p2 st fun a b r => ol_br c a b (Q (ol_tg pc off) ls r M) (K ls r M)
  | .tableswitch df lo hi offs => (ol_tg pc df : Int) = pc + df ∧ ol_p1 st fun a r => ol_r a ∧ ol_if (a < lo ∨ hi < a) (Q (ol_tg pc df) ls r M) (∃ off, offs[(a - lo).toNat]? = some off ∧ (ol_tg pc off : Int) = pc + off ∧ Q (ol_tg pc off) ls r M)
  | .getfield x => ol_a1 st fun k r => ∃ (ci : Nat) (fs : List (Option Int)) (j : Nat) (o : Option Int), lay k = some (.inr (.inr (ci, fs))) ∧ ol_LF own x ci j ∧ fs[j]? = some o ∧ K ls (ol_fv M k j o :: r) M
  | .putfield x => match st with
    | .inl a :: .inr (.inr k) :: r => ∃ (ci : Nat) (fs : List (Option Int)) (j : Nat), lay k = some (.inr (.inr (ci, fs))) ∧ ol_LF own x ci j ∧ fs[j]? = some none ∧ 0 ≤ k ∧ ol_PF ci j a ∧ K ls r (ol_ms M k j a)
    | _ => False
  | .iaload => ol_ai st fun k i r => ∃ n : Nat, lay k = some (.inl n) ∧ 0 ≤ i ∧ i < n ∧ n < 1000000 ∧ K ls (.inl (M k i) :: r) M
  | .aaload => ol_ai st fun k i r => ∃ (n : Nat) (b : Int), lay k = some (.inr (.inl (n, b))) ∧ 0 ≤ i ∧ i < n ∧ n < 1000000 ∧ K ls (.inr (.inr (b + i)) :: r) M
  | .iastore => ol_aii st fun k i v r => ∃ n : Nat, lay k = some (.inl n) ∧ 0 ≤ k ∧ 0 ≤ i ∧ i < n ∧ n < 1000000 ∧ K ls r (ol_ms M k i v)
  | .arraylength => ol_a1 st fun k r => ∃ n : Nat, lay k = some (.inl n) ∧ K ls (.inl n :: r) M
  | .ireturn => match st with
    | [.inl a] => Rt (some (.inl a)) M
    | _ => False
  | .lreturn => match st with
    | [.inr (.inl a)] => Rt (some (.inr (.inl a))) M
    | _ => False
  | .areturn => match st with
    | [.inr (.inr a)] => Rt (some (.inr (.inr a))) M
    | _ => False
  | .return_ => st = [] ∧ Rt none M
  | .invokestatic x => (∃ (q : ol_MD) (n d' : Nat) (v : Option ol_V) (M' : ol_M), ol_LS own x q n ∧ (st.take n).length = n ∧ ol_sm (st.drop n) ≤ 8 ∧ d' ≤ d ∧ ol_R lay d' q (st.take n).reverse M v M' ∧ K ls (v.toList ++ st.drop n) M') ∨
      (ol_cpy st fun a sp b dp n r => Cond.methodLink own x arraycopyName ∈ ol_gt ∧ ol_sm r ≤ 8 ∧ ∃ na nb : Nat, lay a = some (.inl na) ∧ lay b = some (.inl nb) ∧ 0 ≤ b ∧ 0 ≤ sp ∧ 0 ≤ dp ∧ 0 ≤ n ∧ sp + n ≤ na ∧ dp + n ≤ nb ∧ na < 1000000 ∧ nb < 1000000 ∧ K ls r (ol_mp M b (ol_cp (M a) (M b) sp dp n))) ∨
      (ol_p2 st fun a b r => Cond.methodLink own x Lib.Math.max.name ∈ ol_gt ∧ ol_sm r ≤ 8 ∧ ol_r a ∧ ol_r b ∧ K ls (.inl (ol_max a b) :: r) M) ∨
      (ol_p2 st fun a b r => Cond.methodLink own x Lib.Math.min.name ∈ ol_gt ∧ ol_sm r ≤ 8 ∧ ol_r a ∧ ol_r b ∧ K ls (.inl (ol_min a b) :: r) M)
  | .invokevirtual x => ∃ (q : ol_MD) (n d' : Nat) (v : Option ol_V) (M' : ol_M) (k : Int) (r : ol_St) (ci : Nat) (fs : List (Option Int)), st.drop n = .inr (.inr k) :: r ∧ (st.take n).length = n ∧ lay k = some (.inr (.inr (ci, fs))) ∧ ol_LV own x ci q n ∧ ol_sm r ≤ 8 ∧ d' ≤ d ∧ ol_R lay d' q (.inr (.inr k) :: (st.take n).reverse) M v M' ∧ K ls (v.toList ++ r) M'
  | _ => False
/-- how long an instruction is -/
def ol_len (i : Instr) : Nat := match i with
  | .bipush _ | .ldc _ | .iload _ | .lload _ | .aload _ | .istore _ | .lstore _ | .astore _ => 2
  | .sipush _ | .ldc_w _ | .ldc2_w _ | .goto _ | .ifCond _ _ | .if_icmp _ _ | .getfield _ | .putfield _ | .invokestatic _ | .invokevirtual _ | .iinc _ _ => 3
  | _ => 1
def ol_isT (i : Instr) : Bool := match i with
  | .tableswitch _ _ _ _ => true
  | _ => false
/-- what must hold ahead of a row of instructions -/
def ol_wp (own : String) (d : Nat) (lay : ol_L) (Rt : Option ol_V → ol_M → Prop) (Q : Nat → ol_Ls → ol_St → ol_M → Prop) : List Instr → Nat → ol_Ls → ol_St → ol_M → Prop
  | [], pc, ls, st, M => Q pc ls st M
  | i :: r, pc, ls, st, M => ol_in own d lay Rt Q i pc ls st M (fun ls st M => ol_wp own d lay Rt Q r (pc + ol_len i) ls st M)
/-- these instructions stand there -/
def ol_cd (cc : ByteArray) : Nat → List Instr → Bool
  | _, [] => true
  | pc, i :: r => (match decode cc pc with
    | .ok (j, n) => decide (j = i) && (ol_isT i || Nat.beq n (ol_len i))
    | .error _ => false) && ol_cd cc (pc + ol_len i) r
/-- fewer locals told -/
def ol_le : ol_Ls → ol_Ls → Prop
  | [], [] => True
  | none :: r, _ :: r' => ol_le r r'
  | some v :: r, o :: r' => o = some v ∧ ol_le r r'
  | _, _ => False
def ol_wk (A : Nat → ol_Ls → ol_St → ol_M → Prop) (pc : Nat) (ls : ol_Ls) (st : ol_St) (M : ol_M) : Prop := ∃ ls0 : ol_Ls, ol_le ls0 ls ∧ A pc ls0 st M
/-- a predicate on places of a code that holds wherever it holds behind a row of its instructions -/
def ol_C (own : String) (cc : ByteArray) (d : Nat) (lay : ol_L) (Rt : Option ol_V → ol_M → Prop) (A : Nat → ol_Ls → ol_St → ol_M → Prop) : Prop :=
  ∀ (is : List Instr) (pc : Nat) (ls : ol_Ls) (st : ol_St) (M : ol_M), ol_cd cc pc is = true → ol_wp own d lay Rt (ol_wk A) is pc ls st M → A pc ls st M
