/-! WHAT A WALK SPEAKS OF: ints and longs as whole numbers (an int is told by any number that is its own modulo 2^32), cells by numbers, memory as rows of numbers -/
abbrev ol_V : Type := Int ⊕ (Int ⊕ Int)
abbrev ol_M : Type := Int → Int → Int
abbrev ol_Y : Type := Nat ⊕ ((Nat × Int) ⊕ (Nat × List (Option Int)))
abbrev ol_L : Type := Int → Option ol_Y
abbrev ol_Ls : Type := List (Option ol_V)
abbrev ol_St : Type := List ol_V
def ol_cv (ad : Int → Nat) (v : ol_V) : Value := match v with
  | .inl a => .int (Int32.ofInt a)
  | .inr (.inl b) => .long (Int64.ofInt b)
  | .inr (.inr k) => .ref (ad k)
def ol_r (a : Int) : Prop := -2147483648 ≤ a ∧ a ≤ 2147483647
def ol_rl (a : Int) : Prop := -9223372036854775808 ≤ a ∧ a ≤ 9223372036854775807
/-- a row of memory put in another's place; one item of a row -/
def ol_mp (M : ol_M) (k : Int) (f : Int → Int) : ol_M := fun k' => if k' = k then f else M k'
def ol_rs (f : Int → Int) (i v : Int) : Int → Int := fun j => if j = i then v else f j
def ol_ms (M : ol_M) (k i v : Int) : ol_M := ol_mp M k (ol_rs (M k) i v)
def ol_cp (f g : Int → Int) (sp dp n : Int) : Int → Int := fun j => if dp ≤ j ∧ j < dp + n then f (sp + (j - dp)) else g j
def ol_and (a b : Int) : Int := (Int32.ofInt a &&& Int32.ofInt b).toInt
def ol_or (a b : Int) : Int := (Int32.ofInt a ||| Int32.ofInt b).toInt
def ol_andl (a b : Int) : Int := (Int64.ofInt a &&& Int64.ofInt b).toInt
/-- locals: a place gets a value; a long takes the place behind it too -/
def ol_isl (o : Option ol_V) : Bool := match o with
  | some (.inr (.inl _)) => true
  | _ => false
def ol_up (g : Nat → Option ol_V → Option ol_V) : Nat → ol_Ls → ol_Ls
  | _, [] => []
  | n, o :: r => g n o :: ol_up g (n + 1) r
def ol_s1 (ls : ol_Ls) (i : Nat) (v : ol_V) : ol_Ls := ol_up (fun j o => bif Nat.beq j i then some v else bif (Nat.beq (j + 1) i && ol_isl o) then none else o) 0 ls
def ol_s2 (ls : ol_Ls) (i : Nat) (v : ol_V) : ol_Ls := ol_up (fun j o => bif Nat.beq j i then some v else bif Nat.beq j (i + 1) then none else bif (Nat.beq (j + 1) i && ol_isl o) then none else o) 0 ls
def ol_fv (M : ol_M) (k : Int) (j : Nat) (o : Option Int) : ol_V := match o with
  | none => .inl (M k j)
  | some t => .inr (.inr t)
def ol_tg (pc : Nat) (off : Int) : Nat := ((pc : Int) + off).toNat
def ol_if (c T F : Prop) : Prop := (c → T) ∧ (¬ c → F)
theorem ol_if.pos {c T F : Prop} (h : c) (t : T) : ol_if c T F := ⟨fun _ => t, fun n => absurd h n⟩
theorem ol_if.neg {c T F : Prop} (h : ¬ c) (f : F) : ol_if c T F := ⟨fun n => absurd n h, fun _ => f⟩
/-- a comparison of ints: where the numbers are the same nothing is asked, else they must be the ints themselves -/
def ol_br (c : Jvm.ClassFile.Cond) (a b : Int) (T F : Prop) : Prop := match c with
  | .eq => ol_if (a = b) T (ol_r a ∧ ol_r b ∧ F)
  | .ne => ol_if (a = b) F (ol_r a ∧ ol_r b ∧ T)
  | .lt => ol_r a ∧ ol_r b ∧ ol_if (a < b) T F
  | .ge => ol_r a ∧ ol_r b ∧ ol_if (b ≤ a) T F
  | .gt => ol_r a ∧ ol_r b ∧ ol_if (b < a) T F
  | .le => ol_r a ∧ ol_r b ∧ ol_if (a ≤ b) T F
def ol_p1 (st : ol_St) (f : Int → ol_St → Prop) : Prop := match st with
  | .inl a :: r => f a r
  | _ => False
def ol_p2 (st : ol_St) (f : Int → Int → ol_St → Prop) : Prop := match st with
  | .inl b :: .inl a :: r => f a b r
  | _ => False
def ol_q1 (st : ol_St) (f : Int → ol_St → Prop) : Prop := match st with
  | .inr (.inl a) :: r => f a r
  | _ => False
def ol_q2 (st : ol_St) (f : Int → Int → ol_St → Prop) : Prop := match st with
  | .inr (.inl b) :: .inr (.inl a) :: r => f a b r
  | _ => False
def ol_li (st : ol_St) (f : Int → Int → ol_St → Prop) : Prop := match st with
  | .inl b :: .inr (.inl a) :: r => f a b r
  | _ => False
def ol_a1 (st : ol_St) (f : Int → ol_St → Prop) : Prop := match st with
  | .inr (.inr k) :: r => f k r
  | _ => False
def ol_ai (st : ol_St) (f : Int → Int → ol_St → Prop) : Prop := match st with
  | .inl i :: .inr (.inr k) :: r => f k i r
  | _ => False
def ol_aii (st : ol_St) (f : Int → Int → Int → ol_St → Prop) : Prop := match st with
  | .inl v :: .inl i :: .inr (.inr k) :: r => f k i v r
  | _ => False
def ol_cpy (st : ol_St) (f : Int → Int → Int → Int → Int → ol_St → Prop) : Prop := match st with
  | .inl n :: .inl dp :: .inr (.inr b) :: .inl sp :: .inr (.inr a) :: r => f a sp b dp n r
  | _ => False
def ol_ct (v : ol_V) : Nat := match v with
  | .inr (.inl _) => 2
  | _ => 1
def ol_sm : ol_St → Nat
  | [] => 0
  | v :: r => ol_ct v + ol_sm r
/-- links: what the tables say of a field, of a method, of a call -/
def ol_LF (own : String) (idx ci j : Nat) : Prop := ∃ (q : vw_C) (ref : String), ol_cls[ci]? = some q ∧ j < q.2.2 ∧ Cond.fieldLink own idx ref (q.2.1 j).2.1 (q.2.1 j).2.2.1 ∈ ol_gt ∧ (ref = (q.2.1 j).1 ∨ Cond.sameField ref (q.2.1 j).1 (q.2.1 j).2.1 (q.2.1 j).2.2.1 ∈ ol_gt)
/-- what may be put into a field -/
def ol_PF (ci j : Nat) (a : Int) : Prop := ∃ q : vw_C, ol_cls[ci]? = some q ∧ (q.2.1 j).2.2.2 = false ∧ ((q.2.1 j).2.2.1 = "I" ∨ ((q.2.1 j).2.2.1 = "Z" ∧ (a = 0 ∨ a = 1)))
def ol_nms (c : String) : Prop := c ≠ "java/lang/invoke/MethodHandle" ∧ c ≠ "java/lang/invoke/VarHandle"
/-- a method of the launch with n parameters -/
def ol_MK (q : ol_MD) (n : Nat) : Prop := Cond.code q.1 q.2.1 q.2.2.1 q.2.2.2 ∈ ol_gt ∧ Cond.initialized q.1.cls ∈ ol_gt ∧ ol_nms q.1.cls ∧ (parseMethodDescriptor q.1.desc).map (fun d => d.parameters.length) = some n ∧ q.2.2.1 ≤ 40
/-- private methods of the nest that are called from another class of it -/
def ol_nst : List (String × Nat × MethodName × String) := [("OunceLetters$Terms", 49, ⟨"OunceLetters", "isVowel", "(I)Z"⟩, "OunceLetters"), ("OunceLetters$Chance", 110, ⟨"OunceLetters", "power", "(JI)J"⟩, "OunceLetters"), ("OunceLetters$Sheets", 33, ⟨"OunceLetters", "isBelow", "(II)Z"⟩, "OunceLetters")]
def ol_abs : MethodName := ⟨"OunceLetters$Text", "step", "(II)I"⟩
def ol_LS (own : String) (idx : Nat) (q : ol_MD) (n : Nat) : Prop := ol_MK q n ∧ Cond.static q.1 ∈ ol_gt ∧ (Cond.methodLink own idx q.1 ∈ ol_gt ∨ ∃ h, (own, idx, q.1, h) ∈ ol_nst)
/-- a call of an object of the class numbered ci: the method that is named is its own class's, or one that it inherits, or an abstract one -/
def ol_LV (own : String) (idx ci : Nat) (q : ol_MD) (n : Nat) : Prop := ol_MK q n ∧ Cond.instanceMethod q.1 ∈ ol_gt ∧ ∃ c : vw_C, ol_cls[ci]? = some c ∧
  ((Cond.methodLink own idx q.1 ∈ ol_gt ∧ Cond.selects c.1 q.1 q.1 ∈ ol_gt ∧ q.1.cls = c.1) ∨
   ∃ (x : MethodName) (ow : String), Cond.methodLink own idx x ∈ ol_gt ∧ Cond.sameMethod x.cls ow x.name x.desc ∈ ol_gt ∧ Cond.selects c.1 x q.1 ∈ ol_gt ∧ ol_nms ow ∧ (parseMethodDescriptor x.desc).map (fun d => d.parameters.length) = some n ∧ (q.1 = ⟨ow, x.name, x.desc⟩ ∨ (⟨ow, x.name, x.desc⟩ : MethodName) = ol_abs))
def ol_min (a b : Int) : Int := if a ≤ b then a else b
def ol_max (a b : Int) : Int := if a < b then b else a
