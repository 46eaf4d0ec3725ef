section OLS
variable {p : Program} {l : Launch} {e : Env} {R : Room} {s : State} {m : MethodId} {args : Array Value} {below : List Frame} {meth : Method} {c : Code} {cells slots : Nat} {Q : State → Prop}
variable {cc : ByteArray} {nL : Nat} {own : String} {d : Nat} {D : va_G} {ad : Int → Nat} {cI cJ : ClassId} {lay : ol_L}
theorem ol_brI {k : Jvm.ClassFile.Cond} {a b : Int} {T F : Prop} {off : Int} {pc tgt : Nat} {H : Heap} {locs : List Loc} {x : Array Slot} {r : List Value} (hx : p.tables.exec = Jvm.exec) (hb : c.code = cc) (hd : decode cc pc = .ok (.if_icmp k off, 3)) (ht : (tgt : Int) = pc + off) (h : ol_br k a b T F)
    (kt : T → W p l e R s m args below meth c H locs cells slots Q (F0 m tgt x r)) (kf : F → W p l e R s m args below meth c H locs cells slots Q (F0 m (pc + 3) x r)) : W p l e R s m args below meth c H locs cells slots Q (F0 m pc x (.int (Int32.ofInt b) :: .int (Int32.ofInt a) :: r)) := by
  cases k with
  | eq =>
    refine lv_icmp_eq hx hb hd ht.symm (fun q => ?_) (fun q => ?_)
    · by_cases ab : a = b
      · exact kt (h.1 ab)
      · exact absurd ((ol_eqI (h.2 ab).1 (h.2 ab).2.1).mp q) ab
    · exact kf (h.2 (fun ab => q (by rw [ab]))).2.2
  | ne =>
    refine lv_icmp_ne hx hb hd ht.symm (fun q => ?_) (fun q => ?_)
    · exact kt (h.2 (fun ab => q (by rw [ab]))).2.2
    · by_cases ab : a = b
      · exact kf (h.1 ab)
      · exact absurd ((ol_eqI (h.2 ab).1 (h.2 ab).2.1).mp q) ab
  | lt =>
    refine lv_icmp_lt hx hb hd ht.symm (fun q => ?_) (fun q => ?_)
    · exact kt (h.2.2.1 ((ol_ltI h.1 h.2.1).mp q))
    · exact kf (h.2.2.2 (fun z => q ((ol_ltI h.1 h.2.1).mpr z)))
  | ge =>
    refine lv_icmp_ge hx hb hd ht.symm (fun q => ?_) (fun q => ?_)
    · exact kt (h.2.2.1 ((ol_leI h.2.1 h.1).mp q))
    · exact kf (h.2.2.2 (fun z => q ((ol_leI h.2.1 h.1).mpr z)))
  | gt =>
    refine lv_icmp_gt hx hb hd ht.symm (fun q => ?_) (fun q => ?_)
    · exact kt (h.2.2.1 ((ol_ltI h.2.1 h.1).mp q))
    · exact kf (h.2.2.2 (fun z => q ((ol_ltI h.2.1 h.1).mpr z)))
  | le =>
    refine lv_icmp_le hx hb hd ht.symm (fun q => ?_) (fun q => ?_)
    · exact kt (h.2.2.1 ((ol_leI h.1 h.2.1).mp q))
    · exact kf (h.2.2.2 (fun z => q ((ol_leI h.1 h.2.1).mpr z)))
theorem ol_r0 : ol_r 0 := ⟨by decide, by decide⟩
theorem ol_br0 {k : Jvm.ClassFile.Cond} {a : Int} {T F : Prop} {off : Int} {pc tgt : Nat} {H : Heap} {locs : List Loc} {x : Array Slot} {r : List Value} (hx : p.tables.exec = Jvm.exec) (hb : c.code = cc) (hd : decode cc pc = .ok (.ifCond k off, 3)) (ht : (tgt : Int) = pc + off) (h : ol_br k a 0 T F)
    (kt : T → W p l e R s m args below meth c H locs cells slots Q (F0 m tgt x r)) (kf : F → W p l e R s m args below meth c H locs cells slots Q (F0 m (pc + 3) x r)) : W p l e R s m args below meth c H locs cells slots Q (F0 m pc x (.int (Int32.ofInt a) :: r)) := by
  cases k with
  | eq =>
    refine lv_if_eq hx hb hd ht.symm (fun q => ?_) (fun q => ?_)
    · by_cases ab : a = 0
      · exact kt (h.1 ab)
      · exact absurd ((ol_eqI (h.2 ab).1 ol_r0).mp q) ab
    · exact kf (h.2 (fun ab => q (by rw [ab]; rfl))).2.2
  | ne =>
    refine lv_if_ne hx hb hd ht.symm (fun q => ?_) (fun q => ?_)
    · exact kt (h.2 (fun ab => q (by rw [ab]; rfl))).2.2
    · by_cases ab : a = 0
      · exact kf (h.1 ab)
      · exact absurd ((ol_eqI (h.2 ab).1 ol_r0).mp q) ab
  | lt =>
    refine lv_if_lt hx hb hd ht.symm (fun q => ?_) (fun q => ?_)
    · exact kt (h.2.2.1 ((ol_ltI h.1 ol_r0).mp q))
    · exact kf (h.2.2.2 (fun z => q ((ol_ltI h.1 ol_r0).mpr z)))
  | ge =>
    refine lv_if_ge hx hb hd ht.symm (fun q => ?_) (fun q => ?_)
    · exact kt (h.2.2.1 ((ol_leI ol_r0 h.1).mp q))
    · exact kf (h.2.2.2 (fun z => q ((ol_leI ol_r0 h.1).mpr z)))
  | gt =>
    refine lv_if_gt hx hb hd ht.symm (fun q => ?_) (fun q => ?_)
    · exact kt (h.2.2.1 ((ol_ltI ol_r0 h.1).mp q))
    · exact kf (h.2.2.2 (fun z => q ((ol_ltI ol_r0 h.1).mpr z)))
  | le =>
    refine lv_if_le hx hb hd ht.symm (fun q => ?_) (fun q => ?_)
    · exact kt (h.2.2.1 ((ol_leI h.1 ol_r0).mp q))
    · exact kf (h.2.2.2 (fun z => q ((ol_leI h.1 ol_r0).mpr z)))
end OLS
