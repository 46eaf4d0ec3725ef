/-! THE STATE AT THE BEGINNING -/
def w0_S : ol_M := fun k => if k = 3 then (fun _ => 2) else if k = 15 then (fun _ => -1) else fun _ => 0
theorem w0_S0 {k : Int} (h3 : k ≠ 3) (h15 : k ≠ 15) : w0_S k = fun _ => 0 := by unfold w0_S; rw [if_neg h3, if_neg h15]
theorem w0_ok : sp_ok w0_S := by
  have z0 := @w0_S0 0 (by decide) (by decide)
  refine ⟨?_, ?_, ?_, ?_, ?_, ?_, ?_⟩
  · unfold sp_ok_t
    rw [z0]
    exact ⟨⟨by decide, by decide⟩, ⟨by decide, by decide⟩, fun j a b => absurd (show j < 0 from b) (Int.not_lt.mpr a), fun j a b => absurd (show j < 0 from b) (Int.not_lt.mpr a)⟩
  · intro l l0 l1
    rw [show w0_S 3 = fun _ => 2 from if_pos rfl]
    exact ⟨(by decide : (0 : Int) ≤ 2), (by decide : (2 : Int) ≤ 9)⟩
  · unfold sp_ok_w
    rw [z0]
    exact ⟨⟨by decide, by decide⟩, fun k a b => absurd (show k < 0 from b) (Int.not_lt.mpr a)⟩
  · unfold sp_ok_l
    rw [z0]
    exact ⟨⟨by decide, by decide⟩, fun k a b => absurd (show k < 0 from b) (Int.not_lt.mpr a)⟩
  · unfold sp_ok_s
    rw [z0]
    exact ⟨⟨by decide, by decide⟩, fun k a b => absurd (show k < 0 from b) (Int.not_lt.mpr a)⟩
  · unfold sp_ok_f
    rw [z0]
    exact ⟨by decide, by decide⟩
  · intro s s0 s1
    rw [show w0_S 15 = fun _ => -1 by unfold w0_S; rw [if_neg (by decide), if_pos rfl]]
    exact ⟨⟨(by decide : (-1 : Int) ≤ -1), (by decide : (-1 : Int) ≤ 2)⟩, fun q => absurd (show (0 : Int) ≤ -1 from q) (by decide)⟩
theorem w0_im (xs : Nat → Int32) : im w0_S (w0_M xs) := by
  have z0 := @w0_S0 0 (by decide) (by decide)
  refine ⟨?_, ?_, ?_, ?_, ?_, ?_, ?_, ?_⟩
  · unfold im_t
    rw [z0]
    exact ⟨rfl, rfl, fun j a b => absurd (show j < 0 from b) (Int.not_lt.mpr a), fun j a b => absurd (show j < 0 from b) (Int.not_lt.mpr a)⟩
  · intro l l0 l1
    rw [show w0_S 3 = fun _ => 2 from if_pos rfl]
    rcases (show l = 0 ∨ l = 1 ∨ l = 2 ∨ l = 3 ∨ l = 4 ∨ l = 5 ∨ l = 6 ∨ l = 7 by omega) with rfl | rfl | rfl | rfl | rfl | rfl | rfl | rfl <;> rfl
  · unfold im_w
    rw [z0]
    exact ⟨rfl, fun k a b => absurd (show k < 0 from b) (Int.not_lt.mpr a)⟩
  · unfold im_l
    rw [z0]
    exact ⟨rfl, fun k a b => absurd (show k < 0 from b) (Int.not_lt.mpr a)⟩
  · unfold im_s
    rw [z0]
    exact ⟨rfl, fun k a b => absurd (show k < 0 from b) (Int.not_lt.mpr a)⟩
  · unfold im_f
    rw [z0]
    rfl
  · rfl
  · intro s s0 s1
    rw [show w0_S 15 = fun _ => -1 by unfold w0_S; rw [if_neg (by decide), if_pos rfl]]
    refine ⟨?_, fun q => absurd (show (0 : Int) ≤ -1 from q) (by decide)⟩
    rcases (show s = 0 ∨ s = 1 ∨ s = 2 ∨ s = 3 by omega) with rfl | rfl | rfl | rfl <;> rfl
theorem w0_ix (xs : Nat → Int32) : ix w0_S (w0_M xs) := by
  have z0 := @w0_S0 0 (by decide) (by decide)
  have ehf : sp_hf w0_S = -1 := by unfold sp_hf; rw [z0, w0_S0 (by decide) (by decide)]; rfl
  have enH : sp_nH w0_S = 0 := by unfold sp_nH; rw [ehf, z0]; rfl
  have ept : (sp_pt w0_S).1 = -1 ∧ (sp_pt w0_S).2.1 = 0 := by unfold sp_pt; rw [z0, w0_S0 (by decide) (by decide)]; exact ⟨rfl, rfl⟩
  refine ⟨⟨?_, ?_, ?_, ?_, ?_, ?_, ?_, ?_, ?_⟩, Or.inl rfl, Or.inl rfl⟩
  · unfold ix_t
    rw [z0]
    exact ⟨rfl, rfl, rfl, rfl, fun j a b => absurd (show j < 0 from b) (Int.not_lt.mpr a), fun j a b => absurd (show j < 0 from b) (Int.not_lt.mpr a)⟩
  · unfold ix_p
    rw [enH, ehf]
    exact ⟨rfl, rfl, fun h a b => absurd (show h < 0 from b) (Int.not_lt.mpr a)⟩
  · unfold ix_q sp_nT sp_tf
    rw [ept.1, ept.2]
    exact ⟨rfl, rfl, fun t a b => absurd (show t < 0 from b) (Int.not_lt.mpr a)⟩
  · intro l l0 l1
    rw [show w0_S 3 = fun _ => 2 from if_pos rfl]
    show ol_fl (fun _ => 0) 2 8 l = 2
    exact if_pos ⟨l0, l1⟩
  · unfold ix_w
    rw [z0]
    exact ⟨rfl, fun k a b => absurd (show k < 0 from b) (Int.not_lt.mpr a)⟩
  · unfold ix_l
    rw [z0]
    exact ⟨rfl, fun k a b => absurd (show k < 0 from b) (Int.not_lt.mpr a)⟩
  · unfold ix_s
    rw [z0]
    exact ⟨rfl, fun k a b => absurd (show k < 0 from b) (Int.not_lt.mpr a)⟩
  · unfold ix_f
    rw [z0]
    refine ⟨rfl, fun w w0 w1 l l0 l1 => ?_⟩
    rcases (show w = 0 ∨ w = 1 ∨ w = 2 ∨ w = 3 ∨ w = 4 ∨ w = 5 ∨ w = 6 ∨ w = 7 ∨ w = 8 ∨ w = 9 ∨ w = 10 ∨ w = 11 by omega) with rfl | rfl | rfl | rfl | rfl | rfl | rfl | rfl | rfl | rfl | rfl | rfl <;> exact (⟨by decide, by decide⟩ : ol_r 0)
  · intro s s0 s1
    rw [show w0_S 15 = fun _ => -1 by unfold w0_S; rw [if_neg (by decide), if_pos rfl]]
    refine ⟨⟨Int.le_refl 0, (by decide : (0 : Int) ≤ 2)⟩, fun _ => ?_, fun q => absurd (show (0 : Int) ≤ -1 from q) (by decide)⟩
    show ol_fl (fun _ => 0) (-1) 4 s = -1
    exact if_pos ⟨s0, s1⟩
