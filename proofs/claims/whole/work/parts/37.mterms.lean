/-! THE TERMS' TEXT -/
/-- how many of the first k of a row are l -/
def ct (f : Int → Int) (l : Int) : Nat → Int
  | 0 => 0
  | k + 1 => ct f l k + (if f k = l then 1 else 0)
/-- terms as they are read: P 0 lengths, P 1 meanings, P (10 + t) the letters of t; answers fault, number, P -/
def pt (g : Int → Int) (n : Int) : Nat → Int → Int → Int → Int → ol_M → Int × Int × ol_M
  | 0, _, t, _, _, P => (-1, t, P)
  | u + 1, i, t, l, e, P => if n ≤ i then (if 0 < n ∧ e = 0 then (n, 0, P) else (-1, t, P))
      else if e = 0 ∧ (97 ≤ g i ∧ g i ≤ 104) ∧ l < 6 ∧ t < 8 then pt g n u (i + 1) t (l + 1) 0 (ol_ms P (10 + t) l (g i - 97))
      else if e = 0 ∧ (48 ≤ g i ∧ g i ≤ 57) ∧ 0 < l then pt g n u (i + 1) (t + 1) 0 1 (ol_ms (ol_ms P 0 t l) 1 t (g i - 48))
      else if e = 1 ∧ g i = 59 then pt g n u (i + 1) t l 0 P
      else (i, 0, P)
def sp_pt (S : ol_M) : Int × Int × ol_M := pt (S 2) (S 0 1) 56 0 0 0 0 (fun _ _ => 0)
def sp_tf (S : ol_M) : Int := (sp_pt S).1
def sp_nT (S : ol_M) : Int := (sp_pt S).2.1
def sp_sp (S : ol_M) (t : Int) : Int → Int := (sp_pt S).2.2 (10 + t)
def sp_ln (S : ol_M) (t : Int) : Int := (sp_pt S).2.2 0 t
def sp_mn (S : ol_M) (t : Int) : Int := (sp_pt S).2.2 1 t
def sp_need (S : ol_M) (t l : Int) : Int := ct (sp_sp S t) l (sp_ln S t).toNat
theorem ct_congr {f g : Int → Int} {l : Int} : ∀ {k : Nat}, (∀ i : Nat, i < k → f i = g i) → ct f l k = ct g l k := by
  intro k
  induction k with
  | zero => intro _; rfl
  | succ k ih =>
    intro h
    unfold ct
    rw [ih (fun i hi => h i (by omega)), h k (by omega)]
theorem ct_r {f : Int → Int} {l : Int} {k : Nat} : 0 ≤ ct f l k ∧ ct f l k ≤ k := by
  induction k with
  | zero => exact ⟨Int.le_refl 0, Int.le_refl 0⟩
  | succ k ih =>
    unfold ct
    split <;> omega
theorem m_counts {n : Nat} {M : ol_M} {w : Int} (w0 : 0 ≤ w) (w1 : w < 8) (l0 : 0 ≤ M 141 w) (l1 : M 141 w ≤ 6) (hl : ∀ i, 0 ≤ i → i < M 141 w → 0 ≤ M 140 (6 * w + i) ∧ M 140 (6 * w + i) ≤ 7) : ol_R (ol_lay n) 1 q_X9_counts [.inr (.inr 132), .inl w] M none (ol_mp M 143 (ol_rg (M 143) (8 * w) (8 * w + 8) (fun j => ct (fun i => M 140 (6 * w + i)) (j - 8 * w) (M 141 w).toNat))) :=
  ol_Ri (q := q_X9_counts) (by decide +kernel) (Nat.le_of_ble_eq_true rfl) rfl fun Rt A hA hr => b_X9_counts_0 hA w M (by
    have z2 : A 28 [some (.inr (.inr 132)), some (.inl w), some (.inl 0)] [] (ol_mp M 143 (ol_rg (M 143) (8 * w) (8 * w + 8) (fun j => ct (fun i => M 140 (6 * w + i)) (j - 8 * w) (Int.toNat 0)))) := by
      refine ol_loop (P := fun k => A 28 [some (.inr (.inr 132)), some (.inl w), some (.inl k)] [] (ol_mp M 143 (ol_rg (M 143) (8 * w) (8 * w + 8) (fun j => ct (fun i => M 140 (6 * w + i)) (j - 8 * w) k.toNat)))) (a := 0) (b := M 141 w) l0 (fun k k0 k1 hk => ?_) ?_
      · have q1 := hl k k0 k1
        refine b_X9_counts_28 hA w k _ ?_
        rw [ol_mp_ne _ _ (show (141 : Int) ≠ 143 by decide), ol_mp_ne _ _ (show (140 : Int) ≠ 143 by decide), ol_mp_same]
        refine ⟨w0, w1, ⟨by omega, by omega⟩, ⟨by omega, by omega⟩, ol_if.neg (by omega) ⟨by omega, by omega, by omega, by omega, by omega, by omega, ?_⟩⟩
        rw [ol_ms_mp]
        refine Eq.mp ?_ hk
        congr 2
        funext j
        by_cases q : j = 8 * w + M 140 (6 * w + k)
        · rw [q, ol_rsA, ol_rg_in (by omega) (by omega), ol_rg_in (by omega) (by omega), show (k + 1).toNat = k.toNat + 1 by omega]
          simp only [ct]
          rw [Int.toNat_of_nonneg k0, if_pos (by omega)]
        · rw [ol_rsN _ _ q]
          by_cases q2 : 8 * w ≤ j ∧ j < 8 * w + 8
          · rw [ol_rg_in q2.1 q2.2, ol_rg_in q2.1 q2.2, show (k + 1).toNat = k.toNat + 1 by omega]
            simp only [ct]
            rw [Int.toNat_of_nonneg k0, if_neg (by omega), Int.add_zero]
          · rw [ol_rg_out q2, ol_rg_out q2]
      · refine b_X9_counts_28 hA w (M 141 w) _ ?_
        rw [ol_mp_ne _ _ (show (141 : Int) ≠ 143 by decide)]
        exact ⟨w0, w1, ⟨by omega, by omega⟩, ⟨by omega, by omega⟩, ol_if.pos (by omega) hr⟩
    have z1 : A 2 [some (.inr (.inr 132)), some (.inl w), some (.inl 0)] [] (ol_mp M 143 (ol_rg (M 143) (8 * w) (8 * w + 0) (fun _ => 0))) := by
      refine ol_loop (P := fun k => A 2 [some (.inr (.inr 132)), some (.inl w), some (.inl k)] [] (ol_mp M 143 (ol_rg (M 143) (8 * w) (8 * w + k) (fun _ => 0)))) (a := 0) (b := 8) (by decide) (fun k k0 k1 hk => ?_) ?_
      · refine b_X9_counts_2 hA w k _ ⟨⟨by omega, by omega⟩, ol_if.neg (by omega) ⟨by omega, by omega, ?_⟩⟩
        rw [ol_rg_ms M 143 _ _ (by omega) rfl, Int.add_assoc]
        exact hk
      · exact b_X9_counts_2 hA w 8 _ ⟨⟨by decide, by decide⟩, ol_if.pos (by decide) z2⟩
    rw [Int.add_zero, ol_rg_mp0] at z1
    exact z1)
section
variable {n : Nat} {Rt : Option ol_V → ol_M → Prop} {A : Nat → ol_Ls → ol_St → ol_M → Prop} {N l e i b : Int} {M : ol_M}
theorem m_rt_letter (hA : ol_C q_X9_readsTerms.1.cls q_X9_readsTerms.2.1 1 (ol_lay n) Rt A) (hN : 0 ≤ N ∧ N ≤ 55) (hi : 0 ≤ i ∧ i < N) (hl : 0 ≤ l ∧ l ≤ 6) (ht : 0 ≤ M 132 9 ∧ M 132 9 ≤ 8) (hb : M 137 (56 + i) = b) (rb : 0 ≤ b ∧ b ≤ 255) (he : e = 0) (c : (97 ≤ b ∧ b ≤ 104) ∧ l < 6 ∧ M 132 9 < 8)
    (hr : A 19 [some (.inr (.inr 132)), some (.inl N), some (.inl (l + 1)), some (.inl 0), some (.inl (i + 1)), none, none, none, none] [] (ol_ms M 140 (6 * M 132 9 + l) (b - 97))) : A 19 [some (.inr (.inr 132)), some (.inl N), some (.inl l), some (.inl e), some (.inl i), none, none, none, none] [] M := by
  subst he
  refine b_X9_readsTerms_19 hA N l 0 i M ?_
  rw [hb]
  refine ⟨⟨by omega, by omega⟩, ⟨by omega, by omega⟩, ol_if.neg (by omega) ⟨by omega, by omega, ol_if.pos rfl ⟨⟨by omega, by omega⟩, ⟨by omega, by omega⟩, ol_if.pos c.1 ⟨⟨by omega, by omega⟩, ol_if.neg (by omega) ⟨⟨by omega, by omega⟩, ol_if.neg (by omega) ?_⟩⟩⟩⟩⟩
  refine b_X9_readsTerms_76 hA N l 0 i b 1 M (ol_if.pos rfl ⟨⟨by omega, by omega⟩, ⟨by omega, by omega⟩, ol_if.neg (by omega) ?_⟩)
  refine b_X9_readsTerms_106 hA N l 0 i b 1 0 M (ol_if.pos rfl ?_)
  refine b_X9_readsTerms_124 hA N l i b 1 0 0 M (ol_if.neg (by decide) ⟨⟨by decide, by decide⟩, ol_if.neg (by decide) ⟨⟨by decide, by decide⟩, by omega, by omega, ?_⟩⟩)
  exact b_X9_readsTerms_176 hA N (l + 1) i b 0 _ (ol_if.pos rfl hr)
theorem m_rt_next (hA : ol_C q_X9_readsTerms.1.cls q_X9_readsTerms.2.1 1 (ol_lay n) Rt A) (hN : 0 ≤ N ∧ N ≤ 55) (hi : 0 ≤ i ∧ i < N) (hb : M 137 (56 + i) = b) (he : e = 1) (c : b = 59)
    (hr : A 19 [some (.inr (.inr 132)), some (.inl N), some (.inl l), some (.inl 0), some (.inl (i + 1)), none, none, none, none] [] M) : A 19 [some (.inr (.inr 132)), some (.inl N), some (.inl l), some (.inl e), some (.inl i), none, none, none, none] [] M := by
  subst he
  refine b_X9_readsTerms_19 hA N l 1 i M ?_
  rw [hb]
  refine ⟨⟨by omega, by omega⟩, ⟨by omega, by omega⟩, ol_if.neg (by omega) ⟨by omega, by omega, ol_if.neg (by decide) ⟨⟨by decide, by decide⟩, ?_⟩⟩⟩
  refine b_X9_readsTerms_76 hA N l 1 i b 0 M (ol_if.neg (by decide) ⟨⟨by decide, by decide⟩, ?_⟩)
  refine b_X9_readsTerms_106 hA N l 1 i b 0 0 M (ol_if.neg (by decide) ⟨⟨by decide, by decide⟩, ol_if.pos c ?_⟩)
  refine b_X9_readsTerms_124 hA N l i b 0 0 1 M (ol_if.pos rfl (ol_if.pos rfl (ol_if.neg (by decide) ⟨⟨by decide, by decide⟩, ol_if.pos rfl ?_⟩)))
  exact b_X9_readsTerms_176 hA N l i b 0 _ (ol_if.pos rfl hr)
theorem m_rt_figure (hA : ol_C q_X9_readsTerms.1.cls q_X9_readsTerms.2.1 1 (ol_lay n) Rt A) (hN : 0 ≤ N ∧ N ≤ 55) (hi : 0 ≤ i ∧ i < N) (hl : 0 < l ∧ l ≤ 6) (ht : 0 ≤ M 132 9 ∧ M 132 9 < 8) (hb : M 137 (56 + i) = b) (he : e = 0) (c : 48 ≤ b ∧ b ≤ 57) {M1 : ol_M} (h1 : ol_R (ol_lay n) 1 q_X9_counts [.inr (.inr 132), .inl (M 132 9)] (ol_ms (ol_ms M 141 (M 132 9) l) 142 (M 132 9) (b - 48)) none M1)
    (hr : A 19 [some (.inr (.inr 132)), some (.inl N), some (.inl 0), some (.inl 1), some (.inl (i + 1)), none, none, none, none] [] (ol_ms M1 132 9 (M1 132 9 + 1))) : A 19 [some (.inr (.inr 132)), some (.inl N), some (.inl l), some (.inl e), some (.inl i), none, none, none, none] [] M := by
  subst he
  refine b_X9_readsTerms_19 hA N l 0 i M ?_
  rw [hb]
  refine ⟨⟨by omega, by omega⟩, ⟨by omega, by omega⟩, ol_if.neg (by omega) ⟨by omega, by omega, ol_if.pos rfl ⟨⟨by omega, by omega⟩, ⟨by omega, by omega⟩, ol_if.neg (by omega) ?_⟩⟩⟩
  refine b_X9_readsTerms_76 hA N l 0 i b 0 M (ol_if.pos rfl ⟨⟨by omega, by omega⟩, ⟨by omega, by omega⟩, ol_if.pos c ⟨⟨by omega, by omega⟩, ol_if.neg (by omega) ?_⟩⟩)
  refine b_X9_readsTerms_106 hA N l 0 i b 0 1 M (ol_if.pos rfl ?_)
  refine b_X9_readsTerms_124 hA N l i b 0 1 0 M (ol_if.pos rfl (ol_if.neg (by decide) ⟨⟨by decide, by decide⟩, ol_if.pos rfl ?_⟩))
  exact b_X9_readsTerms_176 hA N l i b 1 _ (ol_if.neg (by decide) ⟨⟨by decide, by decide⟩, ht.1, ht.2, ht.1, ht.2, _, h1, hr⟩)
theorem m_rt_bad (hA : ol_C q_X9_readsTerms.1.cls q_X9_readsTerms.2.1 1 (ol_lay n) Rt A) (hN : 0 ≤ N ∧ N ≤ 55) (hi : 0 ≤ i ∧ i < N) (hl : 0 ≤ l ∧ l ≤ 6) (ht : 0 ≤ M 132 9 ∧ M 132 9 ≤ 8) (hb : M 137 (56 + i) = b) (rb : 0 ≤ b ∧ b ≤ 255) (he : e = 0 ∨ e = 1) (c1 : ¬ (e = 0 ∧ (97 ≤ b ∧ b ≤ 104) ∧ l < 6 ∧ M 132 9 < 8)) (c2 : ¬ (e = 0 ∧ (48 ≤ b ∧ b ≤ 57) ∧ 0 < l)) (c3 : ¬ (e = 1 ∧ b = 59))
    (hr : Rt (some (.inl i)) (ol_ms M 132 9 0)) : A 19 [some (.inr (.inr 132)), some (.inl N), some (.inl l), some (.inl e), some (.inl i), none, none, none, none] [] M := by
  have hx : A 124 [some (.inr (.inr 132)), some (.inl N), some (.inl l), none, some (.inl i), some (.inl b), some (.inl 0), some (.inl 0), none] [.inl 0] M := b_X9_readsTerms_124 hA N l i b 0 0 0 M (ol_if.pos rfl (ol_if.pos rfl (ol_if.pos rfl hr)))
  have r0 : ol_r b := ⟨by omega, by omega⟩
  have r1 : ol_r l := ⟨by omega, by omega⟩
  have hy : A 76 [some (.inr (.inr 132)), some (.inl N), some (.inl l), some (.inl e), some (.inl i), some (.inl b), none, none, none] [.inl 0] M := by
    rcases he with rfl | rfl
    · have hz : A 106 [some (.inr (.inr 132)), some (.inl N), some (.inl l), some (.inl 0), some (.inl i), some (.inl b), some (.inl 0), none, none] [.inl 0] M := b_X9_readsTerms_106 hA N l 0 i b 0 0 M (ol_if.pos rfl hx)
      refine b_X9_readsTerms_76 hA N l 0 i b 0 M (ol_if.pos rfl ⟨r0, ol_r_l r0, ol_if.mk (fun d => ⟨r1, ol_if.pos (by omega) hz⟩) (fun d => hz)⟩)
    · have hz : A 106 [some (.inr (.inr 132)), some (.inl N), some (.inl l), some (.inl 1), some (.inl i), some (.inl b), some (.inl 0), none, none] [.inl 0] M := b_X9_readsTerms_106 hA N l 1 i b 0 0 M (ol_if.neg (by decide) ⟨⟨by decide, by decide⟩, ol_if.neg (by omega) ⟨r0, hx⟩⟩)
      exact b_X9_readsTerms_76 hA N l 1 i b 0 M (ol_if.neg (by decide) ⟨⟨by decide, by decide⟩, hz⟩)
  refine b_X9_readsTerms_19 hA N l e i M ?_
  rw [hb]
  refine ⟨⟨by omega, by omega⟩, ⟨by omega, by omega⟩, ol_if.neg (by omega) ⟨by omega, by omega, ol_if.mk (fun d => ⟨r0, ol_r_l r0, ol_if.mk (fun d1 => ⟨r1, ol_if.mk (fun d2 => hy) (fun d2 => ⟨⟨by omega, by omega⟩, ol_if.pos (by omega) hy⟩)⟩) (fun d1 => hy)⟩) (fun d => ⟨by rcases he with rfl | rfl <;> exact ⟨by decide, by decide⟩, hy⟩)⟩⟩
end
