/-! THE STATE THAT THE DOCUMENT SPEAKS OF, as rows of numbers: S 0: lengths of the texts, numbers of writings, lendings, sights, the latest finding; S 1, S 2 the texts' bytes; S 3 rations; S 4.. 6 writings; S 7 .. 10 lendings; S 11 .. 14 sights; S 15 forms (-1 lost), S 16 sizes, S 20 .. 23 items of sheets -/
theorem ol_if.mk {c T F : Prop} (t : c → T) (f : ¬ c → F) : ol_if c T F := ⟨t, f⟩
def sp_ok_t (S : ol_M) : Prop := (0 ≤ S 0 0 ∧ S 0 0 ≤ 23) ∧ (0 ≤ S 0 1 ∧ S 0 1 ≤ 55) ∧ (∀ j, 0 ≤ j → j < S 0 0 → 0 ≤ S 1 j ∧ S 1 j ≤ 255) ∧ (∀ j, 0 ≤ j → j < S 0 1 → 0 ≤ S 2 j ∧ S 2 j ≤ 255)
def sp_ok_r (S : ol_M) : Prop := ∀ l, 0 ≤ l → l < 8 → 0 ≤ S 3 l ∧ S 3 l ≤ 9
def sp_ok_w (S : ol_M) : Prop := (0 ≤ S 0 2 ∧ S 0 2 ≤ 12) ∧ ∀ k, 0 ≤ k → k < S 0 2 → (0 ≤ S 4 k ∧ S 4 k ≤ 11) ∧ (0 ≤ S 5 k ∧ S 5 k ≤ 7) ∧ (0 ≤ S 6 k ∧ S 6 k ≤ 7)
def sp_ok_l (S : ol_M) : Prop := (0 ≤ S 0 3 ∧ S 0 3 ≤ 8) ∧ ∀ k, 0 ≤ k → k < S 0 3 → (0 ≤ S 7 k ∧ S 7 k ≤ 11) ∧ (0 ≤ S 8 k ∧ S 8 k ≤ 7) ∧ (0 ≤ S 9 k ∧ S 9 k ≤ 7) ∧ (0 ≤ S 10 k ∧ S 10 k ≤ 7) ∧ S 8 k ≠ S 9 k
def sp_ok_s (S : ol_M) : Prop := (0 ≤ S 0 4 ∧ S 0 4 ≤ 8) ∧ ∀ k, 0 ≤ k → k < S 0 4 → (0 ≤ S 11 k ∧ S 11 k ≤ 11) ∧ (0 ≤ S 12 k ∧ S 12 k ≤ 7) ∧ (0 ≤ S 13 k ∧ S 13 k ≤ 7) ∧ (0 ≤ S 14 k ∧ S 14 k ≤ 99)
def sp_ok_f (S : ol_M) : Prop := 0 ≤ S 0 5 ∧ S 0 5 ≤ 5
def sp_ok_h (S : ol_M) : Prop := ∀ s, 0 ≤ s → s < 4 → (-1 ≤ S 15 s ∧ S 15 s ≤ 2) ∧ (0 ≤ S 15 s → (0 ≤ S 16 s ∧ S 16 s ≤ 60) ∧ ∀ i, 0 ≤ i → i < S 16 s → ol_r (S (20 + s) i))
def sp_ok (S : ol_M) : Prop := sp_ok_t S ∧ sp_ok_r S ∧ sp_ok_w S ∧ sp_ok_l S ∧ sp_ok_s S ∧ sp_ok_f S ∧ sp_ok_h S
/-! the reference's cells hold it -/
def im_t (S M : ol_M) : Prop := M 138 0 = S 0 0 ∧ M 138 1 = S 0 1 ∧ (∀ j, 0 ≤ j → j < S 0 0 → M 137 j = S 1 j) ∧ (∀ j, 0 ≤ j → j < S 0 1 → M 137 (56 + j) = S 2 j)
def im_r (S M : ol_M) : Prop := ∀ l, 0 ≤ l → l < 8 → M 144 l = S 3 l
def im_w (S M : ol_M) : Prop := M 132 15 = S 0 2 ∧ ∀ k, 0 ≤ k → k < S 0 2 → M 145 (3 * k) = S 4 k ∧ M 145 (3 * k + 1) = S 5 k ∧ M 145 (3 * k + 2) = S 6 k
def im_l (S M : ol_M) : Prop := M 132 17 = S 0 3 ∧ ∀ k, 0 ≤ k → k < S 0 3 → M 146 (4 * k) = S 7 k ∧ M 146 (4 * k + 1) = S 8 k ∧ M 146 (4 * k + 2) = S 9 k ∧ M 146 (4 * k + 3) = S 10 k
def im_s (S M : ol_M) : Prop := M 132 26 = S 0 4 ∧ ∀ k, 0 ≤ k → k < S 0 4 → M 152 (4 * k) = S 11 k ∧ M 152 (4 * k + 1) = S 12 k ∧ M 152 (4 * k + 2) = S 13 k ∧ M 152 (4 * k + 3) = S 14 k
def im_f (S M : ol_M) : Prop := M 132 4 = S 0 5
def im_g (M : ol_M) : Prop := M 132 24 = 0
def im_h (S M : ol_M) : Prop := ∀ s, 0 ≤ s → s < 4 → M 133 s = S 15 s ∧ (0 ≤ S 15 s → M 134 s = S 16 s ∧ ∀ i, 0 ≤ i → i < S 16 s → M 135 (60 * s + i) = S (20 + s) i)
def im (S M : ol_M) : Prop := im_t S M ∧ im_r S M ∧ im_w S M ∧ im_l S M ∧ im_s S M ∧ im_f S M ∧ im_g M ∧ im_h S M
/-- the cells of x, and the script, stay -/
def fm (M M' : ol_M) : Prop := ∀ k, k < 132 → M' k = M k
/-- the reference's cells, and the script, stay -/
def fx (M M' : ol_M) : Prop := ∀ k, (132 ≤ k ∨ k < 0) → M' k = M k
theorem fm.rf {M : ol_M} : fm M M := fun _ _ => rfl
theorem fx.rf {M : ol_M} : fx M M := fun _ _ => rfl
theorem fm.tr {M M' M'' : ol_M} (h : fm M M') (h' : fm M' M'') : fm M M'' := fun k q => (h' k q).trans (h k q)
theorem fx.tr {M M' M'' : ol_M} (h : fx M M') (h' : fx M' M'') : fx M M'' := fun k q => (h' k q).trans (h k q)
theorem fm.ms {M M' : ol_M} (h : fm M M') {k i v : Int} (hk : 132 ≤ k := by decide) : fm M (ol_ms M' k i v) := fun j q => (ol_mp_ne M' _ (by omega)).trans (h j q)
theorem fm.mp {M M' : ol_M} (h : fm M M') {k : Int} {f : Int → Int} (hk : 132 ≤ k := by decide) : fm M (ol_mp M' k f) := fun j q => (ol_mp_ne M' _ (by omega)).trans (h j q)
theorem fx.ms {M M' : ol_M} (h : fx M M') {k i v : Int} (hk : 0 ≤ k ∧ k < 132 := by decide) : fx M (ol_ms M' k i v) := fun j q => (ol_mp_ne M' _ (by omega)).trans (h j q)
theorem fx.mp {M M' : ol_M} (h : fx M M') {k : Int} {f : Int → Int} (hk : 0 ≤ k ∧ k < 132 := by decide) : fx M (ol_mp M' k f) := fun j q => (ol_mp_ne M' _ (by omega)).trans (h j q)
theorem ol_msA (M : ol_M) (k i v : Int) : ol_ms M k i v k i = v := by simp [ol_ms, ol_mp, ol_rs]
theorem ol_ms_ne (M : ol_M) {k j : Int} (i v : Int) (h : j ≠ k) : ol_ms M k i v j = M j := ol_mp_ne M _ h
theorem ol_ms_i (M : ol_M) (k : Int) {i j : Int} (v : Int) (h : j ≠ i) : ol_ms M k i v k j = M k j := by simp [ol_ms, ol_mp, ol_rs, h]
/-! what each call answers and leaves -/
def sp_find (S : ol_M) (f : Int) : Int × ol_M := (-10 - f, ol_ms S 0 5 f)
def sp_sheet (S : ol_M) (s f n : Int) : Int × ol_M := if ¬ (0 ≤ s ∧ s ≤ 3) ∨ ¬ (0 ≤ f ∧ f ≤ 2) ∨ 60 < n then (-2, S) else if n < 0 then sp_find S 5 else (n, ol_mp (ol_ms (ol_ms S 15 s f) 16 s n) (20 + s) (fun _ => 0))
def sp_lose (S : ol_M) (s : Int) : Int × ol_M := if ¬ (0 ≤ s ∧ s ≤ 3) then (-2, S) else if S 15 s < 0 then sp_find S 1 else (S 16 s, ol_ms S 15 s (-1))
/-- what hinders a look at an item; 0: nothing -/
def sp_lacks (S : ol_M) (s f i : Int) : Int := if S 15 s < 0 then 1 else if S 15 s ≠ f then 3 else if 0 ≤ i ∧ i < S 16 s then 0 else 2
def sp_lay (S : ol_M) (s f i v : Int) : Int × ol_M := if ¬ (0 ≤ s ∧ s ≤ 3) ∨ ¬ (0 ≤ f ∧ f ≤ 2) then (-2, S) else if sp_lacks S s f i ≠ 0 then sp_find S (sp_lacks S s f i) else (1, ol_ms S (20 + s) i (ol_cut f v))
def sp_get (S : ol_M) (s f i : Int) : Int × ol_M := if ¬ (0 ≤ s ∧ s ≤ 3) ∨ ¬ (0 ≤ f ∧ f ≤ 2) then (-2147483648, S) else if sp_lacks S s f i ≠ 0 then (-2147483648, (sp_find S (sp_lacks S s f i)).2) else (S (20 + s) i, S)
def sp_copy (S : ol_M) (s i t j n : Int) : Int × ol_M := if ¬ (0 ≤ s ∧ s ≤ 3) ∨ ¬ (0 ≤ t ∧ t ≤ 3) then (-2, S) else if S 15 s < 0 ∨ S 15 t < 0 then sp_find S 1 else if S 15 s ≠ S 15 t then sp_find S 4 else if i < 0 ∨ j < 0 ∨ n < 0 ∨ S 16 s < i + n ∨ S 16 t < j + n then sp_find S 2 else (1, ol_mp S (20 + t) (ol_cp (S (20 + s)) (S (20 + t)) i j n))
/-- a call of the reference with this answer -/
def m_ok (n d : Nat) (q : ol_MD) (as : List ol_V) (S M : ol_M) (r : Int × ol_M) : Prop := ∃ M', ol_R (ol_lay n) d q (.inr (.inr 132) :: as) M (some (.inl r.1)) M' ∧ im r.2 M' ∧ fm M M'
theorem m_ok.of {n d : Nat} {q : ol_MD} {as : List ol_V} {S M S' : ol_M} {v : Int} (h : ∃ M', ol_R (ol_lay n) d q (.inr (.inr 132) :: as) M (some (.inl v)) M' ∧ im S' M' ∧ fm M M') : m_ok n d q as S M (v, S') := h
theorem im.find {S M : ol_M} (h : im S M) (f : Int) : im (sp_find S f).2 (ol_ms M 132 4 f) := by
  obtain ⟨h1, h2, h3, h4, h5, h6, h7, h8⟩ := h
  refine ⟨?_, ?_, ?_, ?_, ?_, ?_, ?_, ?_⟩
  · simpa [im_t, sp_find, ol_ms, ol_mp, ol_rs] using h1
  · simpa [im_r, sp_find, ol_ms, ol_mp, ol_rs] using h2
  · simpa [im_w, sp_find, ol_ms, ol_mp, ol_rs] using h3
  · simpa [im_l, sp_find, ol_ms, ol_mp, ol_rs] using h4
  · simpa [im_s, sp_find, ol_ms, ol_mp, ol_rs] using h5
  · simp [im_f, sp_find, ol_ms, ol_mp, ol_rs]
  · simpa [im_g, ol_ms, ol_mp, ol_rs] using h7
  · intro s h0 h9
    have e : ∀ k : Int, 0 < k → (sp_find S f).2 k = S k := fun k q => ol_ms_ne S _ _ (by omega)
    have z := h8 s h0 h9
    rw [e 15 (by omega), e 16 (by omega), e (20 + s) (by omega)]
    simpa [ol_ms, ol_mp, ol_rs] using z
