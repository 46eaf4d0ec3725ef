theorem ix.fo2 {S M M' : ol_M} (h : ix S M) (hs : sp_ok_t S) (f : ∀ c, ¬ (68 ≤ c ∧ c ≤ 84) → ¬ (120 ≤ c ∧ c ≤ 131) → M' c = M c) (o : ix_o M') : ix S M' := by
  obtain ⟨N, hN⟩ : ∃ y : ol_M, y = fun c => if 120 ≤ c ∧ c ≤ 131 then M c else M' c := ⟨_, rfl⟩
  have e1 : ∀ c, ¬ (120 ≤ c ∧ c ≤ 131) → M' c = N c := fun c q => by rw [hN]; exact (if_neg q).symm
  have iN : ix S N := h.fo hs (fun c _ b _ => by
    by_cases q : 120 ≤ c ∧ c ≤ 131
    · rw [hN]; exact if_pos q
    · rw [← e1 c q]; exact f c b q)
  obtain ⟨⟨h1, h2, h3, h4, h5, h6, h7, h8, h9⟩, hA, hB⟩ := iN
  refine ⟨⟨h1.keep (fun _ _ _ => rfl) rfl rfl (e1 _ (by decide)) (e1 _ (by decide)) (e1 _ (by decide)) (e1 _ (by decide)), h2.keep rfl rfl rfl rfl (e1 _ (by decide)) (e1 _ (by decide)) (e1 _ (by decide)), h3.keep rfl (e1 _ (by decide)) (fun c a b => e1 c (by omega)), h4.keep rfl (e1 _ (by decide)), h5.keep rfl rfl rfl rfl (by rw [e1 _ (by decide)]) (e1 _ (by decide)) (e1 _ (by decide)) (e1 _ (by decide)), h6.keep rfl rfl rfl rfl rfl (by rw [e1 _ (by decide)]) (e1 _ (by decide)) (e1 _ (by decide)) (e1 _ (by decide)) (e1 _ (by decide)), h7.keep rfl rfl rfl rfl rfl (by rw [e1 _ (by decide)]) (e1 _ (by decide)) (e1 _ (by decide)) (e1 _ (by decide)) (e1 _ (by decide)), ⟨by rw [e1 0 (by decide)]; exact h8.1, o⟩, h9.keep (fun _ _ => rfl) (fun c a b => e1 c (by omega))⟩, hA.keep ws.rf (by rw [e1 0 (by decide)]) (fun c a b => e1 c (by omega)), hB.keep hs ws.rf (by rw [e1 0 (by decide)]) (e1 _ (by decide)) (fun c a b => e1 c (by omega))⟩
def ad (f g : Int → Int) (w : Int) : Nat → Int
  | 0 => 0
  | k + 1 => ad f g w k + (if f k ≠ 0 ∧ g k = g w then 1 else 0)
theorem ad_r {f g : Int → Int} {w : Int} : ∀ k : Nat, 0 ≤ ad f g w k ∧ ad f g w k ≤ k := by
  intro k
  induction k with
  | zero => exact ⟨Int.le_refl _, Int.le_refl _⟩
  | succ k ih => unfold ad; split <;> omega
theorem ad_ac {f g c : Int → Int} {w : Int} (hw : f w ≠ 0) (ew : g w = c w) : ∀ k : Nat, (∀ j : Int, 0 ≤ j → j < k → f j ≠ 0 → g j = c j) → ad f g w k = ac f c w k := by
  intro k
  induction k with
  | zero => intro _; rfl
  | succ k ih =>
    intro h
    unfold ad ac
    rw [ih (fun j a b => h j a (by omega))]
    by_cases d : f k = 0
    · rw [if_neg (fun q => q.1 d), if_neg (fun q => q.2.1 d)]
    · have e := h k (by omega) (by omega) d
      by_cases d2 : c w = c k
      · rw [if_pos ⟨d, by rw [e, ew, d2]⟩, if_pos ⟨hw, d, d2⟩]
      · rw [if_neg (fun q => d2 (by rw [← e, ← ew, q.2])), if_neg (fun q => d2 q.2.2)]
theorem ac_0 {f c : Int → Int} {w : Int} (hw : f w = 0) : ∀ k : Nat, ac f c w k = 0 := by
  intro k
  induction k with
  | zero => rfl
  | succ k ih => unfold ac; rw [ih, if_neg (fun q => q.1 hw)]; rfl
theorem x_mostAlike {n : Nat} {M : ol_M} {f c : Int → Int} {N l : Int} (e37 : M 37 4 = N) (n0 : 0 ≤ N) (n1 : N ≤ 12) (l0 : 0 ≤ l) (l1 : l < 8) (ho : ix_o M) (hc : ∀ a, 0 ≤ a → a < N → f a ≠ 0 → M (120 + a) l = c a) : ol_R (ol_lay n) 2 q_X8_mostAlike [.inr (.inr 0), .inl (bs f N.toNat), .inl l] M (some (.inl (ma f c N.toNat N.toNat))) M := by
  have br := @bs_r f N.toNat
  have pw := @pw_le N.toNat 12 (by omega)
  have rb : ol_r (bs f N.toNat) := ⟨by omega, by omega⟩
  obtain ⟨g, hg⟩ : ∃ y : Int → Int, y = fun v => M (120 + v) l := ⟨_, rfl⟩
  refine ol_Ri (q := q_X8_mostAlike) (by decide +kernel) (Nat.le_of_ble_eq_true rfl) (Or.inl rfl) (fun Rt Aq hA hr => b_X8_mostAlike_0 hA _ l M ?_)
  show Aq 5 [some (.inr (.inr 0)), some (.inl (bs f N.toNat)), some (.inl l), some (.inl (ma f c N.toNat (Int.toNat 0))), some (.inl 0), none, none] [] M
  refine ol_loop (P := fun a => Aq 5 [some (.inr (.inr 0)), some (.inl (bs f N.toNat)), some (.inl l), some (.inl (ma f c N.toNat a.toNat)), some (.inl a), none, none] [] M) (a := 0) (b := N) n0 (fun a a0 a1 ha => ?_) ?_
  · rw [show (a + 1).toNat = a.toNat + 1 by omega] at ha
    simp only [ma] at ha
    rw [Int.toNat_of_nonneg a0] at ha
    have mr := @ma_r f c N.toNat a.toNat
    have ba := @bs_bit f N.toNat a.toNat (by omega)
    rw [Int.toNat_of_nonneg a0] at ba
    refine b_X8_mostAlike_5 hA _ l _ a M ?_
    rw [e37]
    refine ⟨⟨by omega, by omega⟩, ⟨by omega, by omega⟩, ol_if.neg (by omega) ?_⟩
    show Aq 23 [some (.inr (.inr 0)), some (.inl (bs f N.toNat)), some (.inl l), some (.inl (ma f c N.toNat a.toNat)), some (.inl a), some (.inl (ad f g a (Int.toNat 0))), some (.inl 0)] [] M
    refine ol_loop (P := fun b => Aq 23 [some (.inr (.inr 0)), some (.inl (bs f N.toNat)), some (.inl l), some (.inl (ma f c N.toNat a.toNat)), some (.inl a), some (.inl (ad f g a b.toNat)), some (.inl b)] [] M) (a := 0) (b := N) n0 (fun b b0 b1 hb => ?_) ?_
    · rw [show (b + 1).toNat = b.toNat + 1 by omega] at hb
      simp only [ad] at hb
      rw [Int.toNat_of_nonneg b0] at hb
      have bb := @bs_bit f N.toNat b.toNat (by omega)
      rw [Int.toNat_of_nonneg b0] at bb
      have eg : ∀ v, g v = M (120 + v) l := fun v => by rw [hg]
      rw [eg b, eg a] at hb
      refine b_X8_mostAlike_23 hA _ l _ a _ b M ?_
      rw [e37, ol_and1, ol_and1]
      refine ⟨⟨by omega, by omega⟩, ⟨by omega, by omega⟩, ol_if.neg (by omega) ⟨rb, b0, by omega, ol_if.mk (fun d => ?_) (fun d => ⟨⟨by omega, by omega⟩, b0, by omega, l0, l1, a0, by omega, l0, l1, ol_if.mk (fun d2 => ?_) (fun d2 => ⟨ho b b0 (by omega) l l0 l1, ho a a0 (by omega) l l0 l1, ?_⟩)⟩)⟩⟩
      · rw [if_neg (fun q => q.1 (Classical.byContradiction (fun z => by have := bb.mpr z; omega))), Int.add_zero] at hb
        exact hb
      · rw [if_pos ⟨bb.mp (by omega), d2⟩] at hb
        exact hb
      · rw [if_neg (fun q => d2 q.2), Int.add_zero] at hb
        exact hb
    · have ar := @ad_r f g a N.toNat
      refine b_X8_mostAlike_23 hA _ l _ a _ N M ?_
      rw [e37, ol_and1, ol_and1]
      refine ⟨⟨by omega, by omega⟩, ⟨by omega, by omega⟩, ol_if.pos (by omega) ⟨rb, a0, by omega, ol_if.mk (fun d => ?_) (fun d => ⟨⟨by omega, by omega⟩, ⟨by omega, by omega⟩, ⟨by omega, by omega⟩, ?_⟩)⟩⟩
      · have fa : f a = 0 := Classical.byContradiction (fun z => by have := ba.mpr z; omega)
        rw [ac_0 fa, if_neg (by omega)] at ha
        exact ha
      · have fa : f a ≠ 0 := ba.mp (by omega)
        rw [← @ad_ac f g c a fa (by rw [hg]; exact hc a a0 a1 fa) N.toNat (fun j j0 j1 fj => by rw [hg]; exact hc j j0 (by omega) fj)] at ha
        unfold ol_max
        exact ha
  · refine b_X8_mostAlike_5 hA _ l _ N M ?_
    rw [e37]
    exact ⟨⟨by omega, by omega⟩, ⟨by omega, by omega⟩, ol_if.pos (by omega) hr⟩
theorem x_ask {n : Nat} {S M : ol_M} (i : ix S M) (hs : sp_ok S) {m h : Int} (r1 : ol_r m) (r2 : ol_r h) : x_ok n 6 q_X8_ask [.inl m, .inl h] S M (sp_ask S m h) := by
  have nw := hs.w.1
  have nh := sp_nH_r hs.1
  unfold sp_ask
  apply x_ok.of
  by_cases c : (0 ≤ m ∧ m ≤ 11) ∧ (0 ≤ h ∧ h < sp_nH S)
  · rw [if_pos c]
    obtain ⟨M0, q0, f0⟩ := @x_neverNow n S M i hs
    obtain ⟨B, hB⟩ : ∃ y, y = bs (sp_su S) (S 0 2).toNat := ⟨_, rfl⟩
    have br := @bs_r (sp_su S) (S 0 2).toNat
    have pw := @pw_le (S 0 2).toNat 12 (by omega)
    rw [← hB] at q0 br
    have rb : ol_r B := ⟨by omega, by omega⟩
    have key : ∀ N, (∀ c, ¬ (68 ≤ c ∧ c ≤ 84) → ¬ (120 ≤ c ∧ c ≤ 131) → N c = M c) → ix_o N → (∀ a, 0 ≤ a → a < 0 → sp_su S a ≠ 0 → ∀ l, 0 ≤ l → l < 8 → N (120 + a) l = sp_ct S m h l a) → ∃ M', ol_T n q_X8_ask 5 34 [some (.inr (.inr 0)), some (.inl m), some (.inl h), some (.inl B), some (.inl 0), none, none, none] [] N (some (.inl (am (sp_al S m h) 7))) M' ∧ (∀ c, ¬ (68 ≤ c ∧ c ≤ 84) → ¬ (120 ≤ c ∧ c ≤ 131) → M' c = M c) ∧ ix_o M' := by
      refine ol_loop (P := fun k => ∀ N, (∀ c, ¬ (68 ≤ c ∧ c ≤ 84) → ¬ (120 ≤ c ∧ c ≤ 131) → N c = M c) → ix_o N → (∀ a, 0 ≤ a → a < k → sp_su S a ≠ 0 → ∀ l, 0 ≤ l → l < 8 → N (120 + a) l = sp_ct S m h l a) → ∃ M', ol_T n q_X8_ask 5 34 [some (.inr (.inr 0)), some (.inl m), some (.inl h), some (.inl B), some (.inl k), none, none, none] [] N (some (.inl (am (sp_al S m h) 7))) M' ∧ (∀ c, ¬ (68 ≤ c ∧ c ≤ 84) → ¬ (120 ≤ c ∧ c ≤ 131) → M' c = M c) ∧ ix_o M') (a := 0) (b := S 0 2) nw.1 (fun k k0 k1 hk N f o hN => ?_) (fun N f o hN => ?_)
      · have iN := i.fo2 hs.1 f o
        have bk := @bs_bit (sp_su S) (S 0 2).toNat k.toNat (by omega)
        rw [Int.toNat_of_nonneg k0, ← hB] at bk
        by_cases d : sp_su S k = 0
        · obtain ⟨M', t, ee⟩ := hk N f o (fun a a0 a1 fa => by
            by_cases p : a = k
            · rw [p] at fa; exact absurd d fa
            · exact hN a a0 (by omega) fa)
          refine ⟨M', fun Rt Aq hA hr => b_X8_ask_34 hA m h B k N ?_, ee⟩
          rw [iN.nW, ol_and1]
          have z : ¬ B / 2 ^ k.toNat % 2 = 1 := fun q => bk.mp q d
          exact ⟨⟨by omega, by omega⟩, ⟨by omega, by omega⟩, ol_if.neg (by omega) ⟨rb, k0, by omega, ol_if.pos (by omega) (t Rt Aq hA hr)⟩⟩
        · obtain ⟨M4, r4, x4, b4, f4⟩ := @x_without n S N iN hs k m k0 k1 (by omega) (by omega)
          have w := (sp_W_k hs).gone (fun j => if j = k then 1 else 0)
          have row : ∀ l, 0 ≤ l → l < 8 → ol_cp (M4 70) (M4 (120 + k)) (h * 8) 0 8 l = sp_ct S m h l k := fun l l0 l1 => by
            unfold ol_cp
            rw [if_pos ⟨by omega, by omega⟩, show h * 8 + (l - 0) = 8 * h + l by omega]
            exact x4 (8 * h + l) (by omega) (by omega)
          have rr : ∀ l, 0 ≤ l → l < 8 → ol_r (sp_ct S m h l k) := fun l l0 l1 => by
            have := (rn_lv_b w (m + 1).toNat).1 (8 * h + l) (by omega) (by omega)
            unfold sp_ct wo
            exact ⟨by omega, by omega⟩
          obtain ⟨M', t, ee⟩ := hk (ol_mp M4 (120 + k) (ol_cp (M4 70) (M4 (120 + k)) (h * 8) 0 8)) (fun c a b => by rw [ol_mp_ne _ _ (by omega), f4 c a]; exact f c a b) (fun a a0 a1 l l0 l1 => by
            by_cases p : a = k
            · rw [p, ol_mp_same, row l l0 l1]; exact rr l l0 l1
            · rw [ol_mp_ne _ _ (by omega), f4 _ (by omega)]; exact o a a0 a1 l l0 l1) (fun a a0 a1 fa l l0 l1 => by
            by_cases p : a = k
            · rw [p, ol_mp_same]; exact row l l0 l1
            · rw [ol_mp_ne _ _ (by omega), f4 _ (by omega)]; exact hN a a0 (by omega) fa l l0 l1)
          refine ⟨M', fun Rt Aq hA hr => b_X8_ask_34 hA m h B k N ?_, ee⟩
          rw [iN.nW, ol_and1]
          have z : B / 2 ^ k.toNat % 2 = 1 := bk.mpr d
          exact ⟨⟨by omega, by omega⟩, ⟨by omega, by omega⟩, ol_if.neg (by omega) ⟨rb, k0, by omega, ol_if.neg (by omega) ⟨⟨by omega, by omega⟩, _, x_clear_68, M4, r4, k0, by omega, by omega, by omega, t Rt Aq hA hr⟩⟩⟩
      · have iN := i.fo2 hs.1 f o
        have al : ∀ l, 0 ≤ l → l < 8 → ol_R (ol_lay n) 2 q_X8_mostAlike [.inr (.inr 0), .inl B, .inl l] N (some (.inl (sp_al S m h l))) N := fun l l0 l1 => by
          rw [hB]
          exact x_mostAlike iN.nW nw.1 nw.2 l0 l1 o (fun a a0 a1 fa => hN a a0 a1 fa l l0 l1)
        have ar : ∀ l, 0 ≤ sp_al S m h l ∧ sp_al S m h l ≤ 12 := fun l => by
          have := @ma_r (sp_su S) (sp_ct S m h l) (S 0 2).toNat (S 0 2).toNat
          unfold sp_al
          omega
        refine ⟨N, fun Rt Aq hA hr => b_X8_ask_34 hA m h B _ N ?_, f, o⟩
        rw [iN.nW]
        refine ⟨⟨by omega, by omega⟩, ⟨by omega, by omega⟩, ol_if.pos (by omega) ?_⟩
        have a0 := ar 0
        refine b_X8_ask_120 hA B 0 13 0 N ⟨⟨by decide, by decide⟩, ol_if.neg (by decide) ⟨_, N, al 0 (by decide) (by decide), ⟨by omega, by omega⟩, ⟨by decide, by decide⟩, ol_if.neg (by omega) ?_⟩⟩
        show Aq 120 [some (.inr (.inr 0)), none, none, some (.inl B), some (.inl (am (sp_al S m h) (Int.toNat (1 - 1)))), some (.inl (sp_al S m h (am (sp_al S m h) (Int.toNat (1 - 1))))), some (.inl 1), none] [] N
        refine ol_loop (P := fun l => Aq 120 [some (.inr (.inr 0)), none, none, some (.inl B), some (.inl (am (sp_al S m h) (Int.toNat (l - 1)))), some (.inl (sp_al S m h (am (sp_al S m h) (Int.toNat (l - 1))))), some (.inl l), none] [] N) (a := 1) (b := 8) (by decide) (fun l l0 l1 hl => ?_) ?_
        · rw [show (l + 1 - 1).toNat = (l - 1).toNat + 1 by omega] at hl
          simp only [am] at hl
          rw [show (((l - 1).toNat + 1 : Nat) : Int) = l by omega] at hl
          have b1 := ar l
          have b2 := ar (am (sp_al S m h) (l - 1).toNat)
          refine b_X8_ask_120 hA B _ _ l N ⟨⟨by omega, by omega⟩, ol_if.neg (by omega) ⟨_, N, al l (by omega) l1, ⟨by omega, by omega⟩, ⟨by omega, by omega⟩, ol_if.mk (fun d => ?_) (fun d => ?_)⟩⟩
          · rw [if_neg (by omega)] at hl; exact hl
          · rw [if_pos (by omega)] at hl; exact hl
        · exact b_X8_ask_120 hA B _ _ 8 N ⟨⟨by decide, by decide⟩, ol_if.pos (by decide) hr⟩
    obtain ⟨M', t, f, o⟩ := key M0 (fun c a _ => f0 c a) (fun w w0 w1 l l0 l1 => by rw [f0 _ (by omega)]; exact i.f.2 w w0 w1 l l0 l1) (fun a a0 a1 => by omega)
    refine ⟨M', ol_Ri (q := q_X8_ask) (by decide +kernel) (Nat.le_of_ble_eq_true rfl) (Or.inl rfl) (fun Rt Aq hA hr => b_X8_ask_0 hA m h M ?_), i.fo2 hs.1 f o, fun k q => f k (by omega) (by omega)⟩
    rw [i.nH]
    exact ⟨r1, ol_if.pos (by omega) ⟨r2, ⟨by omega, by omega⟩, ol_if.pos c.2 ⟨_, M0, q0, t Rt Aq hA hr⟩⟩⟩
  · rw [if_neg c]
    refine ⟨M, ol_Ri (q := q_X8_ask) (by decide +kernel) (Nat.le_of_ble_eq_true rfl) (Or.inl rfl) (fun Rt Aq hA hr => b_X8_ask_0 hA m h M ?_), i, fx.rf⟩
    rw [i.nH]
    exact ⟨r1, ol_if.mk (fun d => ⟨r2, ⟨by omega, by omega⟩, ol_if.neg (fun q => c ⟨⟨d.1, by omega⟩, q⟩) hr⟩) (fun _ => hr)⟩
