/-! THE LAW'S LOOP -/
theorem law_pair {n dx dm : Nat} {qx qm : ol_MD} {as : List ol_V} {S M : ol_M} {r : Int × ol_M} (hs' : sp_ok r.2) (him : im S M) (x : x_ok n dx qx as S M r) (m : ∀ M1, im S M1 → m_ok n dm qm as S M1 r) : ∃ M1 M2, ol_R (ol_lay n) dx qx (.inr (.inr 0) :: as) M (some (.inl r.1)) M1 ∧ ol_R (ol_lay n) dm qm (.inr (.inr 132) :: as) M1 (some (.inl r.1)) M2 ∧ sp_ok r.2 ∧ im r.2 M2 ∧ ix r.2 M2 := by
  obtain ⟨M1, a, b, c⟩ := x
  obtain ⟨M2, a', b', c'⟩ := m M1 (him.fx c)
  exact ⟨M1, M2, a, a', hs', b', ix.fm hs'.1 b c'⟩
theorem law_pairl {n dx dm : Nat} {qx qm : ol_MD} {as : List ol_V} {S M : ol_M} {r : Int × ol_M} (hs' : sp_ok r.2) (him : im S M) (x : x_okl n dx qx as S M r) (m : ∀ M1, im S M1 → m_okl n dm qm as S M1 r) : ∃ M1 M2, ol_R (ol_lay n) dx qx (.inr (.inr 0) :: as) M (some (.inr (.inl r.1))) M1 ∧ ol_R (ol_lay n) dm qm (.inr (.inr 132) :: as) M1 (some (.inr (.inl r.1))) M2 ∧ sp_ok r.2 ∧ im r.2 M2 ∧ ix r.2 M2 := by
  obtain ⟨M1, a, b, c⟩ := x
  obtain ⟨M2, a', b', c'⟩ := m M1 (him.fx c)
  exact ⟨M1, M2, a, a', hs', b', ix.fm hs'.1 b c'⟩
theorem ol_and_r (a b : Int) : ol_r (ol_and a b) := by
  unfold ol_and ol_r
  exact ⟨Int32.le_toInt _, Int.le_of_lt_add_one (Int32.toInt_lt _)⟩
theorem law_case {n : Nat} {Rt : Option ol_V → ol_M → Prop} {A : Nat → ol_Ls → ol_St → ol_M → Prop} {X : Int → Int} (hA : ol_CL n X Rt A) (hn : n ≤ 384) {i : Int} {S M : ol_M} (h0 : 0 ≤ i) (h1 : i + 6 ≤ n) (hs : sp_ok S) (him : im S M) (hix : ix S M) (r : ∀ k : Int, 1 ≤ k → k ≤ 5 → ol_r (X (i + k))) (nx : ∀ S' M', sp_ok S' → im S' M' → ix S' M' → A 1372 [some (.inr (.inr (-1))), some (.inr (.inr 0)), some (.inr (.inr 132)), some (.inl i)] [] M') {a : Int} (a0 : 0 ≤ a) (a1 : a ≤ 35) : ∃ off : Int, [(159 : Int), (192 : Int), (215 : Int), (238 : Int), (261 : Int), (294 : Int), (327 : Int), (360 : Int), (403 : Int), (456 : Int), (479 : Int), (502 : Int), (545 : Int), (568 : Int), (591 : Int), (614 : Int), (637 : Int), (680 : Int), (723 : Int), (756 : Int), (779 : Int), (802 : Int), (855 : Int), (868 : Int), (881 : Int), (904 : Int), (937 : Int), (991 : Int), (1034 : Int), (1077 : Int), (1100 : Int), (1153 : Int), (1196 : Int), (1259 : Int), (1302 : Int), (1325 : Int)][a.toNat]? = some off ∧ ((ol_tg 33 off : Nat) : Int) = (33 : Nat) + off ∧ A (ol_tg 33 off) [some (.inr (.inr (-1))), some (.inr (.inr 0)), some (.inr (.inr 132)), some (.inl i)] [] M := by
  rcases (show a = 0 ∨ a = 1 ∨ a = 2 ∨ a = 3 ∨ a = 4 ∨ a = 5 ∨ a = 6 ∨ a = 7 ∨ a = 8 ∨ a = 9 ∨ a = 10 ∨ a = 11 ∨ a = 12 ∨ a = 13 ∨ a = 14 ∨ a = 15 ∨ a = 16 ∨ a = 17 ∨ a = 18 ∨ a = 19 ∨ a = 20 ∨ a = 21 ∨ a = 22 ∨ a = 23 ∨ a = 24 ∨ a = 25 ∨ a = 26 ∨ a = 27 ∨ a = 28 ∨ a = 29 ∨ a = 30 ∨ a = 31 ∨ a = 32 ∨ a = 33 ∨ a = 34 ∨ a = 35 by omega) with rfl | rfl | rfl | rfl | rfl | rfl | rfl | rfl | rfl | rfl | rfl | rfl | rfl | rfl | rfl | rfl | rfl | rfl | rfl | rfl | rfl | rfl | rfl | rfl | rfl | rfl | rfl | rfl | rfl | rfl | rfl | rfl | rfl | rfl | rfl | rfl
  · obtain ⟨M1, M2, c1, c3, c4, c5, c6⟩ := law_pair (r := sp_type S (X (i + 1)) (X (i + 2))) (sp_type_ok hs _ _) him (x_type hix hs (r 1 (by decide) (by decide)) (r 2 (by decide) (by decide))) (fun M1 z => m_type z hs (r 1 (by decide) (by decide)) (r 2 (by decide) (by decide)))
    exact ⟨_, rfl, rfl, lc_0 hA h0 h1 c1 c3 (nx _ _ c4 c5 c6)⟩
  · obtain ⟨M1, M2, c1, c3, c4, c5, c6⟩ := law_pair (r := sp_wipe S (X (i + 1))) (sp_wipe_ok hs _) him (x_wipe hix hs (r 1 (by decide) (by decide))) (fun M1 z => m_wipe z hs (r 1 (by decide) (by decide)))
    exact ⟨_, rfl, rfl, lc_1 hA h0 h1 c1 c3 (nx _ _ c4 c5 c6)⟩
  · obtain ⟨M1, M2, c1, c3, c4, c5, c6⟩ := law_pair (r := sp_undo S (X (i + 1))) (sp_undo_ok hs _) him (x_undo hix hs (r 1 (by decide) (by decide))) (fun M1 z => m_undo z hs (r 1 (by decide) (by decide)))
    exact ⟨_, rfl, rfl, lc_2 hA h0 h1 c1 c3 (nx _ _ c4 c5 c6)⟩
  · obtain ⟨M1, M2, c1, c3, c4, c5, c6⟩ := law_pair (r := sp_fault S (X (i + 1))) (hs) him (x_fault hix (r 1 (by decide) (by decide))) (fun M1 z => m_fault z hs (r 1 (by decide) (by decide)))
    exact ⟨_, rfl, rfl, lc_3 hA h0 h1 c1 c3 (nx _ _ c4 c5 c6)⟩
  · obtain ⟨M1, M2, c1, c3, c4, c5, c6⟩ := law_pair (r := sp_hous S (X (i + 1)) (X (i + 2))) (hs) him (x_house hix hs (r 1 (by decide) (by decide)) (r 2 (by decide) (by decide))) (fun M1 z => m_house z hs (r 1 (by decide) (by decide)) (r 2 (by decide) (by decide)))
    exact ⟨_, rfl, rfl, lc_4 hA h0 h1 c1 c3 (nx _ _ c4 c5 c6)⟩
  · obtain ⟨M1, M2, c1, c3, c4, c5, c6⟩ := law_pair (r := sp_word S (X (i + 1)) (X (i + 2))) (hs) him (x_word hix (r 1 (by decide) (by decide)) (r 2 (by decide) (by decide))) (fun M1 z => m_word z hs (r 1 (by decide) (by decide)) (r 2 (by decide) (by decide)))
    exact ⟨_, rfl, rfl, lc_5 hA h0 h1 c1 c3 (nx _ _ c4 c5 c6)⟩
  · obtain ⟨M1, M2, c1, c3, c4, c5, c6⟩ := law_pair (r := sp_ration S (X (i + 1)) (X (i + 2))) (sp_ration_ok hs _ _) him (x_ration hix hs (r 1 (by decide) (by decide)) (r 2 (by decide) (by decide))) (fun M1 z => m_ration z hs (r 1 (by decide) (by decide)) (r 2 (by decide) (by decide)))
    exact ⟨_, rfl, rfl, lc_6 hA h0 h1 c1 c3 (nx _ _ c4 c5 c6)⟩
  · obtain ⟨M1, M2, c1, c3, c4, c5, c6⟩ := law_pair (r := sp_writing S (X (i + 1)) (X (i + 2)) (X (i + 3))) (sp_writing_ok hs _ _ _) him (x_writing hix hs (r 1 (by decide) (by decide)) (r 2 (by decide) (by decide)) (r 3 (by decide) (by decide))) (fun M1 z => m_writing z hs (r 1 (by decide) (by decide)) (r 2 (by decide) (by decide)) (r 3 (by decide) (by decide)))
    exact ⟨_, rfl, rfl, lc_7 hA h0 h1 c1 c3 (nx _ _ c4 c5 c6)⟩
  · obtain ⟨M1, M2, c1, c3, c4, c5, c6⟩ := law_pair (r := sp_lending S (X (i + 1)) (X (i + 2)) (X (i + 3)) (X (i + 4))) (sp_lending_ok hs _ _ _ _) him (x_lending hix hs (r 1 (by decide) (by decide)) (r 2 (by decide) (by decide)) (r 3 (by decide) (by decide)) (r 4 (by decide) (by decide))) (fun M1 z => m_lending z hs (r 1 (by decide) (by decide)) (r 2 (by decide) (by decide)) (r 3 (by decide) (by decide)) (r 4 (by decide) (by decide)))
    exact ⟨_, rfl, rfl, lc_8 hA h0 h1 c1 c3 (nx _ _ c4 c5 c6)⟩
  · obtain ⟨M1, M2, c1, c3, c4, c5, c6⟩ := law_pair (r := sp_back S (X (i + 1))) (sp_back_ok hs _) him (x_back hix hs (r 1 (by decide) (by decide))) (fun M1 z => m_back z hs (r 1 (by decide) (by decide)))
    exact ⟨_, rfl, rfl, lc_9 hA h0 h1 c1 c3 (nx _ _ c4 c5 c6)⟩
  · obtain ⟨M1, M2, c1, c3, c4, c5, c6⟩ := law_pair (r := sp_read S (X (i + 1))) (sp_read_ok hs _) him (x_read hix hs (r 1 (by decide) (by decide))) (fun M1 z => m_read z hs (r 1 (by decide) (by decide)))
    exact ⟨_, rfl, rfl, lc_10 hA h0 h1 c1 c3 (nx _ _ c4 c5 c6)⟩
  · obtain ⟨M1, M2, c1, c3, c4, c5, c6⟩ := law_pair (r := sp_has S (X (i + 1)) (X (i + 2)) (X (i + 3))) (hs) him (x_has hix hs (r 1 (by decide) (by decide)) (r 2 (by decide) (by decide)) (r 3 (by decide) (by decide))) (fun M1 z => m_has z hs (r 1 (by decide) (by decide)) (r 2 (by decide) (by decide)) (r 3 (by decide) (by decide)))
    exact ⟨_, rfl, rfl, lc_11 hA h0 h1 c1 c3 (nx _ _ c4 c5 c6)⟩
  · obtain ⟨M1, M2, c1, c3, c4, c5, c6⟩ := law_pair (r := sp_became S (X (i + 1))) (hs) him (x_became hix hs (r 1 (by decide) (by decide))) (fun M1 z => m_became z hs (r 1 (by decide) (by decide)))
    exact ⟨_, rfl, rfl, lc_12 hA h0 h1 c1 c3 (nx _ _ c4 c5 c6)⟩
  · obtain ⟨M1, M2, c1, c3, c4, c5, c6⟩ := law_pair (r := sp_fines S (X (i + 1))) (hs) him (x_fines hix hs (r 1 (by decide) (by decide))) (fun M1 z => m_fines z hs (r 1 (by decide) (by decide)))
    exact ⟨_, rfl, rfl, lc_13 hA h0 h1 c1 c3 (nx _ _ c4 c5 c6)⟩
  · obtain ⟨M1, M2, c1, c3, c4, c5, c6⟩ := law_pair (r := sp_spent S (X (i + 1))) (hs) him (x_spent hix hs (r 1 (by decide) (by decide))) (fun M1 z => m_spent z hs (r 1 (by decide) (by decide)))
    exact ⟨_, rfl, rfl, lc_14 hA h0 h1 c1 c3 (nx _ _ c4 c5 c6)⟩
  · obtain ⟨M1, M2, c1, c3, c4, c5, c6⟩ := law_pair (r := sp_bare S (X (i + 1))) (hs) him (x_bare hix hs (r 1 (by decide) (by decide))) (fun M1 z => m_bare z hs (r 1 (by decide) (by decide)))
    exact ⟨_, rfl, rfl, lc_15 hA h0 h1 c1 c3 (nx _ _ c4 c5 c6)⟩
  · obtain ⟨M1, M2, c1, c3, c4, c5, c6⟩ := law_pair (r := sp_say S (X (i + 1)) (X (i + 2)) (X (i + 3))) (hs) him (x_say hix hs (r 1 (by decide) (by decide)) (r 2 (by decide) (by decide)) (r 3 (by decide) (by decide))) (fun M1 z => m_say z hs (r 1 (by decide) (by decide)) (r 2 (by decide) (by decide)) (r 3 (by decide) (by decide)))
    exact ⟨_, rfl, rfl, lc_16 hA h0 h1 c1 c3 (nx _ _ c4 c5 c6)⟩
  · obtain ⟨M1, M2, c1, c3, c4, c5, c6⟩ := law_pair (r := sp_most S (X (i + 1)) (X (i + 2)) (X (i + 3))) (hs) him (x_most hix hs (r 1 (by decide) (by decide)) (r 2 (by decide) (by decide)) (r 3 (by decide) (by decide))) (fun M1 z => m_most z hs (r 1 (by decide) (by decide)) (r 2 (by decide) (by decide)) (r 3 (by decide) (by decide)))
    exact ⟨_, rfl, rfl, lc_17 hA h0 h1 c1 c3 (nx _ _ c4 c5 c6)⟩
  · obtain ⟨M1, M2, c1, c3, c4, c5, c6⟩ := law_pair (r := sp_papers S (X (i + 1)) (X (i + 2))) (hs) him (x_papers hix hs (r 1 (by decide) (by decide)) (r 2 (by decide) (by decide))) (fun M1 z => m_papers z hs (r 1 (by decide) (by decide)) (r 2 (by decide) (by decide)))
    exact ⟨_, rfl, rfl, lc_18 hA h0 h1 c1 c3 (nx _ _ c4 c5 c6)⟩
  · obtain ⟨M1, M2, c1, c3, c4, c5, c6⟩ := law_pair (r := sp_lend S (X (i + 1))) (hs) him (x_lend hix hs (r 1 (by decide) (by decide))) (fun M1 z => m_lend z hs (r 1 (by decide) (by decide)))
    exact ⟨_, rfl, rfl, lc_19 hA h0 h1 c1 c3 (nx _ _ c4 c5 c6)⟩
  · obtain ⟨M1, M2, c1, c3, c4, c5, c6⟩ := law_pair (r := sp_meant S (X (i + 1))) (hs) him (x_meant hix hs (r 1 (by decide) (by decide))) (fun M1 z => m_meant z hs (r 1 (by decide) (by decide)))
    exact ⟨_, rfl, rfl, lc_20 hA h0 h1 c1 c3 (nx _ _ c4 c5 c6)⟩
  · obtain ⟨M1, M2, c1, c3, c4, c5, c6⟩ := law_pair (r := sp_seen S (X (i + 1)) (X (i + 2)) (X (i + 3)) (X (i + 4))) (sp_seen_ok hs _ _ _ _) him (x_seen hix hs (r 1 (by decide) (by decide)) (r 2 (by decide) (by decide)) (r 3 (by decide) (by decide)) (r 4 (by decide) (by decide))) (fun M1 z => m_seen z hs (r 1 (by decide) (by decide)) (r 2 (by decide) (by decide)) (r 3 (by decide) (by decide)) (r 4 (by decide) (by decide)))
    exact ⟨_, rfl, rfl, lc_21 hA h0 h1 c1 c3 (nx _ _ c4 c5 c6)⟩
  · obtain ⟨M1, M2, c1, c3, c4, c5, c6⟩ := law_pair (r := sp_forget S ) (sp_forget_ok hs) him (x_forget hix hs ) (fun M1 z => m_forget z )
    exact ⟨_, rfl, rfl, lc_22 hA h0 h1 c1 c3 (nx _ _ c4 c5 c6)⟩
  · obtain ⟨M1, M2, c1, c3, c4, c5, c6⟩ := law_pair (r := sp_never S ) (hs) him (x_never hix hs ) (fun M1 z => m_never z hs )
    exact ⟨_, rfl, rfl, lc_23 hA h0 h1 c1 c3 (nx _ _ c4 c5 c6)⟩
  · obtain ⟨M1, M2, c1, c3, c4, c5, c6⟩ := law_pair (r := sp_got S (X (i + 1))) (hs) him (x_got hix hs (r 1 (by decide) (by decide))) (fun M1 z => m_got z hs (r 1 (by decide) (by decide)))
    exact ⟨_, rfl, rfl, lc_24 hA h0 h1 c1 c3 (nx _ _ c4 c5 c6)⟩
  · obtain ⟨M1, M2, c1, c3, c4, c5, c6⟩ := law_pair (r := sp_ask S (X (i + 1)) (X (i + 2))) (hs) him (x_ask hix hs (r 1 (by decide) (by decide)) (r 2 (by decide) (by decide))) (fun M1 z => m_ask z hs (r 1 (by decide) (by decide)) (r 2 (by decide) (by decide)))
    exact ⟨_, rfl, rfl, lc_25 hA h0 h1 c1 c3 (nx _ _ c4 c5 c6)⟩
  · obtain ⟨M1, M2, c1, c3, c4, c5, c6⟩ := law_pairl (r := sp_censor S (X (i + 1)) (X (i + 2)) (X (i + 3)) (X (i + 4))) (hs) him (x_censor hix hs (r 1 (by decide) (by decide)) (r 2 (by decide) (by decide)) (r 3 (by decide) (by decide)) (r 4 (by decide) (by decide))) (fun M1 z => m_censor z hs (r 1 (by decide) (by decide)) (r 2 (by decide) (by decide)) (r 3 (by decide) (by decide)) (r 4 (by decide) (by decide)))
    exact ⟨_, rfl, rfl, lc_26 hA h0 h1 c1 c3 (nx _ _ c4 c5 c6)⟩
  · obtain ⟨M1, M2, c1, c3, c4, c5, c6⟩ := law_pair (r := sp_post S (X (i + 1)) (X (i + 2)) (X (i + 3))) (hs) him (x_post hix hs (r 2 (by decide) (by decide)) (r 3 (by decide) (by decide))) (fun M1 z => m_post z hs (r 2 (by decide) (by decide)) (r 3 (by decide) (by decide)))
    exact ⟨_, rfl, rfl, lc_27 hA h0 h1 c1 c3 (nx _ _ c4 c5 c6)⟩
  · obtain ⟨M1, M2, c1, c3, c4, c5, c6⟩ := law_pair (r := sp_sheet S (X (i + 1)) (X (i + 2)) (X (i + 3))) (sp_sheet_ok hs _ _ _) him (x_sheet hix hs (r 1 (by decide) (by decide)) (r 2 (by decide) (by decide)) (r 3 (by decide) (by decide))) (fun M1 z => m_sheet z hs (r 1 (by decide) (by decide)) (r 2 (by decide) (by decide)) (r 3 (by decide) (by decide)))
    exact ⟨_, rfl, rfl, lc_28 hA h0 h1 c1 c3 (nx _ _ c4 c5 c6)⟩
  · obtain ⟨M1, M2, c1, c3, c4, c5, c6⟩ := law_pair (r := sp_lose S (X (i + 1))) (sp_lose_ok hs _) him (x_lose hix hs (r 1 (by decide) (by decide))) (fun M1 z => m_lose z hs (r 1 (by decide) (by decide)))
    exact ⟨_, rfl, rfl, lc_29 hA h0 h1 c1 c3 (nx _ _ c4 c5 c6)⟩
  · obtain ⟨M1, M2, c1, c3, c4, c5, c6⟩ := law_pair (r := sp_lay S (X (i + 1)) (X (i + 2)) (X (i + 3)) (X (i + 4))) (sp_lay_ok hs _ _ _ (r 4 (by decide) (by decide))) him (x_lay hix hs (r 1 (by decide) (by decide)) (r 2 (by decide) (by decide)) (r 3 (by decide) (by decide))) (fun M1 z => m_lay z hs (r 1 (by decide) (by decide)) (r 2 (by decide) (by decide)) (r 3 (by decide) (by decide)))
    exact ⟨_, rfl, rfl, lc_30 hA h0 h1 c1 c3 (nx _ _ c4 c5 c6)⟩
  · obtain ⟨M1, M2, c1, c3, c4, c5, c6⟩ := law_pair (r := sp_get S (X (i + 1)) (X (i + 2)) (X (i + 3))) (sp_get_ok hs _ _ _) him (x_get hix hs (r 1 (by decide) (by decide)) (r 2 (by decide) (by decide)) (r 3 (by decide) (by decide))) (fun M1 z => m_get z hs (r 1 (by decide) (by decide)) (r 2 (by decide) (by decide)) (r 3 (by decide) (by decide)))
    exact ⟨_, rfl, rfl, lc_31 hA h0 h1 c1 c3 (nx _ _ c4 c5 c6)⟩
  · obtain ⟨M1, M2, c1, c3, c4, c5, c6⟩ := law_pair (r := sp_copy S (X (i + 1)) (X (i + 2)) (X (i + 3)) (X (i + 4)) (X (i + 5))) (sp_copy_ok hs _ _ _ _ _) him (x_copy hix hs (r 1 (by decide) (by decide)) (r 2 (by decide) (by decide)) (r 3 (by decide) (by decide)) (r 4 (by decide) (by decide)) (r 5 (by decide) (by decide))) (fun M1 z => m_copy z hs (r 1 (by decide) (by decide)) (r 2 (by decide) (by decide)) (r 3 (by decide) (by decide)) (r 4 (by decide) (by decide)) (r 5 (by decide) (by decide)))
    exact ⟨_, rfl, rfl, lc_32 hA h0 h1 c1 c3 (nx _ _ c4 c5 c6)⟩
  · obtain ⟨M1, M2, c1, c3, c4, c5, c6⟩ := law_pair (r := sp_write S (X (i + 1)) (X (i + 2)) (X (i + 3))) (sp_write_ok hs _ _ _) him (x_write hix hs (r 1 (by decide) (by decide)) (r 2 (by decide) (by decide)) (r 3 (by decide) (by decide))) (fun M1 z => m_write z hs (r 1 (by decide) (by decide)) (r 2 (by decide) (by decide)) (r 3 (by decide) (by decide)))
    exact ⟨_, rfl, rfl, lc_33 hA h0 h1 c1 c3 (nx _ _ c4 c5 c6)⟩
  · obtain ⟨M1, M2, c1, c3, c4, c5, c6⟩ := law_pair (r := sp_count S (X (i + 1))) (hs) him (x_count hix hs (r 1 (by decide) (by decide))) (fun M1 z => m_count z hs (r 1 (by decide) (by decide)))
    exact ⟨_, rfl, rfl, lc_34 hA h0 h1 c1 c3 (nx _ _ c4 c5 c6)⟩
  · obtain ⟨M1, M2, c1, c3, c4, c5, c6⟩ := law_pairl (r := sp_digest S ) (hs) him (x_digest hix hs ) (fun M1 z => m_digest z hs )
    exact ⟨_, rfl, rfl, lc_35 hA h0 h1 c1 c3 (nx _ _ c4 c5 c6)⟩
theorem law_loop {n : Nat} {Rt : Option ol_V → ol_M → Prop} {A : Nat → ol_Ls → ol_St → ol_M → Prop} {X : Int → Int} (hA : ol_CL n X Rt A) (hn : n ≤ 384) (hr : ∀ M, Rt (some (.inl 1)) M) (r : ∀ j : Int, 0 ≤ j → j < n → ol_r (X j)) : ∀ (u : Nat) (i : Int) (S M : ol_M), 0 ≤ i → i ≤ n → (n : Int) ≤ i + u → sp_ok S → im S M → ix S M → A 18 [some (.inr (.inr (-1))), some (.inr (.inr 0)), some (.inr (.inr 132)), some (.inl i)] [] M := by
  have fin : ∀ M i, A 1378 [some (.inr (.inr (-1))), some (.inr (.inr 0)), some (.inr (.inr 132)), some (.inl i)] [] M := fun M i => hA.1 [.iconst 1, .ireturn] 1378 _ _ _ (by decide +kernel) (hr M)
  have hd : ∀ (M : ol_M) (i : Int), A 21 [some (.inr (.inr (-1))), some (.inr (.inr 0)), some (.inr (.inr 132)), some (.inl i)] [.inl n, .inl i] M → A 18 [some (.inr (.inr (-1))), some (.inr (.inr 0)), some (.inr (.inr 132)), some (.inl i)] [] M := fun M i k => hA.1 [.iload_n 3, .aload_n 0] 18 _ _ _ (by decide +kernel) ⟨_, rfl, _, rfl, [some (.inr (.inr (-1))), some (.inr (.inr 0)), some (.inr (.inr 132)), some (.inl i)], ⟨rfl, rfl, rfl, rfl, trivial⟩, hA.2.2 20 _ _ _ (by decide +kernel) k⟩
  intro u
  induction u with
  | zero =>
    intro i S M i0 i1 iu hs him hix
    exact hd M i (hA.1 [.bipush 6, .isub, .if_icmp .gt 1354] 21 _ _ _ (by decide +kernel) ⟨⟨by decide, by decide⟩, rfl, ⟨by omega, by omega⟩, ⟨by omega, by omega⟩, ol_if.pos (by omega) ⟨[some (.inr (.inr (-1))), some (.inr (.inr 0)), some (.inr (.inr 132)), some (.inl i)], ⟨rfl, rfl, rfl, rfl, trivial⟩, fin M i⟩⟩)
  | succ u ih =>
    intro i S M i0 i1 iu hs him hix
    by_cases c : i > n - 6
    · exact hd M i (hA.1 [.bipush 6, .isub, .if_icmp .gt 1354] 21 _ _ _ (by decide +kernel) ⟨⟨by decide, by decide⟩, rfl, ⟨by omega, by omega⟩, ⟨by omega, by omega⟩, ol_if.pos (by omega) ⟨[some (.inr (.inr (-1))), some (.inr (.inr 0)), some (.inr (.inr 132)), some (.inl i)], ⟨rfl, rfl, rfl, rfl, trivial⟩, fin M i⟩⟩)
    · have nx : ∀ S' M', sp_ok S' → im S' M' → ix S' M' → A 1372 [some (.inr (.inr (-1))), some (.inr (.inr 0)), some (.inr (.inr 132)), some (.inl i)] [] M' := by
        intro S' M' q1 q2 q3
        refine hA.1 [.iinc 3 6, .goto (-1357)] 1372 _ _ _ (by decide +kernel) ⟨_, rfl, rfl, [some (.inr (.inr (-1))), some (.inr (.inr 0)), some (.inr (.inr 132)), some (.inl (i + 6))], ⟨rfl, rfl, rfl, rfl, trivial⟩, ?_⟩
        exact ih (i + 6) S' M' (by omega) (by omega) (by omega) q1 q2 q3
      have q := ol_and_r (X i) 63
      refine hd M i (hA.1 [.bipush 6, .isub, .if_icmp .gt 1354, .aload_n 0, .iload_n 3] 21 _ _ _ (by decide +kernel) ⟨⟨by decide, by decide⟩, rfl, ⟨by omega, by omega⟩, ⟨by omega, by omega⟩, ol_if.neg (by omega) ⟨_, rfl, _, rfl, [some (.inr (.inr (-1))), some (.inr (.inr 0)), some (.inr (.inr 132)), some (.inl i)], ⟨rfl, rfl, rfl, rfl, trivial⟩, hA.2.1 29 _ _ _ i (by decide +kernel) (by omega) (by omega) ?_⟩⟩)
      refine hA.1 [.bipush 63, .iand, .tableswitch 1339 0 35 #[159, 192, 215, 238, 261, 294, 327, 360, 403, 456, 479, 502, 545, 568, 591, 614, 637, 680, 723, 756, 779, 802, 855, 868, 881, 904, 937, 991, 1034, 1077, 1100, 1153, 1196, 1259, 1302, 1325]] 30 _ _ _ (by decide +kernel) ⟨⟨by decide, by decide⟩, rfl, q, ?_, ?_⟩
      · intro z
        exact ⟨[some (.inr (.inr (-1))), some (.inr (.inr 0)), some (.inr (.inr 132)), some (.inl i)], ⟨rfl, rfl, rfl, rfl, trivial⟩, nx S M hs him hix⟩
      · intro z
        obtain ⟨off, e1, e2, e3⟩ := law_case hA hn i0 (by omega) hs him hix (fun k k0 k1 => r (i + k) (by omega) (by omega)) nx (a := ol_and (X i) 63) (by omega) (by omega)
        exact ⟨off, by simpa using e1, e2, [some (.inr (.inr (-1))), some (.inr (.inr 0)), some (.inr (.inr 132)), some (.inl i)], ⟨rfl, rfl, rfl, rfl, trivial⟩, e3⟩
