/-! the reference asked -/
def TM (μ : Mem) (T : TT) : Prop := RM (μ 20 0) (tA T) ∧ HM μ (tHf T) (tHn T) ∧ (μ 19 0 4 = (if tSb T then 1 else 0) ∧ (tSb T = true → RM (μ 22 0) (tSs T))) ∧ (μ 19 0 9 = (tRf T).1 ∧ μ 19 0 10 = (tRf T).2.1 ∧ μ 19 0 11 = (tRf T).2.2.1 ∧ μ 19 0 12 = (tRf T).2.2.2) ∧ (tIn T ≤ 60 ∧ μ 19 0 14 = nI (tIn T) ∧ ∀ i, i < tIn T → μ 24 0 i = nI (tIf T i) ∧ tIf T i < 65536) ∧ μ 19 0 15 = tE T ∧ (tLn T ≤ 18 ∧ μ 19 0 17 = nI (tLn T) ∧ ∀ i, i < tLn T → μ 25 0 i = tLf T i ∧ narrow .char (.int (tLf T i)) = .int (tLf T i)) ∧ μ 19 0 6 = 0
def Sm (μ μ' : Mem) : Prop := (∀ t o, ¬ (t = 19 ∧ o = 0) → μ' t o = μ t o) ∧ ∀ k, k ≠ 7 → k ≠ 8 → μ' 19 0 k = μ 19 0 k
def Mo (μ μ' : Mem) : Prop := ∀ t, t < 19 ∨ 26 < t → μ' t = μ t
theorem Mo.tr {μ μ1 μ2 : Mem} (h1 : Mo μ μ1) (h2 : Mo μ1 μ2) : Mo μ μ2 := fun t h => (h2 t h).trans (h1 t h)
def cc (l : List Nat) (c : AN) : Nat := match c with
  | .inl _ => 0
  | .inr e => cdl l e
def CM (M : MI) (as : List AV) (μ : Mem) (l : List Nat) (c : AN) (T' : TT) : Prop := ∃ μ' v, MetA M (aR 19 0 :: as) μ (rI v μ') ∧ TM μ' T' ∧ Mo μ μ' ∧ μ' 19 0 8 = nI (cc l c) ∧ ∀ x, c = .inl x → v = x
section RH
variable {μ : Mem} {A : SP} {T : TT}
theorem TM.sm {μ' : Mem} (S : Sm μ μ') (H : TM μ T) : TM μ' T := by
  obtain ⟨a, b, ⟨c1, c2⟩, ⟨d1, d2, d3, d4⟩, ⟨e1, e2, e3⟩, f, ⟨g1, g2, g3⟩, h⟩ := H
  obtain ⟨s1, s2⟩ := S
  obtain ⟨b1, b2, b3⟩ := b
  exact ⟨by rw [s1 20 0 (by omega)]; exact a, ⟨b1, by rw [s2 5 (by omega) (by omega)]; exact b2, fun i hi => by rw [s1 21 0 (by omega)]; exact b3 i hi⟩, ⟨by rw [s2 4 (by omega) (by omega)]; exact c1, fun q => by rw [s1 22 0 (by omega)]; exact c2 q⟩, ⟨by rw [s2 9 (by omega) (by omega)]; exact d1, by rw [s2 10 (by omega) (by omega)]; exact d2, by rw [s2 11 (by omega) (by omega)]; exact d3, by rw [s2 12 (by omega) (by omega)]; exact d4⟩, ⟨e1, by rw [s2 14 (by omega) (by omega)]; exact e2, fun i hi => by rw [s1 24 0 (by omega)]; exact e3 i hi⟩, by rw [s2 15 (by omega) (by omega)]; exact f, ⟨g1, by rw [s2 17 (by omega) (by omega)]; exact g2, fun i hi => by rw [s1 25 0 (by omega)]; exact g3 i hi⟩, by rw [s2 6 (by omega) (by omega)]; exact h⟩
theorem Sm.fa {c : Int32} : Sm μ (faM μ c) := ⟨fun t o q => mset_n q, fun k q1 q2 => by rw [faM, mset_s, uget, if_neg q1, uget, if_neg q2]⟩
def c8 (μ : Mem) (c : Int32) : Mem := mset μ 19 0 (upd (μ 19 0) 8 c)
theorem Sm.c8 {c : Int32} : Sm μ (c8 μ c) := ⟨fun t o q => mset_n q, fun k q1 q2 => by unfold _root_.Jvm.Pilot.CErrataPressLaw_law_r8980_abf3f1.c8; rw [mset_s, uget, if_neg q2]⟩
theorem Sm.mo {μ' : Mem} (h : Sm μ μ') : Mo μ μ' := fun t ht => by
  funext o
  exact h.1 t o (by omega)
theorem CM.sm {M : MI} {as : List AV} {l : List Nat} {c : AN} {μ' : Mem} {v : Int32} (H : TM μ T) (S : Sm μ μ') (h : MetA M (aR 19 0 :: as) μ (rI v μ')) (h8 : μ' 19 0 8 = nI (cc l c)) (hv : ∀ x, c = .inl x → v = x) : CM M as μ l c T := ⟨μ', v, h, H.sm S, S.mo, h8, hv⟩
theorem CM.f0 {M : MI} {as : List AV} {l : List Nat} {v : Int32} (H : TM μ T) (h : MetA M (aR 19 0 :: as) μ (rI v (faM μ 0))) : CM M as μ l (.inl v) T := CM.sm H Sm.fa h (by rw [faM, mset_s]; rfl) (fun x q => by cases q; rfl)
theorem CM.f1 {M : MI} {as : List AV} {l : List Nat} {v : Int32} {e : Nat} (H : TM μ T) (h : MetA M (aR 19 0 :: as) μ (rI v (faM μ (nI (cdl l e))))) : CM M as μ l (.inr e) T := CM.sm H Sm.fa h (by rw [faM, mset_s]; rfl) (fun x q => by cases q)
theorem CM.c0 {M : MI} {as : List AV} {l : List Nat} {v : Int32} (H : TM μ T) (h : MetA M (aR 19 0 :: as) μ (rI v (c8 μ 0))) : CM M as μ l (.inl v) T := CM.sm H Sm.c8 h (by rw [c8, mset_s]; rfl) (fun x q => by cases q; rfl)
theorem fG {c : Int32} (G : RM (μ 20 0) A) : RM (faM μ c 20 0) A := by rw [faM_t (by decide)]; exact G
theorem TM.KH (H : TM μ T) : KH μ := Or.inr ⟨H.2.2.2.2.2.2.2, _, _, H.2.1⟩
theorem CI.cm {M : MI} {as : List AV} {l : List Nat} {c : CH} (H : TM μ T) (h : CI M as μ (tA T) l c) (hc : ∀ p, c = .inr p → p.1 ≤ 2) : CM M as μ l (anC c) (aft T c) := by
  obtain ⟨a, b, ⟨c1, c2⟩, ⟨d1, d2, d3, d4⟩, ⟨e1, e2, e3⟩, f, ⟨g1, g2, g3⟩, z⟩ := H
  obtain ⟨μ', v, h1, h2, h3⟩ := h
  cases c with
  | inl p =>
    obtain ⟨G, m1, m2, m3, m4, m5⟩ := h2
    refine ⟨μ', v, h1, ⟨G, m5 z _ _ b, ⟨by rw [m2 4 (by omega) (by omega) (by omega)]; exact c1, fun q => by rw [m1 22 0 (by omega) (by omega) (by omega)]; exact c2 q⟩, ⟨by rw [m2 9 (by omega) (by omega) (by omega)]; exact d1, by rw [m2 10 (by omega) (by omega) (by omega)]; exact d2, by rw [m2 11 (by omega) (by omega) (by omega)]; exact d3, by rw [m2 12 (by omega) (by omega) (by omega)]; exact d4⟩, ⟨e1, by rw [m2 14 (by omega) (by omega) (by omega)]; exact e2, fun i hi => by rw [m1 24 0 (by omega) (by omega) (by omega)]; exact e3 i hi⟩, by rw [m2 15 (by omega) (by omega) (by omega)]; exact f, ⟨g1, by rw [m2 17 (by omega) (by omega) (by omega)]; exact g2, fun i hi => by rw [m1 25 0 (by omega) (by omega) (by omega)]; exact g3 i hi⟩, by rw [m2 6 (by omega) (by omega) (by omega)]; exact z⟩, fun t ht => ?_, m3, fun x q => ?_⟩
    · funext o
      exact m1 t o (by omega) (by omega) (by omega)
    · rw [h3 p rfl]
      cases q
      rfl
  | inr p =>
    obtain ⟨k, r, d⟩ := p
    have hk : k ≤ 2 := hc _ rfl
    obtain ⟨m1, m2, m3, m4⟩ := h2
    have base : ∀ rf : Int32 × Int32 × Int32 × Int32, (μ' 19 0 9 = rf.1 ∧ μ' 19 0 10 = rf.2.1 ∧ μ' 19 0 11 = rf.2.2.1 ∧ μ' 19 0 12 = rf.2.2.2) → TM μ' (tA T, T.2.1, T.2.2.1, rf, T.2.2.2.2) := fun rf hr => by
      obtain ⟨b1, b2, b3⟩ := b
      exact ⟨by rw [m1 20 0 (by omega)]; exact a, ⟨b1, by rw [m3 5 (by omega)]; exact b2, fun i hi => by rw [m1 21 0 (by omega)]; exact b3 i hi⟩, ⟨by rw [m3 4 (by omega)]; exact c1, fun q => by rw [m1 22 0 (by omega)]; exact c2 q⟩, hr, ⟨e1, by rw [m3 14 (by omega)]; exact e2, fun i hi => by rw [m1 24 0 (by omega)]; exact e3 i hi⟩, by rw [m3 15 (by omega)]; exact f, ⟨g1, by rw [m3 17 (by omega)]; exact g2, fun i hi => by rw [m1 25 0 (by omega)]; exact g3 i hi⟩, by rw [m3 6 (by omega)]; exact z⟩
    have hmo : Mo μ μ' := fun t ht => by
      funext o
      exact m1 t o (by omega)
    by_cases c : k = 2
    · subst c
      rw [if_pos rfl] at m4
      exact ⟨μ', v, h1, base (r, d, 0, 0) m4.2, hmo, m2, fun x q => by cases q⟩
    · rw [if_neg c] at m4
      have e : aft T (.inr (k, r, d)) = (tA T, T.2.1, T.2.2.1, tRf T, T.2.2.2.2) := by
        show (if k = 2 then _ else T) = _
        rw [if_neg c]
        rfl
      rw [e]
      exact ⟨μ', v, h1, base (tRf T) ⟨by rw [m4.2 9 (by omega) (by omega)]; exact d1, by rw [m4.2 10 (by omega) (by omega)]; exact d2, by rw [m4.2 11 (by omega) (by omega)]; exact d3, by rw [m4.2 12 (by omega) (by omega)]; exact d4⟩, hmo, m2, fun x q => by cases q⟩
theorem q_house {a : Int32} (H : TM μ T) : CM M_X6_house [aI a] μ [1, 2] (anC (chHouse (tA T) a)) (aft T (chHouse (tA T) a)) := CI.cm H (n_house H.1 H.KH) c2_house
theorem q_sheet {a b : Int32} (H : TM μ T) : CM M_X6_sheet [aI a, aI b] μ [0, 1, 2] (anC (chSheet (tA T) a b)) (aft T (chSheet (tA T) a b)) := CI.cm H (n_sheet H.1 H.KH) c2_sheet
theorem q_take {a : Int32} (H : TM μ T) : CM M_X6_take [aI a] μ [0] (anC (chTake (tA T) a)) (aft T (chTake (tA T) a)) := CI.cm H (n_take H.1 H.KH) c2_take
theorem q_set {a b c : Int32} (H : TM μ T) : CM M_X6_set [aI a, aI b, aI c] μ [0, 1, 2] (anC (chSet (tA T) a b c)) (aft T (chSet (tA T) a b c)) := CI.cm H (n_set H.1 H.KH) c2_set
theorem q_license {a b : Int32} (H : TM μ T) : CM M_X6_license [aI a, aI b] μ [0, 2] (anC (chLic (tA T) a b)) (aft T (chLic (tA T) a b)) := CI.cm H (n_license H.1 H.KH) c2_license
theorem q_correct {a b : Int32} (H : TM μ T) : CM M_X6_correct [aI a, aI b] μ [0, 2] (anC (chCor (tA T) a b)) (aft T (chCor (tA T) a b)) := CI.cm H (n_correct H.1 H.KH) c2_correct
theorem q_reader {a b : Int32} (H : TM μ T) : CM M_X6_reader [aI a, aI b] μ [1, 2] (anC (chRead (tA T) a b)) (aft T (chRead (tA T) a b)) := CI.cm H (n_reader H.1 H.KH) c2_reader
theorem q_edition (H : TM μ T) : CM M_X6_edition [] μ [2] (anC (chEd (tA T))) (aft T (chEd (tA T))) := CI.cm H (n_edition H.1 H.KH) c2_edition
theorem q_day (H : TM μ T) : CM M_X6_day [] μ [] (anC (chDay (tA T))) (aft T (chDay (tA T))) := CI.cm H (n_day H.1 H.KH) (fun p h => by cases h)
theorem q_houseOf {a b : Int32} (H : TM μ T) : CM M_X6_houseOf [aI a, aI b] μ [0, 1] (qHo (tA T) a b) T := by
  have G := H.1
  have w := G.W.hm
  have hh := m_isHouse (a := a) G
  have Gf := fG (c := 0) G
  unfold qHo
  rcases hs_or G.W a with c | ⟨h, hh2, rfl⟩
  · rw [if_pos c]
    rw [bi_f (fun z => z c)] at hh
    refine CM.f1 (v := 0) H ?_
    refine MetA.of2 k_X6_houseOf rfl (Nat.le_of_ble_eq_true rfl) rfl (B_X6_houseOf_0 ?_)
    exact ⟨_, _, hh, fun q => absurd rfl q, fun _ => ⟨_, _, m_failsc (by decide), fun q => absurd q (by decide), fun _ => rI_ok rfl rfl⟩⟩
  · rw [bi_t (in_no hh2 (by omega))] at hh
    rw [if_neg (in_no hh2 (by omega)), nI_clamp (show h < 2 ^ 31 by omega)]
    rcases bnd b (n := 6) (by decide) with c | ⟨k, hk, rfl⟩
    · rw [if_pos c]
      refine CM.f1 (v := 0) H ?_
      refine MetA.of2 k_X6_houseOf rfl (Nat.le_of_ble_eq_true rfl) rfl (B_X6_houseOf_0 ?_)
      refine ⟨_, _, hh, fun _ => ⟨_, _, m_in, fun _ => ⟨_, _, m_failsc (by decide), fun q => absurd q (by decide), fun _ => rI_ok rfl rfl⟩, fun q => ?_⟩, fun q => absurd q (by decide)⟩
      rw [show (6 : Int32) = nI 6 from rfl, bi_f (fun z => z c)] at q
      exact absurd rfl q
    · rw [if_neg (bnd_no hk (by decide)), nI_clamp (show k < 2 ^ 31 by omega)]
      refine CM.f0 H ?_
      refine MetA.of2 k_X6_houseOf rfl (Nat.le_of_ble_eq_true rfl) rfl (B_X6_houseOf_0 ?_)
      refine ⟨_, _, hh, fun _ => ⟨_, _, m_in, fun q => ?_, fun _ => ⟨_, _, m_fails0, fun _ => ?_, fun q => absurd rfl q⟩⟩, fun q => absurd q (by decide)⟩
      · rw [show (6 : Int32) = nI 6 from rfl, bi_t (bnd_no hk (by decide))] at q
        exact absurd q (by decide)
      · rw [nI_toInt (show k < 2 ^ 31 by omega)]
        unfold sHo
        rcases (show k = 0 ∨ k = 1 ∨ k = 2 ∨ k = 3 ∨ k = 4 ∨ k = 5 ∨ k = 6 by omega) with rfl | rfl | rfl | rfl | rfl | rfl | rfl
        · exact ⟨fun _ => ⟨_, _, m_cn Gf hh2, rI_ok rfl rfl⟩, fun q => absurd q (by decide), fun q => absurd q (by decide), fun q => absurd q (by decide), fun q => absurd q (by decide), fun q => absurd rfl q⟩
        · exact ⟨fun _ => ⟨_, _, m_sh Gf hh2, rI_ok rfl rfl⟩, fun q => absurd q (by decide), fun q => absurd q (by decide), fun q => absurd q (by decide), fun q => absurd q (by decide), fun _ q => absurd rfl q⟩
        · exact ⟨fun q => absurd q (by decide), fun _ => ⟨_, _, m_sheetsOf Gf hh2, rI_ok rfl rfl⟩, fun q => absurd q (by decide), fun q => absurd q (by decide), fun q => absurd q (by decide), fun _ _ q => absurd rfl q⟩
        · exact ⟨fun q => absurd q (by decide), fun q => absurd q (by decide), fun _ => ⟨_, _, m_ofHouse (lv := 1) Gf hh2 (by decide), rI_ok rfl rfl⟩, fun q => absurd q (by decide), fun q => absurd q (by decide), fun _ _ _ q => absurd rfl q⟩
        · exact ⟨fun q => absurd q (by decide), fun q => absurd q (by decide), fun q => absurd q (by decide), fun _ => ⟨_, _, m_ofHouse (lv := 2) Gf hh2 (by decide), rI_ok rfl rfl⟩, fun q => absurd q (by decide), fun _ _ _ _ q => absurd rfl q⟩
        · exact ⟨fun q => absurd q (by decide), fun q => absurd q (by decide), fun q => absurd q (by decide), fun q => absurd q (by decide), fun _ => ⟨_, _, m_price Gf hh2, rI_ok rfl rfl⟩, fun _ _ _ _ _ q => absurd rfl q⟩
        · exact ⟨fun q => absurd q (by decide), fun q => absurd q (by decide), fun q => absurd q (by decide), fun q => absurd q (by decide), fun q => absurd q (by decide), fun _ _ _ _ _ _ => ⟨_, _, m_fp Gf hh2, rI_ok rfl rfl⟩⟩
theorem q_sheetOf {a b : Int32} (H : TM μ T) : CM M_X6_sheetOf [aI a, aI b] μ [0, 1] (qSo (tA T) a b) T := by
  have G := H.1
  have w := G.W.sm
  have hh := m_isSheet (a := a) G
  have Gf := fG (c := 0) G
  unfold qSo
  rcases ss_or G.W a with c | ⟨h, hh2, rfl⟩
  · rw [if_pos c]
    rw [bi_f (fun z => z c)] at hh
    refine CM.f1 (v := 0) H ?_
    refine MetA.of2 k_X6_sheetOf rfl (Nat.le_of_ble_eq_true rfl) rfl (B_X6_sheetOf_0 ?_)
    exact ⟨_, _, hh, fun q => absurd rfl q, fun _ => ⟨_, _, m_failsc (by decide), fun q => absurd q (by decide), fun _ => rI_ok rfl rfl⟩⟩
  · rw [bi_t (in_no hh2 (by omega))] at hh
    rw [if_neg (in_no hh2 (by omega)), nI_clamp (show h < 2 ^ 31 by omega)]
    rcases bnd b (n := 5) (by decide) with c | ⟨k, hk, rfl⟩
    · rw [if_pos c]
      refine CM.f1 (v := 0) H ?_
      refine MetA.of2 k_X6_sheetOf rfl (Nat.le_of_ble_eq_true rfl) rfl (B_X6_sheetOf_0 ?_)
      refine ⟨_, _, hh, fun _ => ⟨_, _, m_in, fun _ => ⟨_, _, m_failsc (by decide), fun q => absurd q (by decide), fun _ => rI_ok rfl rfl⟩, fun q => ?_⟩, fun q => absurd q (by decide)⟩
      rw [show (5 : Int32) = nI 5 from rfl, bi_f (fun z => z c)] at q
      exact absurd rfl q
    · rw [if_neg (bnd_no hk (by decide)), nI_clamp (show k < 2 ^ 31 by omega)]
      refine CM.f0 H ?_
      refine MetA.of2 k_X6_sheetOf rfl (Nat.le_of_ble_eq_true rfl) rfl (B_X6_sheetOf_0 ?_)
      refine ⟨_, _, hh, fun _ => ⟨_, _, m_in, fun q => ?_, fun _ => ⟨_, _, m_fails0, fun _ => ?_, fun q => absurd rfl q⟩⟩, fun q => absurd q (by decide)⟩
      · rw [show (5 : Int32) = nI 5 from rfl, bi_t (bnd_no hk (by decide))] at q
        exact absurd q (by decide)
      · unfold sSo
        rcases (show k = 0 ∨ k = 1 ∨ k = 2 ∨ k = 3 ∨ k = 4 ∨ k = 5 by omega) with rfl | rfl | rfl | rfl | rfl | rfl
        · exact ⟨fun q => absurd q (by decide), fun _ => ⟨_, _, m_ow Gf hh2, rI_ok rfl rfl⟩⟩
        · exact ⟨fun q => absurd q (by decide), fun _ => ⟨_, _, m_ln Gf hh2, rI_ok rfl rfl⟩⟩
        · exact ⟨fun _ => ⟨fun _ => ⟨_, _, m_misprints (lv := 1) Gf hh2 (by decide), rI_ok rfl rfl⟩, fun q => absurd q (by decide)⟩, fun q => absurd (show (2 : Int32) ≤ nI 2 by decide) q⟩
        · exact ⟨fun _ => ⟨fun _ => ⟨_, _, m_misprints (lv := 2) Gf hh2 (by decide), rI_ok rfl rfl⟩, fun q => absurd q (by decide)⟩, fun q => absurd (show (2 : Int32) ≤ nI 3 by decide) q⟩
        · exact ⟨fun _ => ⟨fun _ => ⟨_, _, m_misprints (lv := 3) Gf hh2 (by decide), rI_ok rfl rfl⟩, fun q => absurd q (by decide)⟩, fun q => absurd (show (2 : Int32) ≤ nI 4 by decide) q⟩
        · exact ⟨fun _ => ⟨fun q => absurd rfl q, fun _ => ⟨_, _, m_badOf Gf hh2, rI_ok rfl rfl⟩⟩, fun q => absurd (show (2 : Int32) ≤ nI 5 by decide) q⟩
theorem m_isNowhere_y {a b : Int32} (G : RM (μ 20 0) A) (c : (a < 0 ∨ nI (sS A) ≤ a) ∨ b < 0 ∨ nI (sLn A a.toNatClampNeg) ≤ b) : MetA M_X6_isNowhere [aR 19 0, aI a, aI b] μ (rI 1 (faM μ 1)) := by
  have h := m_isPlace (a := a) (b := b) G
  rw [bi_f (fun z => z c)] at h
  refine MetA.of2 k_X6_isNowhere rfl (Nat.le_of_ble_eq_true rfl) rfl (B_X6_isNowhere_0 ?_)
  exact ⟨_, _, h, fun _ => ⟨_, _, m_failsc (by decide), rfl, rI_ok rfl rfl⟩, fun q => absurd rfl q⟩
theorem m_isNowhere_n {s k : Nat} (G : RM (μ 20 0) A) (hs : s < sS A) (hk : k < sLn A s) : MetA M_X6_isNowhere [aR 19 0, aI (nI s), aI (nI k)] μ (rI 0 (faM μ 0)) := by
  have h := m_isPlace (a := nI s) (b := nI k) G
  rw [bi_t (plc_no G.W hs hk)] at h
  refine MetA.of2 k_X6_isNowhere rfl (Nat.le_of_ble_eq_true rfl) rfl (B_X6_isNowhere_0 ?_)
  exact ⟨_, _, h, fun q => absurd q (by decide), fun _ => ⟨_, _, m_fails0, rfl, rI_ok rfl rfl⟩⟩
theorem q_letterAt {a b c : Int32} (H : TM μ T) : CM M_X6_letterAt [aI a, aI b, aI c] μ [0] (qPl (tA T) a b fun s k => nI (96 + if c = 0 then sPl (tA T) s k else sRt (tA T) s k)) T := by
  have G := H.1
  have w := G.W.sm
  have Gf := fG (c := 0) G
  unfold qPl
  rcases plc _ G.W a b with c1 | ⟨s, k, hs, hk, rfl, rfl⟩
  · rw [if_pos c1]
    refine CM.f1 (v := 32) H ?_
    refine MetA.of2 k_X6_letterAt rfl (Nat.le_of_ble_eq_true rfl) rfl (B_X6_letterAt_0 ?_)
    exact ⟨_, _, m_isNowhere_y G c1, fun q => absurd q (by decide), fun _ => rI_ok rfl rfl⟩
  · have w2 := G.W.ln hs
    have w3 := G.W.rt hs hk
    have w4 := G.W.pl hs hk
    rw [if_neg (plc_no G.W hs hk), nI_clamp (show s < 2 ^ 31 by omega), nI_clamp (show k < 2 ^ 31 by omega)]
    refine CM.f0 H ?_
    refine MetA.of2 k_X6_letterAt rfl (Nat.le_of_ble_eq_true rfl) rfl (B_X6_letterAt_0 ?_)
    refine ⟨_, _, m_isNowhere_n G hs hk, fun _ => ⟨fun q => ⟨_, _, m_pl Gf hs hk, pk_nc _, rI_ok ?_ rfl⟩, fun q => ⟨_, _, m_rt Gf hs hk, pk_nc _, rI_ok ?_ rfl⟩⟩, fun q => absurd rfl q⟩
    · show _ = nI (96 + if _ then _ else _)
      rw [if_pos q, show (96 : Int32) = nI 96 from rfl, nI_add, chr (by omega)]
    · show _ = nI (96 + if _ then _ else _)
      rw [if_neg q, show (96 : Int32) = nI 96 from rfl, nI_add, chr (by omega)]
theorem q_markAt {a b : Int32} (H : TM μ T) : CM M_X6_markAt [aI a, aI b] μ [0] (qPl (tA T) a b fun s k => nI (sLv (tA T) s k)) T := by
  have G := H.1
  have w := G.W.sm
  have Gf := fG (c := 0) G
  unfold qPl
  rcases plc _ G.W a b with c1 | ⟨s, k, hs, hk, rfl, rfl⟩
  · rw [if_pos c1]
    refine CM.f1 (v := 0) H ?_
    refine MetA.of2 k_X6_markAt rfl (Nat.le_of_ble_eq_true rfl) rfl (B_X6_markAt_0 ?_)
    exact ⟨_, _, m_isNowhere_y G c1, fun q => absurd q (by decide), fun _ => rI_ok rfl rfl⟩
  · have w2 := G.W.ln hs
    rw [if_neg (plc_no G.W hs hk), nI_clamp (show s < 2 ^ 31 by omega), nI_clamp (show k < 2 ^ 31 by omega)]
    refine CM.f0 H ?_
    refine MetA.of2 k_X6_markAt rfl (Nat.le_of_ble_eq_true rfl) rfl (B_X6_markAt_0 ?_)
    exact ⟨_, _, m_isNowhere_n G hs hk, fun _ => ⟨_, _, m_mark Gf hs hk, rI_ok rfl rfl⟩, fun q => absurd rfl q⟩
theorem q_fine {a b c : Int32} (H : TM μ T) : CM M_X6_fine [aI a, aI b, aI c] μ [0] (qPl (tA T) a b fun s k => nI (sFine (tA T) s k)) T := by
  have G := H.1
  have w := G.W.sm
  have Gf := fG (c := 0) G
  unfold qPl
  rcases plc _ G.W a b with c1 | ⟨s, k, hs, hk, rfl, rfl⟩
  · rw [if_pos c1]
    refine CM.f1 (v := 0) H ?_
    refine MetA.of2 k_X6_fine rfl (Nat.le_of_ble_eq_true rfl) rfl (B_X6_fine_0 ?_)
    exact ⟨_, _, m_isNowhere_y G c1, fun q => absurd q (by decide), fun _ => rI_ok rfl rfl⟩
  · have w2 := G.W.ln hs
    rw [if_neg (plc_no G.W hs hk), nI_clamp (show s < 2 ^ 31 by omega), nI_clamp (show k < 2 ^ 31 by omega)]
    refine CM.f0 H ?_
    refine MetA.of2 k_X6_fine rfl (Nat.le_of_ble_eq_true rfl) rfl (B_X6_fine_0 ?_)
    exact ⟨_, _, m_isNowhere_n G hs hk, fun _ => ⟨_, _, m_fineAt Gf hs hk, rI_ok rfl rfl⟩, fun q => absurd rfl q⟩
theorem q_laughing {a b : Int32} (H : TM μ T) : CM M_X6_laughing [aI a, aI b] μ [0] (qPl (tA T) a b fun s k => nI (sMask (tA T) s k)) T := by
  have G := H.1
  have w := G.W.sm
  have Gf := fG (c := 0) G
  unfold qPl
  rcases plc _ G.W a b with c1 | ⟨s, k, hs, hk, rfl, rfl⟩
  · rw [if_pos c1]
    refine CM.f1 (v := 0) H ?_
    refine MetA.of2 k_X6_laughing rfl (Nat.le_of_ble_eq_true rfl) rfl (B_X6_laughing_0 ?_)
    exact ⟨_, _, m_isNowhere_y G c1, fun q => absurd q (by decide), fun _ => rI_ok rfl rfl⟩
  · have w2 := G.W.ln hs
    rw [if_neg (plc_no G.W hs hk), nI_clamp (show s < 2 ^ 31 by omega), nI_clamp (show k < 2 ^ 31 by omega)]
    refine CM.f0 H ?_
    refine MetA.of2 k_X6_laughing rfl (Nat.le_of_ble_eq_true rfl) rfl (B_X6_laughing_0 ?_)
    exact ⟨_, _, m_isNowhere_n G hs hk, fun _ => ⟨_, _, m_laughers Gf hs hk, rI_ok rfl rfl⟩, fun q => absurd rfl q⟩
theorem q_fines {a c : Int32} (H : TM μ T) : CM M_X6_fines [aI a, aI c] μ [0] (qSh (tA T) a fun s => nI (sFines (tA T) s)) T := by
  have G := H.1
  have w := G.W.sm
  have hh := m_isSheet (a := a) G
  have Gf := fG (c := 0) G
  unfold qSh
  rcases ss_or G.W a with c1 | ⟨s, hs, rfl⟩
  · rw [if_pos c1]
    rw [bi_f (fun z => z c1)] at hh
    refine CM.f1 (v := 0) H ?_
    refine MetA.of2 k_X6_fines rfl (Nat.le_of_ble_eq_true rfl) rfl (B_X6_fines_0 ?_)
    exact ⟨_, _, hh, fun _ => ⟨_, _, m_failsc (by decide), fun q => absurd q (by decide), fun _ => rI_ok rfl rfl⟩, fun q => absurd rfl q⟩
  · rw [bi_t (in_no hs (by omega))] at hh
    rw [if_neg (in_no hs (by omega)), nI_clamp (by omega)]
    refine CM.f0 H ?_
    refine MetA.of2 k_X6_fines rfl (Nat.le_of_ble_eq_true rfl) rfl (B_X6_fines_0 ?_)
    exact ⟨_, _, hh, fun q => absurd q (by decide), fun _ => ⟨_, _, m_fails0, fun _ => ⟨_, _, m_finesOf Gf hs, rI_ok rfl rfl⟩, fun q => absurd rfl q⟩⟩
theorem q_canMend {a : Int32} (H : TM μ T) : CM M_X6_canMend [aI a] μ [0] (qSh (tA T) a fun s => nI (bi (sFines (tA T) s ≤ sCn (tA T) (sOw (tA T) s)))) T := by
  have G := H.1
  have w := G.W.sm
  have hh := m_isSheet (a := a) G
  have Gf := fG (c := 0) G
  unfold qSh
  rcases ss_or G.W a with c1 | ⟨s, hs, rfl⟩
  · rw [if_pos c1]
    rw [bi_f (fun z => z c1)] at hh
    refine CM.f1 (v := 0) H ?_
    refine MetA.of2 k_X6_canMend rfl (Nat.le_of_ble_eq_true rfl) rfl (B_X6_canMend_0 ?_)
    exact ⟨_, _, hh, fun _ => ⟨_, _, m_failsc (by decide), fun _ => rI_ok rfl rfl, fun q => absurd q (by decide)⟩, fun q => absurd rfl q⟩
  · have w1 := G.W.ow hs
    have w2 := G.W.cn w1
    have w3 := sFines_le G.W hs
    rw [bi_t (in_no hs (by omega))] at hh
    rw [if_neg (in_no hs (by omega)), nI_clamp (by omega)]
    refine CM.f0 H ?_
    refine MetA.of2 k_X6_canMend rfl (Nat.le_of_ble_eq_true rfl) rfl (B_X6_canMend_0 ?_)
    refine ⟨_, _, hh, fun q => absurd q (by decide), fun _ => ⟨_, _, m_fails0, fun q => absurd rfl q, fun _ => ⟨_, _, m_ow Gf hs, _, _, m_cn Gf w1, _, _, m_finesOf Gf hs, ?_⟩⟩⟩
    rw [nI_ltI (by omega) (by omega)]
    refine ⟨fun q => rI_ok ?_ rfl, fun q => rI_ok ?_ rfl⟩
    · show 0 = nI (bi _)
      rw [bi_f (by omega)]
      rfl
    · show 1 = nI (bi _)
      rw [bi_t (by omega)]
      rfl
theorem q_calmIn {a : Int32} (H : TM μ T) : CM M_X6_calmIn [aI a] μ [0] (qHs (tA T) a fun h => nI (sSh (tA T) h - 20)) T := by
  have G := H.1
  have w := G.W.hm
  have hh := m_isHouse (a := a) G
  have Gf := fG (c := 0) G
  unfold qHs
  rcases hs_or G.W a with c | ⟨h, hh2, rfl⟩
  · rw [if_pos c]
    rw [bi_f (fun z => z c)] at hh
    refine CM.f1 (v := 0) H ?_
    refine MetA.of2 k_X6_calmIn rfl (Nat.le_of_ble_eq_true rfl) rfl (B_X6_calmIn_0 ?_)
    exact ⟨_, _, hh, fun _ => ⟨_, _, m_failsc (by decide), fun _ => rI_ok rfl rfl, fun q => absurd q (by decide)⟩, fun q => absurd rfl q⟩
  · have w2 := G.W.sh hh2
    rw [bi_t (in_no hh2 (by omega))] at hh
    rw [if_neg (in_no hh2 (by omega)), nI_clamp (by omega)]
    have ga := m_isAshamed Gf hh2
    refine CM.f0 H ?_
    refine MetA.of2 k_X6_calmIn rfl (Nat.le_of_ble_eq_true rfl) rfl (B_X6_calmIn_0 ?_)
    refine ⟨_, _, hh, fun q => absurd q (by decide), fun _ => ⟨_, _, m_fails0, fun q => absurd rfl q, fun _ => ⟨_, _, ga, ?_⟩⟩⟩
    by_cases c : 20 < sSh (tA T) h
    · rw [bi_t c]
      refine ⟨fun _ => ⟨_, _, m_sh Gf hh2, rI_ok ?_ rfl⟩, fun q => absurd q (by decide)⟩
      rw [show (20 : Int32) = nI 20 from rfl, pk_sub (by omega)]
    · rw [bi_f c]
      refine ⟨fun q => absurd rfl q, fun _ => rI_ok ?_ rfl⟩
      show 0 = nI (sSh (tA T) h - 20)
      rw [show sSh (tA T) h - 20 = 0 by omega]
      rfl
theorem q_nearest {a : Int32} (H : TM μ T) : CM M_X6_nearest [aI a] μ [0] (qSh (tA T) a fun s => nI (nr (tA T) s (sS (tA T) - 1))) T := by
  have G := H.1
  have w := G.W.sm
  have hh := m_isSheet (a := a) G
  have Gf := fG (c := 0) G
  have v1 : vp_in 1 240 := vp_in_nI (n := 1) (by decide) (by decide)
  have eS : faM μ 0 20 0 (1 : Int32).toNatClampNeg = nI (sS (tA T)) := Gf.S
  unfold qSh
  rcases ss_or G.W a with c1 | ⟨s, hs, rfl⟩
  · rw [if_pos c1]
    rw [bi_f (fun z => z c1)] at hh
    refine CM.f1 (v := 0) H ?_
    refine MetA.of2 k_X6_nearest rfl (Nat.le_of_ble_eq_true rfl) rfl (B_X6_nearest_0 ?_)
    exact ⟨_, _, hh, fun _ => ⟨_, _, m_failsc (by decide), fun q => absurd q (by decide), fun _ => rI_ok rfl rfl⟩, fun q => absurd rfl q⟩
  · rw [bi_t (in_no hs (by omega))] at hh
    rw [if_neg (in_no hs (by omega)), nI_clamp (by omega)]
    refine CM.f0 H ?_
    refine MetA.of2 k_X6_nearest rfl (Nat.le_of_ble_eq_true rfl) rfl (B_X6_nearest_0 ?_)
    refine ⟨_, _, hh, fun q => absurd q (by decide), fun _ => ⟨_, _, m_fails0, fun _ => ?_, fun q => absurd rfl q⟩⟩
    refine loopN (sS (tA T) - 1) (fun n => AW M_X6_nearest 0 26 [some (aR 19 0), some (aI (nI s)), some (aI (nI (nr (tA T) s n))), some (aI (nI (n + 1)))] [] (faM μ 0) _) ?_ ?_
    · refine B_X6_nearest_26 ⟨v1, ?_⟩
      rw [eS]
      exact ⟨fun _ => rI_ok rfl rfl, fun q => absurd (nI_le (by omega) (by omega)) q⟩
    · intro n hn ih
      have hb := nr_le (tA T) s n
      have u1 := sUn_le G.W (s := s) (o := n + 1) hs (by omega)
      have u2 := sUn_le G.W (s := s) (o := nr (tA T) s n) hs (by omega)
      refine B_X6_nearest_26 ⟨v1, ?_⟩
      rw [eS]
      refine ⟨fun q => absurd q (nI_ge (by omega) (by omega)), fun _ => ⟨_, _, m_far Gf hs (by omega), _, _, m_far Gf hs (by omega), ?_⟩⟩
      rw [nr] at ih
      rw [nI_leI (by omega) (by omega), show (1 : Int32) = nI 1 from rfl, nI_add]
      by_cases c : sUn (tA T) s (n + 1) < sUn (tA T) s (nr (tA T) s n)
      · rw [if_pos c] at ih
        exact ⟨fun q => absurd q (by omega), fun _ => ih⟩
      · rw [if_neg c] at ih
        exact ⟨fun _ => ih, fun q => absurd (by omega) q⟩
def cF (c : AN) : Nat := match c with
  | .inl _ => 0
  | .inr _ => 1
def vF (c : AN) : Int32 := match c with
  | .inl v => v
  | .inr _ => 0
theorem CM.fd {M : MI} {as : List AV} {e : Nat} {c : AN} (hc : ∀ k, c = .inr k → k = e) (H : TM μ T) (h : MetA M (aR 19 0 :: as) μ (rI (vF c) (c8 μ (nI (cF c))))) : CM M as μ [e] c T := CM.sm H Sm.c8 h (by
  rw [c8, mset_s]
  cases c with
  | inl v => rfl
  | inr k =>
    rw [hc k rfl]
    show nI 1 = nI (if e = e then 1 else _)
    rw [if_pos rfl]) (fun x q => by rw [q]; rfl)
theorem fnd4 {f : Nat → Nat} {p : Int32} : ∀ m i k, fnd f p m i = .inr k → k = 4
  | 0, i, k, h => by cases h; rfl
  | m + 1, i, k, h => by
    rw [fnd] at h
    split at h
    · cases h
    · exact fnd4 m (i + 1) k h
theorem q_ashamed {a : Int32} (H : TM μ T) : CM M_X6_ashamed [aI a] μ [4] (fnd (sRkH (tA T)) a (sH (tA T)) 0) T := by
  have G := H.1
  have w := G.W.hm
  have v0 : vp_in 0 240 := vp_in_nI (n := 0) (by decide) (by decide)
  have eH : μ 20 0 (0 : Int32).toNatClampNeg = nI (sH (tA T)) := G.H
  refine CM.fd (fnd4 _ _) H ?_
  refine MetA.of2 k_X6_ashamed rfl (Nat.le_of_ble_eq_true rfl) rfl (B_X6_ashamed_0 ?_)
  have key : ∀ m i, i + m = sH (tA T) → AW M_X6_ashamed 0 2 [some (aR 19 0), some (aI a), some (aI (nI i)), none, none] [] μ (rI (vF (fnd (sRkH (tA T)) a m i)) (c8 μ (nI (cF (fnd (sRkH (tA T)) a m i))))) := by
    intro m
    induction m with
    | zero =>
      intro i hi
      refine B_X6_ashamed_2 ⟨v0, ?_⟩
      rw [eH, fnd]
      exact ⟨fun _ m e => rI_ok rfl e, fun q => absurd (nI_le (by omega) (by omega)) q⟩
    | succ m ih =>
      intro i hi
      refine B_X6_ashamed_2 ⟨v0, ?_⟩
      rw [eH]
      refine ⟨fun q => absurd q (nI_ge (by omega) (by omega)), fun _ => ?_⟩
      refine loopN (sH (tA T)) (fun o => AW M_X6_ashamed 0 17 [some (aR 19 0), some (aI a), some (aI (nI i)), some (aI (nI (sm (fun o => if sMa (tA T) o i then 1 else 0) o))), some (aI (nI o))] [] μ _) ?_ ?_
      · refine B_X6_ashamed_17 ⟨v0, ?_⟩
        rw [eH, fnd]
        refine ⟨fun _ => ⟨fun q m e => ?_, fun q => ?_⟩, fun q => absurd (nI_le (Nat.le_refl _) (by omega)) q⟩
        · rw [if_pos (show nI (sRkH (tA T) i) = a from q)]
          exact rI_ok rfl e
        · rw [if_neg (show ¬ nI (sRkH (tA T) i) = a from q), show (1 : Int32) = nI 1 from rfl, nI_add]
          exact ih (i + 1) (by omega)
      · intro o ho ih2
        refine B_X6_ashamed_17 ⟨v0, ?_⟩
        rw [eH]
        refine ⟨fun q => absurd q (nI_ge ho (by omega)), fun _ => ⟨_, _, m_isMoreAshamed G ho (by omega), ?_⟩⟩
        rw [sm] at ih2
        rw [Int32.add_zero, show (1 : Int32) = nI 1 from rfl, nI_add, nI_add]
        refine bI (fun q => ?_) (fun q => ?_)
        · rw [q] at ih2
          exact ih2
        · rw [q] at ih2
          exact ih2
  exact key (sH (tA T)) 0 (by omega)
theorem q_worst {a : Int32} (H : TM μ T) : CM M_X6_worst [aI a] μ [4] (fnd (sRkS (tA T)) a (sS (tA T)) 0) T := by
  have G := H.1
  have w := G.W.sm
  have v1 : vp_in 1 240 := vp_in_nI (n := 1) (by decide) (by decide)
  have eS : μ 20 0 (1 : Int32).toNatClampNeg = nI (sS (tA T)) := G.S
  refine CM.fd (fnd4 _ _) H ?_
  refine MetA.of2 k_X6_worst rfl (Nat.le_of_ble_eq_true rfl) rfl (B_X6_worst_0 ?_)
  have key : ∀ m i, i + m = sS (tA T) → AW M_X6_worst 0 2 [some (aR 19 0), some (aI a), some (aI (nI i)), none, none] [] μ (rI (vF (fnd (sRkS (tA T)) a m i)) (c8 μ (nI (cF (fnd (sRkS (tA T)) a m i))))) := by
    intro m
    induction m with
    | zero =>
      intro i hi
      refine B_X6_worst_2 ⟨v1, ?_⟩
      rw [eS, fnd]
      exact ⟨fun _ m e => rI_ok rfl e, fun q => absurd (nI_le (by omega) (by omega)) q⟩
    | succ m ih =>
      intro i hi
      refine B_X6_worst_2 ⟨v1, ?_⟩
      rw [eS]
      refine ⟨fun q => absurd q (nI_ge (by omega) (by omega)), fun _ => ?_⟩
      refine loopN (sS (tA T)) (fun o => AW M_X6_worst 0 17 [some (aR 19 0), some (aI a), some (aI (nI i)), some (aI (nI (sm (fun o => if sWo (tA T) o i then 1 else 0) o))), some (aI (nI o))] [] μ _) ?_ ?_
      · refine B_X6_worst_17 ⟨v1, ?_⟩
        rw [eS, fnd]
        refine ⟨fun _ => ⟨fun q m e => ?_, fun q => ?_⟩, fun q => absurd (nI_le (Nat.le_refl _) (by omega)) q⟩
        · rw [if_pos (show nI (sRkS (tA T) i) = a from q)]
          exact rI_ok rfl e
        · rw [if_neg (show ¬ nI (sRkS (tA T) i) = a from q), show (1 : Int32) = nI 1 from rfl, nI_add]
          exact ih (i + 1) (by omega)
      · intro o ho ih2
        refine B_X6_worst_17 ⟨v1, ?_⟩
        rw [eS]
        refine ⟨fun q => absurd q (nI_ge ho (by omega)), fun _ => ⟨_, _, m_isWorse G ho (by omega), ?_⟩⟩
        rw [sm] at ih2
        rw [Int32.add_zero, show (1 : Int32) = nI 1 from rfl, nI_add, nI_add]
        refine bI (fun q => ?_) (fun q => ?_)
        · rw [q] at ih2
          exact ih2
        · rw [q] at ih2
          exact ih2
  exact key (sS (tA T)) 0 (by omega)
theorem q_errorPosition (H : TM μ T) : CM M_X6_errorPosition [] μ [] (.inl (tE T)) T := by
  refine CM.c0 H ?_
  refine MetA.of2 k_X6_errorPosition rfl (Nat.le_of_ble_eq_true rfl) rfl (B_X6_errorPosition_0 ?_)
  intro m e
  refine rI_ok ?_ e
  rw [e, mset_s]
  exact H.2.2.2.2.2.1
end RH
