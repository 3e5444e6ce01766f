/-! sheets that go, editions, days of the reference -/
section RG
variable {μ : Mem} {A : SP} {s k h w : Nat}
theorem n_take {a : Int32} (G : RM (μ 20 0) A) (K : KH μ) : CI M_X6_take [aI a] μ A [0] (chTake A a) := by
  have w := G.W.sm
  have v1 : vp_in 1 240 := vp_in_nI (n := 1) (by decide) (by decide)
  have hs0 := m_isSheet (a := a) G
  unfold chTake CI
  rcases ss_or G.W a with c | ⟨s, hs, rfl⟩
  · rw [if_pos c]
    rw [bi_f (fun z => z c)] at hs0
    refine ⟨faM μ (nI 1), 0, ?_, Rf_fa (by decide), fun p q => by cases q⟩
    refine MetA.of2 k_X6_take rfl (Nat.le_of_ble_eq_true rfl) rfl (B_X6_take_0 ?_)
    exact ⟨_, _, hs0, fun _ => ⟨_, _, m_failsc (by decide), fun q => absurd q (by decide), fun _ => rI_ok rfl rfl⟩, fun q => absurd rfl q⟩
  · rw [bi_t (in_no hs (by omega))] at hs0
    rw [if_neg (in_no hs (by omega)), nI_clamp (show s < 2 ^ 31 by omega)]
    obtain ⟨mk, k1, k2⟩ := m_keeps (μ := faM μ 0) (t := 20) (Or.inl rfl) K.fa (by rw [faM_t (by decide)]; exact G)
    have eg : mk 20 0 = μ 20 0 := by rw [k2.g, faM_t (by decide)]
    obtain ⟨g1, eg1⟩ : ∃ g1 : Nat → Int32, g1 = upd (μ 20 0) 1 (nI (sS A - 1)) := ⟨_, rfl⟩
    obtain ⟨x, ex⟩ : ∃ x, x = 22 + 26 * s := ⟨_, rfl⟩
    obtain ⟨d, ed⟩ : ∃ d, d = 26 * (sS A - 1 - s) := ⟨_, rfl⟩
    have c1 : ∀ i, cpf g1 x i 1 = nI (sS A - 1) := fun i => by rw [cpf, if_neg (by omega), eg1, uget, if_pos rfl]
    have iS : (22 : Int32) + 26 * nI (sS A - 1) = nI (x + d) := by
      rw [show (22 : Int32) = nI 22 from rfl, show (26 : Int32) = nI 26 from rfl, pk_mul, nI_add]
      congr 1
      omega
    have lp1 : ∀ P, AW M_X6_take 0 48 [some (aR 19 0), some (aI (nI s)), some (aI (nI (x + d)))] [] (mset mk 20 0 (cpf g1 x d)) P → AW M_X6_take 0 48 [some (aR 19 0), some (aI (nI s)), some (aI (nI (x + 0)))] [] (mset mk 20 0 (cpf g1 x 0)) P := by
      refine loopF d (fun i => ∀ P, AW M_X6_take 0 48 [some (aR 19 0), some (aI (nI s)), some (aI (nI (x + i)))] [] (mset mk 20 0 (cpf g1 x i)) P → AW M_X6_take 0 48 [some (aR 19 0), some (aI (nI s)), some (aI (nI (x + 0)))] [] (mset mk 20 0 (cpf g1 x 0)) P) (fun P h => h) ?_
      intro i hi ih P hP
      refine ih P (B_X6_take_48 ⟨v1, ?_⟩)
      rw [mset_s, show cpf g1 x i (1 : Int32).toNatClampNeg = nI (sS A - 1) from c1 i, iS, show (26 : Int32) = nI 26 from rfl, nI_add, nI_clamp (by omega), nI_clamp (by omega)]
      refine ⟨fun q => absurd q (nI_ge (by omega) (by omega)), fun _ => ⟨vp_in_nI (by omega) (by decide), vp_in_nI (by omega) (by decide), fun m e => ?_⟩⟩
      rw [mset_mset, cpf1] at e
      rw [e, show (1 : Int32) = nI 1 from rfl, nI_add, Nat.add_assoc]
      exact hP
    rw [cpf0, Nat.add_zero] at lp1
    obtain ⟨y, ey⟩ : ∃ y, y = 22 + 26 * (sS A - 1) := ⟨_, rfl⟩
    have c2 : ∀ i, zfl (cpf g1 x d) y i 1 = nI (sS A - 1) := fun i => by rw [zfl, if_neg (by omega)]; exact c1 d
    have lp2 : ∀ P, AW M_X6_take 0 87 [some (aR 19 0), some (aI (nI s)), some (aI (nI 26))] [] (mset mk 20 0 (zfl (cpf g1 x d) y 26)) P → AW M_X6_take 0 87 [some (aR 19 0), some (aI (nI s)), some (aI (nI 0))] [] (mset mk 20 0 (zfl (cpf g1 x d) y 0)) P := by
      refine loopF 26 (fun i => ∀ P, AW M_X6_take 0 87 [some (aR 19 0), some (aI (nI s)), some (aI (nI i))] [] (mset mk 20 0 (zfl (cpf g1 x d) y i)) P → AW M_X6_take 0 87 [some (aR 19 0), some (aI (nI s)), some (aI (nI 0))] [] (mset mk 20 0 (zfl (cpf g1 x d) y 0)) P) (fun P h => h) ?_
      intro i hi ih P hP
      have ly := m_lays (μ := mset mk 20 0 (zfl (cpf g1 x d) y i)) (s := sS A - 1) (w := i) (v := 0) (by omega) hi
      rw [mset_s, mset_mset, ← ey, zfl1] at ly
      refine ih P (B_X6_take_87 ⟨fun q => absurd (show nI 26 ≤ nI i from q) (nI_ge hi (by decide)), fun _ => ⟨v1, ?_⟩⟩)
      rw [mset_s, show zfl (cpf g1 x d) y i (1 : Int32).toNatClampNeg = nI (sS A - 1) from c2 i, show (1 : Int32) = nI 1 from rfl, nI_add]
      exact ⟨_, ly, hP⟩
    rw [zfl0] at lp2
    refine ⟨mset mk 20 0 (zfl (cpf g1 x d) y 26), nI (sS A - 1), ?_, ⟨?_, Mf_of (Or.inr rfl) k2 (fun t o q => mset_n q)⟩, fun p q => by cases q; rfl⟩
    · refine MetA.of2 k_X6_take rfl (Nat.le_of_ble_eq_true rfl) rfl (B_X6_take_0 ?_)
      refine ⟨_, _, hs0, fun q => absurd q (by decide), fun _ => ⟨_, _, m_fails0, fun _ => ⟨_, k1, v1, v1, fun m e => ?_⟩, fun q => absurd rfl q⟩⟩
      rw [eg, show μ 20 0 (1 : Int32).toNatClampNeg = nI (sS A) from G.S, show (1 : Int32) = nI 1 from rfl, pk_sub (by omega), show (nI 1).toNatClampNeg = 1 from rfl, ← eg1] at e
      rw [e, show (22 : Int32) + 26 * nI s = nI x by rw [show (22 : Int32) = nI 22 from rfl, show (26 : Int32) = nI 26 from rfl, pk_mul, nI_add, ex]]
      refine lp1 _ (B_X6_take_48 ⟨v1, ?_⟩)
      rw [mset_s, show cpf g1 x d (1 : Int32).toNatClampNeg = nI (sS A - 1) from c1 d, iS]
      refine ⟨fun _ => lp2 _ (B_X6_take_87 ⟨fun _ => ⟨v1, rI_ok ?_ rfl⟩, fun q => absurd (show (26 : Int32) ≤ nI 26 by decide) q⟩), fun q => absurd (nI_le (Nat.le_refl _) (by omega)) q⟩
      rw [mset_s]
      exact c2 26
    · rw [mset_s]
      refine RM_take G hs (fun j q1 q2 => ?_) (c2 26) (fun j q1 q2 => ?_)
      · rw [zfl]
        by_cases c : y ≤ j ∧ j < y + 26
        · omega
        · rw [if_neg c, cpf, if_neg (by omega), eg1, uget, if_neg q1]
      · rw [zfl, if_neg (by omega), cpf, if_pos (by omega), eg1, uget, if_neg (by omega)]
theorem oSh_sLb (A : SP) (h v : Nat) : sLb (oSh A h v) = sLb A := rfl
theorem oCn_sLb (A : SP) (h v : Nat) : sLb (oCn A h v) = sLb A := rfl
/-- one misprint printed -/
theorem m_printOne {m : Mem} (G : RM (m 20 0) A) (hs : s < sS A) (hk : k < sLn A s) (hl : sLv A s k = 2) : ∃ m2 : Mem, RM (m2 20 0) (oPrint A s k) ∧ (∀ t o, ¬ (t = 20 ∧ o = 0) → m2 t o = m t o) ∧ ∀ (a1 : Int32) (P : RES → Mem → Prop), AW M_X6_edition 0 45 [some (aR 19 0), some (aI (a1 + nI (sLg A s k))), some (aI (nI s)), some (aI (nI (k + 1)))] [] m2 P → AW M_X6_edition 0 45 [some (aR 19 0), some (aI a1), some (aI (nI s)), some (aI (nI k))] [] m P := by
  have w := G.W.sm
  have w2 := G.W.ln hs
  have wo := G.W.ow hs
  have wh := G.W.hm
  have wc := G.W.cn wo
  have wsh := G.W.sh wo
  have wb := sBad_le G.W hs hk
  have wl := sLg_le (s := s) (k := k) G.W
  obtain ⟨h, eh⟩ : ∃ h, h = sOw A s := ⟨_, rfl⟩
  rw [← eh] at wo wc wsh
  have hb0 : ¬ sBad A s k = 0 := by rw [sBad_0 G.W hs hk]; omega
  -- shame
  have e1 : m 20 0 (10 + 3 * h + 1) = nI (sSh A h) := G.sh wo
  have gt1 := m_gets (μ := m) (h := h) (w := 1) (x := sSh A h) (y := sBad A s k) (by omega) (by decide) e1 (by omega)
  obtain ⟨g1, eg1⟩ : ∃ g1 : Nat → Int32, g1 = upd (m 20 0) (10 + 3 * h + 1) (nI (min 99 (sSh A h + sBad A s k))) := ⟨_, rfl⟩
  rw [← eg1] at gt1
  have G1 : RM g1 (oSh A h (min 99 (sSh A h + sBad A s k))) := RM_sh G wo (by omega) (fun j q => by rw [eg1, uget, if_neg q]) (by rw [eg1, uget, if_pos rfl])
  have G1' : RM (mset m 20 0 g1 20 0) (oSh A h (min 99 (sSh A h + sBad A s k))) := by rw [mset_s]; exact G1
  -- coins
  have e2 : mset m 20 0 g1 20 0 (10 + 3 * h + 0) = nI (sCn A h) := G1'.cn (h := h) wo
  have gt2 := m_gets (μ := mset m 20 0 g1) (h := h) (w := 0) (x := sCn A h) (y := sLg A s k) (by omega) (by decide) e2 (by omega)
  obtain ⟨g2, eg2⟩ : ∃ g2 : Nat → Int32, g2 = upd g1 (10 + 3 * h) (nI (min 99 (sCn A h + sLg A s k))) := ⟨_, rfl⟩
  rw [mset_s, mset_mset, Nat.add_zero, ← eg2] at gt2
  have G2 : RM g2 (oCn (oSh A h (min 99 (sSh A h + sBad A s k))) h (min 99 (sCn A h + sLg A s k))) := RM_cn G1 wo (by omega) (fun j q => by rw [eg2, uget, if_neg q]) (by rw [eg2, uget, if_pos rfl])
  have G2' : RM (mset m 20 0 g2 20 0) (oCn (oSh A h (min 99 (sSh A h + sBad A s k))) h (min 99 (sCn A h + sLg A s k))) := by rw [mset_s]; exact G2
  -- the mark
  have ly := m_lays (μ := mset m 20 0 g2) (s := s) (w := 18 + k) (v := 3) (by omega) (by omega)
  obtain ⟨g3, eg3⟩ : ∃ g3 : Nat → Int32, g3 = upd g2 (22 + 26 * s + (18 + k)) 3 := ⟨_, rfl⟩
  rw [mset_s, mset_mset, ← eg3, ← nI_add] at ly
  have G3 : RM g3 (oLv (oCn (oSh A h (min 99 (sSh A h + sBad A s k))) h (min 99 (sCn A h + sLg A s k))) s k 3) := RM_lv (s := s) (k := k) G2 hs hk (by decide) ⟨fun z => absurd z (by decide), fun z => absurd ((G.W.l0 hs hk).mpr z) (by omega)⟩ (fun j q => by rw [eg3, uget, if_neg q]) (by rw [eg3, uget, if_pos rfl]; rfl)
  have e5 : g3 5 = sC A 2 := G3.C (k := 2) (by decide)
  have v5 : vp_in 5 240 := vp_in_nI (n := 5) (by decide) (by decide)
  refine ⟨mset m 20 0 (upd g3 5 (sC A 2 + 1)), ?_, fun t o q => mset_n q, fun a1 P hP => B_X6_edition_45 ⟨_, _, m_ln G hs, fun q => absurd q (nI_ge hk (by omega)), fun _ => ⟨_, _, m_mark G hs hk, fun _ => ⟨_, _, m_ow G hs, _, _, m_bad G hs hk, ?_⟩, fun q => absurd (by rw [hl]; rfl) q⟩⟩⟩
  · rw [mset_s]
    unfold oPrint
    rw [← eh]
    exact RM_C (k := 2) G3 (by decide) (fun j q => by rw [uget, if_neg q]) (by rw [uget, if_pos rfl])
  · rw [← eh]
    have lg1 := m_laughs G1' (s := s) (k := k) hs hk (by show ¬ sLv A s k = 0; omega)
    have lg2 := m_laughs G2' (s := s) (k := k) hs hk (by show ¬ sLv A s k = 0; omega)
    have ow1 := m_ow G1' (s := s) hs
    rw [show sOw (oSh A h (min 99 (sSh A h + sBad A s k))) s = h from eh.symm] at ow1
    refine ⟨_, gt1, _, _, ow1, _, _, lg1, _, gt2, _, _, lg2, _, ly, v5, v5, fun m46 e46 => ?_⟩
    rw [mset_s, mset_mset, show g3 (5 : Int32).toNatClampNeg = sC A 2 from e5] at e46
    rw [e46, show (1 : Int32) = nI 1 from rfl, nI_add]
    exact hP
theorem sCntA_le32 (A : SP) : sm (fun s => sCnt A s 2 - sCnt A s 3) (sS A) + sCntA A 3 = sCntA A 2 := by
  refine sm_sub (f := fun s => sCnt A s 2) (g := fun s => sCnt A s 3) _ fun s hs => ?_
  have := sm_sub (f := fun i => bi (2 ≤ sLv A s i)) (g := fun i => bi (3 ≤ sLv A s i)) (sLn A s) (fun i _ => by show bi _ ≤ bi _; unfold bi; split <;> split <;> omega)
  show sCnt A s 3 ≤ sCnt A s 2
  unfold sCnt
  omega
theorem n_edition (G : RM (μ 20 0) A) (K : KH μ) : CI M_X6_edition [] μ A [2] (chEd A) := by
  have w := G.W.sm
  have v1 : vp_in 1 240 := vp_in_nI (n := 1) (by decide) (by decide)
  have v4 : vp_in 4 240 := vp_in_nI (n := 4) (by decide) (by decide)
  have v6 : vp_in 6 240 := vp_in_nI (n := 6) (by decide) (by decide)
  have hp := m_printable G
  have hc := sCntA_le32 A
  have hb := sCntA_le G.W 2
  unfold chEd CI
  by_cases c : sCntA A 2 = sCntA A 3
  · rw [if_pos c]
    rw [show sm (fun s => sCnt A s 2 - sCnt A s 3) (sS A) = 0 by omega] at hp
    refine ⟨rfM μ (nI 1) 8 (sC A 1), 0, ?_, Rf_rf (Or.inl rfl), fun p q => by cases q⟩
    refine MetA.of2 k_X6_edition rfl (Nat.le_of_ble_eq_true rfl) rfl (B_X6_edition_0 ?_)
    refine ⟨_, _, hp, fun q => absurd rfl q, fun _ => ⟨v4, ?_⟩⟩
    rw [show μ 20 0 (4 : Int32).toNatClampNeg = sC A 1 from G.C (k := 1) (by decide)]
    exact ⟨_, _, m_refuses, rI_ok rfl rfl⟩
  · rw [if_neg c]
    obtain ⟨mk, k1, k2⟩ := m_keeps (μ := μ) (t := 20) (Or.inl rfl) K G
    have eg : mk 20 0 = μ 20 0 := k2.g
    have key : ∃ m : Mem, RM (m 20 0) (edS A (sS A)).1 ∧ (∀ t o, ¬ (t = 20 ∧ o = 0) → m t o = mk t o) ∧ ∀ P, AW M_X6_edition 0 33 [some (aR 19 0), some (aI (nI (edS A (sS A)).2)), some (aI (nI (sS A))), none] [] m P → AW M_X6_edition 0 33 [some (aR 19 0), some (aI 0), some (aI 0), none] [] mk P := by
      refine loopF (sS A) (fun s => ∃ m : Mem, RM (m 20 0) (edS A s).1 ∧ (∀ t o, ¬ (t = 20 ∧ o = 0) → m t o = mk t o) ∧ ∀ P, AW M_X6_edition 0 33 [some (aR 19 0), some (aI (nI (edS A s).2)), some (aI (nI s)), none] [] m P → AW M_X6_edition 0 33 [some (aR 19 0), some (aI 0), some (aI 0), none] [] mk P) ⟨mk, by rw [eg]; exact G, fun _ _ _ => rfl, fun P h => h⟩ ?_
      intro s hs ⟨m, Gm, Fm, hm⟩
      have i1 := edS_inv A s
      have eS : sS (edS A s).1 = sS A := by show (edS A s).1.1.2.1 = A.1.2.1; rw [i1.1]
      have w2 := G.W.ln hs
      have inner : ∃ m' : Mem, RM (m' 20 0) (edK (edS A s) s (sLn A s)).1 ∧ (∀ t o, ¬ (t = 20 ∧ o = 0) → m' t o = mk t o) ∧ ∀ P, AW M_X6_edition 0 45 [some (aR 19 0), some (aI (nI (edK (edS A s) s (sLn A s)).2)), some (aI (nI s)), some (aI (nI (sLn A s)))] [] m' P → AW M_X6_edition 0 45 [some (aR 19 0), some (aI (nI (edS A s).2)), some (aI (nI s)), some (aI 0)] [] m P := by
        refine loopF (sLn A s) (fun k => ∃ m' : Mem, RM (m' 20 0) (edK (edS A s) s k).1 ∧ (∀ t o, ¬ (t = 20 ∧ o = 0) → m' t o = mk t o) ∧ ∀ P, AW M_X6_edition 0 45 [some (aR 19 0), some (aI (nI (edK (edS A s) s k).2)), some (aI (nI s)), some (aI (nI k))] [] m' P → AW M_X6_edition 0 45 [some (aR 19 0), some (aI (nI (edS A s).2)), some (aI (nI s)), some (aI 0)] [] m P) ⟨m, Gm, Fm, fun P h => h⟩ ?_
        intro k hk ⟨m1, G1, F1, h1⟩
        have i2 := edK_inv (edS A s) s k
        have e1 : sS (edK (edS A s) s k).1 = sS A := by show (edK (edS A s) s k).1.1.2.1 = A.1.2.1; rw [i2.1, i1.1]
        have e2 : sLn (edK (edS A s) s k).1 s = sLn A s := by rw [i2.2.1, i1.2.1]
        have hs' : s < sS (edK (edS A s) s k).1 := by omega
        have hk' : k < sLn (edK (edS A s) s k).1 s := by omega
        have w3 := G1.W.lv hs' hk'
        have L2 : (nI (sLv (edK (edS A s) s k).1 s k) = 2) = (sLv (edK (edS A s) s k).1 s k = 2) := by rw [n2, nI_eqI (by omega) (by decide)]
        rw [edK]
        by_cases c : sLv (edK (edS A s) s k).1 s k = 2
        · rw [if_pos c]
          obtain ⟨m2, x1, x2, x3⟩ := m_printOne G1 hs' hk' c
          refine ⟨m2, x1, fun t o q => (x2 t o q).trans (F1 t o q), fun P h => h1 P (x3 _ P ?_)⟩
          rw [nI_add]
          exact h
        · rw [if_neg c]
          have hl := m_ln G1 hs'
          rw [e2] at hl
          refine ⟨m1, G1, F1, fun P h => h1 P (B_X6_edition_45 ⟨_, _, hl, fun q => absurd q (nI_ge hk (by omega)), fun _ => ⟨_, _, m_mark G1 hs' hk', fun q => absurd (L2.mp q) c, fun _ => ?_⟩⟩)⟩
          rw [show (1 : Int32) = nI 1 from rfl, nI_add]
          exact h
      obtain ⟨m', G', F', h'⟩ := inner
      refine ⟨m', by rw [edS]; exact G', F', fun P h => hm P (B_X6_edition_33 ⟨v1, ?_⟩)⟩
      rw [show m 20 0 (1 : Int32).toNatClampNeg = nI (sS A) from by rw [← eS]; exact Gm.S]
      refine ⟨fun q => absurd q (nI_ge hs (by omega)), fun _ => h' P ?_⟩
      have i2 := edK_inv (edS A s) s (sLn A s)
      have e1 : sS (edK (edS A s) s (sLn A s)).1 = sS A := by show (edK (edS A s) s (sLn A s)).1.1.2.1 = A.1.2.1; rw [i2.1, i1.1]
      have e2 : sLn (edK (edS A s) s (sLn A s)).1 s = sLn A s := by rw [i2.2.1, i1.2.1]
      have hl := m_ln G' (s := s) (by omega)
      rw [e2] at hl
      refine B_X6_edition_45 ⟨_, _, hl, fun _ => ?_, fun q => absurd (nI_le (Nat.le_refl _) (by omega)) q⟩
      rw [show (1 : Int32) = nI 1 from rfl, nI_add]
      exact h
    obtain ⟨m, Gm, Fm, hm⟩ := key
    have i1 := edS_inv A (sS A)
    have eS : m 20 0 (1 : Int32).toNatClampNeg = nI (sS A) := by
      have : m 20 0 1 = nI (sS (edS A (sS A)).1) := Gm.S
      rw [show sS (edS A (sS A)).1 = sS A from by show (edS A (sS A)).1.1.2.1 = A.1.2.1; rw [i1.1]] at this
      exact this
    have f6 : m 20 0 6 = sC A 3 := by rw [← i1.2.2.2]; exact Gm.C (k := 3) (by decide)
    have f4 : m 20 0 4 = sC A 1 := by rw [← i1.2.2.1]; exact Gm.C (k := 1) (by decide)
    refine ⟨mset m 20 0 (upd (upd (m 20 0) 6 (sC A 3 + nI (edS A (sS A)).2)) 4 (sC A 1 + 1)), nI (edS A (sS A)).2, ?_, ⟨?_, Mf_of (Or.inl rfl) k2 (fun t o q => by rw [mset_n q]; exact Fm t o q)⟩, fun p q => by cases q; rfl⟩
    · refine MetA.of2 k_X6_edition rfl (Nat.le_of_ble_eq_true rfl) rfl (B_X6_edition_0 ?_)
      refine ⟨_, _, hp, fun _ => ⟨_, k1, hm _ (B_X6_edition_33 ⟨v1, ?_⟩)⟩, fun q => absurd q (by rw [nI_z (by omega)]; omega)⟩
      rw [eS]
      refine ⟨fun _ => ⟨v6, v6, fun m8 e8 => ⟨v4, v4, fun m14 e14 => rI_ok rfl ?_⟩⟩, fun q => absurd (nI_le (Nat.le_refl _) (by omega)) q⟩
      rw [show m 20 0 (6 : Int32).toNatClampNeg = sC A 3 from f6, show (6 : Int32).toNatClampNeg = 6 from rfl] at e8
      rw [e8, mset_s, mset_mset] at e14
      rw [e14]
      congr 1
      show upd _ 4 (upd _ 6 _ 4 + 1) = _
      rw [uget, if_neg (by decide), f4]
    · rw [mset_s]
      unfold oEd
      refine RM_C (k := 3) (g := upd (m 20 0) 4 (sC A 1 + 1)) (RM_C (k := 1) Gm (by decide) (fun j q => by rw [uget, if_neg q]) (by rw [uget, if_pos rfl])) (by decide) (fun j q => ?_) ?_
      · rw [uget, uget, uget, if_neg (show ¬ j = 6 from q)]
      · rw [uget, if_neg (by decide), uget, if_pos rfl]
theorem n_day (G : RM (μ 20 0) A) (K : KH μ) : CI M_X6_day [] μ A [] (chDay A) := by
  have w := G.W.hm
  have v0 : vp_in 0 240 := vp_in_nI (n := 0) (by decide) (by decide)
  have v3 : vp_in 3 240 := vp_in_nI (n := 3) (by decide) (by decide)
  obtain ⟨mk, k1, k2⟩ := m_keeps (μ := μ) (t := 20) (Or.inl rfl) K G
  have eg : mk 20 0 = μ 20 0 := k2.g
  have key : ∃ m : Mem, RM (m 20 0) (oDayN A (sH A)) ∧ (∀ t o, ¬ (t = 20 ∧ o = 0) → m t o = mk t o) ∧ ∀ P, AW M_X6_day 0 12 [some (aR 19 0), some (aI (nI (sm (fun h => bi (20 < sSh (oDay A) h)) (sH A)))), some (aI (nI (sH A)))] [] m P → AW M_X6_day 0 12 [some (aR 19 0), some (aI 0), some (aI 0)] [] mk P := by
    refine loopF (sH A) (fun h => ∃ m : Mem, RM (m 20 0) (oDayN A h) ∧ (∀ t o, ¬ (t = 20 ∧ o = 0) → m t o = mk t o) ∧ ∀ P, AW M_X6_day 0 12 [some (aR 19 0), some (aI (nI (sm (fun h => bi (20 < sSh (oDay A) h)) h))), some (aI (nI h))] [] m P → AW M_X6_day 0 12 [some (aR 19 0), some (aI 0), some (aI 0)] [] mk P) ⟨mk, by rw [eg]; exact G, fun _ _ _ => rfl, fun P h => h⟩ ?_
    intro h hh ⟨m, Gm, Fm, hm⟩
    have eH : sH (oDayN A h) = sH A := oDayN_H A h
    have hh' : h < sH (oDayN A h) := by omega
    have wc := Gm.W.cn hh'
    have wsh := Gm.W.sh hh'
    have eS0 : m 20 0 (0 : Int32).toNatClampNeg = nI (sH A) := by
      have : m 20 0 0 = nI (sH (oDayN A h)) := Gm.H
      rw [eH] at this
      exact this
    obtain ⟨g1, eg1⟩ : ∃ g1 : Nat → Int32, g1 = upd (m 20 0) (10 + 3 * h + 1) (nI (sSh (oDayN A h) h - 1)) := ⟨_, rfl⟩
    have G1 : RM g1 (oSh (oDayN A h) h (sSh (oDayN A h) h - 1)) := RM_sh Gm hh' (by omega) (fun j q => by rw [eg1, uget, if_neg q]) (by rw [eg1, uget, if_pos rfl])
    have G1' : RM (mset m 20 0 g1 20 0) (oSh (oDayN A h) h (sSh (oDayN A h) h - 1)) := by rw [mset_s]; exact G1
    have e2 : mset m 20 0 g1 20 0 (10 + 3 * h + 0) = nI (sCn (oDayN A h) h) := G1'.cn (h := h) hh'
    have gt2 := m_gets (μ := mset m 20 0 g1) (h := h) (w := 0) (x := sCn (oDayN A h) h) (y := 1) (by omega) (by decide) e2 (by omega)
    obtain ⟨g2, eg2⟩ : ∃ g2 : Nat → Int32, g2 = upd g1 (10 + 3 * h) (nI (min 99 (sCn (oDayN A h) h + 1))) := ⟨_, rfl⟩
    rw [mset_s, mset_mset, Nat.add_zero, ← eg2] at gt2
    have G2 : RM g2 (oDayN A (h + 1)) := RM_cn G1 hh' (by omega) (fun j q => by rw [eg2, uget, if_neg q]) (by rw [eg2, uget, if_pos rfl])
    have G2' : RM (mset m 20 0 g2 20 0) (oDayN A (h + 1)) := by rw [mset_s]; exact G2
    have as := m_isAshamed G2' (h := h) (by rw [oDayN_H]; exact hh)
    have es : sSh (oDayN A (h + 1)) h = sSh (oDay A) h := by
      show _ = sSh (oDayN A (sH A)) h
      rw [oDayN_sh, oDayN_sh, if_pos (by omega), if_pos hh]
    rw [es] at as
    refine ⟨mset m 20 0 g2, G2', fun t o q => by rw [mset_n q]; exact Fm t o q, fun P hP => hm P (B_X6_day_12 ⟨v0, ?_⟩)⟩
    rw [eS0]
    refine ⟨fun q => absurd q (nI_ge hh (by omega)), fun _ => ⟨_, _, m_sh Gm hh', ?_⟩⟩
    have z0 : (nI (sSh (oDayN A h) h) ≤ 0) = (sSh (oDayN A h) h ≤ 0) := by rw [n0, nI_leI (by omega) (by decide)]
    have fin : ∀ r : Int32, r = nI (bi (20 < sSh (oDay A) h)) → ((r = 0 → AW M_X6_day 0 12 [some (aR 19 0), some (aI (nI (sm (fun h => bi (20 < sSh (oDay A) h)) h) + 0)), some (aI (nI h + 1))] [] (mset m 20 0 g2) P) ∧ (¬ r = 0 → AW M_X6_day 0 12 [some (aR 19 0), some (aI (nI (sm (fun h => bi (20 < sSh (oDay A) h)) h) + 1)), some (aI (nI h + 1))] [] (mset m 20 0 g2) P)) := by
      intro r er
      rw [sm] at hP
      rw [er, Int32.add_zero, show (1 : Int32) = nI 1 from rfl, nI_add, nI_add]
      by_cases c : 20 < sSh (oDay A) h
      · rw [bi_t c] at hP ⊢
        exact ⟨fun q => absurd q (by decide), fun _ => hP⟩
      · rw [bi_f c] at hP ⊢
        exact ⟨fun _ => hP, fun q => absurd rfl q⟩
    rw [z0]
    refine ⟨fun q => ?_, fun q => ?_⟩
    · have e0 : mset m 20 0 g1 = m := by
        rw [eg1, show sSh (oDayN A h) h - 1 = sSh (oDayN A h) h by omega, ← Gm.sh hh', show upd (m 20 0) (10 + 3 * h + 1) (m 20 0 (10 + 3 * h + 1)) = m 20 0 from funext fun j => by
          rw [uget]
          split
          · rename_i e; rw [e]
          · rfl, mset_id]
      rw [e0] at gt2
      exact ⟨_, gt2, _, _, as, fin _ rfl⟩
    · have ad := m_adds (μ := m) (h := h) (w := 1) (v := -1) (by omega) (by decide)
      rw [show m 20 0 (10 + 3 * h + 1) = nI (sSh (oDayN A h) h) from Gm.sh hh', nm1, nI_addneg (by omega), ← eg1, ← nm1] at ad
      exact ⟨_, ad, _, gt2, _, _, as, fin _ rfl⟩
  obtain ⟨m, Gm, Fm, hm⟩ := key
  have eS0 : m 20 0 (0 : Int32).toNatClampNeg = nI (sH A) := by
    have : m 20 0 0 = nI (sH (oDayN A (sH A))) := Gm.H
    rw [oDayN_H] at this
    exact this
  have f3 : m 20 0 3 = sC A 0 := by
    have : m 20 0 (3 + 0) = sC (oDayN A (sH A)) 0 := Gm.C (k := 0) (by decide)
    rw [oDayN_C] at this
    exact this
  refine ⟨mset m 20 0 (upd (m 20 0) 3 (sC A 0 + 1)), nI (sm (fun h => bi (20 < sSh (oDay A) h)) (sH A)), ?_, ⟨?_, Mf_of (Or.inl rfl) k2 (fun t o q => by rw [mset_n q]; exact Fm t o q)⟩, fun p q => by cases q; rfl⟩
  · refine MetA.of2 k_X6_day rfl (Nat.le_of_ble_eq_true rfl) rfl (B_X6_day_0 ?_)
    refine ⟨_, k1, hm _ (B_X6_day_12 ⟨v0, ?_⟩)⟩
    rw [eS0]
    refine ⟨fun _ => ⟨v3, v3, fun m8 e8 => rI_ok rfl ?_⟩, fun q => absurd (nI_le (Nat.le_refl _) (by omega)) q⟩
    rw [e8, show m 20 0 (3 : Int32).toNatClampNeg = sC A 0 from f3]
    rfl
  · rw [mset_s]
    exact RM_C (k := 0) (A := oDayN A (sH A)) Gm (by decide) (fun j q => by rw [uget, if_neg q]) (by rw [uget, if_pos rfl])
end RG
