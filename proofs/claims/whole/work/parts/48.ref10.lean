/-! the reference: accounts, what is well, undo, snapshot -/
section RJ
variable {μ : Mem} {A : SP} {T : TT}
theorem q_account {a : Int32} (H : TM μ T) : CM M_X6_account [aI a] μ [1] (qAc T a) T := by
  have G := H.1
  have e2 := H.2.2.2.2.1.2.1
  have b2 := H.2.1.2.1
  unfold qAc
  rcases bnd a (n := 14) (by decide) with c | ⟨k, hk, rfl⟩
  · rw [if_pos c]
    refine CM.f1 (v := 0) H ?_
    refine MetA.of2 k_X6_account rfl (Nat.le_of_ble_eq_true rfl) rfl (B_X6_account_0 ?_)
    refine ⟨_, _, m_in, fun _ => B_X6_account_16 ⟨_, _, m_failsc (by decide), fun q => absurd q (by decide), fun _ => rI_ok rfl rfl⟩, fun q => ?_⟩
    rw [show (14 : Int32) = nI 14 from rfl, bi_f (fun z => z c)] at q
    exact absurd rfl q
  · rw [if_neg (bnd_no hk (by decide)), nI_clamp (by omega)]
    have Gf := fG (c := 0) G
    have ti : (nI k).toInt = (k : Int) := nI_toInt (by omega)
    have f14 : faM μ 0 19 0 14 = nI (tIn T) := by rw [faM, mset_s]; exact e2
    have f5 : faM μ 0 19 0 5 = nI (tHn T) := by rw [faM, mset_s]; exact b2
    have z13 : (nI k = 13) = (k = 13) := nI_eqI (b := 13) (by omega) (by decide)
    have z14 : (nI k = 14) = (k = 14) := nI_eqI (b := 14) (by omega) (by decide)
    have e : (if nI k = 13 then (.inl (nI (tIn T)) : AN) else if nI k = 14 then .inl (nI (tHn T)) else .inl (sAc (tA T) k)) = .inl (if k = 13 then nI (tIn T) else if k = 14 then nI (tHn T) else sAc (tA T) k) := by
      by_cases c1 : k = 13
      · rw [if_pos c1, if_pos (by rw [z13]; exact c1)]
      · rw [if_neg c1, if_neg (by rw [z13]; exact c1)]
        by_cases c2 : k = 14
        · rw [if_pos c2, if_pos (by rw [z14]; exact c2)]
        · rw [if_neg c2, if_neg (by rw [z14]; exact c2)]
    rw [e]
    refine CM.f0 H ?_
    have v : ∀ i, i < 240 → vp_in (nI i) 240 := fun i hi => vp_in_nI hi (by decide)
    have cz : ∀ i, i < 240 → (nI i).toNatClampNeg = i := fun i hi => nI_clamp (by omega)
    refine MetA.of2 k_X6_account rfl (Nat.le_of_ble_eq_true rfl) rfl (B_X6_account_0 ?_)
    refine ⟨_, _, m_in, fun q => ?_, fun _ => B_X6_account_16 ⟨_, _, m_fails0, fun _ => ?_, fun q => absurd rfl q⟩⟩
    · rw [show (14 : Int32) = nI 14 from rfl, bi_t (bnd_no hk (by decide))] at q
      exact absurd q (by decide)
    rw [ti]
    refine ⟨fun q => ?_, fun q => ⟨v 5 (by decide), rI_ok ?_ rfl⟩, fun q => ⟨v 6 (by decide), rI_ok ?_ rfl⟩, fun q => ⟨v 7 (by decide), rI_ok ?_ rfl⟩, fun q => ⟨v 8 (by decide), rI_ok ?_ rfl⟩, fun q => ⟨_, _, m_summed0 Gf, rI_ok ?_ rfl⟩, fun q => rI_ok ?_ rfl, fun q => rI_ok ?_ rfl, fun q1 q2 q3 q4 q5 q6 q7 q8 q9 q10 => ⟨v k (by omega), rI_ok ?_ rfl⟩⟩
    · have ha := m_all (lv := k - 4) Gf (by omega)
      rw [show nI (k - 4) = nI k - 4 by rw [show (4 : Int32) = nI 4 from rfl, pk_sub (by omega)]] at ha
      refine ⟨_, _, ha, rI_ok ?_ rfl⟩
      rcases (show k = 5 ∨ k = 6 ∨ k = 7 by omega) with rfl | rfl | rfl <;> rfl
    · obtain rfl : k = 8 := by omega
      exact Gf.C (k := 2) (by decide)
    · obtain rfl : k = 9 := by omega
      exact Gf.C (k := 3) (by decide)
    · obtain rfl : k = 10 := by omega
      exact Gf.C (k := 4) (by decide)
    · obtain rfl : k = 11 := by omega
      exact Gf.F
    · obtain rfl : k = 12 := by omega
      rfl
    · obtain rfl : k = 13 := by omega
      exact f14
    · obtain rfl : k = 14 := by omega
      exact f5
    · rw [cz k (by omega)]
      rcases (show k = 0 ∨ k = 1 ∨ k = 2 ∨ k = 3 ∨ k = 4 by omega) with rfl | rfl | rfl | rfl | rfl
      · exact Gf.H
      · exact Gf.S
      · exact Gf.R
      · exact Gf.C (k := 0) (by decide)
      · exact Gf.C (k := 1) (by decide)
theorem q_isWell (H : TM μ T) : CM M_X6_isWell [] μ [] (.inl 1) T := by
  have G := H.1
  have w := G.W.sm
  have v1 : vp_in 1 240 := vp_in_nI (n := 1) (by decide) (by decide)
  have Gf := c8G (c := 0) G
  have eS : c8 μ 0 20 0 (1 : Int32).toNatClampNeg = nI (sS (tA T)) := Gf.S
  refine CM.c0 H ?_
  refine MetA.of2 k_X6_isWell rfl (Nat.le_of_ble_eq_true rfl) rfl (B_X6_isWell_0 ?_)
  intro m e
  rw [show m = c8 μ 0 from e]
  refine loopN (sS (tA T)) (fun s => AW M_X6_isWell 0 7 [some (aR 19 0), some (aI (nI s)), none] [] (c8 μ 0) _) ?_ ?_
  · refine B_X6_isWell_7 ⟨v1, ?_⟩
    rw [eS]
    exact ⟨fun _ => rI_ok rfl rfl, fun q => absurd (nI_le (Nat.le_refl _) (by omega)) q⟩
  · intro s hs ih
    have w2 := G.W.ln hs
    refine B_X6_isWell_7 ⟨v1, ?_⟩
    rw [eS]
    refine ⟨fun q => absurd q (nI_ge hs (by omega)), fun _ => ?_⟩
    refine loopN (sLn (tA T) s) (fun k => AW M_X6_isWell 0 19 [some (aR 19 0), some (aI (nI s)), some (aI (nI k))] [] (c8 μ 0) _) ?_ ?_
    · refine B_X6_isWell_19 ⟨_, _, m_ln Gf hs, fun _ => ?_, fun q => absurd (nI_le (Nat.le_refl _) (by omega)) q⟩
      rw [show (1 : Int32) = nI 1 from rfl, nI_add]
      exact ih
    · intro k hk ih2
      have w3 := G.W.lv hs hk
      have w4 := sBad_le G.W hs hk
      have w5 := sBad_0 G.W hs hk
      have z1 : (nI (sLv (tA T) s k) ≤ 0) = (sLv (tA T) s k = 0) := by rw [n0, nI_leI (by omega) (by decide)]; exact propext Nat.le_zero
      have z2 : (nI (sBad (tA T) s k) ≤ 0) = (sBad (tA T) s k = 0) := by rw [n0, nI_leI (by omega) (by decide)]; exact propext Nat.le_zero
      have nx : AW M_X6_isWell 0 19 [some (aR 19 0), some (aI (nI s)), some (aI (nI k + 1))] [] (c8 μ 0) (rI 1 (c8 μ 0)) := by
        rw [show (1 : Int32) = nI 1 from rfl, nI_add]
        exact ih2
      refine B_X6_isWell_19 ⟨_, _, m_ln Gf hs, fun q => absurd q (nI_ge hk (by omega)), fun _ => ⟨_, _, m_mark Gf hs hk, ?_⟩⟩
      rw [z1]
      refine ⟨fun q => ⟨_, _, m_bad Gf hs hk, ?_⟩, fun q => ⟨_, _, m_bad Gf hs hk, ?_⟩⟩
      · rw [z2]
        exact ⟨fun _ => ⟨fun _ => nx, fun z => absurd rfl z⟩, fun z => absurd (w5.mpr q) z⟩
      · rw [z2]
        exact ⟨fun z => absurd (w5.mp z) q, fun _ => ⟨fun _ => nx, fun z => absurd rfl z⟩⟩
theorem TM.chg {μ' : Mem} {A' : SP} {f : Nat → SP} {n : Nat} {b : Bool} {S : SP} (H : TM μ T) (s1 : ∀ t o, ¬ (t = 19 ∧ o = 0) → ¬ (t = 20 ∧ o = 0) → ¬ (t = 22 ∧ o = 0) → μ' t o = μ t o) (s2 : ∀ k, k ≠ 4 → k ≠ 5 → k ≠ 7 → k ≠ 8 → μ' 19 0 k = μ 19 0 k) (hA : RM (μ' 20 0) A') (hn : n ≤ 8) (h5 : μ' 19 0 5 = nI n) (hf : ∀ i, i < n → RM (fun k => μ 21 0 (240 * i + k)) (f i)) (hb : μ' 19 0 4 = (if b then 1 else 0)) (hS : b = true → RM (μ' 22 0) S) : TM μ' (A', (f, n), (b, S), T.2.2.2) := by
  obtain ⟨_, _, _, ⟨d1, d2, d3, d4⟩, ⟨e1, e2, e3⟩, f0, ⟨g1, g2, g3⟩, z⟩ := H
  have r : ∀ k, 9 ≤ k ∨ k = 6 → μ' 19 0 k = μ 19 0 k := fun k h => s2 k (by omega) (by omega) (by omega) (by omega)
  refine ⟨hA, ⟨hn, h5, fun i hi => ?_⟩, ⟨hb, hS⟩, ⟨by rw [r 9 (by omega)]; exact d1, by rw [r 10 (by omega)]; exact d2, by rw [r 11 (by omega)]; exact d3, by rw [r 12 (by omega)]; exact d4⟩, ⟨e1, by rw [r 14 (by omega)]; exact e2, fun i hi => by rw [s1 24 0 (by omega) (by omega) (by omega)]; exact e3 i hi⟩, by rw [r 15 (by omega)]; exact f0, ⟨g1, by rw [r 17 (by omega)]; exact g2, fun i hi => by rw [s1 25 0 (by omega) (by omega) (by omega)]; exact g3 i hi⟩, by rw [r 6 (by omega)]; exact z⟩
  show RM (fun k => μ' 21 0 (240 * i + k)) (f i)
  rw [s1 21 0 (by omega) (by omega) (by omega)]
  exact hf i hi
theorem Mo.of {μ' : Mem} (s1 : ∀ t o, ¬ (t = 19 ∧ o = 0) → ¬ (t = 20 ∧ o = 0) → ¬ (t = 22 ∧ o = 0) → μ' t o = μ t o) : Mo μ μ' := fun t ht => by
  funext o
  exact s1 t o (by omega) (by omega) (by omega)
theorem q_undo (H : TM μ T) : CM M_X6_undo [] μ [3] (qUn T).1 (qUn T).2 := by
  obtain ⟨b1, b2, b3⟩ := H.2.1
  have c1 := H.2.2.1.1
  have c2 := H.2.2.1.2
  have z0 : (μ 19 0 5 = 0) = (tHn T = 0) := by rw [b2, nI_z (by omega)]
  unfold qUn
  by_cases c : tHn T = 0
  · rw [if_pos c]
    refine CM.f1 (v := 0) H ?_
    refine MetA.of2 k_X6_undo rfl (Nat.le_of_ble_eq_true rfl) rfl (B_X6_undo_0 ?_)
    rw [z0]
    exact ⟨fun q => absurd c q, fun _ => ⟨_, _, m_failsc (by decide), fun q => absurd q (by decide), fun _ => rI_ok rfl rfl⟩⟩
  · rw [if_neg c]
    obtain ⟨m1, e1⟩ : ∃ m1 : Mem, m1 = mset (faM μ 0) 19 0 (upd (faM μ 0 19 0) 5 (nI (tHn T - 1))) := ⟨_, rfl⟩
    have f5 : faM μ 0 19 0 5 = nI (tHn T) := by rw [faM, mset_s]; exact b2
    have g5 : m1 19 0 5 = nI (tHn T - 1) := by rw [e1, mset_s]; rfl
    have x21 : m1 21 0 = μ 21 0 := by rw [e1, mset_t (by decide)]; exact faM_t (by decide)
    obtain ⟨m2, e2⟩ : ∃ m2 : Mem, m2 = cpR m1 21 (240 * (tHn T - 1)) 20 0 240 := ⟨_, rfl⟩
    have x19 : m2 19 0 = m1 19 0 := by rw [e2]; exact mset_t (by decide)
    have s1 : ∀ t o, ¬ (t = 19 ∧ o = 0) → ¬ (t = 20 ∧ o = 0) → m2 t o = μ t o := fun t o x y => by rw [e2, cpR, mset_n y, e1, mset_n x]; exact mset_n x
    have s2 : ∀ k, k ≠ 5 → k ≠ 7 → k ≠ 8 → m2 19 0 k = μ 19 0 k := fun k x y u => by rw [x19, e1, mset_s, uget, if_neg x, faM, mset_s, uget, if_neg y, uget, if_neg u]
    have x20 : RM (m2 20 0) (tHf T (tHn T - 1)) := by
      refine RM.cong (fun i hi => ?_) (b3 (tHn T - 1) (by omega))
      rw [e2, cpR, mset_s]
      show (if _ then _ else _) = _
      rw [if_pos (by omega), x21, Nat.sub_zero]
    refine ⟨m2, nI (tHn T - 1), ?_, TM.chg H (fun t o x y _ => s1 t o x y) (fun k _ x y u => s2 k x y u) x20 (by omega) (by rw [x19]; exact g5) (fun i hi => b3 i (by omega)) (by rw [s2 4 (by decide) (by decide) (by decide)]; exact c1) (fun q => by rw [s1 22 0 (by omega) (by omega)]; exact c2 q), Mo.of fun t o x y _ => s1 t o x y, ?_, fun x q => by cases q; rfl⟩
    · refine MetA.of2 k_X6_undo rfl (Nat.le_of_ble_eq_true rfl) rfl (B_X6_undo_0 ?_)
      rw [z0]
      refine ⟨fun _ => ⟨_, _, m_fails0, fun _ m em => ?_, fun q => absurd rfl q⟩, fun q => absurd q c⟩
      rw [f5, show (1 : Int32) = nI 1 from rfl, pk_sub (by omega), ← e1] at em
      rw [em, g5, show (240 : Int32) = nI 240 from rfl, pk_mul]
      have cp := m_copies (μ := m1) (t := 21) (x := 240 * (tHn T - 1)) (t2 := 20) (y := 0) rfl rfl rfl rfl (by decide) (by show _ ≤ 1920; omega) (by decide) (by decide)
      rw [← e2] at cp
      exact ⟨_, cp, rI_ok (by rw [x19]; exact g5) rfl⟩
    · rw [x19, e1, mset_s, uget, if_neg (by decide), faM, mset_s]
      rfl
theorem q_save (H : TM μ T) : CM M_X6_save [] μ [] (.inl (nI (sS (tA T)))) (tA T, T.2.1, (true, tA T), T.2.2.2) := by
  have G := H.1
  obtain ⟨b1, b2, b3⟩ := H.2.1
  obtain ⟨m1, e1⟩ : ∃ m1 : Mem, m1 = mset (c8 μ 0) 19 0 (upd (c8 μ 0 19 0) 4 1) := ⟨_, rfl⟩
  obtain ⟨m2, e2⟩ : ∃ m2 : Mem, m2 = cpR m1 20 0 22 0 240 := ⟨_, rfl⟩
  have x19 : m2 19 0 = m1 19 0 := by rw [e2]; exact mset_t (by decide)
  have y20 : m1 20 0 = μ 20 0 := by rw [e1, mset_t (by decide)]; exact mset_t (by decide)
  have s1 : ∀ t o, ¬ (t = 19 ∧ o = 0) → ¬ (t = 22 ∧ o = 0) → m2 t o = μ t o := fun t o x y => by rw [e2, cpR, mset_n y, e1, mset_n x]; exact mset_n x
  have s2 : ∀ k, k ≠ 4 → k ≠ 8 → m2 19 0 k = μ 19 0 k := fun k x y => by rw [x19, e1, mset_s, uget, if_neg x, c8, mset_s, uget, if_neg y]
  have x20 : RM (m2 20 0) (tA T) := by rw [s1 20 0 (by omega) (by omega)]; exact G
  have x22 : RM (m2 22 0) (tA T) := by
    refine RM.cong (fun i hi => ?_) G
    rw [e2, cpR, mset_s]
    show (if _ then _ else _) = _
    rw [if_pos (by omega), y20, Nat.sub_zero, Nat.zero_add]
  refine ⟨m2, nI (sS (tA T)), ?_, TM.chg (f := tHf T) (n := tHn T) H (fun t o x _ y => s1 t o x y) (fun k x _ _ y => s2 k x y) x20 b1 (by rw [s2 5 (by decide) (by decide)]; exact b2) b3 (by rw [x19, e1, mset_s]; rfl) (fun _ => x22), Mo.of fun t o x _ y => s1 t o x y, ?_, fun x q => by cases q; rfl⟩
  · refine MetA.of2 k_X6_save rfl (Nat.le_of_ble_eq_true rfl) rfl (B_X6_save_0 ?_)
    intro m em m' em'
    rw [show m = c8 μ 0 from em, ← e1] at em'
    rw [em']
    have cp := m_copies (μ := m1) (t := 20) (x := 0) (t2 := 22) (y := 0) rfl rfl rfl rfl (by decide) (by decide) (by decide) (by decide)
    rw [← e2] at cp
    exact ⟨_, cp, vp_in_nI (n := 1) (by decide) (by decide), rI_ok x20.S rfl⟩
  · rw [x19, e1, mset_s, uget, if_neg (by decide), c8, mset_s]
    rfl
theorem q_restore (H : TM μ T) : CM M_X6_restore [] μ [3] (qRs T).1 (qRs T).2 := by
  obtain ⟨c1, c2⟩ := H.2.2.1
  unfold qRs
  by_cases c : tSb T = true
  · rw [if_pos c]
    have z1 : ¬ μ 19 0 4 = 0 := by rw [c1, if_pos c]; decide
    have G2 := c2 c
    obtain ⟨m1, e1⟩ : ∃ m1 : Mem, m1 = cpR (faM μ 0) 22 0 20 0 240 := ⟨_, rfl⟩
    obtain ⟨m2, e2⟩ : ∃ m2 : Mem, m2 = mset m1 19 0 (upd (m1 19 0) 5 0) := ⟨_, rfl⟩
    have x19 : m1 19 0 = faM μ 0 19 0 := by rw [e1]; exact mset_t (by decide)
    have s1 : ∀ t o, ¬ (t = 19 ∧ o = 0) → ¬ (t = 20 ∧ o = 0) → m2 t o = μ t o := fun t o x y => by rw [e2, mset_n x, e1, cpR, mset_n y]; exact mset_n x
    have s2 : ∀ k, k ≠ 5 → k ≠ 7 → k ≠ 8 → m2 19 0 k = μ 19 0 k := fun k x y u => by rw [e2, mset_s, uget, if_neg x, x19, faM, mset_s, uget, if_neg y, uget, if_neg u]
    have x20 : RM (m2 20 0) (tSs T) := by
      refine RM.cong (fun i hi => ?_) G2
      rw [e2, mset_t (by decide), e1, cpR, mset_s]
      show (if _ then _ else _) = _
      rw [if_pos (by omega), faM_t (by decide), Nat.sub_zero, Nat.zero_add]
    refine ⟨m2, nI (sS (tSs T)), ?_, TM.chg (f := tHf T) (n := 0) (b := tSb T) (S := tSs T) H (fun t o x y _ => s1 t o x y) (fun k _ x y u => s2 k x y u) x20 (by omega) (by rw [e2, mset_s]; rfl) (fun i hi => absurd hi (Nat.not_lt_zero _)) (by rw [s2 4 (by decide) (by decide) (by decide)]; exact c1) (fun q => by rw [s1 22 0 (by omega) (by omega)]; exact c2 q), Mo.of fun t o x y _ => s1 t o x y, ?_, fun x q => by cases q; rfl⟩
    · refine MetA.of2 k_X6_restore rfl (Nat.le_of_ble_eq_true rfl) rfl (B_X6_restore_0 ?_)
      refine ⟨fun q => absurd q z1, fun _ => ⟨_, _, m_fails0, fun _ => ?_, fun q => absurd rfl q⟩⟩
      have cp := m_copies (μ := faM μ 0) (t := 22) (x := 0) (t2 := 20) (y := 0) rfl rfl rfl rfl (by decide) (by decide) (by decide) (by decide)
      rw [← e1] at cp
      refine ⟨_, cp, fun m em => ?_⟩
      rw [← e2] at em
      rw [em]
      exact ⟨vp_in_nI (n := 1) (by decide) (by decide), rI_ok x20.S rfl⟩
    · rw [e2, mset_s, uget, if_neg (by decide), x19, faM, mset_s]
      rfl
  · rw [if_neg c]
    refine CM.f1 (v := 0) H ?_
    refine MetA.of2 k_X6_restore rfl (Nat.le_of_ble_eq_true rfl) rfl (B_X6_restore_0 ?_)
    rw [c1, if_neg c]
    exact ⟨fun _ => ⟨_, _, m_failsc (by decide), fun q => absurd q (by decide), fun _ => rI_ok rfl rfl⟩, fun q => absurd rfl q⟩
end RJ
