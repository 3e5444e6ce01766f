/-! the reference asked, the rest -/
theorem ge_0 {a : Nat} (h : a < 2 ^ 31) : ¬ nI a ≤ -1 := fun q => absurd (Int32.lt_of_le_of_lt q (show (-1 : Int32) < 0 by decide)) (nI_pos h)
section RI
variable {μ : Mem} {A : SP} {T : TT} {L : LT}
theorem q_wouldShame {a : Int32} (H : TM μ T) : CM M_X6_wouldShame [aI a] μ [0] (qHs (tA T) a fun h => nI (min 99 (sSh (tA T) h + sStc (tA T) h))) T := by
  have G := H.1
  have w := G.W.hm
  have ws := G.W.sm
  have hh := m_isHouse (a := a) G
  have Gf := fG (c := 0) G
  have v1 : vp_in 1 240 := vp_in_nI (n := 1) (by decide) (by decide)
  have eS : faM μ 0 20 0 (1 : Int32).toNatClampNeg = nI (sS (tA T)) := Gf.S
  unfold qHs
  rcases hs_or G.W a with c | ⟨h, hh2, rfl⟩
  · rw [if_pos c]
    rw [bi_f (fun z => z c)] at hh
    refine CM.f1 (v := 0) H ?_
    refine MetA.of2 k_X6_wouldShame rfl (Nat.le_of_ble_eq_true rfl) rfl (B_X6_wouldShame_0 ?_)
    exact ⟨_, _, hh, fun _ => ⟨_, _, m_failsc (by decide), fun q => absurd q (by decide), fun _ => rI_ok rfl rfl⟩, fun q => absurd rfl q⟩
  · have w2 := G.W.sh hh2
    have w3 : sStc (tA T) h ≤ 8 * 40 := by
      refine Nat.le_trans (sm_le (c := 40) fun s hs => ?_) (by omega)
      show (if _ then _ else _) ≤ _
      split
      · have w4 := G.W.ln hs
        refine Nat.le_trans (sm_le (c := 5) fun k hk => ?_) (by omega)
        show (if _ then _ else _) ≤ _
        have := sBad_le G.W hs hk
        split <;> omega
      · omega
    rw [bi_t (in_no hh2 (by omega))] at hh
    rw [if_neg (in_no hh2 (by omega)), nI_clamp (by omega)]
    refine CM.f0 H ?_
    refine MetA.of2 k_X6_wouldShame rfl (Nat.le_of_ble_eq_true rfl) rfl (B_X6_wouldShame_0 ?_)
    refine ⟨_, _, hh, fun q => absurd q (by decide), fun _ => ⟨_, _, m_fails0, fun _ => ⟨_, _, m_sh Gf hh2, ?_⟩, fun q => absurd rfl q⟩⟩
    refine loopN (sS (tA T)) (fun s => AW M_X6_wouldShame 0 31 [some (aR 19 0), some (aI (nI h)), some (aI (nI (sSh (tA T) h + sm (fun s => if sOw (tA T) s = h then sm (fun k => if sLv (tA T) s k = 2 then sBad (tA T) s k else 0) (sLn (tA T) s) else 0) s))), some (aI (nI s)), none] [] (faM μ 0) _) ?_ ?_
    · refine B_X6_wouldShame_31 ⟨v1, ?_⟩
      rw [eS]
      refine ⟨fun _ => ⟨_, _, m_atMost (a := sSh (tA T) h + sStc (tA T) h) (b := 99) (by omega) (by decide), rI_ok rfl rfl⟩, fun q => absurd (nI_le (Nat.le_refl _) (by omega)) q⟩
    · intro s hs ih
      have w1 := G.W.ow hs
      have wl := G.W.ln hs
      refine B_X6_wouldShame_31 ⟨v1, ?_⟩
      rw [eS]
      refine ⟨fun q => absurd q (nI_ge hs (by omega)), fun _ => ?_⟩
      rw [sm] at ih
      by_cases c : sOw (tA T) s = h
      · rw [if_pos c] at ih
        refine loopN (sLn (tA T) s) (fun k => AW M_X6_wouldShame 0 44 [some (aR 19 0), some (aI (nI h)), some (aI (nI (sSh (tA T) h + sm (fun s => if sOw (tA T) s = h then sm (fun k => if sLv (tA T) s k = 2 then sBad (tA T) s k else 0) (sLn (tA T) s) else 0) s + sm (fun k => if sLv (tA T) s k = 2 then sBad (tA T) s k else 0) k))), some (aI (nI s)), some (aI (nI k))] [] (faM μ 0) _) ?_ ?_
        · refine B_X6_wouldShame_44 ⟨_, _, m_ln Gf hs, fun _ => ?_, fun q => absurd (nI_le (Nat.le_refl _) (by omega)) q⟩
          rw [show (1 : Int32) = nI 1 from rfl, nI_add, Nat.add_assoc]
          exact ih
        · intro k hk ih2
          have w3 := G.W.lv hs hk
          refine B_X6_wouldShame_44 ⟨_, _, m_ln Gf hs, fun q => absurd q (nI_ge hk (by omega)), fun _ => ⟨_, _, m_ow Gf hs, fun q => absurd (by rw [c]) q, fun _ => ⟨_, _, m_mark Gf hs hk, ?_⟩⟩⟩
          rw [sm] at ih2
          rw [show (nI (sLv (tA T) s k) = 2) = (sLv (tA T) s k = 2) by rw [n2, nI_eqI (by omega) (by decide)], Int32.add_zero, show (1 : Int32) = nI 1 from rfl, nI_add]
          refine ⟨fun q => ?_, fun q => ⟨_, _, m_bad Gf hs hk, ?_⟩⟩
          · rw [if_neg q] at ih2
            exact ih2
          · rw [if_pos q, ← Nat.add_assoc] at ih2
            rw [nI_add]
            exact ih2
      · rw [if_neg c, Nat.add_zero] at ih
        refine B_X6_wouldShame_44 ⟨_, _, m_ln Gf hs, fun q => absurd (show nI (sLn (tA T) s) ≤ nI 0 from q) (nI_ge (by omega) (by omega)), fun _ => ⟨_, _, m_ow Gf hs, fun _ => ?_, fun q => absurd ((nI_eq (by omega) (by omega)).mp q) c⟩⟩
        rw [show (1 : Int32) = nI 1 from rfl, nI_add]
        exact ih
theorem c8G {c : Int32} (G : RM (μ 20 0) A) : RM (c8 μ c 20 0) A := by rw [show c8 μ c 20 0 = μ 20 0 from mset_t (by decide)]; exact G
theorem q_wouldLaugh {a : Int32} (H : TM μ T) : CM M_X6_wouldLaugh [aI a] μ [] (.inl (nI (sWl (tA T)))) T := by
  have ws := H.1.W.sm
  have Gf := c8G (c := 0) H.1
  have v1 : vp_in 1 240 := vp_in_nI (n := 1) (by decide) (by decide)
  have eS : c8 μ 0 20 0 (1 : Int32).toNatClampNeg = nI (sS (tA T)) := Gf.S
  refine CM.c0 H ?_
  refine MetA.of2 k_X6_wouldLaugh rfl (Nat.le_of_ble_eq_true rfl) rfl (B_X6_wouldLaugh_0 ?_)
  intro m e
  rw [show m = c8 μ 0 from e]
  refine loopN (sS (tA T)) (fun s => AW M_X6_wouldLaugh 0 9 [some (aR 19 0), some (aI a), some (aI (nI (sm (fun s => sm (fun k => if sLv (tA T) s k = 2 then sLg (tA T) s k else 0) (sLn (tA T) s)) s))), some (aI (nI s)), none] [] (c8 μ 0) _) ?_ ?_
  · refine B_X6_wouldLaugh_9 ⟨v1, ?_⟩
    rw [eS]
    exact ⟨fun _ => rI_ok rfl rfl, fun q => absurd (nI_le (Nat.le_refl _) (by omega)) q⟩
  · intro s hs ih
    have wl := H.1.W.ln hs
    refine B_X6_wouldLaugh_9 ⟨v1, ?_⟩
    rw [eS]
    refine ⟨fun q => absurd q (nI_ge hs (by omega)), fun _ => ?_⟩
    rw [sm] at ih
    refine loopN (sLn (tA T) s) (fun k => AW M_X6_wouldLaugh 0 22 [some (aR 19 0), some (aI a), some (aI (nI (sm (fun s => sm (fun k => if sLv (tA T) s k = 2 then sLg (tA T) s k else 0) (sLn (tA T) s)) s + sm (fun k => if sLv (tA T) s k = 2 then sLg (tA T) s k else 0) k))), some (aI (nI s)), some (aI (nI k))] [] (c8 μ 0) _) ?_ ?_
    · refine B_X6_wouldLaugh_22 ⟨_, _, m_ln Gf hs, fun _ => ?_, fun q => absurd (nI_le (Nat.le_refl _) (by omega)) q⟩
      rw [show (1 : Int32) = nI 1 from rfl, nI_add]
      exact ih
    · intro k hk ih2
      have w3 := H.1.W.lv hs hk
      refine B_X6_wouldLaugh_22 ⟨_, _, m_ln Gf hs, fun q => absurd q (nI_ge hk (by omega)), fun _ => ⟨_, _, m_mark Gf hs hk, ?_⟩⟩
      rw [sm] at ih2
      rw [show (nI (sLv (tA T) s k) = 2) = (sLv (tA T) s k = 2) by rw [n2, nI_eqI (by omega) (by decide)], Int32.add_zero, show (1 : Int32) = nI 1 from rfl, nI_add]
      refine ⟨fun q => ?_, fun q => ⟨_, _, m_laughs Gf hs hk (by omega), ?_⟩⟩
      · rw [if_neg q] at ih2
        exact ih2
      · rw [if_pos q, ← Nat.add_assoc] at ih2
        rw [nI_add]
        exact ih2
/-- the best so far is none or a place -/
theorem bK_in (A : SP) (p : Int32 × Int32) (s : Nat) (hs : s < 8) (hp : p.1 = -1 ∨ ∃ x, x < 200 ∧ p.1 = nI x) : ∀ k, k ≤ 8 → (bK A p s k).1 = -1 ∨ ∃ x, x < 200 ∧ (bK A p s k).1 = nI x
  | 0, _ => hp
  | k + 1, hk => by
    rw [bK, bSt]
    split
    · exact Or.inr ⟨s * 8 + k, by omega, rfl⟩
    · exact bK_in A p s hs hp k (by omega)
theorem bS_in {A : SP} (W : WF A) : ∀ s, s ≤ sS A → (bS A s).1 = -1 ∨ ∃ x, x < 200 ∧ (bS A s).1 = nI x
  | 0, _ => Or.inl rfl
  | s + 1, h => by
    have w := W.sm
    have w2 := W.ln (show s < sS A by omega)
    rw [bS]
    exact bK_in A _ s (by omega) (bS_in W s (by omega)) _ (by omega)
theorem neg1 {b : Int32} (h : b = -1 ∨ ∃ x, x < 200 ∧ b = nI x) : (b < 0) = (b = -1) ∧ (0 ≤ b) = ¬ (b = -1) := by
  rcases h with rfl | ⟨x, hx, rfl⟩
  · exact ⟨propext ⟨fun _ => rfl, fun _ => by decide⟩, propext ⟨fun q => absurd q (by decide), fun q => absurd rfl q⟩⟩
  · exact ⟨propext ⟨fun q => absurd q (nI_pos (by omega)), fun q => absurd q (nI_m1 (by omega))⟩, propext ⟨fun _ => nI_m1 (by omega), fun _ => nI_pos' (by omega)⟩⟩
theorem q_bargain {a : Int32} (H : TM μ T) : CM M_X6_bargain [aI a] μ [4] (qBg (tA T) a) T := by
  have G := H.1
  have ws := G.W.sm
  have v1 : vp_in 1 240 := vp_in_nI (n := 1) (by decide) (by decide)
  have eS : μ 20 0 (1 : Int32).toNatClampNeg = nI (sS (tA T)) := G.S
  have e8S : (8 : Int32) * nI (sS (tA T)) = nI (8 * sS (tA T)) := by rw [show (8 : Int32) = nI 8 from rfl, pk_mul]
  have key : ∀ P, AW M_X6_bargain 0 7 [some (aR 19 0), some (aI a), some (aI (bS (tA T) (sS (tA T))).1), some (aI (bS (tA T) (sS (tA T))).2), some (aI (nI (8 * sS (tA T)))), none] [] μ P → MetA M_X6_bargain [aR 19 0, aI a] μ P := by
    intro P hP
    refine MetA.of2 k_X6_bargain rfl (Nat.le_of_ble_eq_true rfl) rfl (B_X6_bargain_0 ?_)
    refine loopN (sS (tA T)) (fun s => AW M_X6_bargain 0 7 [some (aR 19 0), some (aI a), some (aI (bS (tA T) s).1), some (aI (bS (tA T) s).2), some (aI (nI (8 * s))), none] [] μ P) hP ?_
    intro s hs ih
    have wo := G.W.ow hs
    have wl := G.W.ln hs
    have wc := sCost_le G.W (sOw (tA T) s)
    have dv : ∀ k, k < 8 → nI (8 * s + k) / 8 = nI s ∧ nI (8 * s + k) - nI s * 8 = nI k := fun k hk => by
      have e1 : nI (8 * s + k) / 8 = nI s := by
        rw [show (8 : Int32) = nI 8 from rfl, pk_div (by omega) (by decide) (by decide)]
        congr 1
        omega
      refine ⟨e1, ?_⟩
      rw [show (8 : Int32) = nI 8 from rfl, pk_mul, pk_sub (by omega)]
      congr 1
      omega
    rw [bS] at ih
    have tail : ∀ d k, k + d = 8 → sLn (tA T) s ≤ k → AW M_X6_bargain 0 7 [some (aR 19 0), some (aI a), some (aI (bK (tA T) (bS (tA T) s) s (sLn (tA T) s)).1), some (aI (bK (tA T) (bS (tA T) s) s (sLn (tA T) s)).2), some (aI (nI (8 * s + k))), none] [] μ P := by
      intro d
      induction d with
      | zero =>
        intro k hk _
        rw [show 8 * s + k = 8 * (s + 1) by omega]
        exact ih
      | succ d ih3 =>
        intro k hk hl
        refine B_X6_bargain_7 ⟨v1, ?_⟩
        rw [eS, e8S, (dv k (by omega)).1, (dv k (by omega)).2]
        have hp := m_isPlace (a := nI s) (b := nI k) G
        rw [bi_f (fun z => z (Or.inr (Or.inr (by rw [nI_clamp (by omega)]; exact nI_le hl (by omega)))))] at hp
        refine ⟨fun q => absurd q (nI_ge (by omega) (by omega)), fun _ => ⟨_, _, hp, fun _ => ?_, fun q => absurd rfl q⟩⟩
        rw [show (1 : Int32) = nI 1 from rfl, nI_add, Nat.add_assoc]
        exact ih3 (k + 1) (by omega) (by omega)
    rw [show 8 * s = 8 * s + 0 from rfl]
    refine loopN (sLn (tA T) s) (fun k => AW M_X6_bargain 0 7 [some (aR 19 0), some (aI a), some (aI (bK (tA T) (bS (tA T) s) s k).1), some (aI (bK (tA T) (bS (tA T) s) s k).2), some (aI (nI (8 * s + k))), none] [] μ P) ?_ ?_
    · exact tail (8 - sLn (tA T) s) (sLn (tA T) s) (by omega) (Nat.le_refl _)
    · intro k hk ih2
      have bi1 := bK_in (tA T) (bS (tA T) s) s (by omega) (bS_in G.W s (by omega)) k (by omega)
      have hp := m_isPlace (a := nI s) (b := nI k) G
      rw [bi_t (plc_no G.W hs hk)] at hp
      have hcl := m_canLicense G hs hk
      refine B_X6_bargain_7 ⟨v1, ?_⟩
      rw [eS, e8S, (dv k (by omega)).1, (dv k (by omega)).2]
      refine ⟨fun q => absurd q (nI_ge (by omega) (by omega)), fun _ => ⟨_, _, hp, fun q => absurd q (by decide), fun _ => ⟨_, _, hcl, ?_⟩⟩⟩
      rw [bK, bSt] at ih2
      rw [show (1 : Int32) = nI 1 from rfl, nI_add, Nat.add_assoc]
      by_cases c : (¬ 20 < sSh (tA T) (sOw (tA T) s) ∧ sCost (tA T) (sOw (tA T) s) ≤ sCn (tA T) (sOw (tA T) s)) ∧ sLv (tA T) s k = 1
      · rw [bi_t c]
        refine ⟨fun _ => ⟨_, _, m_laughs G hs hk (by omega), _, _, m_ow G hs, _, _, m_price G wo, ?_⟩, fun q => absurd q (by decide)⟩
        rw [(neg1 bi1).1]
        refine ⟨fun q => ?_, fun q => ⟨fun q2 => ?_, fun q2 => ?_⟩⟩
        · rw [if_pos ⟨c.1, c.2, Or.inl q⟩, show s * 8 + k = 8 * s + k by omega] at ih2
          exact ih2
        · rw [if_pos ⟨c.1, c.2, Or.inr q2⟩, show s * 8 + k = 8 * s + k by omega] at ih2
          exact ih2
        · rw [if_neg (fun z => z.2.2.elim q q2)] at ih2
          exact ih2
      · rw [bi_f c]
        rw [if_neg (fun z => c ⟨z.1, z.2.1⟩)] at ih2
        exact ⟨fun q => absurd rfl q, fun _ => ih2⟩
  have bi2 := neg1 (bS_in G.W (sS (tA T)) (Nat.le_refl _))
  unfold qBg
  by_cases c : (bS (tA T) (sS (tA T))).1 = -1
  · rw [if_pos c]
    refine CM.f1 (v := 0) H (key _ (B_X6_bargain_7 ⟨v1, ?_⟩))
    rw [eS, e8S, bi2.2]
    exact ⟨fun _ => ⟨fun q => absurd c q, fun _ => ⟨_, _, m_failsc (by decide), fun q => absurd q (by decide), fun _ => rI_ok rfl rfl⟩⟩, fun q => absurd (nI_le (Nat.le_refl _) (by omega)) q⟩
  · rw [if_neg c]
    by_cases c2 : a = 0
    · rw [if_pos c2]
      refine CM.f0 H (key _ (B_X6_bargain_7 ⟨v1, ?_⟩))
      rw [eS, e8S, bi2.2]
      exact ⟨fun _ => ⟨fun _ => ⟨_, _, m_fails0, fun _ => ⟨fun _ => rI_ok rfl rfl, fun q => absurd c2 q⟩, fun q => absurd rfl q⟩, fun q => absurd c q⟩, fun q => absurd (nI_le (Nat.le_refl _) (by omega)) q⟩
    · rw [if_neg c2]
      refine CM.f0 H (key _ (B_X6_bargain_7 ⟨v1, ?_⟩))
      rw [eS, e8S, bi2.2]
      exact ⟨fun _ => ⟨fun _ => ⟨_, _, m_fails0, fun _ => ⟨fun q => absurd q c2, fun _ => rI_ok rfl rfl⟩, fun q => absurd rfl q⟩, fun q => absurd c q⟩, fun q => absurd (nI_le (Nat.le_refl _) (by omega)) q⟩
/-! its lines -/
def LM (μ : Mem) (L : LT) : Prop := L.1 ≤ 18 ∧ μ 19 0 17 = nI L.1 ∧ ∀ i, i < L.1 → μ 25 0 i = L.2 i ∧ narrow .char (.int (L.2 i)) = .int (L.2 i)
def Wm (μ μ' : Mem) : Prop := (∀ t o, ¬ (t = 19 ∧ o = 0) → ¬ (t = 25 ∧ o = 0) → μ' t o = μ t o) ∧ ∀ k, k ≠ 17 → μ' 19 0 k = μ 19 0 k
theorem Wm.tr {μ1 μ2 : Mem} (h1 : Wm μ μ1) (h2 : Wm μ1 μ2) : Wm μ μ2 := ⟨fun t o a b => (h2.1 t o a b).trans (h1.1 t o a b), fun k q => (h2.2 k q).trans (h1.2 k q)⟩
theorem m_writes {q : Nat} (H : LM μ L) (hq : q < 65536) (hn : L.1 < 18) : ∃ μ', MetA M_X6_writes [aR 19 0, aI (nI q)] μ (rV μ') ∧ LM μ' (wp L q) ∧ Wm μ μ' := by
  obtain ⟨h1, h2, h3⟩ := H
  refine ⟨mset (mset μ 25 0 (upd (μ 25 0) L.1 (nI q))) 19 0 (upd (μ 19 0) 17 (nI (L.1 + 1))), ?_, ⟨hn, by rw [mset_s]; rfl, fun i hi => ?_⟩, fun t o a b => by rw [mset_n a, mset_n b], fun k hk => by rw [mset_s, uget, if_neg hk]⟩
  · refine MetA.of2 k_X6_writes rfl (Nat.le_of_ble_eq_true rfl) rfl (B_X6_writes_0 ?_)
    rw [h2, nI_clamp (by omega), chr hq, nar_ok hq]
    refine ⟨vp_in_nI (by omega) (by decide), fun m e m' e' => rV_ok ?_⟩
    rw [e', e, mset_t (show (19 : Nat) ≠ 25 by decide), h2, show (1 : Int32) = nI 1 from rfl, nI_add]
  · rw [mset_t (show (25 : Nat) ≠ 19 by decide), mset_s]
    show upd _ _ _ i = va_up _ _ _ i ∧ narrow .char (.int (va_up _ _ _ i)) = .int (va_up _ _ _ i)
    rw [uget, vget]
    by_cases c : i = L.1
    · rw [if_pos c, if_pos c]
      exact ⟨rfl, (pk_charN hq).1⟩
    · rw [if_neg c, if_neg c]
      have hi' : i < L.1 + 1 := hi
      exact h3 i (by omega)
theorem m_writesNumber {n : Nat} (H : LM μ L) (hq : n ≤ 99) (hn : L.1 + 2 ≤ 18) : ∃ μ', MetA M_X6_writesNumber [aR 19 0, aI (nI n)] μ (rV μ') ∧ LM μ' (wN L n) ∧ Wm μ μ' := by
  have e1 : (48 + (nI n - nI n / 10 * 10)) = nI (48 + n % 10) := by rw [nI_rem (by omega), show (48 : Int32) = nI 48 from rfl, nI_add]
  have e2 : (48 + (nI n / 10)) = nI (48 + n / 10) := by rw [nI_div (by omega), show (48 : Int32) = nI 48 from rfl, nI_add]
  have z9 : (nI n ≤ 9) = (n < 10) := by
    rw [n9, nI_leI (by omega) (by decide)]
    exact propext Nat.lt_succ_iff.symm
  unfold wN
  by_cases c : n < 10
  · rw [if_pos c]
    obtain ⟨m, a1, a2, a3⟩ := m_writes (q := 48 + n % 10) H (by omega) (by omega)
    refine ⟨m, ?_, a2, a3⟩
    refine MetA.of2 k_X6_writesNumber rfl (Nat.le_of_ble_eq_true rfl) rfl (B_X6_writesNumber_0 ?_)
    rw [e1, e2, z9]
    exact ⟨fun _ => ⟨_, a1, rV_ok rfl⟩, fun q => absurd c q⟩
  · rw [if_neg c]
    obtain ⟨m, a1, a2, a3⟩ := m_writes (q := 48 + n / 10) H (by omega) (by omega)
    obtain ⟨m2, b1, b2, b3⟩ := m_writes (q := 48 + n % 10) a2 (by omega) (by rw [wp1]; omega)
    refine ⟨m2, ?_, b2, a3.tr b3⟩
    refine MetA.of2 k_X6_writesNumber rfl (Nat.le_of_ble_eq_true rfl) rfl (B_X6_writesNumber_0 ?_)
    rw [e1, e2, z9]
    exact ⟨fun q => absurd q c, fun _ => ⟨_, a1, _, b1, rV_ok rfl⟩⟩
theorem Wm.G {μ' : Mem} (h : Wm μ μ') (G : RM (μ 20 0) A) : RM (μ' 20 0) A := by rw [h.1 20 0 (by omega) (by omega)]; exact G
/-- a line's call: nothing but the line and the code has changed -/
theorem TM.line {μ' : Mem} (H : TM μ T) (s1 : ∀ t o, ¬ (t = 19 ∧ o = 0) → ¬ (t = 25 ∧ o = 0) → μ' t o = μ t o) (s2 : ∀ k, k ≠ 7 → k ≠ 8 → k ≠ 17 → μ' 19 0 k = μ 19 0 k) (h : LM μ' L) : TM μ' (setL T L) := by
  obtain ⟨a, b, ⟨c1, c2⟩, ⟨d1, d2, d3, d4⟩, ⟨e1, e2, e3⟩, f, _, z⟩ := H
  obtain ⟨b1, b2, b3⟩ := b
  exact ⟨by rw [s1 20 0 (by omega) (by omega)]; exact a, ⟨b1, by rw [s2 5 (by omega) (by omega) (by omega)]; exact b2, fun i hi => by rw [s1 21 0 (by omega) (by omega)]; exact b3 i hi⟩, ⟨by rw [s2 4 (by omega) (by omega) (by omega)]; exact c1, fun q => by rw [s1 22 0 (by omega) (by omega)]; exact c2 q⟩, ⟨by rw [s2 9 (by omega) (by omega) (by omega)]; exact d1, by rw [s2 10 (by omega) (by omega) (by omega)]; exact d2, by rw [s2 11 (by omega) (by omega) (by omega)]; exact d3, by rw [s2 12 (by omega) (by omega) (by omega)]; exact d4⟩, ⟨e1, by rw [s2 14 (by omega) (by omega) (by omega)]; exact e2, fun i hi => by rw [s1 24 0 (by omega) (by omega)]; exact e3 i hi⟩, by rw [s2 15 (by omega) (by omega) (by omega)]; exact f, h, by rw [s2 6 (by omega) (by omega) (by omega)]; exact z⟩
theorem CM.ln {M : MI} {as : List AV} {l : List Nat} {v : Int32} {m0 μ' : Mem} (H : TM μ T) (e0 : m0 = mset (faM μ 0) 19 0 (upd (faM μ 0 19 0) 17 0)) (W : Wm m0 μ') (h : LM μ' L) (hM : MetA M (aR 19 0 :: as) μ (rI v μ')) (hv : v = nI L.1) : CM M as μ l (.inl (nI L.1)) (setL T L) := by
  have s1 : ∀ t o, ¬ (t = 19 ∧ o = 0) → ¬ (t = 25 ∧ o = 0) → μ' t o = μ t o := fun t o a b => by rw [W.1 t o a b, e0, mset_n a]; exact mset_n a
  refine ⟨μ', v, hM, TM.line H s1 (fun k a b c => ?_) h, fun t ht => ?_, ?_, fun x q => by cases q; exact hv⟩
  · rw [W.2 k c, e0, mset_s, uget, if_neg c, faM, mset_s, uget, if_neg a, uget, if_neg b]
  · funext o
    exact s1 t o (by omega) (by omega)
  · rw [W.2 8 (by decide), e0, mset_s, uget, if_neg (by decide), faM, mset_s]
    rfl
theorem LM.z {f : Nat → Int32} : LM (mset μ 19 0 (upd (μ 19 0) 17 0)) (0, f) := ⟨by show 0 ≤ 18; omega, by rw [mset_s]; rfl, fun i hi => absurd hi (Nat.not_lt_zero _)⟩
theorem m_linePlace {s k : Nat} {P : RES → Mem → Prop} (G : RM (μ 20 0) A) (H : LM μ L) (hs : s < sS A) (hk : k < sLn A s) (hn : L.1 + 2 ≤ 18) : ∃ μ', LM μ' (lPl A s k L) ∧ Wm μ μ' ∧ ∀ P, AW M_X6_line 0 45 [some (aR 19 0), some (aI (nI s)), some (aI (nI (k + 1))), none] [] μ' P → AW M_X6_line 0 45 [some (aR 19 0), some (aI (nI s)), some (aI (nI k)), none] [] μ P := by
  have wl := G.W.ln hs
  have w1 := G.W.pl hs hk
  have w2 := G.W.lv hs hk
  have z0 : (nI (sLv A s k) = 0) = (sLv A s k = 0) := by rw [n0, nI_eqI (by omega) (by decide)]
  have z1 : (nI (sLv A s k) ≤ 1) = (sLv A s k ≤ 1) := by rw [n1, nI_leI (by omega) (by decide)]
  have z2 : (nI (sLv A s k) = 2) = (sLv A s k = 2) := by rw [n2, nI_eqI (by omega) (by decide)]
  have eA : (65 - 1 : Int32) + nI (sPl A s k) = nI (64 + sPl A s k) := by rw [show (65 - 1 : Int32) = nI 64 from rfl, nI_add]
  have ea : (97 - 1 : Int32) + nI (sPl A s k) = nI (96 + sPl A s k) := by rw [show (97 - 1 : Int32) = nI 96 from rfl, nI_add]
  obtain ⟨m, a1, a2, a3⟩ := m_writes (q := (if sLv A s k = 0 then 96 else 64) + sPl A s k) H (by split <;> omega) (by omega)
  obtain ⟨m2, b1, b2, b3⟩ := m_writes (q := 39) a2 (by omega) (by rw [wp1]; omega)
  obtain ⟨m3, d1, d2, d3⟩ := m_writes (q := 33) a2 (by omega) (by rw [wp1]; omega)
  have st : ∀ P, ((¬ sLv A s k = 0 → ∃ m19 : Mem, MetA M_X6_writes [aR 19 0, aI (nI (64 + sPl A s k))] μ (rV m19) ∧ ((sLv A s k ≤ 1 → AW M_X6_line 0 45 [some (aR 19 0), some (aI (nI s)), some (aI (nI (k + 1))), none] [] m19 P) ∧ (¬ sLv A s k ≤ 1 → (¬ sLv A s k = 2 → ∃ m28 : Mem, MetA M_X6_writes [aR 19 0, aI 33] m19 (rV m28) ∧ (AW M_X6_line 0 45 [some (aR 19 0), some (aI (nI s)), some (aI (nI (k + 1))), none] [] m28 P)) ∧ (sLv A s k = 2 → ∃ m31 : Mem, MetA M_X6_writes [aR 19 0, aI 39] m19 (rV m31) ∧ (AW M_X6_line 0 45 [some (aR 19 0), some (aI (nI s)), some (aI (nI (k + 1))), none] [] m31 P))))) ∧ (sLv A s k = 0 → ∃ m38 : Mem, MetA M_X6_writes [aR 19 0, aI (nI (96 + sPl A s k))] μ (rV m38) ∧ (sLv A s k ≤ 1 → AW M_X6_line 0 45 [some (aR 19 0), some (aI (nI s)), some (aI (nI (k + 1))), none] [] m38 P))) → AW M_X6_line 0 45 [some (aR 19 0), some (aI (nI s)), some (aI (nI k)), none] [] μ P := by
    intro P h
    refine B_X6_line_45 ⟨_, _, m_ln G hs, fun q => absurd q (nI_ge hk (by omega)), fun _ => ⟨_, _, m_mark G hs hk, ?_⟩⟩
    rw [z0, z1, z2, show nI k + 1 = nI (k + 1) by rw [show (1 : Int32) = nI 1 from rfl, nI_add]]
    refine ⟨fun q => ⟨_, _, m_pl G hs hk, ?_⟩, fun q => ⟨_, _, m_pl G hs hk, ?_⟩⟩
    · rw [eA]
      exact h.1 q
    · rw [ea]
      obtain ⟨mm, x1, x2⟩ := h.2 q
      exact ⟨mm, x1, x2, fun q2 => absurd (by omega) q2⟩
  unfold lPl
  by_cases c2 : sLv A s k = 2
  · rw [if_pos c2]
    rw [if_neg (by omega)] at a1
    exact ⟨m2, b2, a3.tr b3, fun P h => st P ⟨fun _ => ⟨_, a1, fun q => absurd q (by omega), fun _ => ⟨fun q => absurd c2 q, fun _ => ⟨_, b1, h⟩⟩⟩, fun q => absurd q (by omega)⟩⟩
  · rw [if_neg c2]
    by_cases c3 : sLv A s k = 3
    · rw [if_pos c3]
      rw [if_neg (by omega)] at a1
      exact ⟨m3, d2, a3.tr d3, fun P h => st P ⟨fun _ => ⟨_, a1, fun q => absurd q (by omega), fun _ => ⟨fun _ => ⟨_, d1, h⟩, fun q => absurd q c2⟩⟩, fun q => absurd q (by omega)⟩⟩
    · rw [if_neg c3]
      refine ⟨m, a2, a3, fun P h => st P ?_⟩
      by_cases c0 : sLv A s k = 0
      · rw [if_pos c0] at a1
        exact ⟨fun q => absurd c0 q, fun _ => ⟨_, a1, fun _ => h⟩⟩
      · rw [if_neg c0] at a1
        exact ⟨fun _ => ⟨_, a1, fun _ => h, fun q => absurd (by omega) q⟩, fun q => absurd q c0⟩
theorem q_line {a : Int32} (H : TM μ T) : CM M_X6_line [aI a] μ [0] (qLi T a).1 (qLi T a).2 := by
  have G := H.1
  have w := G.W.sm
  have w0 := G.W.hm
  have hh := m_isSheet (a := a) G
  unfold qLi
  rcases ss_or G.W a with c1 | ⟨s, hs, rfl⟩
  · rw [if_pos c1]
    rw [bi_f (fun z => z c1)] at hh
    refine CM.f1 (v := 0) H ?_
    refine MetA.of2 k_X6_line rfl (Nat.le_of_ble_eq_true rfl) rfl (B_X6_line_0 ?_)
    exact ⟨_, _, hh, fun _ => ⟨_, _, m_failsc (by decide), fun q => absurd q (by decide), fun _ => rI_ok rfl rfl⟩, fun q => absurd rfl q⟩
  · rw [bi_t (in_no hs (by omega))] at hh
    rw [if_neg (in_no hs (by omega)), nI_clamp (by omega)]
    have w1 := G.W.ow hs
    have w2 := G.W.ln hs
    obtain ⟨m0, e0⟩ : ∃ m0 : Mem, m0 = mset (faM μ 0) 19 0 (upd (faM μ 0 19 0) 17 0) := ⟨_, rfl⟩
    have G0 : RM (m0 20 0) (tA T) := by rw [e0, mset_t (show (20 : Nat) ≠ 19 by decide)]; exact fG G
    have L0 : LM m0 (0, tLf T) := by rw [e0]; exact LM.z
    obtain ⟨m1, a1, a2, a3⟩ := m_writesNumber (L := (0, tLf T)) (n := sOw (tA T) s) L0 (by omega) (by show 0 + 2 ≤ 18; omega)
    have l1' : (wN (0, tLf T) (sOw (tA T) s)).1 = 1 := (wN1 (0, tLf T) (sOw (tA T) s)).2.2 (by omega)
    obtain ⟨m2, b1, b2, b3⟩ := m_writes (q := 58) a2 (by omega) (by omega)
    have key : ∃ m, LM m (lineT (tA T) s (tLf T)) ∧ Wm m0 m ∧ ∀ P, AW M_X6_line 0 45 [some (aR 19 0), some (aI (nI s)), some (aI (nI (sLn (tA T) s))), none] [] m P → AW M_X6_line 0 45 [some (aR 19 0), some (aI (nI s)), some (aI 0), none] [] m2 P := by
      refine loopF (sLn (tA T) s) (fun k => ∃ m, LM m (lK (tA T) s (wp (wN (0, tLf T) (sOw (tA T) s)) 58) k) ∧ Wm m0 m ∧ ∀ P, AW M_X6_line 0 45 [some (aR 19 0), some (aI (nI s)), some (aI (nI k)), none] [] m P → AW M_X6_line 0 45 [some (aR 19 0), some (aI (nI s)), some (aI 0), none] [] m2 P) ⟨m2, b2, a3.tr b3, fun P h => h⟩ ?_
      intro k hk ⟨m, Lm, Wk, hm⟩
      have l2 := lK1 (tA T) s (wp (wN (0, tLf T) (sOw (tA T) s)) 58) k
      rw [wp1, l1'] at l2
      obtain ⟨m3, d1, d2, d3⟩ := m_linePlace (k := k) (P := fun _ _ => True) (Wk.G G0) Lm hs hk (by omega)
      exact ⟨m3, d1, Wk.tr d2, fun P h => hm P (d3 P h)⟩
    obtain ⟨m, Lm, Wk, hm⟩ := key
    refine CM.ln H e0 Wk Lm ?_ Lm.2.1
    refine MetA.of2 k_X6_line rfl (Nat.le_of_ble_eq_true rfl) rfl (B_X6_line_0 ?_)
    refine ⟨_, _, hh, fun q => absurd q (by decide), fun _ => ⟨_, _, m_fails0, fun _ => fun m35 e35 => ?_, fun q => absurd rfl q⟩⟩
    rw [← e0] at e35
    rw [e35]
    refine ⟨_, _, m_ow G0 hs, _, a1, _, b1, hm _ (B_X6_line_45 ⟨_, _, m_ln (Wk.G G0) hs, fun _ => rI_ok rfl rfl, fun q => absurd (nI_le (Nat.le_refl _) (by omega)) q⟩)⟩
theorem q_houseLine {a : Int32} (H : TM μ T) : CM M_X6_houseLine [aI a] μ [0] (qHl T a).1 (qHl T a).2 := by
  have G := H.1
  have w0 := G.W.hm
  have hh := m_isHouse (a := a) G
  unfold qHl
  rcases hs_or G.W a with c1 | ⟨h, hh2, rfl⟩
  · rw [if_pos c1]
    rw [bi_f (fun z => z c1)] at hh
    refine CM.f1 (v := 0) H ?_
    refine MetA.of2 k_X6_houseLine rfl (Nat.le_of_ble_eq_true rfl) rfl (B_X6_houseLine_0 ?_)
    exact ⟨_, _, hh, fun _ => B_X6_houseLine_14 ⟨_, _, m_failsc (by decide), fun q => absurd q (by decide), fun _ => rI_ok rfl rfl⟩, fun q => absurd rfl q⟩
  · rw [bi_t (in_no hh2 (by omega))] at hh
    rw [if_neg (in_no hh2 (by omega)), nI_clamp (by omega)]
    have w1 := G.W.cn hh2
    have w2 := G.W.sh hh2
    obtain ⟨m0, e0⟩ : ∃ m0 : Mem, m0 = mset (faM μ 0) 19 0 (upd (faM μ 0 19 0) 17 0) := ⟨_, rfl⟩
    have G0 : RM (m0 20 0) (tA T) := by rw [e0, mset_t (show (20 : Nat) ≠ 19 by decide)]; exact fG G
    have L0 : LM m0 (0, tLf T) := by rw [e0]; exact LM.z
    have l1 := wN1 (0, tLf T) h
    have l2 := wN1 (wp (wN (0, tLf T) h) 36) (sCn (tA T) h)
    have l3 := wN1 (wp (wN (wp (wN (0, tLf T) h) 36) (sCn (tA T) h)) 126) (sSh (tA T) h)
    have l0 : ((0, tLf T) : LT).1 = 0 := rfl
    rw [wp1] at l2 l3
    obtain ⟨m1, a1, a2, a3⟩ := m_writesNumber (L := (0, tLf T)) (n := h) L0 (by omega) (by omega)
    obtain ⟨m2, b1, b2, b3⟩ := m_writes (q := 36) a2 (by omega) (by omega)
    obtain ⟨m3, d1, d2, d3⟩ := m_writesNumber (n := sCn (tA T) h) b2 (by omega) (by rw [wp1]; omega)
    obtain ⟨m4, f1, f2, f3⟩ := m_writes (q := 126) d2 (by omega) (by omega)
    obtain ⟨m5, g1, g2, g3⟩ := m_writesNumber (n := sSh (tA T) h) f2 (by omega) (by rw [wp1]; omega)
    obtain ⟨m6, i1, i2, i3⟩ := m_writes (q := 42) g2 (by omega) (by omega)
    have W2 := a3.tr b3
    have W4 := W2.tr (d3.tr f3)
    have W5 := W4.tr g3
    have W6 := W5.tr i3
    have ga := m_isAshamed (W5.G G0) hh2
    have start : ∀ P, (∃ (r37 : Int32) (m34 : Mem), MetA M_X6_isAshamed [aR 19 0, aI (nI h)] m5 (rI r37 m34) ∧ ((r37 = 0 → P (.inl (some (aI (m34 19 0 17)))) m34) ∧ (¬ r37 = 0 → ∃ m41 : Mem, MetA M_X6_writes [aR 19 0, aI 42] m34 (rV m41) ∧ (P (.inl (some (aI (m41 19 0 17)))) m41)))) → MetA M_X6_houseLine [aR 19 0, aI (nI h)] μ P := by
      intro P hP
      refine MetA.of2 k_X6_houseLine rfl (Nat.le_of_ble_eq_true rfl) rfl (B_X6_houseLine_0 ?_)
      refine ⟨_, _, hh, fun q => absurd q (by decide), fun _ => B_X6_houseLine_14 ⟨_, _, m_fails0, fun _ => fun m8 e8 => ?_, fun q => absurd rfl q⟩⟩
      rw [← e0] at e8
      rw [e8]
      exact ⟨_, a1, _, b1, _, _, m_cn (W2.G G0) hh2, _, d1, _, f1, _, _, m_sh (W4.G G0) hh2, _, g1, hP⟩
    unfold hlT
    by_cases c : 20 < sSh (tA T) h
    · rw [if_pos c]
      rw [bi_t c] at ga
      exact CM.ln H e0 W6 i2 (start _ ⟨_, _, ga, fun q => absurd q (by decide), fun _ => ⟨_, i1, rI_ok rfl rfl⟩⟩) i2.2.1
    · rw [if_neg c]
      rw [bi_f c] at ga
      exact CM.ln H e0 W5 g2 (start _ ⟨_, _, ga, fun _ => rI_ok rfl rfl, fun q => absurd rfl q⟩) g2.2.1
theorem q_character {a : Int32} (H : TM μ T) : CM M_X6_character [aI a] μ [0] (qCh T a) T := by
  obtain ⟨g1, g2, g3⟩ := H.2.2.2.2.2.2.1
  unfold qCh
  have e25 : ∀ c, faM μ c 25 0 = μ 25 0 := fun c => faM_t (by decide)
  rcases (show (a < 0 ∨ nI (tLn T) ≤ a) ∨ ∃ k, k < tLn T ∧ a = nI k from in_or a (by omega)) with c1 | ⟨k, hk, rfl⟩
  · rw [if_pos c1]
    refine CM.f1 (v := 32) H ?_
    refine MetA.of2 k_X6_character rfl (Nat.le_of_ble_eq_true rfl) rfl (B_X6_character_0 ?_)
    rw [g2]
    refine ⟨_, _, m_in, fun _ => ⟨_, _, m_failsc (by decide), fun q => absurd q (by decide), fun _ => rI_ok rfl rfl⟩, fun q => ?_⟩
    rw [bi_cong (rng a (by omega)), bi_f (fun z => z c1)] at q
    exact absurd rfl q
  · rw [if_neg (in_no hk (by omega)), nI_clamp (by omega)]
    refine CM.f0 H ?_
    refine MetA.of2 k_X6_character rfl (Nat.le_of_ble_eq_true rfl) rfl (B_X6_character_0 ?_)
    rw [g2, nI_clamp (by omega)]
    refine ⟨_, _, m_in, fun q => ?_, fun _ => ⟨_, _, m_fails0, fun _ => ⟨vp_in_nI (by omega) (by decide), ?_⟩, fun q => absurd rfl q⟩⟩
    · rw [bi_cong (rng (nI k) (by omega)), bi_t (in_no hk (by omega))] at q
      exact absurd q (by decide)
    · rw [e25, (g3 k hk).1]
      exact ⟨(g3 k hk).2, rI_ok rfl rfl⟩
theorem q_append {c : Nat} (hc : c < 65536) (H : TM μ T) : CM M_X6_append [aI (nI c)] μ [3] (qAp T c).1 (qAp T c).2 := by
  obtain ⟨a, b, ⟨c1, c2⟩, ⟨d1, d2, d3, d4⟩, ⟨e1, e2, e3⟩, f, g, z⟩ := H
  unfold qAp
  have z60 : (μ 19 0 14 = 60) = (tIn T = 60) := by rw [e2, show (60 : Int32) = nI 60 from rfl, nI_eqI (by omega) (by decide)]
  by_cases c0 : tIn T < 60
  · rw [if_pos c0]
    obtain ⟨μ', eμ⟩ : ∃ μ' : Mem, μ' = mset (mset (faM μ 0) 24 0 (upd (μ 24 0) (tIn T) (nI c))) 19 0 (upd (faM μ 0 19 0) 14 (nI (tIn T + 1))) := ⟨_, rfl⟩
    have s1 : ∀ t o, ¬ (t = 19 ∧ o = 0) → ¬ (t = 24 ∧ o = 0) → μ' t o = μ t o := fun t o x y => by rw [eμ, mset_n x, mset_n y]; exact mset_n x
    have s2 : ∀ k, k ≠ 7 → k ≠ 8 → k ≠ 14 → μ' 19 0 k = μ 19 0 k := fun k x y u => by rw [eμ, mset_s, uget, if_neg u, faM, mset_s, uget, if_neg x, uget, if_neg y]
    have s24 : μ' 24 0 = upd (μ 24 0) (tIn T) (nI c) := by rw [eμ, mset_t (by decide), mset_s]
    obtain ⟨b1, b2, b3⟩ := b
    obtain ⟨g1, g2, g3⟩ := g
    refine ⟨μ', nI (tIn T + 1), ?_, ⟨by rw [s1 20 0 (by omega) (by omega)]; exact a, ⟨b1, by rw [s2 5 (by omega) (by omega) (by omega)]; exact b2, fun i hi => by rw [s1 21 0 (by omega) (by omega)]; exact b3 i hi⟩, ⟨by rw [s2 4 (by omega) (by omega) (by omega)]; exact c1, fun q => by rw [s1 22 0 (by omega) (by omega)]; exact c2 q⟩, ⟨by rw [s2 9 (by omega) (by omega) (by omega)]; exact d1, by rw [s2 10 (by omega) (by omega) (by omega)]; exact d2, by rw [s2 11 (by omega) (by omega) (by omega)]; exact d3, by rw [s2 12 (by omega) (by omega) (by omega)]; exact d4⟩, ⟨c0, by rw [eμ, mset_s]; rfl, fun i hi => ?_⟩, by rw [s2 15 (by omega) (by omega) (by omega)]; exact f, ⟨g1, by rw [s2 17 (by omega) (by omega) (by omega)]; exact g2, fun i hi => by rw [s1 25 0 (by omega) (by omega)]; exact g3 i hi⟩, by rw [s2 6 (by omega) (by omega) (by omega)]; exact z⟩, fun t ht => ?_, by rw [eμ, mset_s, uget, if_neg (by decide), faM, mset_s]; rfl, fun x q => by cases q; rfl⟩
    · refine MetA.of2 k_X6_append rfl (Nat.le_of_ble_eq_true rfl) rfl (B_X6_append_0 ?_)
      rw [z60]
      refine ⟨fun _ => ⟨_, _, m_fails0, fun _ => ?_, fun q => absurd rfl q⟩, fun q => absurd q (by omega)⟩
      have f14 : faM μ 0 19 0 14 = nI (tIn T) := by rw [faM, mset_s]; exact e2
      rw [f14, nI_clamp (by omega), show faM μ 0 24 0 = μ 24 0 from faM_t (by decide)]
      refine ⟨vp_in_nI (by omega) (by decide), fun m em m' em' => ?_⟩
      have e9 : m' = μ' := by rw [em', em, mset_t (show (19 : Nat) ≠ 24 by decide), f14, show (1 : Int32) = nI 1 from rfl, nI_add, eμ]
      refine rI_ok ?_ e9
      rw [e9, eμ, mset_s]
      rfl
    · rw [s24]
      show upd _ _ _ i = nI (va_up _ _ _ i) ∧ va_up _ _ _ i < 65536
      rw [uget, vget]
      by_cases c : i = tIn T
      · rw [if_pos c, if_pos c]
        exact ⟨rfl, hc⟩
      · rw [if_neg c, if_neg c]
        have hi' : i < tIn T + 1 := hi
        exact e3 i (by omega)
    · funext o
      exact s1 t o (by omega) (by omega)
  · rw [if_neg c0]
    refine CM.f1 (v := 0) ⟨a, b, ⟨c1, c2⟩, ⟨d1, d2, d3, d4⟩, ⟨e1, e2, e3⟩, f, g, z⟩ ?_
    refine MetA.of2 k_X6_append rfl (Nat.le_of_ble_eq_true rfl) rfl (B_X6_append_0 ?_)
    rw [z60]
    exact ⟨fun q => absurd (by omega) q, fun _ => ⟨_, _, m_failsc (by decide), fun q => absurd q (by decide), fun _ => rI_ok rfl rfl⟩⟩
theorem q_refusal {a b : Int32} (H : TM μ T) : CM M_X6_refusal [aI a, aI b] μ [4] (qRf T a b) T := by
  obtain ⟨d1, d2, d3, d4⟩ := H.2.2.2.1
  have ff : ∀ k, k ≠ 7 → k ≠ 8 → faM μ 0 19 0 k = μ 19 0 k := fun k x y => by rw [faM, mset_s, uget, if_neg x, uget, if_neg y]
  unfold qRf
  by_cases c : a = 0
  · rw [if_pos c]
    by_cases c0 : (tRf T).1 = 0
    · rw [if_pos c0]
      refine CM.f1 (v := 0) H ?_
      refine MetA.of2 k_X6_refusal rfl (Nat.le_of_ble_eq_true rfl) rfl (B_X6_refusal_0 ?_)
      rw [d1]
      exact ⟨fun _ => B_X6_refusal_16 ⟨fun q => absurd c0 q, fun _ => ⟨_, _, m_failsc (by decide), fun q => absurd q (by decide), fun _ => rI_ok rfl rfl⟩⟩, fun q => absurd c q⟩
    · rw [if_neg c0]
      by_cases c2 : b = 0
      · rw [if_pos c2]
        refine CM.f0 H ?_
        refine MetA.of2 k_X6_refusal rfl (Nat.le_of_ble_eq_true rfl) rfl (B_X6_refusal_0 ?_)
        rw [d1]
        refine ⟨fun _ => B_X6_refusal_16 ⟨fun _ => ⟨_, _, m_fails0, fun _ => ⟨fun _ => ⟨fun _ => rI_ok ?_ rfl, fun q => absurd c2 q⟩, fun q => absurd c q⟩, fun q => absurd rfl q⟩, fun q => absurd q c0⟩, fun q => absurd c q⟩
        rw [ff 9 (by decide) (by decide), d1]
      · rw [if_neg c2]
        refine CM.f0 H ?_
        refine MetA.of2 k_X6_refusal rfl (Nat.le_of_ble_eq_true rfl) rfl (B_X6_refusal_0 ?_)
        rw [d1]
        refine ⟨fun _ => B_X6_refusal_16 ⟨fun _ => ⟨_, _, m_fails0, fun _ => ⟨fun _ => ⟨fun q => absurd q c2, fun _ => rI_ok ?_ rfl⟩, fun q => absurd c q⟩, fun q => absurd rfl q⟩, fun q => absurd q c0⟩, fun q => absurd c q⟩
        rw [ff 10 (by decide) (by decide), d2]
  · rw [if_neg c]
    by_cases c0 : (tRf T).2.2.1 = 0
    · rw [if_pos c0]
      refine CM.f1 (v := 0) H ?_
      refine MetA.of2 k_X6_refusal rfl (Nat.le_of_ble_eq_true rfl) rfl (B_X6_refusal_0 ?_)
      rw [d3]
      exact ⟨fun q => absurd q c, fun _ => B_X6_refusal_16 ⟨fun q => absurd c0 q, fun _ => ⟨_, _, m_failsc (by decide), fun q => absurd q (by decide), fun _ => rI_ok rfl rfl⟩⟩⟩
    · rw [if_neg c0]
      by_cases c2 : b = 0
      · rw [if_pos c2]
        refine CM.f0 H ?_
        refine MetA.of2 k_X6_refusal rfl (Nat.le_of_ble_eq_true rfl) rfl (B_X6_refusal_0 ?_)
        rw [d3]
        refine ⟨fun q => absurd q c, fun _ => B_X6_refusal_16 ⟨fun _ => ⟨_, _, m_fails0, fun _ => ⟨fun q => absurd q c, fun _ => ⟨fun _ => rI_ok ?_ rfl, fun q => absurd c2 q⟩⟩, fun q => absurd rfl q⟩, fun q => absurd q c0⟩⟩
        rw [ff 11 (by decide) (by decide), d3]
      · rw [if_neg c2]
        refine CM.f0 H ?_
        refine MetA.of2 k_X6_refusal rfl (Nat.le_of_ble_eq_true rfl) rfl (B_X6_refusal_0 ?_)
        rw [d3]
        refine ⟨fun q => absurd q c, fun _ => B_X6_refusal_16 ⟨fun _ => ⟨_, _, m_fails0, fun _ => ⟨fun q => absurd q c, fun _ => ⟨fun q => absurd q c2, fun _ => rI_ok ?_ rfl⟩⟩, fun q => absurd rfl q⟩, fun q => absurd q c0⟩⟩
        rw [ff 12 (by decide) (by decide), d4]
end RI
