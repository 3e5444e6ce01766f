/-! the best bargain, what is well, undo, snapshot, shares -/
def bWo (A : SP) (s k : Nat) : Int32 := nI (sLg A s k) - nI (sCost A (sOw A s))
def bSt (A : SP) (p : Int32 × Int32) (s k : Nat) : Int32 × Int32 := if (¬ 20 < sSh A (sOw A s) ∧ sCost A (sOw A s) ≤ sCn A (sOw A s)) ∧ sLv A s k = 1 ∧ (p.1 = -1 ∨ p.2 < bWo A s k) then (nI (s * 8 + k), bWo A s k) else p
def bK (A : SP) (p : Int32 × Int32) (s : Nat) : Nat → Int32 × Int32
  | 0 => p
  | k + 1 => bSt A (bK A p s k) s k
def bS (A : SP) : Nat → Int32 × Int32
  | 0 => (-1, 0)
  | s + 1 => bK A (bS A s) s (sLn A s)
theorem bK_no {A : SP} {p : Int32 × Int32} {s : Nat} (h : ¬ (¬ 20 < sSh A (sOw A s) ∧ sCost A (sOw A s) ≤ sCn A (sOw A s))) : ∀ k, bK A p s k = p
  | 0 => rfl
  | k + 1 => by rw [bK, bSt, if_neg (fun q => h q.1), bK_no h k]
section SL
variable {μ : Mem} {A : SP} {T : TT}
theorem c_bestBargain (R : RC μ 0 A) : MetA M_X5_bestBargain [aR 11 0] μ (rI (bS A (sS A)).1 μ) := by
  have w := R.W.sm
  refine MetA.of2 k_X5_bestBargain rfl (Nat.le_of_ble_eq_true rfl) rfl (B_X5_bestBargain_0 ?_)
  refine loopN (sS A) (fun s => AW M_X5_bestBargain 0 6 [some (aR 11 0), some (aI (bS A s).1), some (aI (bS A s).2), some (aI (nI s)), none, none, none, none] [] μ _) ?_ ?_
  · refine B_X5_bestBargain_6 ?_
    rw [R.S]
    exact ⟨fun _ => rI_ok rfl rfl, fun q => absurd (nI_le (Nat.le_refl _) (by omega)) q⟩
  · intro s hs ih
    have w1 := R.W.ow hs
    have w0 := R.W.hm
    have w2 := R.W.ln hs
    have w4 := sCost_le R.W (sOw A s)
    have hv : vp_in (nI s) 8 := vp_in_nI (by omega) (by omega)
    refine B_X5_bestBargain_6 ?_
    rw [R.S, nI_clamp (show s < 2 ^ 31 by omega), R.ow hs]
    refine ⟨fun q => absurd q (nI_ge hs (by omega)), fun _ => ⟨hv, _, _, c_licenceCost (by decide) R w1, hv, ?_⟩⟩
    rw [R.ow hs]
    refine ⟨_, _, c_canPayLicence (by decide) R w1, ?_⟩
    rw [bS] at ih
    by_cases c : ¬ 20 < sSh A (sOw A s) ∧ sCost A (sOw A s) ≤ sCn A (sOw A s)
    · rw [bi_t c]
      refine loopN (sLn A s) (fun k => AW M_X5_bestBargain 0 56 [some (aR 11 0), some (aI (bK A (bS A s) s k).1), some (aI (bK A (bS A s) s k).2), some (aI (nI s)), some (aI (nI (sCost A (sOw A s)))), some (aI (nI 1)), some (aI (nI k)), none] [] μ _) ?_ ?_
      · refine B_X5_bestBargain_56 ?_
        rw [nI_clamp (show s < 2 ^ 31 by omega), R.ln hs]
        refine ⟨fun q => absurd q (by decide), fun _ => ⟨hv, fun _ => ?_, fun q => absurd (nI_le (Nat.le_refl _) (by omega)) q⟩⟩
        rw [show (1 : Int32) = nI 1 from rfl, nI_add]
        exact ih
      · intro k hk ih2
        have w3 := R.W.lv hs hk
        refine B_X5_bestBargain_56 ?_
        rw [nI_clamp (show s < 2 ^ 31 by omega), R.ln hs]
        refine ⟨fun q => absurd q (by decide), fun _ => ⟨hv, fun q => absurd q (nI_ge hk (by omega)), fun _ => ⟨_, _, c_laughersAt (by decide) R hs hk, _, _, c_bitCount (sMask_lt R.W s k), _, _, c_levelAt (by decide) R hs hk, ?_⟩⟩⟩
        have z1 : (nI (sLv A s k) = 1) = (sLv A s k = 1) := by rw [n1, nI_eqI (by omega) (by decide)]
        rw [bK, bSt] at ih2
        rw [z1]
        refine ⟨fun q => ?_, fun q => ?_⟩
        · rw [if_neg (fun z => q z.2.1)] at ih2
          rw [show (1 : Int32) = nI 1 from rfl, nI_add]
          exact ih2
        · have hb : ¬ sBad A s k = 0 := fun z => by rw [sBad_0 R.W hs hk] at z; omega
          rw [pop_sMask R.W hb]
          have e : nI s * 8 + nI k = nI (s * 8 + k) := by rw [show (8 : Int32) = nI 8 from rfl, pk_mul, nI_add]
          rw [e, show (1 : Int32) = nI 1 from rfl, nI_add]
          refine ⟨fun q2 => ?_, fun q2 => ⟨fun q3 => ?_, fun q3 => ?_⟩⟩
          · rw [if_pos ⟨c, q, Or.inl q2⟩] at ih2
            exact ih2
          · rw [if_neg (fun z => z.2.2.elim q2 (fun y => Int32.not_lt.mpr q3 y))] at ih2
            exact ih2
          · rw [if_pos ⟨c, q, Or.inr (Int32.not_le.mp q3)⟩] at ih2
            exact ih2
    · rw [bi_f c]
      rw [bK_no c] at ih
      refine B_X5_bestBargain_56 ?_
      refine ⟨fun _ => ?_, fun q => absurd rfl q⟩
      rw [show (1 : Int32) = nI 1 from rfl, nI_add]
      exact ih
def qBg (A : SP) (a : Int32) : AN := if (bS A (sS A)).1 = -1 then .inr 4 else if a = 0 then .inl ((bS A (sS A)).1 / 8) else .inl ((bS A (sS A)).1 - (bS A (sS A)).1 / 8 * 8)
theorem p_bargain {a : Int32} (H : TC μ T) : CK M_X5_bargain [aI a] μ (qBg (tA T) a) T := by
  refine CK.rd H ?_
  refine MetA.of2 k_X5_bargain rfl (Nat.le_of_ble_eq_true rfl) rfl (B_X5_bargain_0 ?_)
  unfold qBg
  refine ⟨_, _, c_bestBargain H.1, fun q => ?_, fun q => ?_⟩
  · rw [if_neg q]
    by_cases c : a = 0
    · rw [if_pos c]
      exact ⟨fun _ => rI_ok rfl rfl, fun z => absurd c z⟩
    · rw [if_neg c]
      exact ⟨fun z => absurd z c, fun _ => rI_ok rfl rfl⟩
  · rw [if_pos q]
    exact rX_ok rfl
theorem c_isSheetWell {s : Nat} (R : RC μ 0 A) (hs : s < sS A) : MetA M_X5_isSheetWell [aR 11 0, aI (nI s)] μ (rI 1 μ) := by
  have w := R.W.sm
  have w2 := R.W.ln hs
  have hv : vp_in (nI s) 8 := vp_in_nI (by omega) (by omega)
  refine MetA.of2 k_X5_isSheetWell rfl (Nat.le_of_ble_eq_true rfl) rfl (B_X5_isSheetWell_0 ?_)
  refine loopN (sLn A s) (fun k => AW M_X5_isSheetWell 0 2 [some (aR 11 0), some (aI (nI s)), some (aI (nI k))] [] μ _) ?_ ?_
  · refine B_X5_isSheetWell_2 ?_
    rw [nI_clamp (show s < 2 ^ 31 by omega), R.ln hs]
    exact ⟨hv, fun _ => rI_ok rfl rfl, fun q => absurd (nI_le (Nat.le_refl _) (by omega)) q⟩
  · intro k hk ih
    have w3 := R.W.lv hs hk
    refine B_X5_isSheetWell_2 ?_
    rw [nI_clamp (show s < 2 ^ 31 by omega), R.ln hs]
    refine ⟨hv, fun q => absurd q (nI_ge hk (by omega)), fun _ => ⟨_, _, c_fineByRules (by decide) R hs hk, _, _, c_fineAtOnce (by decide) R hs hk, fun _ => ⟨_, _, c_levelAt (by decide) R hs hk, fun _ => ?_, fun q => ⟨_, _, c_isMisprint (by decide) R hs hk, fun _ => ?_, fun q2 => ?_⟩⟩, fun q => absurd rfl q⟩⟩
    · rw [show (1 : Int32) = nI 1 from rfl, nI_add]
      exact ih
    · rw [show (1 : Int32) = nI 1 from rfl, nI_add]
      exact ih
    · have z : (nI (sLv A s k) < 2) = (sLv A s k < 2) := by rw [n2, nI_ltI (by omega) (by decide)]
      rw [z] at q
      have := R.W.l0 hs hk
      rw [bi_t (by omega)] at q2
      exact absurd q2 (by decide)
theorem p_isWell (H : TC μ T) : CK M_X5_isWell [] μ (.inl 1) T := by
  have w := H.1.W.sm
  have key : ∃ m, Sc μ m ∧ ∀ P, AW M_X5_isWell 0 21 [some (aR 11 0), some (aI (nI (sS (tA T))))] [] m P → AW M_X5_isWell 0 21 [some (aR 11 0), some (aI 0)] [] μ P := by
    refine loopF (sS (tA T)) (fun s => ∃ m, Sc μ m ∧ ∀ P, AW M_X5_isWell 0 21 [some (aR 11 0), some (aI (nI s))] [] m P → AW M_X5_isWell 0 21 [some (aR 11 0), some (aI 0)] [] μ P) ⟨μ, Sc.rf, fun P h => h⟩ ?_
    intro s hs ⟨m, Sm, hm⟩
    have Hm := TC.sc Sm H
    obtain ⟨m2, h1, h2⟩ := c_finesInThought Hm.1 hs
    have H2 := TC.sc h2 Hm
    refine ⟨m2, Sm.tr h2, fun P h => hm P (B_X5_isWell_21 ?_)⟩
    rw [Hm.1.S]
    refine ⟨fun q => absurd q (nI_ge hs (by omega)), fun _ => ⟨_, _, c_finesByPlace (by decide) Hm.1 hs, _, _, h1, fun q => absurd rfl q, fun _ => ⟨_, _, c_isSheetWell H2.1 hs, fun _ => ?_, fun q => absurd q (by decide)⟩⟩⟩
    rw [show (1 : Int32) = nI 1 from rfl, nI_add]
    exact h
  obtain ⟨m, Sm, hm⟩ := key
  have Hm := TC.sc Sm H
  refine ⟨m, ?_, Hm, Sm.cl⟩
  refine MetA.of2 k_X5_isWell rfl (Nat.le_of_ble_eq_true rfl) rfl (B_X5_isWell_0 ?_)
  refine ⟨_, _, c_laughsByMisprint (by decide) H.1, _, _, c_laughsByReader (by decide) H.1, fun _ => hm _ (B_X5_isWell_21 ?_), fun q => absurd rfl q⟩
  rw [Hm.1.S]
  exact ⟨fun _ => rI_ok rfl rfl, fun q => absurd (nI_le (Nat.le_refl _) (by omega)) q⟩
def qUn (T : TT) : AN × TT := if tHn T = 0 then (.inr 3, T) else (.inl (nI (tHn T - 1)), (tHf T (tHn T - 1), (tHf T, tHn T - 1), T.2.2))
theorem p_undo (H : TC μ T) : CK M_X5_undo [] μ (qUn T).1 (qUn T).2 := by
  obtain ⟨a, b, z, d, e, f, g⟩ := H
  have b0 : HC μ (tHf T) (tHn T) := b
  have hn : tHn T ≤ 8 := b0.1
  have z0 : (μ 12 0 2 = 0) = (tHn T = 0) := by
    obtain ⟨_, x, _, _, h2, _⟩ := b0
    rw [h2, nI_z (by omega)]
  unfold qUn
  by_cases c : tHn T = 0
  · rw [if_pos c]
    refine CK.rd ⟨a, b, z, d, e, f, g⟩ ?_
    refine MetA.of2 k_X5_undo rfl (Nat.le_of_ble_eq_true rfl) rfl (B_X5_undo_0 ?_)
    rw [z0]
    exact ⟨fun q => absurd c q, fun _ => rX_ok rfl⟩
  · rw [if_neg c]
    obtain ⟨m, h1, h2, h3, w⟩ := c_takeBack b0 (by omega)
    have h5 : m 12 0 2 = nI (tHn T - 1) := by
      obtain ⟨_, x, _, _, h, _⟩ := h2
      exact h
    refine ⟨m, ?_, ⟨h3, h2, ZC.mv (by rw [w 11 0 (by omega) (by omega)]) (fun t ht => w t 3 (by omega) (by omega)) z, FC.mv (w _ _ (by omega) (by omega)) d, IC.mv (by rw [w 15 0 (by omega) (by omega)]) (w _ _ (by omega) (by omega)) e, by rw [w 11 0 (by omega) (by omega)]; exact f, LC.mv (w _ _ (by omega) (by omega)) (w _ _ (by omega) (by omega)) g⟩, fun t ht => ?_⟩
    · refine MetA.of2 k_X5_undo rfl (Nat.le_of_ble_eq_true rfl) rfl (B_X5_undo_0 ?_)
      rw [z0]
      exact ⟨fun _ => ⟨_, h1, rI_ok h5 rfl⟩, fun q => absurd q c⟩
    · funext o
      exact w t o (by omega) (by omega)
theorem p_save (H : TC μ T) : CK M_X5_save [] μ (.inl (nI (sS (tA T)))) (tA T, T.2.1, (true, tA T), T.2.2.2) := by
  obtain ⟨a, b, z, d, e, f, g⟩ := H
  have R3 := cpS_RC (μ := μ) (j := 3) (o := 0) (A := tA T) (by decide) a
  have w : ∀ t o, ¬ (t = 11 ∧ o = 0) → ¬ (t < 11 ∧ o = 3) → mset (cpS μ 3 0) 11 0 (upd (cpS μ 3 0 11 0) 8 1) t o = μ t o := fun t o q1 q2 => by rw [mset_n q1]; exact cpS_Fr t o q2
  have e11 : cpS μ 3 0 11 0 = μ 11 0 := cpS_Fr 11 0 (by omega)
  have a' : RC (mset (cpS μ 3 0) 11 0 (upd (cpS μ 3 0 11 0) 8 1)) 0 (tA T) := RC.mv (fun t ht => w t 0 (by omega) (by omega)) a
  refine ⟨mset (cpS μ 3 0) 11 0 (upd (cpS μ 3 0 11 0) 8 1), ?_, ⟨a', HC.mv (w _ _ (by omega) (by omega)) (fun t j ht hj => w t j (by omega) (by omega)) b, ⟨by rw [mset_s]; rfl, fun _ => RC.mv (fun t ht => mset_t (by omega)) R3⟩, FC.mv (w _ _ (by omega) (by omega)) d, IC.mv (by rw [w 15 0 (by omega) (by omega)]) (w _ _ (by omega) (by omega)) e, by rw [mset_s]; show cpS μ 3 0 11 0 9 = _; rw [e11]; exact f, LC.mv (w _ _ (by omega) (by omega)) (w _ _ (by omega) (by omega)) g⟩, fun t ht => ?_⟩
  · refine MetA.of2 k_X5_save rfl (Nat.le_of_ble_eq_true rfl) rfl (B_X5_save_0 ?_)
    refine ⟨_, c_copyFrom (by decide) (by decide), fun m em => rI_ok ?_ em⟩
    rw [em]
    exact a'.S
  · funext o
    exact w t o (by omega) (by omega)
def qRs (T : TT) : AN × TT := if tSb T = true then (.inl (nI (sS (tSs T))), (tSs T, (tHf T, 0), T.2.2)) else (.inr 3, T)
theorem p_restore (H : TC μ T) : CK M_X5_restore [] μ (qRs T).1 (qRs T).2 := by
  obtain ⟨a, b, z, d, e, f, g⟩ := H
  have z0 : ZC μ (tSb T) (tSs T) := z
  unfold qRs
  by_cases c : tSb T = true
  · rw [if_pos c]
    have z1 : μ 11 0 8 = 1 := by rw [z0.1, if_pos c]
    have R0 := cpS_RC (μ := μ) (j := 0) (o := 3) (A := tSs T) (by decide) (z0.2 c)
    have w : ∀ t o, ¬ (t = 12 ∧ o = 0) → ¬ (t < 11 ∧ o = 0) → mset (cpS μ 0 3) 12 0 (upd (cpS μ 0 3 12 0) 2 0) t o = μ t o := fun t o q1 q2 => by rw [mset_n q1]; exact cpS_Fr t o q2
    have a' : RC (mset (cpS μ 0 3) 12 0 (upd (cpS μ 0 3 12 0) 2 0)) 0 (tSs T) := RC.mv (fun t ht => mset_t (by omega)) R0
    have e12 : cpS μ 0 3 12 0 = μ 12 0 := cpS_Fr 12 0 (by omega)
    obtain ⟨_, x, hx, b1, b2, _⟩ := b
    refine ⟨mset (cpS μ 0 3) 12 0 (upd (cpS μ 0 3 12 0) 2 0), ?_, ⟨a', ⟨by show 0 ≤ 8; omega, x, hx, by rw [mset_s]; show cpS μ 0 3 12 0 1 = _; rw [e12]; exact b1, by rw [mset_s]; rfl, fun i hi => absurd hi (by show ¬ i < 0; omega)⟩, ZC.mv (by rw [w 11 0 (by omega) (by omega)]) (fun t ht => w t 3 (by omega) (by omega)) z, FC.mv (w _ _ (by omega) (by omega)) d, IC.mv (by rw [w 15 0 (by omega) (by omega)]) (w _ _ (by omega) (by omega)) e, by rw [w 11 0 (by omega) (by omega)]; exact f, LC.mv (w _ _ (by omega) (by omega)) (w _ _ (by omega) (by omega)) g⟩, fun t ht => ?_⟩
    · refine MetA.of2 k_X5_restore rfl (Nat.le_of_ble_eq_true rfl) rfl (B_X5_restore_0 ?_)
      rw [z1]
      refine ⟨fun _ => ⟨_, c_copyFrom (by decide) (by decide), fun m em => rI_ok ?_ em⟩, fun q => absurd q (by decide)⟩
      rw [em]
      exact a'.S
    · funext o
      exact w t o (by omega) (by omega)
  · rw [if_neg c]
    refine CK.rd ⟨a, b, z, d, e, f, g⟩ ?_
    refine MetA.of2 k_X5_restore rfl (Nat.le_of_ble_eq_true rfl) rfl (B_X5_restore_0 ?_)
    rw [z0.1, if_neg c]
    exact ⟨fun q => absurd rfl q, fun _ => rX_ok rfl⟩
end SL
