/-! changes at a place, readers, editions -/
section SG
variable {μ : Mem} {j : Nat} {A : SP} {s k h v : Nat}
theorem plc (A : SP) (W : WF A) (a b : Int32) : ((a < 0 ∨ nI (sS A) ≤ a) ∨ b < 0 ∨ nI (sLn A a.toNatClampNeg) ≤ b) ∨ ∃ s k, s < sS A ∧ k < sLn A s ∧ a = nI s ∧ b = nI k := by
  have w := W.sm
  rcases in_or a (n := sS A) (by omega) with c1 | ⟨s, hs, rfl⟩
  · exact Or.inl (Or.inl c1)
  · have w2 := W.ln hs
    rcases in_or b (n := sLn A s) (by omega) with c2 | ⟨k, hk, rfl⟩
    · refine Or.inl (Or.inr ?_)
      rw [nI_clamp (by omega)]
      exact c2
    · exact Or.inr ⟨s, k, hs, hk, rfl, rfl⟩
theorem plc_no (W : WF A) (hs : s < sS A) (hk : k < sLn A s) : ¬ ((nI s < 0 ∨ nI (sS A) ≤ nI s) ∨ nI k < 0 ∨ nI (sLn A (nI s).toNatClampNeg) ≤ nI k) := by
  have w := W.sm
  have w2 := W.ln hs
  rw [nI_clamp (by omega)]
  intro q
  rcases q with (q | q) | q | q
  · exact nI_pos (by omega) q
  · exact nI_ge hs (by omega) q
  · exact nI_pos (by omega) q
  · exact nI_ge hk (by omega) q
theorem c_hasPlace_n {a b : Int32} (hj : j < 12) (R : RC μ j A) (c : (a < 0 ∨ nI (sS A) ≤ a) ∨ b < 0 ∨ nI (sLn A a.toNatClampNeg) ≤ b) : MetA M_X4_hasPlace [aR 0 j, aI a, aI b] μ (rI 0 μ) := by
  have w := R.W.sm
  rcases in_or a (n := sS A) (by omega) with c1 | ⟨s, hs, rfl⟩
  · exact c_hasPlace_n1 hj R c1
  · rw [nI_clamp (by omega)] at c
    refine c_hasPlace_n2 hj R hs (c.resolve_left fun q => q.elim (nI_pos (by omega)) (nI_ge hs (by omega)))
theorem ch_num {c : Int32} (h1 : ¬ c < 97) (h2 : ¬ 102 < c) : ∃ v, 1 ≤ v ∧ v ≤ 6 ∧ c = nI (96 + v) ∧ c - 97 + 1 = nI v := by
  have h0 : ¬ c < 0 := fun q => h1 (Int32.lt_trans q (by decide))
  obtain ⟨x, hx, rfl⟩ := nI_of h0
  rw [show (97 : Int32) = nI 97 from rfl, nI_ltI hx (by decide)] at h1
  rw [show (102 : Int32) = nI 102 from rfl, nI_ltI (by decide) hx] at h2
  refine ⟨x - 96, by omega, by omega, by congr 1; omega, ?_⟩
  rw [show (97 : Int32) = nI 97 from rfl, pk_sub (by omega), show (1 : Int32) = nI 1 from rfl, nI_add]
  congr 1
  omega
theorem c_setLetter {a b c : Int32} (R : RC μ 0 A) : ∃ μ', MetA M_X5_setLetter [aR 11 0, aI a, aI b, aI c] μ (rI (outc (chSet A a b c)) μ') ∧ CO μ μ' (chSet A a b c) := by
  have w := R.W.sm
  unfold chSet
  rcases plc A R.W a b with c1 | ⟨s, k, hs, hk, rfl, rfl⟩
  · rw [if_pos c1]
    refine ⟨μ, ?_, rfl⟩
    refine MetA.of2 k_X5_setLetter rfl (Nat.le_of_ble_eq_true rfl) rfl (B_X5_setLetter_0 ?_)
    exact ⟨_, _, c_hasPlace_n (by decide) R c1, fun q => absurd rfl q, fun _ => rI_ok rfl rfl⟩
  · have w2 := R.W.ln hs
    have w3 := R.W.rt hs hk
    have w4 := R.W.pl hs hk
    rw [if_neg (plc_no R.W hs hk), nI_clamp (show s < 2 ^ 31 by omega), nI_clamp (show k < 2 ^ 31 by omega)]
    unfold chSet2
    by_cases c2 : c < 97 ∨ 102 < c
    · rw [if_pos c2]
      refine ⟨μ, ?_, rfl⟩
      refine MetA.of2 k_X5_setLetter rfl (Nat.le_of_ble_eq_true rfl) rfl (B_X5_setLetter_0 ?_)
      refine ⟨_, _, c_hasPlace_y (by decide) R hs hk, fun _ => ⟨fun _ => rI_ok rfl rfl, fun q => ⟨fun q2 => absurd (Int32.not_lt.mpr q2) (fun z => z (c2.resolve_left q)), fun _ => rI_ok rfl rfl⟩⟩, fun q => absurd q (by decide)⟩
    · rw [if_neg c2]
      have d1 : ¬ c < 97 := fun q => c2 (Or.inl q)
      have d2 : c ≤ 102 := Int32.not_lt.mp fun q => c2 (Or.inr q)
      obtain ⟨v, hv1, hv2, ec, ev⟩ := ch_num d1 (fun q => c2 (Or.inr q))
      rw [ev, nI_clamp (by omega)]
      by_cases c3 : nI (sPl A s k) = nI v
      · rw [if_pos c3]
        refine ⟨refM μ 2 (nI k), ?_, rfl⟩
        refine MetA.of2 k_X5_setLetter rfl (Nat.le_of_ble_eq_true rfl) rfl (B_X5_setLetter_0 ?_)
        rw [ev]
        exact ⟨_, _, c_hasPlace_y (by decide) R hs hk, fun _ => ⟨fun q => absurd q d1, fun _ => ⟨fun _ => ⟨_, _, c_placedAt (by decide) R hs hk, fun q => absurd c3.symm q, fun _ => ⟨_, _, c_refuse, rI_ok rfl rfl⟩⟩, fun q => absurd d2 q⟩⟩, fun q => absurd q (by decide)⟩
      · rw [if_neg c3]
        have c3' : ¬ nI v = nI (sPl A s k) := fun q => c3 q.symm
        by_cases c4 : nI (sRt A s k) = nI v
        · rw [if_pos c4]
          refine ⟨refM μ 3 (nI k), ?_, rfl⟩
          refine MetA.of2 k_X5_setLetter rfl (Nat.le_of_ble_eq_true rfl) rfl (B_X5_setLetter_0 ?_)
          rw [ev]
          exact ⟨_, _, c_hasPlace_y (by decide) R hs hk, fun _ => ⟨fun q => absurd q d1, fun _ => ⟨fun _ => ⟨_, _, c_placedAt (by decide) R hs hk, fun _ => ⟨_, _, c_rightAt (by decide) R hs hk, fun q => absurd c4.symm q, fun _ => ⟨_, _, c_refuse, rI_ok rfl rfl⟩⟩, fun q => absurd q c3'⟩, fun q => absurd d2 q⟩⟩, fun q => absurd q (by decide)⟩
        · rw [if_neg c4]
          have c4' : ¬ nI v = nI (sRt A s k) := fun q => c4 q.symm
          have R2 := RC_put R hs hk (v := v) ⟨hv1, hv2⟩
          have hp := c_putLetter (j := 0) (by decide) R hs hk (v := v) ⟨hv1, hv2⟩
          refine ⟨_, ?_, ⟨_, ?_, rfl⟩, R2, fun t o h => by rw [mset_n (by omega), mset_n (by omega)]⟩
          · refine MetA.of2 k_X5_setLetter rfl (Nat.le_of_ble_eq_true rfl) rfl (B_X5_setLetter_0 ?_)
            rw [ev]
            exact ⟨_, _, c_hasPlace_y (by decide) R hs hk, fun _ => ⟨fun q => absurd q d1, fun _ => ⟨fun _ => ⟨_, _, c_placedAt (by decide) R hs hk, fun _ => ⟨_, _, c_rightAt (by decide) R hs hk, fun _ => ⟨_, hp, _, _, c_countOnSheet (j := 0) (lv := 1) (by decide) R2 hs (by decide), rI_ok rfl rfl⟩, fun q => absurd q c4'⟩, fun q => absurd q c3'⟩, fun q => absurd d2 q⟩⟩, fun q => absurd q (by decide)⟩
          · have := sCnt_le (oPut A s k v) s 1
            have : sLn (oPut A s k v) s = sLn A s := rfl
            omega
theorem sCost_le (W : WF A) (h : Nat) : sCost A h ≤ 66 := by
  have := sCntH_le W h 2
  unfold sCost
  omega
theorem c_sellLicence {a b : Int32} (R : RC μ 0 A) : ∃ μ', MetA M_X5_sellLicence [aR 11 0, aI a, aI b] μ (rI (outc (chLic A a b)) μ') ∧ CO μ μ' (chLic A a b) := by
  have w := R.W.sm
  unfold chLic
  rcases plc A R.W a b with c1 | ⟨s, k, hs, hk, rfl, rfl⟩
  · rw [if_pos c1]
    refine ⟨μ, ?_, rfl⟩
    refine MetA.of2 k_X5_sellLicence rfl (Nat.le_of_ble_eq_true rfl) rfl (B_X5_sellLicence_0 ?_)
    exact ⟨_, _, c_hasPlace_n (by decide) R c1, fun q => absurd rfl q, fun _ => rI_ok rfl rfl⟩
  · have w2 := R.W.ln hs
    have w3 := R.W.lv hs hk
    have w4 := R.W.ow hs
    have w5 := R.W.hm
    have w6 := R.W.cn w4
    have w7 := R.W.sh w4
    have w8 := sCost_le R.W (sOw A s)
    have hv1 : vp_in (nI s) 8 := vp_in_nI (by omega) (by omega)
    have hv2 : vp_in (nI (sOw A s)) 4 := vp_in_nI (by omega) (by omega)
    have hv3 : vp_in (nI s * 8 + nI k) 64 := by simp (disch := omega) only [n0, n1, n2, n3, n4, n5, n6, n7, n8, n9, n10, n20, n99, nm1, nI_add, pk_mul, nI_clamp, nI_leI, nI_ltI, nI_eqI, vp_nI, pk_sub, nI_addneg, Nat.not_lt_zero, false_implies, not_false_eq_true, true_implies, true_and, and_true, Nat.le_refl, not_true_eq_false]
    have hc : (nI s * 8 + nI k).toNatClampNeg = s * 8 + k := by simp (disch := omega) only [n0, n1, n2, n3, n4, n5, n6, n7, n8, n9, n10, n20, n99, nm1, nI_add, pk_mul, nI_clamp, nI_leI, nI_ltI, nI_eqI, vp_nI, pk_sub, nI_addneg, Nat.not_lt_zero, false_implies, not_false_eq_true, true_implies, true_and, and_true, Nat.le_refl, not_true_eq_false]
    rw [if_neg (plc_no R.W hs hk), nI_clamp (show s < 2 ^ 31 by omega), nI_clamp (show k < 2 ^ 31 by omega)]
    unfold chLic2
    have hy := c_hasPlace_y (by decide) R hs hk
    have hl := c_levelAt (by decide) R hs hk
    have hp := c_licenceCost (by decide) R w4
    have hz := nI_z (show sLv A s k < 2 ^ 31 by omega)
    have h2 : (nI (sLv A s k) < 2) = (sLv A s k < 2) := by rw [n2, nI_ltI (by omega) (by decide)]
    have E0 : (nI s).toNatClampNeg = s := nI_clamp (by omega)
    have E1 : μ 4 0 s = nI (sOw A s) := R.ow hs
    have E2 : (nI (sOw A s)).toNatClampNeg = sOw A s := nI_clamp (by omega)
    have E3 : μ 1 0 (sOw A s) = nI (sCn A (sOw A s)) := R.cn w4
    have E4 : μ 2 0 (sOw A s) = nI (sSh A (sOw A s)) := R.sh w4
    have E5 : nI (sCost A (sOw A s)) ≤ nI (sCn A (sOw A s)) ↔ sCost A (sOw A s) ≤ sCn A (sOw A s) := nI_leI (by omega) (by omega)
    by_cases c2 : sLv A s k = 0
    · rw [if_pos c2]
      refine ⟨refM μ 4 (nI k), ?_, rfl⟩
      refine MetA.of2 k_X5_sellLicence rfl (Nat.le_of_ble_eq_true rfl) rfl (B_X5_sellLicence_0 ?_)
      rw [E0]
      refine ⟨_, _, hy, fun _ => ⟨_, _, hl, hv1, ?_⟩, fun q => absurd q (by decide)⟩
      rw [E1, E2]
      exact ⟨_, _, hp, fun q => absurd (hz.mpr c2) q, fun _ => ⟨_, _, c_refuse, rI_ok rfl rfl⟩⟩
    · rw [if_neg c2]
      by_cases c3 : 2 ≤ sLv A s k
      · rw [if_pos c3]
        refine ⟨refM μ 5 (nI k), ?_, rfl⟩
        refine MetA.of2 k_X5_sellLicence rfl (Nat.le_of_ble_eq_true rfl) rfl (B_X5_sellLicence_0 ?_)
        rw [E0]
        refine ⟨_, _, hy, fun _ => ⟨_, _, hl, hv1, ?_⟩, fun q => absurd q (by decide)⟩
        rw [E1, E2]
        exact ⟨_, _, hp, fun _ => ⟨fun q => absurd (h2.mp q) (by omega), fun _ => ⟨_, _, c_refuse, rI_ok rfl rfl⟩⟩, fun q => absurd (hz.mp q) c2⟩
      · rw [if_neg c3]
        have ha := c_isAshamed (by decide) R w4
        by_cases c4 : 20 < sSh A (sOw A s)
        · rw [if_pos c4]
          rw [bi_t c4] at ha
          refine ⟨refM μ 6 (nI (sSh A (sOw A s))), ?_, rfl⟩
          refine MetA.of2 k_X5_sellLicence rfl (Nat.le_of_ble_eq_true rfl) rfl (B_X5_sellLicence_0 ?_)
          rw [E0]
          refine ⟨_, _, hy, fun _ => ⟨_, _, hl, hv1, ?_⟩, fun q => absurd q (by decide)⟩
          rw [E1, E2]
          refine ⟨_, _, hp, fun _ => ⟨fun _ => ⟨_, _, ha, fun q => absurd q (by decide), fun _ => ⟨hv2, ?_⟩⟩, fun q => absurd (h2.mpr (by omega)) q⟩, fun q => absurd (hz.mp q) c2⟩
          rw [E4]
          exact ⟨_, _, c_refuse, rI_ok rfl rfl⟩
        · rw [if_neg c4]
          rw [bi_f c4] at ha
          by_cases c5 : sCn A (sOw A s) < sCost A (sOw A s)
          · rw [if_pos c5]
            refine ⟨refM μ 7 (nI (sCn A (sOw A s))), ?_, rfl⟩
            refine MetA.of2 k_X5_sellLicence rfl (Nat.le_of_ble_eq_true rfl) rfl (B_X5_sellLicence_0 ?_)
            rw [E0]
            refine ⟨_, _, hy, fun _ => ⟨_, _, hl, hv1, ?_⟩, fun q => absurd q (by decide)⟩
            rw [E1, E2]
            refine ⟨_, _, hp, fun _ => ⟨fun _ => ⟨_, _, ha, fun _ => ⟨hv2, ?_⟩, fun q => absurd rfl q⟩, fun q => absurd (h2.mpr (by omega)) q⟩, fun q => absurd (hz.mp q) c2⟩
            rw [E3]
            exact ⟨fun q => absurd (E5.mp q) (by omega), fun _ => ⟨hv2, _, _, c_refuse, rI_ok rfl rfl⟩⟩
          · rw [if_neg c5]
            have R1 := RC_cn R w4 (v := sCn A (sOw A s) - sCost A (sOw A s)) (by omega)
            have R2 := RC_C R1 (k := 4) (v := sC A 4 + nI (sCost A (sOw A s))) (by decide)
            have R3 := RC_lv R2 (s := s) (k := k) hs hk (v := 2) (by omega) ⟨fun z => absurd z (by omega), fun z => by
              have := (R.W.l0 hs hk).mpr z
              omega⟩
            refine ⟨_, ?_, ⟨_, ?_, rfl⟩, R3, fun t o h => by rw [mset_n (by omega), mset_n (by omega), mset_n (by omega)]⟩
            · refine MetA.of2 k_X5_sellLicence rfl (Nat.le_of_ble_eq_true rfl) rfl (B_X5_sellLicence_0 ?_)
              rw [E0, hc]
              refine ⟨_, _, hy, fun _ => ⟨_, _, hl, hv1, ?_⟩, fun q => absurd q (by decide)⟩
              rw [E1, E2]
              refine ⟨_, _, hp, fun _ => ⟨fun _ => ⟨_, _, ha, fun _ => ⟨hv2, ?_⟩, fun q => absurd rfl q⟩, fun q => absurd (h2.mpr (by omega)) q⟩, fun q => absurd (hz.mp q) c2⟩
              rw [E3]
              refine ⟨fun _ => ⟨hv2, hv2, fun m1 e1 m2 e2 => ⟨hv3, fun m3 e3 => rI_ok rfl ?_⟩⟩, fun q => absurd (E5.mpr (by omega)) q⟩
              rw [pk_sub (by omega)] at e1
              have f1 : m1 0 0 7 = sC A 4 := by rw [e1, mset_t (by decide)]; exact R.C (k := 4) (by decide)
              rw [f1] at e2
              rw [e3, e2, e1]
              rfl
            · omega
theorem c_takeFine {a b : Int32} (R : RC μ 0 A) : ∃ μ', MetA M_X5_takeFine [aR 11 0, aI a, aI b] μ (rI (outc (chCor A a b)) μ') ∧ CO μ μ' (chCor A a b) := by
  have w := R.W.sm
  unfold chCor
  rcases plc A R.W a b with c1 | ⟨s, k, hs, hk, rfl, rfl⟩
  · rw [if_pos c1]
    refine ⟨μ, ?_, rfl⟩
    refine MetA.of2 k_X5_takeFine rfl (Nat.le_of_ble_eq_true rfl) rfl (B_X5_takeFine_0 ?_)
    exact ⟨_, _, c_hasPlace_n (by decide) R c1, fun q => absurd rfl q, fun _ => rI_ok rfl rfl⟩
  · have w2 := R.W.ln hs
    have w3 := R.W.lv hs hk
    have w4 := R.W.ow hs
    have w5 := R.W.hm
    have w6 := R.W.cn w4
    have w8 := sFine_le R.W hs hk
    have w9 := R.W.rt hs hk
    have hv1 : vp_in (nI s) 8 := vp_in_nI (by omega) (by omega)
    have hv2 : vp_in (nI (sOw A s)) 4 := vp_in_nI (by omega) (by omega)
    rw [if_neg (plc_no R.W hs hk), nI_clamp (show s < 2 ^ 31 by omega), nI_clamp (show k < 2 ^ 31 by omega)]
    unfold chCor2
    have hy := c_hasPlace_y (by decide) R hs hk
    have hl := c_levelAt (by decide) R hs hk
    have hp := c_fineByRules (by decide) R hs hk
    have hz := nI_z (show sLv A s k < 2 ^ 31 by omega)
    have E0 : (nI s).toNatClampNeg = s := nI_clamp (by omega)
    have E1 : μ 4 0 s = nI (sOw A s) := R.ow hs
    have E2 : (nI (sOw A s)).toNatClampNeg = sOw A s := nI_clamp (by omega)
    have E3 : μ 1 0 (sOw A s) = nI (sCn A (sOw A s)) := R.cn w4
    have E5 : nI (sFine A s k) ≤ nI (sCn A (sOw A s)) ↔ sFine A s k ≤ sCn A (sOw A s) := nI_leI (by omega) (by omega)
    by_cases c2 : sLv A s k = 0
    · rw [if_pos c2]
      refine ⟨refM μ 4 (nI k), ?_, rfl⟩
      refine MetA.of2 k_X5_takeFine rfl (Nat.le_of_ble_eq_true rfl) rfl (B_X5_takeFine_0 ?_)
      rw [E0]
      refine ⟨_, _, hy, fun _ => ⟨hv1, ?_⟩, fun q => absurd q (by decide)⟩
      exact ⟨_, _, hp, _, _, hl, fun q => absurd (hz.mpr c2) q, fun _ => ⟨_, _, c_refuse, rI_ok rfl rfl⟩⟩
    · rw [if_neg c2]
      by_cases c5 : sCn A (sOw A s) < sFine A s k
      · rw [if_pos c5]
        refine ⟨refM μ 7 (nI (sCn A (sOw A s))), ?_, rfl⟩
        refine MetA.of2 k_X5_takeFine rfl (Nat.le_of_ble_eq_true rfl) rfl (B_X5_takeFine_0 ?_)
        rw [E0]
        refine ⟨_, _, hy, fun _ => ⟨hv1, ?_⟩, fun q => absurd q (by decide)⟩
        rw [E1, E2]
        refine ⟨_, _, hp, _, _, hl, fun _ => ⟨hv2, ?_⟩, fun q => absurd (hz.mp q) c2⟩
        rw [E3]
        exact ⟨fun q => absurd (E5.mp q) (by omega), fun _ => ⟨hv2, _, _, c_refuse, rI_ok rfl rfl⟩⟩
      · rw [if_neg c5]
        have R1 := RC_cn R w4 (v := sCn A (sOw A s) - sFine A s k) (by omega)
        have R2 := RC_fp R1 (h := sOw A s) w4 (v := sFp A (sOw A s) + nI (sFine A s k))
        have hp3 := c_putLetter (j := 0) (by decide) R2 (s := s) (k := k) hs hk (v := sRt A s k) w9
        have R3 := RC_put R2 (s := s) (k := k) hs hk (v := sRt A s k) w9
        have hr3 := c_rightAt (j := 0) (by decide) R2 (s := s) (k := k) hs hk
        refine ⟨_, ?_, ⟨_, ?_, rfl⟩, R3, fun t o h => by rw [mset_n (by omega), mset_n (by omega), mset_n (by omega), mset_n (by omega)]⟩
        · refine MetA.of2 k_X5_takeFine rfl (Nat.le_of_ble_eq_true rfl) rfl (B_X5_takeFine_0 ?_)
          rw [E0]
          refine ⟨_, _, hy, fun _ => ⟨hv1, ?_⟩, fun q => absurd q (by decide)⟩
          rw [E1, E2]
          refine ⟨_, _, hp, _, _, hl, fun _ => ⟨hv2, ?_⟩, fun q => absurd (hz.mp q) c2⟩
          rw [E3]
          refine ⟨fun _ => ⟨hv2, hv2, fun m1 e1 => ⟨hv2, hv2, fun m2 e2 => ?_⟩⟩, fun q => absurd (E5.mpr (by omega)) q⟩
          rw [pk_sub (by omega)] at e1
          have f1 : m1 3 0 (sOw A s) = sFp A (sOw A s) := by rw [e1, mset_t (by decide)]; exact R.fp w4
          rw [f1, e1] at e2
          rw [e2]
          exact ⟨_, _, hr3, _, hp3, rI_ok rfl rfl⟩
        · omega
theorem c_addReader {a b : Int32} (R : RC μ 0 A) : ∃ μ', MetA M_X5_addReader [aR 11 0, aI a, aI b] μ (rI (outc (chRead A a b)) μ') ∧ CO μ μ' (chRead A a b) := by
  have w := R.W.rm
  unfold chRead
  by_cases c1 : a < 0 ∨ 1 < a ∨ b < 1 ∨ 6 < b
  · rw [if_pos c1]
    refine ⟨μ, ?_, rfl⟩
    refine MetA.of2 k_X5_addReader rfl (Nat.le_of_ble_eq_true rfl) rfl (B_X5_addReader_0 ?_)
    refine ⟨fun _ => rI_ok rfl rfl, fun q1 => ⟨fun _ => rI_ok rfl rfl, fun q2 => ⟨fun _ => rI_ok rfl rfl, fun q3 => ⟨fun q4 => ?_, fun _ => rI_ok rfl rfl⟩⟩⟩⟩
    exact absurd (Int32.not_lt.mpr q4) (fun z => z (((c1.resolve_left q1).resolve_left q2).resolve_left q3))
  · rw [if_neg c1]
    have d1 : ¬ a < 0 := fun q => c1 (Or.inl q)
    have d2 : ¬ 1 < a := fun q => c1 (Or.inr (Or.inl q))
    have d3 : ¬ b < 1 := fun q => c1 (Or.inr (Or.inr (Or.inl q)))
    have d4 : ¬ 6 < b := fun q => c1 (Or.inr (Or.inr (Or.inr q)))
    have d4' : b ≤ 6 := Int32.not_lt.mp d4
    obtain ⟨x, hx, rfl⟩ := nI_of d1
    have d3' : ¬ b < 0 := fun q => d3 (Int32.lt_trans q (by decide))
    obtain ⟨y, hy, rfl⟩ := nI_of d3'
    have g2 : x ≤ 1 := by rw [n1, nI_ltI (by decide) hx] at d2; omega
    have g3 : 1 ≤ y := by rw [n1, nI_ltI hy (by decide)] at d3; omega
    have g4 : y ≤ 6 := by rw [n6, nI_ltI (by decide) hy] at d4; omega
    rw [nI_clamp hx, nI_clamp hy]
    by_cases c4 : sR A = 5
    · rw [if_pos c4]
      refine ⟨refM μ 1 5, ?_, rfl⟩
      refine MetA.of2 k_X5_addReader rfl (Nat.le_of_ble_eq_true rfl) rfl (B_X5_addReader_0 ?_)
      rw [R.R, c4]
      exact ⟨fun q => absurd q d1, fun _ => ⟨fun q => absurd q d2, fun _ => ⟨fun q => absurd q d3, fun _ => ⟨fun _ => ⟨fun q => absurd q (by decide), fun _ => ⟨_, _, c_refuse, rI_ok rfl rfl⟩⟩, fun q => absurd d4' q⟩⟩⟩⟩
    · rw [if_neg c4]
      obtain ⟨m, h1, h2, h3⟩ := c_appendReader (j := 0) (x := x) (y := y) (by decide) R (by omega) g2 ⟨g3, g4⟩
      refine ⟨m, ?_, ⟨sR A, by omega, rfl⟩, h2, h3⟩
      refine MetA.of2 k_X5_addReader rfl (Nat.le_of_ble_eq_true rfl) rfl (B_X5_addReader_0 ?_)
      rw [R.R]
      refine ⟨fun q => absurd q d1, fun _ => ⟨fun q => absurd q d2, fun _ => ⟨fun q => absurd q d3, fun _ => ⟨fun _ => ⟨fun _ => ⟨_, _, h1, rI_ok rfl rfl⟩, fun q => absurd ?_ q⟩, fun q => absurd d4' q⟩⟩⟩⟩
      rw [n5, nI_ltI (by omega) (by decide)]; omega
theorem edK_le (p : SP × Nat) (s : Nat) (W : sR p.1 ≤ 5) : ∀ k, (edK p s k).2 ≤ p.2 + 5 * k
  | 0 => Nat.le_refl _
  | k + 1 => by
    have h := edK_le p s W k
    have h2 := edK_inv p s k
    have h3 : sR (edK p s k).1 ≤ 5 := by
      show (edK p s k).1.1.2.2 ≤ 5
      rw [h2.1]; exact W
    have h4 : sLg (edK p s k).1 s k ≤ 5 := by
      have := sm_le (f := fun r => if sLb (edK p s k).1 r s k then 1 else 0) (c := 1) (n := sR (edK p s k).1) (fun r _ => by show (if sLb (edK p s k).1 r s k then 1 else 0) ≤ 1; split <;> omega)
      unfold sLg
      omega
    rw [edK]
    split
    · show _ + _ ≤ _
      omega
    · omega
theorem edS_le (A : SP) (W : WF A) : ∀ s, s ≤ sS A → (edS A s).2 ≤ 40 * s
  | 0, _ => Nat.le_refl _
  | s + 1, hs => by
    have h := edS_le A W s (by omega)
    have h2 := edS_inv A s
    have h3 : sR (edS A s).1 ≤ 5 := by
      show (edS A s).1.1.2.2 ≤ 5
      rw [h2.1]; exact W.rm
    have h4 := edK_le (edS A s) s h3 (sLn A s)
    have := W.ln (show s < sS A by omega)
    rw [edS]
    omega
theorem c_printEdition (R : RC μ 0 A) : ∃ μ', MetA M_X5_printEdition [aR 11 0] μ (rI (outc (chEd A)) μ') ∧ CO μ μ' (chEd A) := by
  have w := R.W.sm
  have v2 := sCntA_le R.W 2
  have v3 := sCntA_le R.W 3
  have g2 := c_countInAll (lv := 2) (by decide) R (by decide)
  have g3 := c_countInAll (lv := 3) (by decide) R (by decide)
  have gz : (nI (sCntA A 2) = nI (sCntA A 3)) = (sCntA A 2 = sCntA A 3) := nI_eqI (by omega) (by omega)
  unfold chEd
  by_cases c1 : sCntA A 2 = sCntA A 3
  · rw [if_pos c1]
    refine ⟨refM μ 8 (sC A 1), ?_, rfl⟩
    refine MetA.of2 k_X5_printEdition rfl (Nat.le_of_ble_eq_true rfl) rfl (B_X5_printEdition_0 ?_)
    refine ⟨_, _, g2, _, _, g3, fun q => absurd (gz.mpr c1) q, fun _ => ?_⟩
    rw [show μ 0 0 4 = sC A 1 from R.C (k := 1) (by decide)]
    exact ⟨_, _, c_refuse, rI_ok rfl rfl⟩
  · rw [if_neg c1]
    have key : ∃ m, RC m 0 (edS A (sS A)).1 ∧ Fr 0 μ m ∧ ∀ P, AW M_X5_printEdition 0 37 [some (aR 11 0), some (aI (nI (edS A (sS A)).2)), some (aI (nI (sS A))), none] [] m P → AW M_X5_printEdition 0 37 [some (aR 11 0), some (aI 0), some (aI 0), none] [] μ P := by
      refine loopF (sS A) (fun s => ∃ m, RC m 0 (edS A s).1 ∧ Fr 0 μ m ∧ ∀ P, AW M_X5_printEdition 0 37 [some (aR 11 0), some (aI (nI (edS A s).2)), some (aI (nI s)), none] [] m P → AW M_X5_printEdition 0 37 [some (aR 11 0), some (aI 0), some (aI 0), none] [] μ P) ⟨μ, R, Fr.rf, fun P h => h⟩ ?_
      intro s hs ⟨m, Rm, Fm, hm⟩
      have i1 := edS_inv A s
      have eS : sS (edS A s).1 = sS A := by show (edS A s).1.1.2.1 = A.1.2.1; rw [i1.1]
      have w2 := R.W.ln hs
      have hv : vp_in (nI s) 8 := vp_in_nI (by omega) (by omega)
      have inner : ∃ m', RC m' 0 (edK (edS A s) s (sLn A s)).1 ∧ Fr 0 μ m' ∧ ∀ P, AW M_X5_printEdition 0 50 [some (aR 11 0), some (aI (nI (edK (edS A s) s (sLn A s)).2)), some (aI (nI s)), some (aI (nI (sLn A s)))] [] m' P → AW M_X5_printEdition 0 50 [some (aR 11 0), some (aI (nI (edS A s).2)), some (aI (nI s)), some (aI 0)] [] m P := by
        refine loopF (sLn A s) (fun k => ∃ m', RC m' 0 (edK (edS A s) s k).1 ∧ Fr 0 μ m' ∧ ∀ P, AW M_X5_printEdition 0 50 [some (aR 11 0), some (aI (nI (edK (edS A s) s k).2)), some (aI (nI s)), some (aI (nI k))] [] m' P → AW M_X5_printEdition 0 50 [some (aR 11 0), some (aI (nI (edS A s).2)), some (aI (nI s)), some (aI 0)] [] m P) ⟨m, Rm, Fm, fun P h => h⟩ ?_
        intro k hk ⟨m1, R1, F1, h1⟩
        have i2 := edK_inv (edS A s) s k
        have e1 : sS (edK (edS A s) s k).1 = sS A := by show (edK (edS A s) s k).1.1.2.1 = A.1.2.1; rw [i2.1, i1.1]
        have e2 : sLn (edK (edS A s) s k).1 s = sLn A s := by rw [i2.2.1, i1.2.1]
        have hs' : s < sS (edK (edS A s) s k).1 := by omega
        have hk' : k < sLn (edK (edS A s) s k).1 s := by omega
        have hl := c_levelAt (by decide) R1 hs' hk'
        have w3 := R1.W.lv hs' hk'
        have L1 : ¬ m1 5 0 s ≤ nI k := by rw [R1.ln hs', e2]; exact nI_ge hk (by omega)
        have L2 : (nI (sLv (edK (edS A s) s k).1 s k) = 2) = (sLv (edK (edS A s) s k).1 s k = 2) := by rw [n2, nI_eqI (by omega) (by decide)]
        rw [edK]
        by_cases c : sLv (edK (edS A s) s k).1 s k = 2
        · rw [if_pos c]
          obtain ⟨m2, x1, x2, x3⟩ := c_printOne (by decide) R1 hs' hk' c
          refine ⟨m2, x2, F1.tr x3, fun P h => h1 P (B_X5_printEdition_50 ?_)⟩
          rw [nI_clamp (show s < 2 ^ 31 by omega)]
          refine ⟨hv, fun q => absurd q L1, fun _ => ⟨_, _, hl, fun q => absurd (L2.mpr c) q, fun _ => ⟨_, _, x1, ?_⟩⟩⟩
          rw [nI_add, show (1 : Int32) = nI 1 from rfl, nI_add]
          exact h
        · rw [if_neg c]
          refine ⟨m1, R1, F1, fun P h => h1 P (B_X5_printEdition_50 ?_)⟩
          rw [nI_clamp (show s < 2 ^ 31 by omega)]
          refine ⟨hv, fun q => absurd q L1, fun _ => ⟨_, _, hl, fun _ => ?_, fun q => absurd (L2.mp q) c⟩⟩
          rw [show (1 : Int32) = nI 1 from rfl, nI_add]
          exact h
      obtain ⟨m', R', F', h'⟩ := inner
      refine ⟨m', by rw [edS]; exact R', F', fun P h => hm P (B_X5_printEdition_37 ?_)⟩
      rw [Rm.S, eS]
      refine ⟨fun q => absurd q (nI_ge hs (by omega)), fun _ => h' P (B_X5_printEdition_50 ?_)⟩
      have i2 := edK_inv (edS A s) s (sLn A s)
      have e1 : sS (edK (edS A s) s (sLn A s)).1 = sS A := by show (edK (edS A s) s (sLn A s)).1.1.2.1 = A.1.2.1; rw [i2.1, i1.1]
      have e2 : sLn (edK (edS A s) s (sLn A s)).1 s = sLn A s := by rw [i2.2.1, i1.2.1]
      rw [nI_clamp (show s < 2 ^ 31 by omega), R'.ln (by omega), e2]
      refine ⟨hv, fun _ => ?_, fun q => absurd (nI_le (Nat.le_refl _) (by omega)) q⟩
      rw [show (1 : Int32) = nI 1 from rfl, nI_add]
      exact h
    obtain ⟨m, Rm, Fm, hm⟩ := key
    have i1 := edS_inv A (sS A)
    have eS : sS (edS A (sS A)).1 = sS A := by show (edS A (sS A)).1.1.2.1 = A.1.2.1; rw [i1.1]
    have R1 := RC_C Rm (k := 1) (v := sC A 1 + 1) (by decide)
    have R2 := RC_C R1 (k := 3) (v := sC A 3 + nI (edS A (sS A)).2) (by decide)
    refine ⟨_, ?_, ⟨_, ?_, rfl⟩, R2, Fm.tr (fun t o h => by rw [mset_n (by omega), mset_n (by omega)])⟩
    · refine MetA.of2 k_X5_printEdition rfl (Nat.le_of_ble_eq_true rfl) rfl (B_X5_printEdition_0 ?_)
      refine ⟨_, _, g2, _, _, g3, fun _ => hm _ (B_X5_printEdition_37 ?_), fun q => absurd (gz.mp q) c1⟩
      rw [Rm.S, eS]
      refine ⟨fun _ m4 e4 m7 e7 => rI_ok rfl ?_, fun q => absurd (nI_le (Nat.le_refl _) (by omega)) q⟩
      have f1 : m 0 0 4 = sC A 1 := by rw [← i1.2.2.1]; exact Rm.C (k := 1) (by decide)
      have f2 : m4 0 0 6 = sC A 3 := by rw [e4, mset_s, uget, if_neg (by decide), ← i1.2.2.2]; exact Rm.C (k := 3) (by decide)
      rw [f1] at e4
      rw [f2, e4] at e7
      exact e7
    · have := edS_le A R.W (sS A) (Nat.le_refl _)
      omega
end SG
