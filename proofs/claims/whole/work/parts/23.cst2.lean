section CS2
variable {μ : Mem} {j : Nat} {A : SP} {s k h : Nat}
theorem c_numberOfHouse {w : Nat} (hj : j < 12) (R : RC μ j A) (hh : h < sH A) (hw : w ≤ 6) : MetA M_X4_numberOfHouse [aR 0 j, aI (nI h), aI (nI w)] μ (rI (sHo A h w) μ) := by
  have w1 := R.W.hm
  have hv : vp_in (nI h) 4 := vp_in_nI (by omega) (by omega)
  have hc : (nI h).toNatClampNeg = h := nI_clamp (by omega)
  refine MetA.of2 k_X4_numberOfHouse rfl (Nat.le_of_ble_eq_true rfl) rfl (B_X4_numberOfHouse_0 hj ?_)
  rw [hc, R.cn hh, R.sh hh, R.fp hh]
  refine ⟨fun q => ⟨hv, rI_ok ?_ rfl⟩, fun q => ⟨hv, rI_ok ?_ rfl⟩, fun q => ⟨_, μ, c_sheetsOf hj R hh, rI_ok ?_ rfl⟩, fun q => ⟨_, μ, c_countOfHouse (lv := 1) hj R hh (by decide), rI_ok ?_ rfl⟩, fun q => ⟨_, μ, c_countOfHouse (lv := 2) hj R hh (by decide), rI_ok ?_ rfl⟩, fun q => ⟨_, μ, c_licenceCost hj R hh, rI_ok ?_ rfl⟩, fun q0 q1 q2 q3 q4 q5 => ⟨hv, rI_ok ?_ rfl⟩⟩
  · obtain rfl : w = 0 := by have := tI q (by omega); omega
    rfl
  · obtain rfl : w = 1 := by have := tI q (by omega); omega
    rfl
  · obtain rfl : w = 2 := by have := tI q (by omega); omega
    rfl
  · obtain rfl : w = 3 := by have := tI q (by omega); omega
    rfl
  · obtain rfl : w = 4 := by have := tI q (by omega); omega
    rfl
  · obtain rfl : w = 5 := by have := tI q (by omega); omega
    rfl
  · rw [nI_toInt (by omega)] at q0 q1 q2 q3 q4 q5
    obtain rfl : w = 6 := by omega
    rfl
theorem c_numberOfSheet {w : Nat} (hj : j < 12) (R : RC μ j A) (hs : s < sS A) (hw : w ≤ 5) : MetA M_X4_numberOfSheet [aR 0 j, aI (nI s), aI (nI w)] μ (rI (sSo A s w) μ) := by
  have w1 := R.W.sm
  have hv : vp_in (nI s) 8 := vp_in_nI (by omega) (by omega)
  have hc : (nI s).toNatClampNeg = s := nI_clamp (by omega)
  refine MetA.of2 k_X4_numberOfSheet rfl (Nat.le_of_ble_eq_true rfl) rfl (B_X4_numberOfSheet_0 hj ?_)
  rw [hc, R.ow hs, R.ln hs]
  refine ⟨fun q => ⟨hv, rI_ok ?_ rfl⟩, fun q => ⟨hv, rI_ok ?_ rfl⟩, fun q => ⟨_, μ, c_countOnSheet (lv := 1) hj R hs (by decide), rI_ok ?_ rfl⟩, fun q => ⟨_, μ, c_countOnSheet (lv := 2) hj R hs (by decide), rI_ok ?_ rfl⟩, fun q => ⟨_, μ, c_countOnSheet (lv := 3) hj R hs (by decide), rI_ok ?_ rfl⟩, fun q0 q1 q2 q3 q4 => ⟨_, μ, c_badness hj R hs, rI_ok ?_ rfl⟩⟩
  · obtain rfl : w = 0 := by have := tI q (by omega); omega
    rfl
  · obtain rfl : w = 1 := by have := tI q (by omega); omega
    rfl
  · obtain rfl : w = 2 := by have := tI q (by omega); omega
    rfl
  · obtain rfl : w = 3 := by have := tI q (by omega); omega
    rfl
  · obtain rfl : w = 4 := by have := tI q (by omega); omega
    rfl
  · rw [nI_toInt (by omega)] at q0 q1 q2 q3 q4
    obtain rfl : w = 5 := by omega
    rfl
theorem c_sumC (hj : j < 12) (R : RC μ j A) : MetA M_X4_sumOfHouses [aR 0 j, aR 1 j] μ (rI (nI (sm (sCn A) (sH A))) μ) := by
  have w := R.W.hm
  refine MetA.of2 k_X4_sumOfHouses rfl (Nat.le_of_ble_eq_true rfl) rfl (B_X4_sumOfHouses_0 (t1 := 1) (o1 := j) hj rfl (decide_eq_true hj) ?_)
  refine loopN (sH A) (fun k => AW M_X4_sumOfHouses 0 4 [some (aR 0 j), some (aR 1 j), some (aI (nI (sm (sCn A) k))), some (aI (nI k))] [] μ _) ?_ ?_
  · refine B_X4_sumOfHouses_4 (t1 := 1) (o1 := j) hj rfl (decide_eq_true hj) ?_
    simp (disch := omega) only [n0, n1, n2, n3, n4, n5, n6, n7, n8, n9, n10, n20, n99, nm1, nI_add, pk_mul, nI_clamp, nI_leI, nI_ltI, nI_eqI, vp_nI, pk_sub, nI_addneg, Nat.not_lt_zero, false_implies, not_false_eq_true, true_implies, true_and, and_true, Nat.le_refl, not_true_eq_false, R.H]
    exact rI_ok rfl rfl
  · intro k hk ih
    refine B_X4_sumOfHouses_4 (t1 := 1) (o1 := j) hj rfl (decide_eq_true hj) ?_
    rw [show Int32.ofNat (ln 1) = nI 4 from rfl, show ln 1 = 4 from rfl]
    rw [sm] at ih
    simp (disch := omega) only [n0, n1, n2, n3, n4, n5, n6, n7, n8, n9, n10, n20, n99, nm1, nI_add, pk_mul, nI_clamp, nI_leI, nI_ltI, nI_eqI, vp_nI, pk_sub, nI_addneg, Nat.not_lt_zero, false_implies, not_false_eq_true, true_implies, true_and, and_true, Nat.le_refl, not_true_eq_false, R.H, R.cn hk]
    exact ⟨fun q => absurd q (by omega), fun _ => ⟨fun q => absurd q (by omega), fun _ => ih⟩⟩
theorem c_sumF (hj : j < 12) (R : RC μ j A) : MetA M_X4_sumOfHouses [aR 0 j, aR 3 j] μ (rI (si (sFp A) (sH A)) μ) := by
  have w := R.W.hm
  refine MetA.of2 k_X4_sumOfHouses rfl (Nat.le_of_ble_eq_true rfl) rfl (B_X4_sumOfHouses_0 (t1 := 3) (o1 := j) hj rfl (decide_eq_true hj) ?_)
  refine loopN (sH A) (fun k => AW M_X4_sumOfHouses 0 4 [some (aR 0 j), some (aR 3 j), some (aI (si (sFp A) k)), some (aI (nI k))] [] μ _) ?_ ?_
  · refine B_X4_sumOfHouses_4 (t1 := 3) (o1 := j) hj rfl (decide_eq_true hj) ?_
    simp (disch := omega) only [n0, n1, n2, n3, n4, n5, n6, n7, n8, n9, n10, n20, n99, nm1, nI_add, pk_mul, nI_clamp, nI_leI, nI_ltI, nI_eqI, vp_nI, pk_sub, nI_addneg, Nat.not_lt_zero, false_implies, not_false_eq_true, true_implies, true_and, and_true, Nat.le_refl, not_true_eq_false, R.H]
    exact rI_ok rfl rfl
  · intro k hk ih
    refine B_X4_sumOfHouses_4 (t1 := 3) (o1 := j) hj rfl (decide_eq_true hj) ?_
    rw [show Int32.ofNat (ln 3) = nI 4 from rfl, show ln 3 = 4 from rfl]
    rw [si] at ih
    simp (disch := omega) only [n0, n1, n2, n3, n4, n5, n6, n7, n8, n9, n10, n20, n99, nm1, nI_add, pk_mul, nI_clamp, nI_leI, nI_ltI, nI_eqI, vp_nI, pk_sub, nI_addneg, Nat.not_lt_zero, false_implies, not_false_eq_true, true_implies, true_and, and_true, Nat.le_refl, not_true_eq_false, R.H, R.fp hk]
    exact ⟨fun q => absurd q (by omega), fun _ => ⟨fun q => absurd q (by omega), fun _ => ih⟩⟩
theorem c_sumUp {w : Nat} (hj : j < 12) (R : RC μ j A) (hw : w ≤ 12) : MetA M_X4_sumUp [aR 0 j, aI (nI w)] μ (rI (sAc A w) μ) := by
  refine MetA.of2 k_X4_sumUp rfl (Nat.le_of_ble_eq_true rfl) rfl (B_X4_sumUp_0 hj ?_)
  rw [R.H, R.S, R.R, show μ 0 j 3 = sC A 0 from R.C (k := 0) (by decide), show μ 0 j 4 = sC A 1 from R.C (k := 1) (by decide), show μ 0 j 5 = sC A 2 from R.C (k := 2) (by decide), show μ 0 j 6 = sC A 3 from R.C (k := 3) (by decide), show μ 0 j 7 = sC A 4 from R.C (k := 4) (by decide)]
  refine ⟨fun q => rI_ok ?_ rfl, fun q => rI_ok ?_ rfl, fun q => rI_ok ?_ rfl, fun q => rI_ok ?_ rfl, fun q => rI_ok ?_ rfl, fun q => ⟨_, μ, c_countInAll (lv := 1) hj R (by decide), rI_ok ?_ rfl⟩, fun q => ⟨_, μ, c_countInAll (lv := 2) hj R (by decide), rI_ok ?_ rfl⟩, fun q => ⟨_, μ, c_countInAll (lv := 3) hj R (by decide), rI_ok ?_ rfl⟩, fun q => rI_ok ?_ rfl, fun q => rI_ok ?_ rfl, fun q => rI_ok ?_ rfl, fun q => ⟨_, μ, c_sumF hj R, rI_ok ?_ rfl⟩, fun q0 q1 q2 q3 q4 q5 q6 q7 q8 q9 q10 q11 => ⟨_, μ, c_sumC hj R, rI_ok ?_ rfl⟩⟩
  · obtain rfl : w = 0 := by have := tI q (by omega); omega
    rfl
  · obtain rfl : w = 1 := by have := tI q (by omega); omega
    rfl
  · obtain rfl : w = 2 := by have := tI q (by omega); omega
    rfl
  · obtain rfl : w = 3 := by have := tI q (by omega); omega
    rfl
  · obtain rfl : w = 4 := by have := tI q (by omega); omega
    rfl
  · obtain rfl : w = 5 := by have := tI q (by omega); omega
    rfl
  · obtain rfl : w = 6 := by have := tI q (by omega); omega
    rfl
  · obtain rfl : w = 7 := by have := tI q (by omega); omega
    rfl
  · obtain rfl : w = 8 := by have := tI q (by omega); omega
    rfl
  · obtain rfl : w = 9 := by have := tI q (by omega); omega
    rfl
  · obtain rfl : w = 10 := by have := tI q (by omega); omega
    rfl
  · obtain rfl : w = 11 := by have := tI q (by omega); omega
    rfl
  · rw [nI_toInt (by omega)] at q0 q1 q2 q3 q4 q5 q6 q7 q8 q9 q10 q11
    obtain rfl : w = 12 := by omega
    rfl
theorem c_canPayLicence (hj : j < 12) (R : RC μ j A) (hh : h < sH A) : MetA M_X4_canPayLicence [aR 0 j, aI (nI h)] μ (rI (nI (bi (¬ 20 < sSh A h ∧ sCost A h ≤ sCn A h))) μ) := by
  have w1 := R.W.hm
  have w2 := R.W.cn hh
  have w3 := sCntH_le R.W h 2
  have w4 : sCost A h ≤ 66 := by unfold sCost; omega
  refine MetA.of2 k_X4_canPayLicence rfl (Nat.le_of_ble_eq_true rfl) rfl (B_X4_canPayLicence_0 hj ?_)
  refine ⟨_, μ, c_isAshamed hj R hh, biIn (fun c => rI_ok (by rw [bi_f (by omega)]; rfl) rfl) (fun c => ?_)⟩
  rw [nI_clamp (by omega), R.cn hh]
  refine ⟨vp_in_nI (by omega) (by omega), _, μ, c_licenceCost hj R hh, ?_⟩
  simp (disch := omega) only [n0, n1, n2, n3, n4, n5, n6, n7, n8, n9, n10, n20, n99, nm1, nI_add, pk_mul, nI_clamp, nI_leI, nI_ltI, nI_eqI, vp_nI, pk_sub, nI_addneg, Nat.not_lt_zero, false_implies, not_false_eq_true, true_implies, true_and, and_true, Nat.le_refl, not_true_eq_false]
  exact ⟨fun q => rI_ok (by rw [bi_f (by omega)]) rfl, fun q => rI_ok (by rw [bi_t (by omega)]) rfl⟩
theorem c_fineByRules (hj : j < 12) (R : RC μ j A) (hs : s < sS A) (hk : k < sLn A s) : MetA M_X4_fineByRules [aR 0 j, aI (nI s), aI (nI k)] μ (rI (nI (sFine A s k)) μ) := by
  have w1 := R.W.lv hs hk
  have w2 := sBad_le R.W hs hk
  have hf : sFine A s k = if sLv A s k = 0 then 0 else (1 + sBad A s k + (if 2 ≤ sLv A s k then 2 else 0)) * (if sLv A s k = 3 then 2 else 1) := rfl
  refine MetA.of2 k_X4_fineByRules rfl (Nat.le_of_ble_eq_true rfl) rfl (B_X4_fineByRules_0 hj ?_)
  refine ⟨_, μ, c_levelAt hj R hs hk, ?_⟩
  simp (disch := omega) only [n0, n1, n2, n3, n4, n5, n6, n7, n8, n9, n10, n20, n99, nm1, nI_add, pk_mul, nI_clamp, nI_leI, nI_ltI, nI_eqI, vp_nI, pk_sub, nI_addneg, Nat.not_lt_zero, false_implies, not_false_eq_true, true_implies, true_and, and_true, Nat.le_refl, not_true_eq_false]
  refine ⟨fun q0 => ⟨_, μ, c_howBad hj R hs hk, ?_⟩, fun q0 => rI_ok (by rw [hf, if_pos q0]) rfl⟩
  simp (disch := omega) only [n0, n1, n2, n3, n4, n5, n6, n7, n8, n9, n10, n20, n99, nm1, nI_add, pk_mul, nI_clamp, nI_leI, nI_ltI, nI_eqI, vp_nI, pk_sub, nI_addneg, Nat.not_lt_zero, false_implies, not_false_eq_true, true_implies, true_and, and_true, Nat.le_refl, not_true_eq_false]
  rw [if_neg q0] at hf
  refine ⟨fun q1 => ⟨fun q2 => rI_ok ?_ rfl, fun q2 => rI_ok ?_ rfl⟩, fun q1 => ⟨fun q2 => rI_ok ?_ rfl, fun q2 => rI_ok ?_ rfl⟩⟩
  · rw [hf, if_neg (by omega), if_neg (by omega)]; congr 1; omega
  · omega
  · rw [hf, if_pos (by omega), if_neg (by omega)]; congr 1; omega
  · rw [hf, if_pos (by omega), if_pos (by omega)]
theorem c_fineAtOnce (hj : j < 12) (R : RC μ j A) (hs : s < sS A) (hk : k < sLn A s) : MetA M_X4_fineAtOnce [aR 0 j, aI (nI s), aI (nI k)] μ (rI (nI (sFine A s k)) μ) := by
  have w1 := R.W.lv hs hk
  have w2 := sBad_le R.W hs hk
  have hf : sFine A s k = if sLv A s k = 0 then 0 else (1 + sBad A s k + (if 2 ≤ sLv A s k then 2 else 0)) * (if sLv A s k = 3 then 2 else 1) := rfl
  refine MetA.of2 k_X4_fineAtOnce rfl (Nat.le_of_ble_eq_true rfl) rfl (B_X4_fineAtOnce_0 hj ?_)
  refine ⟨_, μ, c_levelAt hj R hs hk, ?_⟩
  rw [nI_toInt (by omega)]
  refine ⟨fun q => ⟨_, μ, c_howBad hj R hs hk, ?_⟩, fun q => ⟨_, μ, c_howBad hj R hs hk, ?_⟩, fun q => ⟨_, μ, c_howBad hj R hs hk, ?_⟩, fun q1 q2 q3 => ?_⟩
  · simp (disch := omega) only [n0, n1, n2, n3, n4, n5, n6, n7, n8, n9, n10, n20, n99, nm1, nI_add, pk_mul, nI_clamp, nI_leI, nI_ltI, nI_eqI, vp_nI, pk_sub, nI_addneg, Nat.not_lt_zero, false_implies, not_false_eq_true, true_implies, true_and, and_true, Nat.le_refl, not_true_eq_false]
    exact rI_ok (by rw [hf, if_neg (by omega), if_neg (by omega), if_neg (by omega)]; congr 1; omega) rfl
  · simp (disch := omega) only [n0, n1, n2, n3, n4, n5, n6, n7, n8, n9, n10, n20, n99, nm1, nI_add, pk_mul, nI_clamp, nI_leI, nI_ltI, nI_eqI, vp_nI, pk_sub, nI_addneg, Nat.not_lt_zero, false_implies, not_false_eq_true, true_implies, true_and, and_true, Nat.le_refl, not_true_eq_false]
    exact rI_ok (by rw [hf, if_neg (by omega), if_pos (by omega), if_neg (by omega)]; congr 1; omega) rfl
  · simp (disch := omega) only [n0, n1, n2, n3, n4, n5, n6, n7, n8, n9, n10, n20, n99, nm1, nI_add, pk_mul, nI_clamp, nI_leI, nI_ltI, nI_eqI, vp_nI, pk_sub, nI_addneg, Nat.not_lt_zero, false_implies, not_false_eq_true, true_implies, true_and, and_true, Nat.le_refl, not_true_eq_false]
    exact rI_ok (by rw [hf, if_neg (by omega), if_pos (by omega), if_pos (by omega)]; congr 1; omega) rfl
  · exact rI_ok (by rw [hf, if_pos (by omega)]; rfl) rfl
theorem c_finesByPlace (hj : j < 12) (R : RC μ j A) (hs : s < sS A) : MetA M_X4_finesByPlace [aR 0 j, aI (nI s)] μ (rI (nI (sFines A s)) μ) := by
  have w := R.W.sm
  have w2 := R.W.ln hs
  refine MetA.of2 k_X4_finesByPlace rfl (Nat.le_of_ble_eq_true rfl) rfl (B_X4_finesByPlace_0 hj ?_)
  refine loopN (sLn A s) (fun k => AW M_X4_finesByPlace 0 4 [some (aR 0 j), some (aI (nI s)), some (aI (nI (sm (fun k => sFine A s k) k))), some (aI (nI k))] [] μ _) ?_ ?_
  · refine B_X4_finesByPlace_4 hj ?_
    simp (disch := omega) only [n0, n1, n2, n3, n4, n5, n6, n7, n8, n9, n10, n20, n99, nm1, nI_add, pk_mul, nI_clamp, nI_leI, nI_ltI, nI_eqI, vp_nI, pk_sub, nI_addneg, Nat.not_lt_zero, false_implies, not_false_eq_true, true_implies, true_and, and_true, Nat.le_refl, not_true_eq_false, R.ln hs]
    exact rI_ok rfl rfl
  · intro k hk ih
    refine B_X4_finesByPlace_4 hj ?_
    simp (disch := omega) only [n0, n1, n2, n3, n4, n5, n6, n7, n8, n9, n10, n20, n99, nm1, nI_add, pk_mul, nI_clamp, nI_leI, nI_ltI, nI_eqI, vp_nI, pk_sub, nI_addneg, Nat.not_lt_zero, false_implies, not_false_eq_true, true_implies, true_and, and_true, Nat.le_refl, not_true_eq_false, R.ln hs]
    rw [sm] at ih
    refine ⟨fun q => absurd q (by omega), fun _ => ⟨_, μ, c_fineByRules hj R hs hk, ?_⟩⟩
    simp (disch := omega) only [n0, n1, n2, n3, n4, n5, n6, n7, n8, n9, n10, n20, n99, nm1, nI_add, pk_mul, nI_clamp, nI_leI, nI_ltI, nI_eqI, vp_nI, pk_sub, nI_addneg, Nat.not_lt_zero, false_implies, not_false_eq_true, true_implies, true_and, and_true, Nat.le_refl, not_true_eq_false]
    exact ih
theorem c_isLaughing {r : Nat} (hj : j < 12) (R : RC μ j A) (hr : r < sR A) (hs : s < sS A) (hk : k < sLn A s) : MetA M_X4_isLaughing [aR 0 j, aI (nI r), aI (nI (sPl A s k)), aI (nI (sBad A s k))] μ (rI (nI (if sLb A r s k then 1 else 0)) μ) := by
  have w1 := R.W.rm
  have w2 := R.W.rd hr
  have w3 := R.W.pl hs hk
  have w4 := sBad_le R.W hs hk
  have hb : sLb A r s k = if sKi A r = 0 then decide (sPl A s k = sTa A r) else decide (sTa A r ≤ sBad A s k) := rfl
  refine MetA.of2 k_X4_isLaughing rfl (Nat.le_of_ble_eq_true rfl) rfl (B_X4_isLaughing_0 hj ?_)
  simp (disch := omega) only [n0, n1, n2, n3, n4, n5, n6, n7, n8, n9, n10, n20, n99, nm1, nI_add, pk_mul, nI_clamp, nI_leI, nI_ltI, nI_eqI, vp_nI, pk_sub, nI_addneg, Nat.not_lt_zero, false_implies, not_false_eq_true, true_implies, true_and, and_true, Nat.le_refl, not_true_eq_false, R.ki hr, R.ta hr]
  refine ⟨fun q => ⟨fun q2 => rI_ok ?_ rfl, fun q2 => rI_ok ?_ rfl⟩, fun q => ⟨fun q2 => rI_ok ?_ rfl, fun q2 => rI_ok ?_ rfl⟩⟩
  · rw [hb, if_neg q, decide_eq_false (by omega)]; rfl
  · rw [hb, if_neg q, decide_eq_true (by omega)]; rfl
  · rw [hb, if_pos q, decide_eq_false (by omega)]; rfl
  · rw [hb, if_pos q, decide_eq_true (by omega)]; rfl
theorem c_laughersAt (hj : j < 12) (R : RC μ j A) (hs : s < sS A) (hk : k < sLn A s) : MetA M_X4_laughersAt [aR 0 j, aI (nI s), aI (nI k)] μ (rI (nI (sMask A s k)) μ) := by
  have w1 := R.W.rm
  have w4 := sBad_le R.W hs hk
  refine MetA.of2 k_X4_laughersAt rfl (Nat.le_of_ble_eq_true rfl) rfl (B_X4_laughersAt_0 hj ?_)
  refine ⟨_, μ, c_placedAt hj R hs hk, _, μ, c_howBad hj R hs hk, ?_⟩
  by_cases hb : sBad A s k = 0
  · refine B_X4_laughersAt_21 hj ?_
    rw [hb]
    exact ⟨fun _ => rI_ok (by unfold sMask; rw [if_pos hb]; rfl) rfl, fun q => absurd (by decide) q⟩
  refine loopN (sR A) (fun r => AW M_X4_laughersAt 0 21 [some (aR 0 j), some (aI (nI s)), some (aI (nI k)), some (aI (nI (sPl A s k))), some (aI (nI (sBad A s k))), some (aI (nI (sm (fun r => if sLb A r s k then 2 ^ r else 0) r))), some (aI (nI r))] [] μ _) ?_ ?_
  · refine B_X4_laughersAt_21 hj ?_
    simp (disch := omega) only [n0, n1, n2, n3, n4, n5, n6, n7, n8, n9, n10, n20, n99, nm1, nI_add, pk_mul, nI_clamp, nI_leI, nI_ltI, nI_eqI, vp_nI, pk_sub, nI_addneg, Nat.not_lt_zero, false_implies, not_false_eq_true, true_implies, true_and, and_true, Nat.le_refl, not_true_eq_false, R.R]
    exact ⟨fun q => absurd q (by omega), fun _ => rI_ok (by unfold sMask; rw [if_neg hb]) rfl⟩
  · intro r hr ih
    refine B_X4_laughersAt_21 hj ?_
    have ho := or_bit r (by omega) _ (sm_bits (fun r => sLb A r s k) r (by omega))
    rw [show (1 : Int32) = nI 1 from rfl, ho]
    rw [sm] at ih
    refine ⟨fun q => absurd q (nI_nle (by omega) (by omega)), fun _ => ⟨fun q => absurd q (by rw [R.R]; exact nI_ge hr (by omega)), fun _ => ⟨_, μ, c_isLaughing hj R hr hs hk, bI (fun c => ?_) (fun c => ?_)⟩⟩⟩
    · rw [c] at ih
      rw [nI_add]
      exact ih
    · rw [c] at ih
      rw [nI_add]
      exact ih
end CS2
