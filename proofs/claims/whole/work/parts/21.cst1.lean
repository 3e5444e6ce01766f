section CS1
variable {μ : Mem} {j : Nat} {A : SP} {s k h : Nat}
theorem c_hasHouse_y (hj : j < 12) (R : RC μ j A) (hh : h < sH A) : MetA M_X4_hasHouse [aR 0 j, aI (nI h)] μ (rI 1 μ) := by
  have w := R.W.hm
  refine MetA.of2 k_X4_hasHouse rfl (Nat.le_of_ble_eq_true rfl) rfl (B_X4_hasHouse_0 hj ?_)
  simp (disch := omega) only [n0, n1, n2, n3, n4, n5, n6, n7, n8, n9, n10, n20, n99, nm1, nI_add, pk_mul, nI_clamp, nI_leI, nI_ltI, nI_eqI, vp_nI, pk_sub, nI_addneg, Nat.not_lt_zero, false_implies, not_false_eq_true, true_implies, true_and, and_true, Nat.le_refl, not_true_eq_false, R.H]
  exact ⟨fun q => absurd q (by omega), fun _ => rI_ok rfl rfl⟩
theorem c_hasHouse_n {a : Int32} (hj : j < 12) (R : RC μ j A) (hh : out a (sH A)) : MetA M_X4_hasHouse [aR 0 j, aI a] μ (rI 0 μ) := by
  refine MetA.of2 k_X4_hasHouse rfl (Nat.le_of_ble_eq_true rfl) rfl (B_X4_hasHouse_0 hj ?_)
  rw [R.H]
  refine ⟨fun _ => rI_ok rfl rfl, fun q => ⟨fun _ => rI_ok rfl rfl, fun q2 => absurd hh (by rintro (z | z) <;> contradiction)⟩⟩
theorem c_hasSheet_y (hj : j < 12) (R : RC μ j A) (hh : s < sS A) : MetA M_X4_hasSheet [aR 0 j, aI (nI s)] μ (rI 1 μ) := by
  have w := R.W.sm
  refine MetA.of2 k_X4_hasSheet rfl (Nat.le_of_ble_eq_true rfl) rfl (B_X4_hasSheet_0 hj ?_)
  simp (disch := omega) only [n0, n1, n2, n3, n4, n5, n6, n7, n8, n9, n10, n20, n99, nm1, nI_add, pk_mul, nI_clamp, nI_leI, nI_ltI, nI_eqI, vp_nI, pk_sub, nI_addneg, Nat.not_lt_zero, false_implies, not_false_eq_true, true_implies, true_and, and_true, Nat.le_refl, not_true_eq_false, R.S]
  exact ⟨fun q => absurd q (by omega), fun _ => rI_ok rfl rfl⟩
theorem c_hasSheet_n {a : Int32} (hj : j < 12) (R : RC μ j A) (hh : out a (sS A)) : MetA M_X4_hasSheet [aR 0 j, aI a] μ (rI 0 μ) := by
  refine MetA.of2 k_X4_hasSheet rfl (Nat.le_of_ble_eq_true rfl) rfl (B_X4_hasSheet_0 hj ?_)
  rw [R.S]
  refine ⟨fun _ => rI_ok rfl rfl, fun q => ⟨fun _ => rI_ok rfl rfl, fun q2 => absurd hh (by rintro (z | z) <;> contradiction)⟩⟩
theorem c_hasPlace_y (hj : j < 12) (R : RC μ j A) (hs : s < sS A) (hk : k < sLn A s) : MetA M_X4_hasPlace [aR 0 j, aI (nI s), aI (nI k)] μ (rI 1 μ) := by
  have w := R.W.sm
  have w2 := R.W.ln hs
  refine MetA.of2 k_X4_hasPlace rfl (Nat.le_of_ble_eq_true rfl) rfl (B_X4_hasPlace_0 hj ?_)
  refine ⟨1, μ, c_hasSheet_y hj R hs, ?_⟩
  simp (disch := omega) only [n0, n1, n2, n3, n4, n5, n6, n7, n8, n9, n10, n20, n99, nm1, nI_add, pk_mul, nI_clamp, nI_leI, nI_ltI, nI_eqI, vp_nI, pk_sub, nI_addneg, Nat.not_lt_zero, false_implies, not_false_eq_true, true_implies, true_and, and_true, Nat.le_refl, not_true_eq_false, R.ln hs]
  exact ⟨fun q => absurd q (by decide), fun _ => ⟨fun q => absurd q (by omega), fun _ => rI_ok rfl rfl⟩⟩
theorem c_hasPlace_n1 {a b : Int32} (hj : j < 12) (R : RC μ j A) (hh : out a (sS A)) : MetA M_X4_hasPlace [aR 0 j, aI a, aI b] μ (rI 0 μ) := by
  refine MetA.of2 k_X4_hasPlace rfl (Nat.le_of_ble_eq_true rfl) rfl (B_X4_hasPlace_0 hj ?_)
  exact ⟨0, μ, c_hasSheet_n hj R hh, fun _ => rI_ok rfl rfl, fun q => absurd rfl q⟩
theorem c_hasPlace_n2 {b : Int32} (hj : j < 12) (R : RC μ j A) (hs : s < sS A) (hb : out b (sLn A s)) : MetA M_X4_hasPlace [aR 0 j, aI (nI s), aI b] μ (rI 0 μ) := by
  have w := R.W.sm
  refine MetA.of2 k_X4_hasPlace rfl (Nat.le_of_ble_eq_true rfl) rfl (B_X4_hasPlace_0 hj ?_)
  refine ⟨1, μ, c_hasSheet_y hj R hs, fun _ => rI_ok rfl rfl, fun q => ⟨fun _ => rI_ok rfl rfl, fun q1 => ⟨vp_in_nI (by omega) (by omega), ?_⟩⟩⟩
  rw [nI_clamp (by omega), R.ln hs]
  exact ⟨fun _ => rI_ok rfl rfl, fun q2 => absurd hb (by rintro (z | z) <;> contradiction)⟩
theorem c_rightAt (hj : j < 12) (R : RC μ j A) (hs : s < sS A) (hk : k < sLn A s) : MetA M_X4_rightAt [aR 0 j, aI (nI s), aI (nI k)] μ (rI (nI (sRt A s k)) μ) := by
  have w := R.W.sm
  have w2 := R.W.ln hs
  refine MetA.of2 k_X4_rightAt rfl (Nat.le_of_ble_eq_true rfl) rfl (B_X4_rightAt_0 hj ?_)
  simp (disch := omega) only [n0, n1, n2, n3, n4, n5, n6, n7, n8, n9, n10, n20, n99, nm1, nI_add, pk_mul, nI_clamp, nI_leI, nI_ltI, nI_eqI, vp_nI, pk_sub, nI_addneg, Nat.not_lt_zero, false_implies, not_false_eq_true, true_implies, true_and, and_true, Nat.le_refl, not_true_eq_false, R.rt hs hk]
  exact rI_ok rfl rfl
theorem c_placedAt (hj : j < 12) (R : RC μ j A) (hs : s < sS A) (hk : k < sLn A s) : MetA M_X4_placedAt [aR 0 j, aI (nI s), aI (nI k)] μ (rI (nI (sPl A s k)) μ) := by
  have w := R.W.sm
  have w2 := R.W.ln hs
  refine MetA.of2 k_X4_placedAt rfl (Nat.le_of_ble_eq_true rfl) rfl (B_X4_placedAt_0 hj ?_)
  simp (disch := omega) only [n0, n1, n2, n3, n4, n5, n6, n7, n8, n9, n10, n20, n99, nm1, nI_add, pk_mul, nI_clamp, nI_leI, nI_ltI, nI_eqI, vp_nI, pk_sub, nI_addneg, Nat.not_lt_zero, false_implies, not_false_eq_true, true_implies, true_and, and_true, Nat.le_refl, not_true_eq_false, R.pl hs hk]
  exact rI_ok rfl rfl
theorem c_levelAt (hj : j < 12) (R : RC μ j A) (hs : s < sS A) (hk : k < sLn A s) : MetA M_X4_levelAt [aR 0 j, aI (nI s), aI (nI k)] μ (rI (nI (sLv A s k)) μ) := by
  have w := R.W.sm
  have w2 := R.W.ln hs
  refine MetA.of2 k_X4_levelAt rfl (Nat.le_of_ble_eq_true rfl) rfl (B_X4_levelAt_0 hj ?_)
  simp (disch := omega) only [n0, n1, n2, n3, n4, n5, n6, n7, n8, n9, n10, n20, n99, nm1, nI_add, pk_mul, nI_clamp, nI_leI, nI_ltI, nI_eqI, vp_nI, pk_sub, nI_addneg, Nat.not_lt_zero, false_implies, not_false_eq_true, true_implies, true_and, and_true, Nat.le_refl, not_true_eq_false, R.lv hs hk]
  exact rI_ok rfl rfl
theorem c_isMisprint (hj : j < 12) (R : RC μ j A) (hs : s < sS A) (hk : k < sLn A s) : MetA M_X4_isMisprint [aR 0 j, aI (nI s), aI (nI k)] μ (rI (nI (bi (sPl A s k ≠ sRt A s k))) μ) := by
  have w := R.W.rt hs hk
  have w2 := R.W.pl hs hk
  refine MetA.of2 k_X4_isMisprint rfl (Nat.le_of_ble_eq_true rfl) rfl (B_X4_isMisprint_0 hj ?_)
  refine ⟨_, μ, c_placedAt hj R hs hk, _, μ, c_rightAt hj R hs hk, ?_⟩
  simp (disch := omega) only [n0, n1, n2, n3, n4, n5, n6, n7, n8, n9, n10, n20, n99, nm1, nI_add, pk_mul, nI_clamp, nI_leI, nI_ltI, nI_eqI, vp_nI, pk_sub, nI_addneg, Nat.not_lt_zero, false_implies, not_false_eq_true, true_implies, true_and, and_true, Nat.le_refl, not_true_eq_false]
  exact ⟨fun q => rI_ok (by rw [bi_f (by omega)]) rfl, fun q => rI_ok (by rw [bi_t q]) rfl⟩
theorem c_howBad (hj : j < 12) (R : RC μ j A) (hs : s < sS A) (hk : k < sLn A s) : MetA M_X4_howBad [aR 0 j, aI (nI s), aI (nI k)] μ (rI (nI (sBad A s k)) μ) := by
  have w := R.W.sm
  have w2 := R.W.ln hs
  have w3 := R.W.rt hs hk
  have w4 := R.W.pl hs hk
  have hv : vp_in (nI s * 8 + nI k) 64 := by simp (disch := omega) only [n0, n1, n2, n3, n4, n5, n6, n7, n8, n9, n10, n20, n99, nm1, nI_add, pk_mul, nI_clamp, nI_leI, nI_ltI, nI_eqI, vp_nI, pk_sub, nI_addneg, Nat.not_lt_zero, false_implies, not_false_eq_true, true_implies, true_and, and_true, Nat.le_refl, not_true_eq_false]
  have hc : (nI s * 8 + nI k).toNatClampNeg = s * 8 + k := by simp (disch := omega) only [n0, n1, n2, n3, n4, n5, n6, n7, n8, n9, n10, n20, n99, nm1, nI_add, pk_mul, nI_clamp, nI_leI, nI_ltI, nI_eqI, vp_nI, pk_sub, nI_addneg, Nat.not_lt_zero, false_implies, not_false_eq_true, true_implies, true_and, and_true, Nat.le_refl, not_true_eq_false]
  refine MetA.of2 k_X4_howBad rfl (Nat.le_of_ble_eq_true rfl) rfl (B_X4_howBad_0 hj ?_)
  refine ⟨hv, hv, fun r hr => rI_ok ?_ rfl⟩
  rw [hr, hc, R.rt hs hk, R.pl hs hk, abs_nI (by omega) (by omega)]
  rfl
theorem c_isAshamed (hj : j < 12) (R : RC μ j A) (hh : h < sH A) : MetA M_X4_isAshamed [aR 0 j, aI (nI h)] μ (rI (nI (bi (20 < sSh A h))) μ) := by
  have w := R.W.hm
  have w2 := R.W.sh hh
  refine MetA.of2 k_X4_isAshamed rfl (Nat.le_of_ble_eq_true rfl) rfl (B_X4_isAshamed_0 hj ?_)
  simp (disch := omega) only [n0, n1, n2, n3, n4, n5, n6, n7, n8, n9, n10, n20, n99, nm1, nI_add, pk_mul, nI_clamp, nI_leI, nI_ltI, nI_eqI, vp_nI, pk_sub, nI_addneg, Nat.not_lt_zero, false_implies, not_false_eq_true, true_implies, true_and, and_true, Nat.le_refl, not_true_eq_false, R.sh hh]
  exact ⟨fun q => rI_ok (by rw [bi_f (by omega)]) rfl, fun q => rI_ok (by rw [bi_t (by omega)]) rfl⟩
theorem c_countOnSheet {lv : Nat} (hj : j < 12) (R : RC μ j A) (hs : s < sS A) (hl : lv < 100) : MetA M_X4_countOnSheet [aR 0 j, aI (nI s), aI (nI lv)] μ (rI (nI (sCnt A s lv)) μ) := by
  have w := R.W.sm
  have w2 := R.W.ln hs
  refine MetA.of2 k_X4_countOnSheet rfl (Nat.le_of_ble_eq_true rfl) rfl (B_X4_countOnSheet_0 hj ?_)
  refine loopN (sLn A s) (fun k => AW M_X4_countOnSheet 0 5 [some (aR 0 j), some (aI (nI s)), some (aI (nI lv)), some (aI (nI (sm (fun k => bi (lv ≤ sLv A s k)) k))), some (aI (nI k))] [] μ _) ?_ ?_
  · refine B_X4_countOnSheet_5 hj ?_
    simp (disch := omega) only [n0, n1, n2, n3, n4, n5, n6, n7, n8, n9, n10, n20, n99, nm1, nI_add, pk_mul, nI_clamp, nI_leI, nI_ltI, nI_eqI, vp_nI, pk_sub, nI_addneg, Nat.not_lt_zero, false_implies, not_false_eq_true, true_implies, true_and, and_true, Nat.le_refl, not_true_eq_false, R.ln hs]
    exact rI_ok rfl rfl
  · intro k hk ih
    refine B_X4_countOnSheet_5 hj ?_
    have g := R.W.lv hs hk
    simp (disch := omega) only [n0, n1, n2, n3, n4, n5, n6, n7, n8, n9, n10, n20, n99, nm1, nI_add, pk_mul, nI_clamp, nI_leI, nI_ltI, nI_eqI, vp_nI, pk_sub, nI_addneg, Nat.not_lt_zero, false_implies, not_false_eq_true, true_implies, true_and, and_true, Nat.le_refl, not_true_eq_false, R.ln hs, R.lv hs hk]
    rw [sm] at ih
    refine ⟨fun q => absurd q (by omega), fun _ => ⟨fun q => ?_, fun q => ?_⟩⟩
    · rw [bi_f (by omega)] at ih
      exact ih
    · rw [bi_t (by omega)] at ih
      exact ih
theorem c_countOfHouse {lv : Nat} (hj : j < 12) (R : RC μ j A) (hh : h < sH A) (hl : lv < 100) : MetA M_X4_countOfHouse [aR 0 j, aI (nI h), aI (nI lv)] μ (rI (nI (sCntH A h lv)) μ) := by
  have w := R.W.sm
  have w2 := R.W.hm
  refine MetA.of2 k_X4_countOfHouse rfl (Nat.le_of_ble_eq_true rfl) rfl (B_X4_countOfHouse_0 hj ?_)
  refine loopN (sS A) (fun k => AW M_X4_countOfHouse 0 5 [some (aR 0 j), some (aI (nI h)), some (aI (nI lv)), some (aI (nI (sm (fun s => if sOw A s = h then sCnt A s lv else 0) k))), some (aI (nI k))] [] μ _) ?_ ?_
  · refine B_X4_countOfHouse_5 hj ?_
    simp (disch := omega) only [n0, n1, n2, n3, n4, n5, n6, n7, n8, n9, n10, n20, n99, nm1, nI_add, pk_mul, nI_clamp, nI_leI, nI_ltI, nI_eqI, vp_nI, pk_sub, nI_addneg, Nat.not_lt_zero, false_implies, not_false_eq_true, true_implies, true_and, and_true, Nat.le_refl, not_true_eq_false, R.S]
    exact rI_ok rfl rfl
  · intro k hk ih
    refine B_X4_countOfHouse_5 hj ?_
    have g := R.W.ow hk
    simp (disch := omega) only [n0, n1, n2, n3, n4, n5, n6, n7, n8, n9, n10, n20, n99, nm1, nI_add, pk_mul, nI_clamp, nI_leI, nI_ltI, nI_eqI, vp_nI, pk_sub, nI_addneg, Nat.not_lt_zero, false_implies, not_false_eq_true, true_implies, true_and, and_true, Nat.le_refl, not_true_eq_false, R.S, R.ow hk]
    rw [sm] at ih
    refine ⟨fun q => absurd q (by omega), fun _ => ⟨fun q => ?_, fun q => ⟨_, μ, c_countOnSheet hj R hk hl, ?_⟩⟩⟩
    · rw [if_neg q] at ih
      exact ih
    · rw [if_pos q] at ih
      simp (disch := omega) only [n0, n1, n2, n3, n4, n5, n6, n7, n8, n9, n10, n20, n99, nm1, nI_add, pk_mul, nI_clamp, nI_leI, nI_ltI, nI_eqI, vp_nI, pk_sub, nI_addneg, Nat.not_lt_zero, false_implies, not_false_eq_true, true_implies, true_and, and_true, Nat.le_refl, not_true_eq_false]
      exact ih
theorem c_countInAll {lv : Nat} (hj : j < 12) (R : RC μ j A) (hl : lv < 100) : MetA M_X4_countInAll [aR 0 j, aI (nI lv)] μ (rI (nI (sCntA A lv)) μ) := by
  have w := R.W.sm
  refine MetA.of2 k_X4_countInAll rfl (Nat.le_of_ble_eq_true rfl) rfl (B_X4_countInAll_0 hj ?_)
  refine loopN (sS A) (fun k => AW M_X4_countInAll 0 4 [some (aR 0 j), some (aI (nI lv)), some (aI (nI (sm (fun s => sCnt A s lv) k))), some (aI (nI k))] [] μ _) ?_ ?_
  · refine B_X4_countInAll_4 hj ?_
    simp (disch := omega) only [n0, n1, n2, n3, n4, n5, n6, n7, n8, n9, n10, n20, n99, nm1, nI_add, pk_mul, nI_clamp, nI_leI, nI_ltI, nI_eqI, vp_nI, pk_sub, nI_addneg, Nat.not_lt_zero, false_implies, not_false_eq_true, true_implies, true_and, and_true, Nat.le_refl, not_true_eq_false, R.S]
    exact rI_ok rfl rfl
  · intro k hk ih
    refine B_X4_countInAll_4 hj ?_
    simp (disch := omega) only [n0, n1, n2, n3, n4, n5, n6, n7, n8, n9, n10, n20, n99, nm1, nI_add, pk_mul, nI_clamp, nI_leI, nI_ltI, nI_eqI, vp_nI, pk_sub, nI_addneg, Nat.not_lt_zero, false_implies, not_false_eq_true, true_implies, true_and, and_true, Nat.le_refl, not_true_eq_false, R.S]
    rw [sm] at ih
    refine ⟨fun q => absurd q (by omega), fun _ => ⟨_, μ, c_countOnSheet hj R hk hl, ?_⟩⟩
    simp (disch := omega) only [n0, n1, n2, n3, n4, n5, n6, n7, n8, n9, n10, n20, n99, nm1, nI_add, pk_mul, nI_clamp, nI_leI, nI_ltI, nI_eqI, vp_nI, pk_sub, nI_addneg, Nat.not_lt_zero, false_implies, not_false_eq_true, true_implies, true_and, and_true, Nat.le_refl, not_true_eq_false]
    exact ih
theorem c_badness (hj : j < 12) (R : RC μ j A) (hs : s < sS A) : MetA M_X4_badness [aR 0 j, aI (nI s)] μ (rI (nI (sBadS A s)) μ) := by
  have w := R.W.sm
  have w2 := R.W.ln hs
  refine MetA.of2 k_X4_badness rfl (Nat.le_of_ble_eq_true rfl) rfl (B_X4_badness_0 hj ?_)
  refine loopN (sLn A s) (fun k => AW M_X4_badness 0 4 [some (aR 0 j), some (aI (nI s)), some (aI (nI (sm (fun k => sBad A s k) k))), some (aI (nI k))] [] μ _) ?_ ?_
  · refine B_X4_badness_4 hj ?_
    simp (disch := omega) only [n0, n1, n2, n3, n4, n5, n6, n7, n8, n9, n10, n20, n99, nm1, nI_add, pk_mul, nI_clamp, nI_leI, nI_ltI, nI_eqI, vp_nI, pk_sub, nI_addneg, Nat.not_lt_zero, false_implies, not_false_eq_true, true_implies, true_and, and_true, Nat.le_refl, not_true_eq_false, R.ln hs]
    exact rI_ok rfl rfl
  · intro k hk ih
    refine B_X4_badness_4 hj ?_
    simp (disch := omega) only [n0, n1, n2, n3, n4, n5, n6, n7, n8, n9, n10, n20, n99, nm1, nI_add, pk_mul, nI_clamp, nI_leI, nI_ltI, nI_eqI, vp_nI, pk_sub, nI_addneg, Nat.not_lt_zero, false_implies, not_false_eq_true, true_implies, true_and, and_true, Nat.le_refl, not_true_eq_false, R.ln hs]
    rw [sm] at ih
    refine ⟨fun q => absurd q (by omega), fun _ => ⟨_, μ, c_howBad hj R hs hk, ?_⟩⟩
    simp (disch := omega) only [n0, n1, n2, n3, n4, n5, n6, n7, n8, n9, n10, n20, n99, nm1, nI_add, pk_mul, nI_clamp, nI_leI, nI_ltI, nI_eqI, vp_nI, pk_sub, nI_addneg, Nat.not_lt_zero, false_implies, not_false_eq_true, true_implies, true_and, and_true, Nat.le_refl, not_true_eq_false]
    exact ih
theorem c_sheetsOf (hj : j < 12) (R : RC μ j A) (hh : h < sH A) : MetA M_X4_sheetsOf [aR 0 j, aI (nI h)] μ (rI (nI (sShe A h)) μ) := by
  have w := R.W.sm
  have w2 := R.W.hm
  refine MetA.of2 k_X4_sheetsOf rfl (Nat.le_of_ble_eq_true rfl) rfl (B_X4_sheetsOf_0 hj ?_)
  refine loopN (sS A) (fun k => AW M_X4_sheetsOf 0 4 [some (aR 0 j), some (aI (nI h)), some (aI (nI (sm (fun s => bi (sOw A s = h)) k))), some (aI (nI k))] [] μ _) ?_ ?_
  · refine B_X4_sheetsOf_4 hj ?_
    simp (disch := omega) only [n0, n1, n2, n3, n4, n5, n6, n7, n8, n9, n10, n20, n99, nm1, nI_add, pk_mul, nI_clamp, nI_leI, nI_ltI, nI_eqI, vp_nI, pk_sub, nI_addneg, Nat.not_lt_zero, false_implies, not_false_eq_true, true_implies, true_and, and_true, Nat.le_refl, not_true_eq_false, R.S]
    exact rI_ok rfl rfl
  · intro k hk ih
    refine B_X4_sheetsOf_4 hj ?_
    have g := R.W.ow hk
    simp (disch := omega) only [n0, n1, n2, n3, n4, n5, n6, n7, n8, n9, n10, n20, n99, nm1, nI_add, pk_mul, nI_clamp, nI_leI, nI_ltI, nI_eqI, vp_nI, pk_sub, nI_addneg, Nat.not_lt_zero, false_implies, not_false_eq_true, true_implies, true_and, and_true, Nat.le_refl, not_true_eq_false, R.S, R.ow hk]
    rw [sm] at ih
    refine ⟨fun q => absurd q (by omega), fun _ => ⟨fun q => ?_, fun q => ?_⟩⟩
    · rw [bi_f q] at ih
      exact ih
    · rw [bi_t q] at ih
      exact ih
theorem c_ashamedHouses (hj : j < 12) (R : RC μ j A) : MetA M_X4_ashamedHouses [aR 0 j] μ (rI (nI (sm (fun h => bi (20 < sSh A h)) (sH A))) μ) := by
  have w := R.W.hm
  refine MetA.of2 k_X4_ashamedHouses rfl (Nat.le_of_ble_eq_true rfl) rfl (B_X4_ashamedHouses_0 hj ?_)
  refine loopN (sH A) (fun k => AW M_X4_ashamedHouses 0 4 [some (aR 0 j), some (aI (nI (sm (fun h => bi (20 < sSh A h)) k))), some (aI (nI k))] [] μ _) ?_ ?_
  · refine B_X4_ashamedHouses_4 hj ?_
    simp (disch := omega) only [n0, n1, n2, n3, n4, n5, n6, n7, n8, n9, n10, n20, n99, nm1, nI_add, pk_mul, nI_clamp, nI_leI, nI_ltI, nI_eqI, vp_nI, pk_sub, nI_addneg, Nat.not_lt_zero, false_implies, not_false_eq_true, true_implies, true_and, and_true, Nat.le_refl, not_true_eq_false, R.H]
    exact rI_ok rfl rfl
  · intro k hk ih
    refine B_X4_ashamedHouses_4 hj ?_
    simp (disch := omega) only [n0, n1, n2, n3, n4, n5, n6, n7, n8, n9, n10, n20, n99, nm1, nI_add, pk_mul, nI_clamp, nI_leI, nI_ltI, nI_eqI, vp_nI, pk_sub, nI_addneg, Nat.not_lt_zero, false_implies, not_false_eq_true, true_implies, true_and, and_true, Nat.le_refl, not_true_eq_false, R.H]
    rw [sm] at ih
    refine ⟨fun q => absurd q (by omega), fun _ => ⟨_, μ, c_isAshamed hj R hk, ?_⟩⟩
    by_cases c : 20 < sSh A k
    · rw [bi_t c] at ih ⊢
      exact ⟨fun q => absurd q (by decide), fun _ => ih⟩
    · rw [bi_f c] at ih ⊢
      exact ⟨fun _ => ih, fun q => absurd rfl q⟩
theorem c_licenceCost (hj : j < 12) (R : RC μ j A) (hh : h < sH A) : MetA M_X4_licenceCost [aR 0 j, aI (nI h)] μ (rI (nI (sCost A h)) μ) := by
  refine MetA.of2 k_X4_licenceCost rfl (Nat.le_of_ble_eq_true rfl) rfl (B_X4_licenceCost_0 hj ?_)
  refine ⟨_, μ, c_countOfHouse hj R hh (by decide), ?_⟩
  simp (disch := omega) only [n0, n1, n2, n3, n4, n5, n6, n7, n8, n9, n10, n20, n99, nm1, nI_add, pk_mul, nI_clamp, nI_leI, nI_ltI, nI_eqI, vp_nI, pk_sub, nI_addneg, Nat.not_lt_zero, false_implies, not_false_eq_true, true_implies, true_and, and_true, Nat.le_refl, not_true_eq_false]
  exact rI_ok rfl rfl
end CS1
