theorem nb_t {b : Bool} (h : b = true) : (1 : Int32) = nI (if b then 1 else 0) := by rw [h]; rfl
theorem nb_f {b : Bool} (h : b = false) : (0 : Int32) = nI (if b then 1 else 0) := by rw [h]; rfl
section CS3
variable {μ : Mem} {j : Nat} {A : SP} {s k h : Nat}
theorem c_laughsByMisprint (hj : j < 12) (R : RC μ j A) : MetA M_X4_laughsByMisprint [aR 0 j] μ (rI (nI (sWl A)) μ) := by
  have w := R.W.sm
  refine MetA.of2 k_X4_laughsByMisprint rfl (Nat.le_of_ble_eq_true rfl) rfl (B_X4_laughsByMisprint_0 hj ?_)
  refine loopN (sS A) (fun s => AW M_X4_laughsByMisprint 0 4 [some (aR 0 j), some (aI (nI (sm (fun s => sm (fun k => if sLv A s k = 2 then sLg A s k else 0) (sLn A s)) s))), some (aI (nI s)), none] [] μ _) ?_ ?_
  · refine B_X4_laughsByMisprint_4 hj ?_
    simp (disch := omega) only [n0, n1, n2, n3, n4, n5, n6, n7, n8, n9, n10, n20, n99, nm1, nI_add, pk_mul, nI_clamp, nI_leI, nI_ltI, nI_eqI, vp_nI, pk_sub, nI_addneg, Nat.not_lt_zero, false_implies, not_false_eq_true, true_implies, true_and, and_true, Nat.le_refl, not_true_eq_false, R.S]
    exact rI_ok rfl rfl
  · intro s hs ih
    have w2 := R.W.ln hs
    refine B_X4_laughsByMisprint_4 hj ?_
    simp (disch := omega) only [n0, n1, n2, n3, n4, n5, n6, n7, n8, n9, n10, n20, n99, nm1, nI_add, pk_mul, nI_clamp, nI_leI, nI_ltI, nI_eqI, vp_nI, pk_sub, nI_addneg, Nat.not_lt_zero, false_implies, not_false_eq_true, true_implies, true_and, and_true, Nat.le_refl, not_true_eq_false, R.S]
    refine ⟨fun q => absurd q (by omega), fun _ => ?_⟩
    rw [sm] at ih
    refine loopN (sLn A s) (fun k => AW M_X4_laughsByMisprint 0 14 [some (aR 0 j), some (aI (nI (sm (fun s => sm (fun k => if sLv A s k = 2 then sLg A s k else 0) (sLn A s)) s + sm (fun k => if sLv A s k = 2 then sLg A s k else 0) k))), some (aI (nI s)), some (aI (nI k))] [] μ _) ?_ ?_
    · refine B_X4_laughsByMisprint_14 hj ?_
      simp (disch := omega) only [n0, n1, n2, n3, n4, n5, n6, n7, n8, n9, n10, n20, n99, nm1, nI_add, pk_mul, nI_clamp, nI_leI, nI_ltI, nI_eqI, vp_nI, pk_sub, nI_addneg, Nat.not_lt_zero, false_implies, not_false_eq_true, true_implies, true_and, and_true, Nat.le_refl, not_true_eq_false, R.ln hs]
      exact ih
    · intro k hk ih2
      refine B_X4_laughsByMisprint_14 hj ?_
      simp (disch := omega) only [n0, n1, n2, n3, n4, n5, n6, n7, n8, n9, n10, n20, n99, nm1, nI_add, pk_mul, nI_clamp, nI_leI, nI_ltI, nI_eqI, vp_nI, pk_sub, nI_addneg, Nat.not_lt_zero, false_implies, not_false_eq_true, true_implies, true_and, and_true, Nat.le_refl, not_true_eq_false, R.ln hs]
      rw [sm] at ih2
      refine ⟨fun q => absurd q (by omega), fun _ => ⟨_, μ, c_levelAt hj R hs hk, ?_⟩⟩
      have w3 := R.W.lv hs hk
      simp (disch := omega) only [n0, n1, n2, n3, n4, n5, n6, n7, n8, n9, n10, n20, n99, nm1, nI_add, pk_mul, nI_clamp, nI_leI, nI_ltI, nI_eqI, vp_nI, pk_sub, nI_addneg, Nat.not_lt_zero, false_implies, not_false_eq_true, true_implies, true_and, and_true, Nat.le_refl, not_true_eq_false]
      refine ⟨fun q => ?_, fun q => ⟨_, μ, c_laughersAt hj R hs hk, _, μ, c_bitCount (sMask_lt R.W s k), ?_⟩⟩
      · rw [if_neg q] at ih2
        exact ih2
      · rw [if_pos q] at ih2
        rw [pop_sMask R.W (by rw [sBad_0 R.W hs hk]; omega)]
        simp (disch := omega) only [n0, n1, n2, n3, n4, n5, n6, n7, n8, n9, n10, n20, n99, nm1, nI_add, pk_mul, nI_clamp, nI_leI, nI_ltI, nI_eqI, vp_nI, pk_sub, nI_addneg, Nat.not_lt_zero, false_implies, not_false_eq_true, true_implies, true_and, and_true, Nat.le_refl, not_true_eq_false]
        rw [Nat.add_assoc]
        exact ih2
theorem c_laughsOf {r : Nat} (hj : j < 12) (R : RC μ j A) (hr : r < sR A) : MetA M_X4_laughsOf [aR 0 j, aI (nI r)] μ (rI (nI (sLo A r)) μ) := by
  have w := R.W.sm
  refine MetA.of2 k_X4_laughsOf rfl (Nat.le_of_ble_eq_true rfl) rfl (B_X4_laughsOf_0 hj ?_)
  refine loopN (sS A) (fun s => AW M_X4_laughsOf 0 4 [some (aR 0 j), some (aI (nI r)), some (aI (nI (sm (fun s => sm (fun k => if sLv A s k = 2 ∧ sLb A r s k = true then 1 else 0) (sLn A s)) s))), some (aI (nI s)), none, none] [] μ _) ?_ ?_
  · refine B_X4_laughsOf_4 hj ?_
    simp (disch := omega) only [n0, n1, n2, n3, n4, n5, n6, n7, n8, n9, n10, n20, n99, nm1, nI_add, pk_mul, nI_clamp, nI_leI, nI_ltI, nI_eqI, vp_nI, pk_sub, nI_addneg, Nat.not_lt_zero, false_implies, not_false_eq_true, true_implies, true_and, and_true, Nat.le_refl, not_true_eq_false, R.S]
    exact rI_ok rfl rfl
  · intro s hs ih
    have w2 := R.W.ln hs
    refine B_X4_laughsOf_4 hj ?_
    simp (disch := omega) only [n0, n1, n2, n3, n4, n5, n6, n7, n8, n9, n10, n20, n99, nm1, nI_add, pk_mul, nI_clamp, nI_leI, nI_ltI, nI_eqI, vp_nI, pk_sub, nI_addneg, Nat.not_lt_zero, false_implies, not_false_eq_true, true_implies, true_and, and_true, Nat.le_refl, not_true_eq_false, R.S]
    refine ⟨fun q => absurd q (by omega), fun _ => ?_⟩
    rw [sm] at ih
    refine loopN (sLn A s) (fun k => AW M_X4_laughsOf 0 15 [some (aR 0 j), some (aI (nI r)), some (aI (nI (sm (fun s => sm (fun k => if sLv A s k = 2 ∧ sLb A r s k = true then 1 else 0) (sLn A s)) s + sm (fun k => if sLv A s k = 2 ∧ sLb A r s k = true then 1 else 0) k))), some (aI (nI s)), some (aI (nI k)), none] [] μ _) ?_ ?_
    · refine B_X4_laughsOf_15 hj ?_
      simp (disch := omega) only [n0, n1, n2, n3, n4, n5, n6, n7, n8, n9, n10, n20, n99, nm1, nI_add, pk_mul, nI_clamp, nI_leI, nI_ltI, nI_eqI, vp_nI, pk_sub, nI_addneg, Nat.not_lt_zero, false_implies, not_false_eq_true, true_implies, true_and, and_true, Nat.le_refl, not_true_eq_false, R.ln hs]
      exact ih
    · intro k hk ih2
      refine B_X4_laughsOf_15 hj ?_
      simp (disch := omega) only [n0, n1, n2, n3, n4, n5, n6, n7, n8, n9, n10, n20, n99, nm1, nI_add, pk_mul, nI_clamp, nI_leI, nI_ltI, nI_eqI, vp_nI, pk_sub, nI_addneg, Nat.not_lt_zero, false_implies, not_false_eq_true, true_implies, true_and, and_true, Nat.le_refl, not_true_eq_false, R.ln hs]
      rw [sm] at ih2
      refine ⟨fun q => absurd q (by omega), fun _ => ⟨_, μ, c_levelAt hj R hs hk, ?_⟩⟩
      have w3 := R.W.lv hs hk
      simp (disch := omega) only [n0, n1, n2, n3, n4, n5, n6, n7, n8, n9, n10, n20, n99, nm1, nI_add, pk_mul, nI_clamp, nI_leI, nI_ltI, nI_eqI, vp_nI, pk_sub, nI_addneg, Nat.not_lt_zero, false_implies, not_false_eq_true, true_implies, true_and, and_true, Nat.le_refl, not_true_eq_false]
      refine ⟨fun q => ?_, fun q => ⟨_, μ, c_placedAt hj R hs hk, _, μ, c_howBad hj R hs hk, _, μ, c_isLaughing hj R hr hs hk, ?_⟩⟩
      · rw [if_neg (fun z => q z.1)] at ih2
        exact ih2
      · cases hb : sLb A r s k
        · rw [hb, if_neg (fun z => Bool.false_ne_true z.2)] at ih2
          exact ⟨fun _ => ih2, fun z => absurd rfl z⟩
        · rw [hb, if_pos ⟨q, rfl⟩] at ih2
          exact ⟨fun z => absurd z (by decide), fun _ => ih2⟩
theorem c_laughsByReader (hj : j < 12) (R : RC μ j A) : MetA M_X4_laughsByReader [aR 0 j] μ (rI (nI (sWl A)) μ) := by
  have w := R.W.rm
  rw [← sWl_sLo]
  refine MetA.of2 k_X4_laughsByReader rfl (Nat.le_of_ble_eq_true rfl) rfl (B_X4_laughsByReader_0 hj ?_)
  refine loopN (sR A) (fun r => AW M_X4_laughsByReader 0 4 [some (aR 0 j), some (aI (nI (sm (fun r => sLo A r) r))), some (aI (nI r))] [] μ _) ?_ ?_
  · refine B_X4_laughsByReader_4 hj ?_
    simp (disch := omega) only [n0, n1, n2, n3, n4, n5, n6, n7, n8, n9, n10, n20, n99, nm1, nI_add, pk_mul, nI_clamp, nI_leI, nI_ltI, nI_eqI, vp_nI, pk_sub, nI_addneg, Nat.not_lt_zero, false_implies, not_false_eq_true, true_implies, true_and, and_true, Nat.le_refl, not_true_eq_false, R.R]
    exact rI_ok rfl rfl
  · intro r hr ih
    refine B_X4_laughsByReader_4 hj ?_
    simp (disch := omega) only [n0, n1, n2, n3, n4, n5, n6, n7, n8, n9, n10, n20, n99, nm1, nI_add, pk_mul, nI_clamp, nI_leI, nI_ltI, nI_eqI, vp_nI, pk_sub, nI_addneg, Nat.not_lt_zero, false_implies, not_false_eq_true, true_implies, true_and, and_true, Nat.le_refl, not_true_eq_false, R.R]
    rw [sm] at ih
    refine ⟨fun q => absurd q (by omega), fun _ => ⟨_, μ, c_laughsOf hj R hr, ?_⟩⟩
    simp (disch := omega) only [n0, n1, n2, n3, n4, n5, n6, n7, n8, n9, n10, n20, n99, nm1, nI_add, pk_mul, nI_clamp, nI_leI, nI_ltI, nI_eqI, vp_nI, pk_sub, nI_addneg, Nat.not_lt_zero, false_implies, not_false_eq_true, true_implies, true_and, and_true, Nat.le_refl, not_true_eq_false]
    exact ih
theorem c_shameToCome (hj : j < 12) (R : RC μ j A) (hh : h < sH A) : MetA M_X4_shameToCome [aR 0 j, aI (nI h)] μ (rI (nI (sStc A h)) μ) := by
  have w := R.W.sm
  have w0 := R.W.hm
  refine MetA.of2 k_X4_shameToCome rfl (Nat.le_of_ble_eq_true rfl) rfl (B_X4_shameToCome_0 hj ?_)
  refine loopN (sS A) (fun s => AW M_X4_shameToCome 0 4 [some (aR 0 j), some (aI (nI h)), some (aI (nI (sm (fun s => if sOw A s = h then sm (fun k => if sLv A s k = 2 then sBad A s k else 0) (sLn A s) else 0) s))), some (aI (nI s)), none] [] μ _) ?_ ?_
  · refine B_X4_shameToCome_4 hj ?_
    simp (disch := omega) only [n0, n1, n2, n3, n4, n5, n6, n7, n8, n9, n10, n20, n99, nm1, nI_add, pk_mul, nI_clamp, nI_leI, nI_ltI, nI_eqI, vp_nI, pk_sub, nI_addneg, Nat.not_lt_zero, false_implies, not_false_eq_true, true_implies, true_and, and_true, Nat.le_refl, not_true_eq_false, R.S]
    exact rI_ok rfl rfl
  · intro s hs ih
    have w2 := R.W.ln hs
    have w3 := R.W.ow hs
    refine B_X4_shameToCome_4 hj ?_
    simp (disch := omega) only [n0, n1, n2, n3, n4, n5, n6, n7, n8, n9, n10, n20, n99, nm1, nI_add, pk_mul, nI_clamp, nI_leI, nI_ltI, nI_eqI, vp_nI, pk_sub, nI_addneg, Nat.not_lt_zero, false_implies, not_false_eq_true, true_implies, true_and, and_true, Nat.le_refl, not_true_eq_false, R.S]
    refine ⟨fun q => absurd q (by omega), fun _ => ?_⟩
    rw [sm] at ih
    by_cases ho : sOw A s = h
    · rw [if_pos ho] at ih
      refine loopN (sLn A s) (fun k => AW M_X4_shameToCome 0 15 [some (aR 0 j), some (aI (nI h)), some (aI (nI (sm (fun s => if sOw A s = h then sm (fun k => if sLv A s k = 2 then sBad A s k else 0) (sLn A s) else 0) s + sm (fun k => if sLv A s k = 2 then sBad A s k else 0) k))), some (aI (nI s)), some (aI (nI k))] [] μ _) ?_ ?_
      · refine B_X4_shameToCome_15 hj ?_
        simp (disch := omega) only [n0, n1, n2, n3, n4, n5, n6, n7, n8, n9, n10, n20, n99, nm1, nI_add, pk_mul, nI_clamp, nI_leI, nI_ltI, nI_eqI, vp_nI, pk_sub, nI_addneg, Nat.not_lt_zero, false_implies, not_false_eq_true, true_implies, true_and, and_true, Nat.le_refl, not_true_eq_false, R.ln hs, R.ow hs]
        exact ⟨fun z => absurd ho z, fun _ => ih⟩
      · intro k hk ih2
        refine B_X4_shameToCome_15 hj ?_
        simp (disch := omega) only [n0, n1, n2, n3, n4, n5, n6, n7, n8, n9, n10, n20, n99, nm1, nI_add, pk_mul, nI_clamp, nI_leI, nI_ltI, nI_eqI, vp_nI, pk_sub, nI_addneg, Nat.not_lt_zero, false_implies, not_false_eq_true, true_implies, true_and, and_true, Nat.le_refl, not_true_eq_false, R.ln hs, R.ow hs]
        rw [sm] at ih2
        refine ⟨fun z => absurd ho z, fun _ => ⟨fun q => absurd q (by omega), fun _ => ⟨_, μ, c_levelAt hj R hs hk, ?_⟩⟩⟩
        have w3 := R.W.lv hs hk
        simp (disch := omega) only [n0, n1, n2, n3, n4, n5, n6, n7, n8, n9, n10, n20, n99, nm1, nI_add, pk_mul, nI_clamp, nI_leI, nI_ltI, nI_eqI, vp_nI, pk_sub, nI_addneg, Nat.not_lt_zero, false_implies, not_false_eq_true, true_implies, true_and, and_true, Nat.le_refl, not_true_eq_false]
        refine ⟨fun q => ?_, fun q => ⟨_, μ, c_howBad hj R hs hk, ?_⟩⟩
        · rw [if_neg q] at ih2
          exact ih2
        · rw [if_pos q] at ih2
          simp (disch := omega) only [n0, n1, n2, n3, n4, n5, n6, n7, n8, n9, n10, n20, n99, nm1, nI_add, pk_mul, nI_clamp, nI_leI, nI_ltI, nI_eqI, vp_nI, pk_sub, nI_addneg, Nat.not_lt_zero, false_implies, not_false_eq_true, true_implies, true_and, and_true, Nat.le_refl, not_true_eq_false]
          rw [Nat.add_assoc]
          exact ih2
    · rw [if_neg ho] at ih
      refine B_X4_shameToCome_15 hj ?_
      simp (disch := omega) only [n0, n1, n2, n3, n4, n5, n6, n7, n8, n9, n10, n20, n99, nm1, nI_add, pk_mul, nI_clamp, nI_leI, nI_ltI, nI_eqI, vp_nI, pk_sub, nI_addneg, Nat.not_lt_zero, false_implies, not_false_eq_true, true_implies, true_and, and_true, Nat.le_refl, not_true_eq_false, R.ow hs]
      exact ⟨fun _ => ih, fun z => absurd z ho⟩
theorem c_unlike {o : Nat} (hj : j < 12) (R : RC μ j A) (hs : s < sS A) (ho : o < sS A) : MetA M_X4_unlike [aR 0 j, aI (nI s), aI (nI o)] μ (rI (nI (sUn A s o)) μ) := by
  have w := R.W.sm
  have w1 := R.W.ln hs
  have w2 := R.W.ln ho
  have hv1 : vp_in (nI s) 8 := vp_in_nI (by omega) (by omega)
  have hv2 : vp_in (nI o) 8 := vp_in_nI (by omega) (by omega)
  refine MetA.of2 k_X4_unlike rfl (Nat.le_of_ble_eq_true rfl) rfl (B_X4_unlike_0 hj ?_)
  refine ⟨hv1, hv2, fun r5 h5 => ⟨hv1, hv2, fun r11 h11 => ?_⟩⟩
  rw [nI_clamp (show s < 2 ^ 31 by omega), nI_clamp (show o < 2 ^ 31 by omega), R.ln hs, R.ln ho] at h5 h11
  have e5 : r5 = nI (min (sLn A s) (sLn A o)) := by
    rw [h5]
    simp (disch := omega) only [n0, n1, n2, n3, n4, n5, n6, n7, n8, n9, n10, n20, n99, nm1, nI_add, pk_mul, nI_clamp, nI_leI, nI_ltI, nI_eqI, vp_nI, pk_sub, nI_addneg, Nat.not_lt_zero, false_implies, not_false_eq_true, true_implies, true_and, and_true, Nat.le_refl, not_true_eq_false]
    rw [Nat.min_def]
    split <;> split <;> first | rfl | (congr 1; omega)
  have e11 : r11 = nI (max (sLn A s) (sLn A o)) := by
    rw [h11]
    simp (disch := omega) only [n0, n1, n2, n3, n4, n5, n6, n7, n8, n9, n10, n20, n99, nm1, nI_add, pk_mul, nI_clamp, nI_leI, nI_ltI, nI_eqI, vp_nI, pk_sub, nI_addneg, Nat.not_lt_zero, false_implies, not_false_eq_true, true_implies, true_and, and_true, Nat.le_refl, not_true_eq_false]
    rw [Nat.max_def]
    split <;> split <;> first | rfl | (congr 1; omega)
  have hm1 : min (sLn A s) (sLn A o) ≤ max (sLn A s) (sLn A o) := by omega
  rw [e5, e11, pk_sub hm1]
  refine loopN (min (sLn A s) (sLn A o)) (fun k => AW M_X4_unlike 0 38 [some (aR 0 j), some (aI (nI s)), some (aI (nI o)), some (aI (nI (min (sLn A s) (sLn A o)))), some (aI (nI (max (sLn A s) (sLn A o) - min (sLn A s) (sLn A o) + sm (fun k => bi (sPl A s k ≠ sRt A o k)) k))), some (aI (nI k))] [] μ _) ?_ ?_
  · refine B_X4_unlike_38 hj ?_
    exact ⟨fun _ => rI_ok rfl rfl, fun q => absurd (nI_le (Nat.le_refl _) (by omega)) q⟩
  · intro k hk ih
    refine B_X4_unlike_38 hj ?_
    rw [sm] at ih
    have w3 := R.W.pl hs (show k < sLn A s by omega)
    have w4 := R.W.rt ho (show k < sLn A o by omega)
    refine ⟨fun q => absurd q (nI_ge hk (by omega)), fun _ => ⟨_, μ, c_placedAt hj R hs (by omega), _, μ, c_rightAt hj R ho (by omega), ?_⟩⟩
    simp (disch := omega) only [n0, n1, n2, n3, n4, n5, n6, n7, n8, n9, n10, n20, n99, nm1, nI_add, pk_mul, nI_clamp, nI_leI, nI_ltI, nI_eqI, vp_nI, pk_sub, nI_addneg, Nat.not_lt_zero, false_implies, not_false_eq_true, true_implies, true_and, and_true, Nat.le_refl, not_true_eq_false]
    refine ⟨fun q => ?_, fun q => ?_⟩
    · rw [bi_f (by omega)] at ih
      exact ih
    · rw [bi_t q] at ih
      rw [Nat.add_assoc]
      exact ih
theorem c_isMoreAshamed {a b : Nat} (hj : j < 12) (R : RC μ j A) (ha : a < sH A) (hb : b < sH A) : MetA M_X4_isMoreAshamed [aR 0 j, aI (nI a), aI (nI b)] μ (rI (nI (if sMa A a b then 1 else 0)) μ) := by
  have w := R.W.hm
  have w1 := R.W.cn ha
  have w2 := R.W.cn hb
  have w3 := R.W.sh ha
  have w4 := R.W.sh hb
  have hv1 : vp_in (nI a) 4 := vp_in_nI (by omega) (by omega)
  have hv2 : vp_in (nI b) 4 := vp_in_nI (by omega) (by omega)
  have hm : sMa A a b = if sSh A a ≠ sSh A b then decide (sSh A b < sSh A a) else if sCn A a ≠ sCn A b then decide (sCn A a < sCn A b) else decide (a < b) := rfl
  refine MetA.of2 k_X4_isMoreAshamed rfl (Nat.le_of_ble_eq_true rfl) rfl (B_X4_isMoreAshamed_0 hj ?_)
  rw [nI_clamp (show a < 2 ^ 31 by omega), nI_clamp (show b < 2 ^ 31 by omega), R.sh ha, R.sh hb, R.cn ha, R.cn hb]
  refine ⟨hv1, hv2, fun q => ⟨hv1, hv2, fun q1 => ⟨fun q2 => rI_ok ?_ rfl, fun q2 => rI_ok ?_ rfl⟩, fun q1 => ⟨hv1, hv2, fun q2 => rI_ok ?_ rfl, fun q2 => rI_ok ?_ rfl⟩⟩, fun q => ⟨hv1, hv2, fun q1 => rI_ok ?_ rfl, fun q1 => rI_ok ?_ rfl⟩⟩
  · rw [nI_eqI (by omega) (by omega)] at q q1
    rw [nI_leI (by omega) (by omega)] at q2
    exact nb_f (by rw [hm, if_neg (by omega), if_neg (by omega)]; exact decide_eq_false (by omega))
  · rw [nI_eqI (by omega) (by omega)] at q q1
    rw [nI_leI (by omega) (by omega)] at q2
    exact nb_t (by rw [hm, if_neg (by omega), if_neg (by omega)]; exact decide_eq_true (by omega))
  · rw [nI_eqI (by omega) (by omega)] at q q1
    rw [nI_leI (by omega) (by omega)] at q2
    exact nb_f (by rw [hm, if_neg (by omega), if_pos (by omega)]; exact decide_eq_false (by omega))
  · rw [nI_eqI (by omega) (by omega)] at q q1
    rw [nI_leI (by omega) (by omega)] at q2
    exact nb_t (by rw [hm, if_neg (by omega), if_pos (by omega)]; exact decide_eq_true (by omega))
  · rw [nI_eqI (by omega) (by omega)] at q
    rw [nI_leI (by omega) (by omega)] at q1
    exact nb_f (by rw [hm, if_pos (by omega)]; exact decide_eq_false (by omega))
  · rw [nI_eqI (by omega) (by omega)] at q
    rw [nI_leI (by omega) (by omega)] at q1
    exact nb_t (by rw [hm, if_pos (by omega)]; exact decide_eq_true (by omega))
theorem c_rankOfHouse (hj : j < 12) (R : RC μ j A) (hh : h < sH A) : MetA M_X4_rankOfHouse [aR 0 j, aI (nI h)] μ (rI (nI (sRkH A h)) μ) := by
  have w := R.W.hm
  refine MetA.of2 k_X4_rankOfHouse rfl (Nat.le_of_ble_eq_true rfl) rfl (B_X4_rankOfHouse_0 hj ?_)
  refine loopN (sH A) (fun k => AW M_X4_rankOfHouse 0 4 [some (aR 0 j), some (aI (nI h)), some (aI (nI (sm (fun o => if sMa A o h then 1 else 0) k))), some (aI (nI k))] [] μ _) ?_ ?_
  · refine B_X4_rankOfHouse_4 hj ?_
    simp (disch := omega) only [n0, n1, n2, n3, n4, n5, n6, n7, n8, n9, n10, n20, n99, nm1, nI_add, pk_mul, nI_clamp, nI_leI, nI_ltI, nI_eqI, vp_nI, pk_sub, nI_addneg, Nat.not_lt_zero, false_implies, not_false_eq_true, true_implies, true_and, and_true, Nat.le_refl, not_true_eq_false, R.H]
    exact rI_ok rfl rfl
  · intro k hk ih
    refine B_X4_rankOfHouse_4 hj ?_
    simp (disch := omega) only [n0, n1, n2, n3, n4, n5, n6, n7, n8, n9, n10, n20, n99, nm1, nI_add, pk_mul, nI_clamp, nI_leI, nI_ltI, nI_eqI, vp_nI, pk_sub, nI_addneg, Nat.not_lt_zero, false_implies, not_false_eq_true, true_implies, true_and, and_true, Nat.le_refl, not_true_eq_false, R.H]
    rw [sm] at ih
    refine ⟨fun q => absurd q (by omega), fun _ => ⟨_, μ, c_isMoreAshamed hj R hk hh, ?_⟩⟩
    cases hb : sMa A k h
    · rw [hb] at ih
      exact ⟨fun _ => ih, fun z => absurd rfl z⟩
    · rw [hb] at ih
      exact ⟨fun z => absurd z (by decide), fun _ => ih⟩
theorem c_isWorse {a b : Nat} (hj : j < 12) (R : RC μ j A) (ha : a < sS A) (hb : b < sS A) : MetA M_X4_isWorse [aR 0 j, aI (nI a), aI (nI b)] μ (rI (nI (if sWo A a b then 1 else 0)) μ) := by
  have w := R.W.sm
  have w1 := sBadS_le R.W ha
  have w2 := sBadS_le R.W hb
  have w3 := sCnt_le A a 1
  have w4 := sCnt_le A b 1
  have w5 := R.W.ln ha
  have w6 := R.W.ln hb
  have hm : sWo A a b = if sBadS A a ≠ sBadS A b then decide (sBadS A b < sBadS A a) else if sCnt A a 1 ≠ sCnt A b 1 then decide (sCnt A b 1 < sCnt A a 1) else decide (a < b) := rfl
  have d0 : ∀ x y : Nat, x < 1000 → y < 1000 → ((nI x - nI y = 0) = (x = y)) := by
    intro x y hx hy
    rw [← Int32.toInt_inj, pk_sub_toInt (by omega) (by omega)]
    apply propext
    constructor
    · intro q
      have : (x : Int) - y = 0 := q
      omega
    · intro q
      subst q
      show (x : Int) - x = 0
      omega
  have d1 : ∀ x y : Nat, x < 1000 → y < 1000 → ((0 < nI x - nI y) = (y < x)) := by
    intro x y hx hy
    rw [Int32.lt_iff_toInt_lt, pk_sub_toInt (by omega) (by omega)]
    apply propext
    constructor
    · intro q
      have : (0 : Int) < (x : Int) - y := q
      omega
    · intro q
      show (0 : Int) < (x : Int) - y
      omega
  refine MetA.of2 k_X4_isWorse rfl (Nat.le_of_ble_eq_true rfl) rfl (B_X4_isWorse_0 hj ?_)
  refine ⟨_, μ, c_badness hj R ha, _, μ, c_badness hj R hb, ?_⟩
  rw [d0 _ _ (by omega) (by omega), d1 _ _ (by omega) (by omega)]
  refine ⟨fun q => ⟨fun q1 => rI_ok ?_ rfl, fun q1 => ⟨fun _ => rI_ok ?_ rfl, fun z => absurd z q⟩⟩, fun q => ⟨_, μ, c_countOnSheet (lv := 1) hj R ha (by decide), _, μ, c_countOnSheet (lv := 1) hj R hb (by decide), ?_⟩⟩
  · exact nb_t (by rw [hm, if_pos q]; exact decide_eq_true q1)
  · exact nb_f (by rw [hm, if_pos q]; exact decide_eq_false q1)
  · rw [d0 _ _ (by omega) (by omega), d1 _ _ (by omega) (by omega)]
    refine ⟨fun q1 => rI_ok ?_ rfl, fun q1 => ⟨fun q2 => rI_ok ?_ rfl, fun q2 => ⟨fun q3 => rI_ok ?_ rfl, fun q3 => rI_ok ?_ rfl⟩⟩⟩
    · exact nb_t (by rw [hm, if_neg (by omega), if_pos (by omega)]; exact decide_eq_true q1)
    · exact nb_f (by rw [hm, if_neg (by omega), if_pos (by omega)]; exact decide_eq_false q1)
    · rw [nI_leI (by omega) (by omega)] at q3
      exact nb_f (by rw [hm, if_neg (by omega), if_neg (by omega)]; exact decide_eq_false (by omega))
    · rw [nI_leI (by omega) (by omega)] at q3
      exact nb_t (by rw [hm, if_neg (by omega), if_neg (by omega)]; exact decide_eq_true (by omega))
theorem c_rankOfSheet (hj : j < 12) (R : RC μ j A) (hs : s < sS A) : MetA M_X4_rankOfSheet [aR 0 j, aI (nI s)] μ (rI (nI (sRkS A s)) μ) := by
  have w := R.W.sm
  refine MetA.of2 k_X4_rankOfSheet rfl (Nat.le_of_ble_eq_true rfl) rfl (B_X4_rankOfSheet_0 hj ?_)
  refine loopN (sS A) (fun k => AW M_X4_rankOfSheet 0 4 [some (aR 0 j), some (aI (nI s)), some (aI (nI (sm (fun o => if sWo A o s then 1 else 0) k))), some (aI (nI k))] [] μ _) ?_ ?_
  · refine B_X4_rankOfSheet_4 hj ?_
    simp (disch := omega) only [n0, n1, n2, n3, n4, n5, n6, n7, n8, n9, n10, n20, n99, nm1, nI_add, pk_mul, nI_clamp, nI_leI, nI_ltI, nI_eqI, vp_nI, pk_sub, nI_addneg, Nat.not_lt_zero, false_implies, not_false_eq_true, true_implies, true_and, and_true, Nat.le_refl, not_true_eq_false, R.S]
    exact rI_ok rfl rfl
  · intro k hk ih
    refine B_X4_rankOfSheet_4 hj ?_
    simp (disch := omega) only [n0, n1, n2, n3, n4, n5, n6, n7, n8, n9, n10, n20, n99, nm1, nI_add, pk_mul, nI_clamp, nI_leI, nI_ltI, nI_eqI, vp_nI, pk_sub, nI_addneg, Nat.not_lt_zero, false_implies, not_false_eq_true, true_implies, true_and, and_true, Nat.le_refl, not_true_eq_false, R.S]
    rw [sm] at ih
    refine ⟨fun q => absurd q (by omega), fun _ => ⟨_, μ, c_isWorse hj R hk hs, ?_⟩⟩
    cases hb : sWo A k s
    · rw [hb] at ih
      exact ⟨fun _ => ih, fun z => absurd rfl z⟩
    · rw [hb] at ih
      exact ⟨fun z => absurd z (by decide), fun _ => ih⟩
end CS3
