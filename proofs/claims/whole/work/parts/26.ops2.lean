/-! days, prints -/
def oDayN (A : SP) : Nat → SP
  | 0 => A
  | h + 1 => oCn (oSh (oDayN A h) h (sSh (oDayN A h) h - 1)) h (min 99 (sCn (oDayN A h) h + 1))
def oDay (A : SP) : SP := oC (oDayN A (sH A)) 0 (sC A 0 + 1)
theorem oDayN_H (A : SP) : ∀ h, sH (oDayN A h) = sH A
  | 0 => rfl
  | h + 1 => oDayN_H A h
theorem oDayN_C (A : SP) : ∀ h, sC (oDayN A h) = sC A
  | 0 => rfl
  | h + 1 => oDayN_C A h
def oPrint (A : SP) (s k : Nat) : SP := oC (oLv (oCn (oSh A (sOw A s) (min 99 (sSh A (sOw A s) + sBad A s k))) (sOw A s) (min 99 (sCn A (sOw A s) + sLg A s k))) s k 3) 2 (sC A 2 + 1)
def edK (p : SP × Nat) (s : Nat) : Nat → SP × Nat
  | 0 => p
  | k + 1 => if sLv (edK p s k).1 s k = 2 then (oPrint (edK p s k).1 s k, (edK p s k).2 + sLg (edK p s k).1 s k) else edK p s k
def edS (A : SP) : Nat → SP × Nat
  | 0 => (A, 0)
  | s + 1 => edK (edS A s) s (sLn A s)
theorem edK_inv (p : SP × Nat) (s : Nat) : ∀ k, (edK p s k).1.1 = p.1.1 ∧ sLn (edK p s k).1 = sLn p.1 ∧ sC (edK p s k).1 1 = sC p.1 1 ∧ sC (edK p s k).1 3 = sC p.1 3
  | 0 => ⟨rfl, rfl, rfl, rfl⟩
  | k + 1 => by
    have h := edK_inv p s k
    rw [edK]
    split
    · exact h
    · exact h
theorem edS_inv (A : SP) : ∀ s, (edS A s).1.1 = A.1 ∧ sLn (edS A s).1 = sLn A ∧ sC (edS A s).1 1 = sC A 1 ∧ sC (edS A s).1 3 = sC A 3
  | 0 => ⟨rfl, rfl, rfl, rfl⟩
  | s + 1 => by
    have h := edS_inv A s
    have h2 := edK_inv (edS A s) s (sLn A s)
    rw [edS]
    exact ⟨h2.1.trans h.1, h2.2.1.trans h.2.1, h2.2.2.1.trans h.2.2.1, h2.2.2.2.trans h.2.2.2⟩
def oEd (A : SP) : SP := oC (oC (edS A (sS A)).1 1 (sC A 1 + 1)) 3 (sC A 3 + nI (edS A (sS A)).2)
/-! the class's own changes -/
section SD
variable {μ : Mem} {j : Nat} {A : SP} {s k h v : Nat}
theorem sLg_le (W : WF A) : sLg A s k ≤ 5 := by
  have := sm_le (f := fun r => if sLb A r s k then 1 else 0) (c := 1) (n := sR A) (fun r _ => by show (if sLb A r s k then 1 else 0) ≤ 1; split <;> omega)
  have := W.rm
  unfold sLg
  omega
theorem c_printOne (hj : j < 12) (R : RC μ j A) (hs : s < sS A) (hk : k < sLn A s) (hl : sLv A s k = 2) : ∃ μ', MetA M_X4_printOne [aR 0 j, aI (nI s), aI (nI k)] μ (rI (nI (sLg A s k)) μ') ∧ RC μ' j (oPrint A s k) ∧ Fr j μ μ' := by
  have w := R.W.sm
  have w1 := R.W.ln hs
  have w2 := R.W.ow hs
  have w3 := R.W.hm
  have w4 := R.W.cn w2
  have w5 := R.W.sh w2
  have w6 := sBad_le R.W hs hk
  have w7 := sLg_le (s := s) (k := k) R.W
  have hb0 : ¬ sBad A s k = 0 := by rw [sBad_0 R.W hs hk]; omega
  have hv1 : vp_in (nI s) 8 := vp_in_nI (by omega) (by omega)
  have hv2 : vp_in (nI (sOw A s)) 4 := vp_in_nI (by omega) (by omega)
  have hv3 : vp_in (nI s * 8 + nI k) 64 := by simp (disch := omega) only [n0, n1, n2, n3, n4, n5, n6, n7, n8, n9, n10, n20, n99, nm1, nI_add, pk_mul, nI_clamp, nI_leI, nI_ltI, nI_eqI, vp_nI, pk_sub, nI_addneg, Nat.not_lt_zero, false_implies, not_false_eq_true, true_implies, true_and, and_true, Nat.le_refl, not_true_eq_false]
  have hc : (nI s * 8 + nI k).toNatClampNeg = s * 8 + k := by simp (disch := omega) only [n0, n1, n2, n3, n4, n5, n6, n7, n8, n9, n10, n20, n99, nm1, nI_add, pk_mul, nI_clamp, nI_leI, nI_ltI, nI_eqI, vp_nI, pk_sub, nI_addneg, Nat.not_lt_zero, false_implies, not_false_eq_true, true_implies, true_and, and_true, Nat.le_refl, not_true_eq_false]
  have R1 := RC_sh R w2 (v := min 99 (sSh A (sOw A s) + sBad A s k)) (by omega)
  have R2 := RC_cn R1 (h := sOw A s) w2 (v := min 99 (sCn A (sOw A s) + sLg A s k)) (by omega)
  have R3 := RC_lv R2 (s := s) (k := k) hs hk (v := 3) (by omega) ⟨fun z => absurd z (by omega), fun z => by
    have := (R.W.l0 hs hk).mpr z
    omega⟩
  have R4 := RC_C R3 (k := 2) (v := sC A 2 + 1) (by decide)
  refine ⟨_, ?_, R4, ?_⟩
  · refine MetA.of2 k_X4_printOne rfl (Nat.le_of_ble_eq_true rfl) rfl (B_X4_printOne_0 hj ?_)
    rw [nI_clamp (show s < 2 ^ 31 by omega), R.ow hs, nI_clamp (show sOw A s < 2 ^ 31 by omega), hc]
    refine ⟨hv1, _, μ, c_laughersAt hj R hs hk, _, μ, c_bitCount (sMask_lt R.W s k), hv2, _, μ, c_howBad hj R hs hk, nI (min 99 (sSh A (sOw A s) + sBad A s k)), μ, ?_, hv2, fun m1 e1 => ⟨hv2, nI (min 99 (sCn A (sOw A s) + sLg A s k)), m1, ?_, hv2, fun m2 e2 => ⟨hv3, fun m3 e3 m4 e4 => ?_⟩⟩⟩
    · rw [R.sh w2, nI_add]
      exact c_atMostKept (by omega)
    · rw [e1, mset_t (by decide), R.cn w2, pop_sMask R.W hb0, nI_add]
      exact c_atMostKept (by omega)
    · rw [pop_sMask R.W hb0]
      refine rI_ok rfl ?_
      subst e1 e2 e3
      rw [e4]
      have hC : (mset (mset (mset μ 2 j (upd (μ 2 j) (sOw A s) (nI (min 99 (sSh A (sOw A s) + sBad A s k))))) 1 j (upd (mset μ 2 j (upd (μ 2 j) (sOw A s) (nI (min 99 (sSh A (sOw A s) + sBad A s k)))) 1 j) (sOw A s) (nI (min 99 (sCn A (sOw A s) + sLg A s k))))) 8 j (upd (mset (mset μ 2 j (upd (μ 2 j) (sOw A s) (nI (min 99 (sSh A (sOw A s) + sBad A s k))))) 1 j (upd (mset μ 2 j (upd (μ 2 j) (sOw A s) (nI (min 99 (sSh A (sOw A s) + sBad A s k)))) 1 j) (sOw A s) (nI (min 99 (sCn A (sOw A s) + sLg A s k)))) 8 j) (s * 8 + k) 3)) 0 j 5 = sC A 2 := by
        rw [mset_t (by decide), mset_t (by decide), mset_t (by decide)]
        exact R.C (k := 2) (by decide)
      rw [hC]
      rfl
  · intro t o h
    rw [mset_n (by omega), mset_n (by omega), mset_n (by omega), mset_n (by omega)]
def dayM (μ : Mem) (j : Nat) (A : SP) : Nat → Mem
  | 0 => μ
  | h + 1 => mset (mset (dayM μ j A h) 2 j (upd (dayM μ j A h 2 j) h (nI (sSh (oDayN A h) h - 1)))) 1 j (upd (mset (dayM μ j A h) 2 j (upd (dayM μ j A h 2 j) h (nI (sSh (oDayN A h) h - 1))) 1 j) h (nI (min 99 (sCn (oDayN A h) h + 1))))
theorem dayM_RC (R : RC μ j A) : ∀ h, h ≤ sH A → RC (dayM μ j A h) j (oDayN A h) ∧ Fr j μ (dayM μ j A h)
  | 0, _ => ⟨R, Fr.rf⟩
  | h + 1, hh => by
    obtain ⟨R1, F1⟩ := dayM_RC R h (by omega)
    have e := oDayN_H A h
    have hh2 : h < sH (oDayN A h) := by omega
    have w := R1.W.sh hh2
    have R2 := RC_sh R1 hh2 (v := sSh (oDayN A h) h - 1) (by omega)
    have R3 := RC_cn R2 (h := h) hh2 (v := min 99 (sCn (oDayN A h) h + 1)) (by omega)
    refine ⟨R3, F1.tr ?_⟩
    intro t o h
    rw [dayM, mset_n (by omega), mset_n (by omega)]
theorem c_passDay (hj : j < 12) (R : RC μ j A) : ∃ μ', MetA M_X4_passDay [aR 0 j] μ (rI (nI (sm (fun h => bi (20 < sSh (oDay A) h)) (sH A))) μ') ∧ RC μ' j (oDay A) ∧ Fr j μ μ' := by
  have w := R.W.hm
  obtain ⟨Rn, Fn⟩ := dayM_RC R (sH A) (Nat.le_refl _)
  have R4 := RC_C Rn (k := 0) (v := sC A 0 + 1) (by decide)
  refine ⟨_, ?_, R4, ?_⟩
  · refine MetA.of2 k_X4_passDay rfl (Nat.le_of_ble_eq_true rfl) rfl (B_X4_passDay_0 hj ?_)
    refine loopN (sH A) (fun h => AW M_X4_passDay 0 2 [some (aR 0 j), some (aI (nI h))] [] (dayM μ j A h) _) ?_ ?_
    · refine B_X4_passDay_2 hj ?_
      rw [Rn.H, oDayN_H, show dayM μ j A (sH A) 0 j 3 = sC A 0 by rw [← oDayN_C A (sH A)]; exact Rn.C (k := 0) (by decide)]
      refine ⟨fun _ m4 e4 => ?_, fun q => absurd (nI_le (Nat.le_refl _) (by omega)) q⟩
      subst e4
      have hA := c_ashamedHouses hj R4
      exact ⟨_, _, hA, rI_ok (by rw [show sH (oC (oDayN A (sH A)) 0 (sC A 0 + 1)) = sH A from oDayN_H A (sH A)]; rfl) rfl⟩
    · intro h hh ih
      obtain ⟨R1, F1⟩ := dayM_RC R h (by omega)
      have e := oDayN_H A h
      have hh2 : h < sH (oDayN A h) := by omega
      have w1 := R1.W.sh hh2
      have w2 := R1.W.cn hh2
      have hv : vp_in (nI h) 4 := vp_in_nI (by omega) (by omega)
      refine B_X4_passDay_2 hj ?_
      rw [R1.H, e, nI_clamp (by omega), R1.sh hh2]
      refine ⟨fun q => absurd q (nI_ge hh (by omega)), fun _ => ⟨hv, fun r hr => ⟨hv, fun m1 e1 => ⟨hv, nI (min 99 (sCn (oDayN A h) h + 1)), m1, ?_, hv, fun m2 e2 => ?_⟩⟩⟩⟩
      · rw [e1, mset_t (by decide), R1.cn hh2, show (1 : Int32) = nI 1 from rfl, nI_add]
        exact c_atMostKept (by omega)
      · have hr2 : r = nI (sSh (oDayN A h) h - 1) := by
          rw [hr]
          by_cases z : sSh (oDayN A h) h = 0
          · rw [z]; rfl
          · rw [show (1 : Int32) = nI 1 from rfl, pk_sub (by omega)]
            by_cases z2 : sSh (oDayN A h) h = 1
            · rw [z2]; rfl
            · rw [if_pos]
              rw [show (0 : Int32) = nI 0 from rfl]
              exact nI_lt (by omega) (by omega)
        rw [hr2] at e1
        rw [dayM, ← e1, ← e2] at ih
        rw [show (1 : Int32) = nI 1 from rfl, nI_add]
        exact ih
  · intro t o h
    rw [mset_n (by omega)]
    exact Fn t o h
/-! copies of states -/
def fstep (m : Mem) (j o k : Nat) : Mem := mset m 0 j (upd (m 0 j) k (m 0 o k))
def astep (m : Mem) (j o t n : Nat) : Mem := mset m t j (va_cpy (m t o) (m t j) 0 0 n)
def cpS (μ : Mem) (j o : Nat) : Mem := astep (astep (astep (astep (astep (astep (astep (astep (astep (astep (fstep (fstep (fstep (fstep (fstep (fstep (fstep (fstep μ j o 0) j o 1) j o 2) j o 3) j o 4) j o 5) j o 6) j o 7) j o 1 4) j o 2 4) j o 3 4) j o 4 8) j o 5 8) j o 6 64) j o 7 64) j o 8 64) j o 9 5) j o 10 5
theorem cpS_0 {o : Nat} (h : o ≠ j) : ∀ k, k < 8 → cpS μ j o 0 j k = μ 0 o k := by
  intro k hk
  unfold cpS astep
  rw [mset_t (by decide), mset_t (by decide), mset_t (by decide), mset_t (by decide), mset_t (by decide), mset_t (by decide), mset_t (by decide), mset_t (by decide), mset_t (by decide), mset_t (by decide)]
  unfold fstep
  rcases (show k = 0 ∨ k = 1 ∨ k = 2 ∨ k = 3 ∨ k = 4 ∨ k = 5 ∨ k = 6 ∨ k = 7 by omega) with rfl | rfl | rfl | rfl | rfl | rfl | rfl | rfl <;> simp [mset_s, mset_o h, uget]
theorem cpS_t {o t n : Nat} (h : o ≠ j) (ht : (t, n) ∈ [(1, 4), (2, 4), (3, 4), (4, 8), (5, 8), (6, 64), (7, 64), (8, 64), (9, 5), (10, 5)]) : ∀ k, k < n → cpS μ j o t j k = μ t o k := by
  intro k hk
  unfold cpS
  simp only [List.mem_cons, Prod.mk.injEq, List.not_mem_nil, or_false] at ht
  rcases ht with ⟨rfl, rfl⟩ | ⟨rfl, rfl⟩ | ⟨rfl, rfl⟩ | ⟨rfl, rfl⟩ | ⟨rfl, rfl⟩ | ⟨rfl, rfl⟩ | ⟨rfl, rfl⟩ | ⟨rfl, rfl⟩ | ⟨rfl, rfl⟩ | ⟨rfl, rfl⟩ <;>
    (unfold astep fstep
     simp [mget, sb_cpy0 hk])
theorem cpS_Fr {o : Nat} : Fr j μ (cpS μ j o) := by
  intro t o' h
  unfold cpS astep fstep
  repeat rw [mset_n (by omega)]
theorem cpS_RC {o : Nat} (h : o ≠ j) (R : RC μ o A) : RC (cpS μ j o) j A := by
  obtain ⟨W, ⟨R1, R2, R3, R4⟩, R5, R6, R7⟩ := R
  have w := W.hm
  have w2 := W.sm
  have w3 := W.rm
  refine ⟨W, ⟨?_, ?_, ?_, fun k hk => ?_⟩, fun i hi => ?_, fun i hi => ?_, fun i hi => ?_⟩
  · rw [cpS_0 h 0 (by decide)]; exact R1
  · rw [cpS_0 h 1 (by decide)]; exact R2
  · rw [cpS_0 h 2 (by decide)]; exact R3
  · rw [cpS_0 h (3 + k) (by omega)]; exact R4 k hk
  · rw [cpS_t (t := 1) (n := 4) h (by simp) i (by omega), cpS_t (t := 2) (n := 4) h (by simp) i (by omega), cpS_t (t := 3) (n := 4) h (by simp) i (by omega)]
    exact R5 i hi
  · obtain ⟨x1, x2, x3⟩ := R6 i hi
    have wl := W.ln hi
    rw [cpS_t (t := 4) (n := 8) h (by simp) i (by omega), cpS_t (t := 5) (n := 8) h (by simp) i (by omega)]
    refine ⟨x1, x2, fun k hk => ?_⟩
    rw [cpS_t (t := 6) (n := 64) h (by simp) _ (by omega), cpS_t (t := 7) (n := 64) h (by simp) _ (by omega), cpS_t (t := 8) (n := 64) h (by simp) _ (by omega)]
    exact x3 k hk
  · rw [cpS_t (t := 9) (n := 5) h (by simp) i (by omega), cpS_t (t := 10) (n := 5) h (by simp) i (by omega)]
    exact R7 i hi
theorem c_copyFrom {o : Nat} (hj : j < 12) (ho : o < 12) : MetA M_X4_copyFrom [aR 0 j, aR 0 o] μ (rV (cpS μ j o)) := by
  refine MetA.of2 k_X4_copyFrom rfl (Nat.le_of_ble_eq_true rfl) rfl (B_X4_copyFrom_0 hj ho ?_)
  intro m1 e1 m2 e2 m3 e3 m4 e4 m5 e5 m6 e6 m7 e7 m8 e8 m9 e9 m10 e10 m11 e11 m12 e12 m13 e13 m14 e14 m15 e15 m16 e16 m17 e17 m18 e18
  refine rV_ok ?_
  subst e1 e2 e3 e4 e5 e6 e7 e8 e9 e10 e11 e12 e13 e14 e15 e16 e17
  exact e18
end SD
