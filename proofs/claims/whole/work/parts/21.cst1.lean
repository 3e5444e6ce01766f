section CS1
variable {μ : Mem} {j : Nat} {A : SP} {s k h : Nat}
theorem c_hasHouse {a : Int32} (hj : j < 12) (R : RC μ j A) : MetA M_X4_hasHouse [aR 0 j, aI a] μ (rI (nI (bi (vp_in a (sH A) ∧ True))) μ) := by
  sorry
theorem c_countOnSheet {lv : Nat} (hj : j < 12) (R : RC μ j A) (hs : s < sS A) (hl : lv < 100) : MetA M_X4_countOnSheet [aR 0 j, aI (nI s), aI (nI lv)] μ (rI (nI (sCnt A s lv)) μ) := by
  obtain ⟨W, ⟨R1, R2, R3, R4⟩, R5, R6, R7⟩ := R
  obtain ⟨e1, e2, e3⟩ := R6 s hs
  obtain ⟨-, w2, w3, w4⟩ := W.2.2.1 s hs
  have w5 := W.1.2.1
  refine MetA.of2 k_X4_countOnSheet rfl (by decide) rfl (B_X4_countOnSheet_0 hj ?_)
  refine loopN (sLn A s) (fun k => AW M_X4_countOnSheet 0 5 [some (aR 0 j), some (aI (nI s)), some (aI (nI lv)), some (aI (nI (sm (fun k => bi (lv ≤ sLv A s k)) k))), some (aI (nI k))] [] μ _) ?_ ?_
  · refine B_X4_countOnSheet_5 hj ?_
    simp (disch := omega) only [n0, n1, n2, n3, n4, n5, n6, n7, n8, n9, n10, n20, n99, nm1, nI_add, pk_mul, nI_clamp, nI_leI, nI_ltI, nI_eqI, vp_nI, pk_sub, nI_addneg, e2]
    exact ⟨trivial, fun _ => rI_ok rfl rfl, fun q => absurd (Nat.le_refl _) q⟩
  · intro k hk ih
    refine B_X4_countOnSheet_5 hj ?_
    obtain ⟨f1, f2, f3⟩ := e3 k hk
    obtain ⟨-, -, g3, -⟩ := w4 k hk
    simp (disch := omega) only [n0, n1, n2, n3, n4, n5, n6, n7, n8, n9, n10, n20, n99, nm1, nI_add, pk_mul, nI_clamp, nI_leI, nI_ltI, nI_eqI, vp_nI, pk_sub, nI_addneg, e2, f3]
    refine ⟨trivial, fun q => absurd q (by omega), fun _ => ⟨trivial, fun q => ?_, fun q => ?_⟩⟩
    · rw [sm, bi, if_neg (by omega)] at ih
      exact ih
    · rw [sm, bi, if_pos (by omega)] at ih
      exact ih
end CS1
