/-! shares: doubles and floats -/
def rD (v : UInt64) (μ : Mem) : RES → Mem → Prop := fun r μ' => r = .inl (some (aD v)) ∧ μ' = μ
def rF (v : UInt32) (μ : Mem) : RES → Mem → Prop := fun r μ' => r = .inl (some (aF v)) ∧ μ' = μ
def vMean (A : SP) : UInt64 := FP.ddiv (FP.i2d (nI (sm (sSh A) (sH A)))) (FP.i2d (nI (sH A)))
def nLet (A : SP) : Nat := sm (fun s => sLn A s) (sS A)
def vShare (A : SP) : UInt32 := FP.fdiv (FP.i2f (nI (sCntA A 1))) (FP.i2f (nI (nLet A)))
theorem mean_n : ∀ h, h < 4 → ∀ s, s < 397 → ((FP.ddiv (FP.i2d (nI s)) (FP.i2d (nI (h + 1))) &&& 0x7fffffffffffffff ≤ 0x7ff0000000000000) ∧ FP.dcmp (FP.ddiv (FP.i2d (nI s)) (FP.i2d (nI (h + 1)))) (FP.ddiv (FP.i2d (nI s)) (FP.i2d (nI (h + 1)))) = some .eq) := by decide +kernel
theorem share_n : ∀ h, h < 62 → ∀ s, s < 65 → ((FP.fdiv (FP.i2f (nI s)) (FP.i2f (nI (h + 3))) &&& 0x7fffffff ≤ 0x7f800000) ∧ (FP.f2d (FP.fdiv (FP.i2f (nI s)) (FP.i2f (nI (h + 3)))) &&& 0x7fffffffffffffff ≤ 0x7ff0000000000000) ∧ FP.dcmp (FP.f2d (FP.fdiv (FP.i2f (nI s)) (FP.i2f (nI (h + 3))))) (FP.f2d (FP.fdiv (FP.i2f (nI s)) (FP.i2f (nI (h + 3))))) = some .eq) := by decide +kernel
theorem nLet_le {A : SP} (W : WF A) : nLet A ≤ 64 ∧ (¬ sS A = 0 → 3 ≤ nLet A) := by
  have h1 := sm_le (f := fun s => sLn A s) (c := 8) (n := sS A) (fun s hs => (W.ln hs).2)
  have w := W.sm
  unfold nLet
  refine ⟨by omega, fun h => ?_⟩
  obtain ⟨n, hn⟩ : ∃ n, sS A = n + 1 := ⟨sS A - 1, by omega⟩
  have w2 := W.ln (s := n) (by omega)
  rw [hn, sm]
  omega
theorem vMean_ok {A : SP} (W : WF A) (h : ¬ sH A = 0) : vf_n64 (vMean A) ∧ FP.dcmp (vMean A) (vMean A) = some .eq := by
  have h1 := sm_le (f := sSh A) (c := 99) (n := sH A) (fun s hs => W.sh hs)
  have w := W.hm
  obtain ⟨n, hn⟩ : ∃ n, sH A = n + 1 := ⟨sH A - 1, by omega⟩
  have := mean_n n (by omega) (sm (sSh A) (sH A)) (by omega)
  unfold vMean
  rw [← hn] at this
  exact this
theorem vShare_ok {A : SP} (W : WF A) (h : ¬ sS A = 0) : vf_n32 (vShare A) ∧ vf_n64 (FP.f2d (vShare A)) ∧ FP.dcmp (FP.f2d (vShare A)) (FP.f2d (vShare A)) = some .eq := by
  have h1 := sCntA_le W 1
  obtain ⟨h2, h3⟩ := nLet_le W
  have h4 := h3 h
  obtain ⟨n, hn⟩ : ∃ n, nLet A = n + 3 := ⟨nLet A - 3, by omega⟩
  have := share_n n (by omega) (sCntA A 1) (by omega)
  unfold vShare
  rw [← hn] at this
  exact this
section RM2
variable {μ : Mem} {T : TT}
theorem p_meanShame (H : TC μ T) : (sH (tA T) = 0 → MetA M_X5_meanShame [aR 11 0] μ (rX (exn 5) μ)) ∧ (¬ sH (tA T) = 0 → MetA M_X5_meanShame [aR 11 0] μ (rD (vMean (tA T)) μ)) := by
  have R := H.1
  have w := R.W.hm
  have z0 : (μ 0 0 0 = 0) = (sH (tA T) = 0) := by rw [R.H, nI_z (by omega)]
  refine ⟨fun c => ?_, fun c => ?_⟩
  · refine MetA.of2 k_X5_meanShame rfl (Nat.le_of_ble_eq_true rfl) rfl (B_X5_meanShame_0 ?_)
    rw [z0]
    exact ⟨fun q => absurd c q, fun _ => rX_ok rfl⟩
  · refine MetA.of2 k_X5_meanShame rfl (Nat.le_of_ble_eq_true rfl) rfl (B_X5_meanShame_0 ?_)
    rw [z0]
    refine ⟨fun _ => ?_, fun q => absurd q c⟩
    refine loopN (sH (tA T)) (fun h => AW M_X5_meanShame 0 25 [some (aR 11 0), some (aI (nI (sm (sSh (tA T)) h))), some (aI (nI h))] [] μ _) ?_ ?_
    · refine B_X5_meanShame_25 ?_
      rw [R.H]
      exact ⟨fun _ => ⟨(vMean_ok R.W c).1, rfl, rfl⟩, fun q => absurd (nI_le (Nat.le_refl _) (by omega)) q⟩
    · intro h hh ih
      refine B_X5_meanShame_25 ?_
      rw [R.H, nI_clamp (show h < 2 ^ 31 by omega), R.sh hh, nI_add, show (1 : Int32) = nI 1 from rfl, nI_add]
      exact ⟨fun q => absurd q (nI_ge hh (by omega)), fun _ => ⟨vp_in_nI (by omega) (by decide), ih⟩⟩
theorem p_errorShare (H : TC μ T) : (sS (tA T) = 0 → MetA M_X5_errorShare [aR 11 0] μ (rX (exn 5) μ)) ∧ (¬ sS (tA T) = 0 → MetA M_X5_errorShare [aR 11 0] μ (rF (vShare (tA T)) μ)) := by
  have R := H.1
  have w := R.W.sm
  obtain ⟨w1, w2⟩ := nLet_le R.W
  have key : ∀ P, AW M_X5_errorShare 0 4 [some (aR 11 0), some (aI (nI (nLet (tA T)))), some (aI (nI (sS (tA T))))] [] μ P → AW M_X5_errorShare 0 4 [some (aR 11 0), some (aI (nI 0)), some (aI (nI 0))] [] μ P := by
    intro P hP
    refine loopN (sS (tA T)) (fun s => AW M_X5_errorShare 0 4 [some (aR 11 0), some (aI (nI (sm (fun s => sLn (tA T) s) s))), some (aI (nI s))] [] μ P) hP ?_
    intro s hs ih
    refine B_X5_errorShare_4 ?_
    rw [R.S, nI_clamp (show s < 2 ^ 31 by omega), R.ln hs, nI_add, show (1 : Int32) = nI 1 from rfl, nI_add]
    exact ⟨fun q => absurd q (nI_ge hs (by omega)), fun _ => ⟨vp_in_nI (by omega) (by decide), ih⟩⟩
  refine ⟨fun c => ?_, fun c => ?_⟩
  · refine MetA.of2 k_X5_errorShare rfl (Nat.le_of_ble_eq_true rfl) rfl (B_X5_errorShare_0 ?_)
    refine key _ (B_X5_errorShare_4 ?_)
    have : nLet (tA T) = 0 := by unfold nLet; rw [c, sm]
    rw [R.S, this]
    exact ⟨fun _ => ⟨fun q => absurd (show nI 0 = 0 from rfl) q, fun _ => rX_ok rfl⟩, fun q => absurd (nI_le (Nat.le_refl _) (by omega)) q⟩
  · refine MetA.of2 k_X5_errorShare rfl (Nat.le_of_ble_eq_true rfl) rfl (B_X5_errorShare_0 ?_)
    refine key _ (B_X5_errorShare_4 ?_)
    have := w2 c
    have ca := c_countInAll (j := 0) (lv := 1) (by decide) R (by decide)
    rw [R.S]
    exact ⟨fun _ => ⟨fun _ => ⟨_, _, ca, (vShare_ok R.W c).1, rfl, rfl⟩, fun q => absurd q (by rw [nI_z (by omega)]; omega)⟩, fun q => absurd (nI_le (Nat.le_refl _) (by omega)) q⟩
theorem q_meanShame (H : TM μ T) : ∃ v, MetA M_X6_meanShame [aR 19 0] μ (rD v (faM μ (if sH (tA T) = 0 then 1 else 0))) ∧ (¬ sH (tA T) = 0 → v = vMean (tA T)) := by
  have G := H.1
  have w := G.W.hm
  have v0 : vp_in 0 240 := vp_in_nI (n := 0) (by decide) (by decide)
  have z0 : (μ 20 0 (0 : Int32).toNatClampNeg = 0) = (sH (tA T) = 0) := by rw [show μ 20 0 (0 : Int32).toNatClampNeg = nI (sH (tA T)) from G.H, nI_z (by omega)]
  by_cases c : sH (tA T) = 0
  · rw [if_pos c]
    refine ⟨0, ?_, fun q => absurd c q⟩
    refine MetA.of2 k_X6_meanShame rfl (Nat.le_of_ble_eq_true rfl) rfl (B_X6_meanShame_0 ?_)
    rw [z0]
    exact ⟨v0, fun q => absurd c q, fun _ => ⟨_, _, m_failsc (by decide), fun q => absurd q (by decide), fun _ => ⟨rfl, rfl⟩⟩⟩
  · rw [if_neg c]
    have Gf := fG (c := 0) G
    have e0 : faM μ 0 20 0 (0 : Int32).toNatClampNeg = nI (sH (tA T)) := Gf.H
    refine ⟨vMean (tA T), ?_, fun _ => rfl⟩
    refine MetA.of2 k_X6_meanShame rfl (Nat.le_of_ble_eq_true rfl) rfl (B_X6_meanShame_0 ?_)
    rw [z0]
    refine ⟨v0, fun _ => ⟨_, _, m_fails0, fun _ => ⟨_, _, m_summed1 Gf, v0, ?_⟩, fun q => absurd rfl q⟩, fun q => absurd q c⟩
    rw [e0]
    exact ⟨(vMean_ok G.W c).1, rfl, rfl⟩
theorem q_errorShare (H : TM μ T) : ∃ v, MetA M_X6_errorShare [aR 19 0] μ (rF v (faM μ (if sS (tA T) = 0 then 1 else 0))) ∧ (¬ sS (tA T) = 0 → v = vShare (tA T)) := by
  have G := H.1
  have w := G.W.sm
  have v1 : vp_in 1 240 := vp_in_nI (n := 1) (by decide) (by decide)
  have z0 : (μ 20 0 (1 : Int32).toNatClampNeg = 0) = (sS (tA T) = 0) := by rw [show μ 20 0 (1 : Int32).toNatClampNeg = nI (sS (tA T)) from G.S, nI_z (by omega)]
  by_cases c : sS (tA T) = 0
  · rw [if_pos c]
    refine ⟨0, ?_, fun q => absurd c q⟩
    refine MetA.of2 k_X6_errorShare rfl (Nat.le_of_ble_eq_true rfl) rfl (B_X6_errorShare_0 ?_)
    rw [z0]
    exact ⟨v1, fun q => absurd c q, fun _ => ⟨_, _, m_failsc (by decide), fun q => absurd q (by decide), fun _ => ⟨rfl, rfl⟩⟩⟩
  · rw [if_neg c]
    have Gf := fG (c := 0) G
    have e1 : faM μ 0 20 0 (1 : Int32).toNatClampNeg = nI (sS (tA T)) := Gf.S
    refine ⟨vShare (tA T), ?_, fun _ => rfl⟩
    refine MetA.of2 k_X6_errorShare rfl (Nat.le_of_ble_eq_true rfl) rfl (B_X6_errorShare_0 ?_)
    rw [z0]
    refine ⟨v1, fun _ => ⟨_, _, m_fails0, fun _ => ?_, fun q => absurd rfl q⟩, fun q => absurd q c⟩
    refine loopN (sS (tA T)) (fun s => AW M_X6_errorShare 0 27 [some (aR 19 0), some (aI (nI (sm (fun s => sLn (tA T) s) s))), some (aI (nI s))] [] (faM μ 0) _) ?_ ?_
    · refine B_X6_errorShare_27 ⟨v1, ?_⟩
      rw [e1]
      exact ⟨fun _ => ⟨_, _, m_all (lv := 1) Gf (by decide), (vShare_ok G.W c).1, rfl, rfl⟩, fun q => absurd (nI_le (Nat.le_refl _) (by omega)) q⟩
    · intro s hs ih
      refine B_X6_errorShare_27 ⟨v1, ?_⟩
      rw [e1]
      refine ⟨fun q => absurd q (nI_ge hs (by omega)), fun _ => ⟨_, _, m_ln Gf hs, ?_⟩⟩
      rw [nI_add, show (1 : Int32) = nI 1 from rfl, nI_add]
      exact ih
end RM2
