/-! the reference's changes, the rest -/
theorem oDayN_sh (A : SP) (i : Nat) : ∀ n, sSh (oDayN A n) i = if i < n then sSh A i - 1 else sSh A i
  | 0 => by rw [if_neg (by omega)]; rfl
  | n + 1 => by
    show va_up (sSh (oDayN A n)) n (sSh (oDayN A n) n - 1) i = _
    rw [vget]
    by_cases c : i = n
    · rw [if_pos c, if_pos (by omega), oDayN_sh A n n, if_neg (by omega), c]
    · rw [if_neg c, oDayN_sh A i n]
      by_cases d : i < n
      · rw [if_pos d, if_pos (by omega)]
      · rw [if_neg d, if_neg (by omega)]
theorem rl_0 : ∀ f i, rl f i 0 = if 3 ≤ i then i else 0
  | 0, i => by
    rw [rl]
    by_cases c : 3 ≤ i
    · rw [if_pos c, if_pos ⟨rfl, c⟩]
    · rw [if_neg c, if_neg (fun z => c z.2)]
  | f + 1, i => by
    rw [rl, if_neg (by omega)]
    by_cases c : 3 ≤ i
    · rw [if_pos c, if_pos ⟨rfl, c⟩]
    · rw [if_neg c, if_neg (fun z => c z.2)]
theorem rl_n {f i X : Nat} (hX : 0 < X) (h : ¬ (1 ≤ X % 10 ∧ X % 10 ≤ 6)) : rl f i X = 0 := by
  cases f with
  | zero => rw [rl, if_neg (by omega)]
  | succ f => rw [rl, if_neg h, if_neg (by omega)]
theorem rl_s {f i X : Nat} (h : 1 ≤ X % 10 ∧ X % 10 ≤ 6) : rl (f + 1) i X = rl f (i + 1) (X / 10) := by rw [rl, if_pos h]
theorem rl_z {i X : Nat} (hX : 0 < X) : rl 0 i X = 0 := by rw [rl, if_neg (by omega)]
def cpf (g : Nat → Int32) (x n : Nat) : Nat → Int32 := fun j => if x ≤ j ∧ j < x + n then g (j + 26) else g j
theorem cpf0 (g : Nat → Int32) (x : Nat) : cpf g x 0 = g := funext fun j => if_neg (by omega)
theorem cpf1 (g : Nat → Int32) (x n : Nat) : upd (cpf g x n) (x + n) (cpf g x n (x + n + 26)) = cpf g x (n + 1) := by
  funext j
  rw [uget]
  unfold cpf
  by_cases c : j = x + n
  · rw [if_pos c, if_neg (by omega), if_pos (by omega), c]
  · rw [if_neg c]
    by_cases d : x ≤ j ∧ j < x + n
    · rw [if_pos d, if_pos (by omega)]
    · rw [if_neg d, if_neg (by omega)]
def ltf (g : Nat → Int32) (x n W i : Nat) : Nat → Int32 := fun j => if x + 2 + (n - i) ≤ j ∧ j < x + 2 + n then nI (dg W n (j - (x + 2))) else if x + 10 + (n - i) ≤ j ∧ j < x + 10 + n then nI (dg W n (j - (x + 10))) else g j
theorem ltf0 (g : Nat → Int32) (x n W : Nat) : ltf g x n W 0 = g := funext fun j => by unfold ltf; rw [if_neg (by omega), if_neg (by omega)]
theorem ltf1 (g : Nat → Int32) (x n W i : Nat) (hi : i < n) (hn : n ≤ 8) : upd (upd (ltf g x n W i) (x + (2 + (n - 1 - i))) (nI (W / 10 ^ i % 10))) (x + (10 + (n - 1 - i))) (nI (W / 10 ^ i % 10)) = ltf g x n W (i + 1) := by
  have e : dg W n (n - 1 - i) = W / 10 ^ i % 10 := by unfold dg; rw [show n - 1 - (n - 1 - i) = i by omega]
  funext j
  rw [uget, uget]
  unfold ltf
  by_cases c : j = x + (10 + (n - 1 - i))
  · rw [if_pos c, if_neg (by omega), if_pos (by omega), ← e]
    congr 2
    omega
  · rw [if_neg c]
    by_cases c2 : j = x + (2 + (n - 1 - i))
    · rw [if_pos c2, if_pos (by omega), ← e]
      congr 2
      omega
    · rw [if_neg c2]
      by_cases d : x + 2 + (n - i) ≤ j ∧ j < x + 2 + n
      · rw [if_pos d, if_pos (by omega)]
      · rw [if_neg d, if_neg (show ¬ (x + 2 + (n - (i + 1)) ≤ j ∧ j < x + 2 + n) by omega)]
        by_cases d2 : x + 10 + (n - i) ≤ j ∧ j < x + 10 + n
        · rw [if_pos d2, if_pos (by omega)]
        · rw [if_neg d2, if_neg (by omega)]
section RF
variable {μ : Mem} {A : SP} {s k h w : Nat}
theorem n_license {a b : Int32} (G : RM (μ 20 0) A) (K : KH μ) : CI M_X6_license [aI a, aI b] μ A [0, 2] (chLic A a b) := by
  have w := G.W.sm
  unfold chLic CI
  have hpl := m_isPlace (a := a) (b := b) G
  rcases plc A G.W a b with c1 | ⟨s, k, hs, hk, rfl, rfl⟩
  · rw [if_pos c1]
    rw [bi_f (fun z => z c1)] at hpl
    refine ⟨faM μ (nI 1), 0, ?_, Rf_fa (by decide), fun p q => by cases q⟩
    refine MetA.of2 k_X6_license rfl (Nat.le_of_ble_eq_true rfl) rfl (B_X6_license_0 ?_)
    exact ⟨_, _, hpl, fun _ => B_X6_license_15 ⟨_, _, m_failsc (by decide), fun q => absurd q (by decide), fun _ => rI_ok rfl rfl⟩, fun q => absurd rfl q⟩
  · have np := plc_no G.W hs hk
    rw [bi_t np] at hpl
    have w2 := G.W.ln hs
    have w3 := G.W.lv hs hk
    have wo := G.W.ow hs
    have wh := G.W.hm
    have wc := G.W.cn wo
    have wp := sCost_le G.W (sOw A s)
    rw [if_neg np, nI_clamp (show s < 2 ^ 31 by omega), nI_clamp (show k < 2 ^ 31 by omega)]
    have G1 : RM (faM μ 0 20 0) A := by rw [faM_t (by decide)]; exact G
    have z0 : (nI (sLv A s k) = 0) = (sLv A s k = 0) := by rw [n0, nI_eqI (by omega) (by decide)]
    have z1 : (nI (sLv A s k) ≤ 1) = (sLv A s k ≤ 1) := by rw [n1, nI_leI (by omega) (by decide)]
    have start : ∀ P : RES → Mem → Prop, ((¬ sLv A s k = 0 → ((sLv A s k ≤ 1 → ∃ (r29 : Int32) (m26 : Mem), MetA M_X6_isAshamed [aR 19 0, aI (nI (sOw A s))] (faM μ 0) (rI r29 m26) ∧ ((r29 = 0 → ∃ (r36 : Int32) (m33 : Mem), MetA M_X6_price [aR 19 0, aI (nI (sOw A s))] m26 (rI r36 m33) ∧ (∃ (r40 : Int32) (m37 : Mem), MetA M_X6_by [aR 19 0, aI (nI (sOw A s)), aI 0] m33 (rI r40 m37) ∧ ((r36 ≤ r40 → ∃ m44 : Mem, MetA M_X6_keeps [aR 19 0, aR 20 0] m37 (rV m44) ∧ (∃ m47 : Mem, MetA M_X6_adds [aR 19 0, aI (nI (sOw A s)), aI 0, aI (-r36)] m44 (rV m47) ∧ (vp_in 7 240 ∧ (vp_in 7 240 ∧ (∀ m52 : Mem, m52 = mset m47 20 0 (upd (m47 20 0) 7 ((m47 20 0 7) + r36)) → ∃ m56 : Mem, MetA M_X6_lays [aR 19 0, aI (nI s), aI (18 + nI k), aI 2] m52 (rV m56) ∧ (P (.inl (some (aI r36))) m56)))))) ∧ (¬ r36 ≤ r40 → ∃ (r62 : Int32) (m59 : Mem), MetA M_X6_by [aR 19 0, aI (nI (sOw A s)), aI 0] m37 (rI r62 m59) ∧ (∃ (r66 : Int32) (m63 : Mem), MetA M_X6_refuses [aR 19 0, aI 2, aI 7, aI r62] m59 (rI r66 m63) ∧ (P (.inl (some (aI r66))) m63)))))) ∧ (¬ r29 = 0 → ∃ (r70 : Int32) (m67 : Mem), MetA M_X6_by [aR 19 0, aI (nI (sOw A s)), aI 1] m26 (rI r70 m67) ∧ (∃ (r74 : Int32) (m71 : Mem), MetA M_X6_refuses [aR 19 0, aI 2, aI 6, aI r70] m67 (rI r74 m71) ∧ (P (.inl (some (aI r74))) m71))))) ∧ (¬ sLv A s k ≤ 1 → ∃ (r78 : Int32) (m75 : Mem), MetA M_X6_refuses [aR 19 0, aI 2, aI 5, aI (nI k)] (faM μ 0) (rI r78 m75) ∧ (P (.inl (some (aI r78))) m75)))) ∧ (sLv A s k = 0 → ∃ (r82 : Int32) (m79 : Mem), MetA M_X6_refuses [aR 19 0, aI 2, aI 4, aI (nI k)] (faM μ 0) (rI r82 m79) ∧ (P (.inl (some (aI r82))) m79))) → MetA M_X6_license [aR 19 0, aI (nI s), aI (nI k)] μ P := by
      intro P h
      refine MetA.of2 k_X6_license rfl (Nat.le_of_ble_eq_true rfl) rfl (B_X6_license_0 ?_)
      refine ⟨_, _, hpl, fun q => absurd q (by decide), fun _ => B_X6_license_15 ⟨_, _, m_fails0, fun _ => ⟨_, _, m_ow G1 hs, _, _, m_mark G1 hs hk, ?_⟩, fun q => absurd rfl q⟩⟩
      rw [z0]
      refine ⟨fun q => ⟨_, _, m_mark G1 hs hk, ?_⟩, h.2⟩
      rw [z1]
      exact h.1 q
    unfold chLic2
    by_cases c0 : sLv A s k = 0
    · rw [if_pos c0]
      exact ⟨rfM (faM μ 0) (nI 2) 4 (nI k), 0, start _ ⟨fun q => absurd c0 q, fun _ => ⟨_, _, m_refuses, rI_ok rfl rfl⟩⟩, Rf_rf (Or.inr rfl), fun p q => by cases q⟩
    rw [if_neg c0]
    by_cases c2 : 2 ≤ sLv A s k
    · rw [if_pos c2]
      exact ⟨rfM (faM μ 0) (nI 2) 5 (nI k), 0, start _ ⟨fun _ => ⟨fun q => absurd q (by omega), fun _ => ⟨_, _, m_refuses, rI_ok rfl rfl⟩⟩, fun q => absurd q c0⟩, Rf_rf (Or.inr rfl), fun p q => by cases q⟩
    rw [if_neg c2]
    have ga := m_isAshamed G1 wo
    by_cases c3 : 20 < sSh A (sOw A s)
    · rw [if_pos c3]
      rw [bi_t c3] at ga
      exact ⟨rfM (faM μ 0) (nI 2) 6 (nI (sSh A (sOw A s))), 0, start _ ⟨fun _ => ⟨fun _ => ⟨_, _, ga, fun q => absurd q (by decide), fun _ => ⟨_, _, m_sh G1 wo, _, _, m_refuses, rI_ok rfl rfl⟩⟩, fun q => absurd (by omega) q⟩, fun q => absurd q c0⟩, Rf_rf (Or.inr rfl), fun p q => by cases q⟩
    rw [if_neg c3]
    rw [bi_f c3] at ga
    have zc : (nI (sCost A (sOw A s)) ≤ nI (sCn A (sOw A s))) = (sCost A (sOw A s) ≤ sCn A (sOw A s)) := propext (nI_leI (by omega) (by omega))
    by_cases c4 : sCn A (sOw A s) < sCost A (sOw A s)
    · rw [if_pos c4]
      exact ⟨rfM (faM μ 0) (nI 2) 7 (nI (sCn A (sOw A s))), 0, start _ ⟨fun _ => ⟨fun _ => ⟨_, _, ga, fun _ => ⟨_, _, m_price G1 wo, _, _, m_cn G1 wo, fun q => absurd q (by rw [zc]; omega), fun _ => ⟨_, _, m_cn G1 wo, _, _, m_refuses, rI_ok rfl rfl⟩⟩, fun q => absurd rfl q⟩, fun q => absurd (by omega) q⟩, fun q => absurd q c0⟩, Rf_rf (Or.inr rfl), fun p q => by cases q⟩
    rw [if_neg c4]
    obtain ⟨mk, k1, k2⟩ := m_keeps (μ := faM μ 0) (t := 20) (Or.inl rfl) K.fa G1
    have eg : mk 20 0 = μ 20 0 := by rw [k2.g, faM_t (by decide)]
    have ad := m_adds (μ := mk) (h := sOw A s) (w := 0) (v := -nI (sCost A (sOw A s))) (by omega) (by decide)
    rw [eg, Nat.add_zero, G.cn wo, nI_addneg (by omega)] at ad
    have Ga : RM (upd (μ 20 0) (10 + 3 * sOw A s) (nI (sCn A (sOw A s) - sCost A (sOw A s)))) (oCn A (sOw A s) (sCn A (sOw A s) - sCost A (sOw A s))) := RM_cn G wo (by omega) (fun j q => by rw [uget, if_neg q]) (by rw [uget, if_pos rfl])
    have f7 : upd (μ 20 0) (10 + 3 * sOw A s) (nI (sCn A (sOw A s) - sCost A (sOw A s))) 7 = sC A 4 := by rw [uget, if_neg (by omega)]; exact G.C (k := 4) (by decide)
    have Gb := RM_C (k := 4) (v := sC A 4 + nI (sCost A (sOw A s))) (g' := upd (upd (μ 20 0) (10 + 3 * sOw A s) (nI (sCn A (sOw A s) - sCost A (sOw A s)))) 7 (sC A 4 + nI (sCost A (sOw A s)))) Ga (by decide) (fun j q => by rw [uget, if_neg q]) (by rw [uget, if_pos rfl])
    have Gc := RM_lv (s := s) (k := k) (v := 2) (g' := upd (upd (upd (μ 20 0) (10 + 3 * sOw A s) (nI (sCn A (sOw A s) - sCost A (sOw A s)))) 7 (sC A 4 + nI (sCost A (sOw A s)))) (22 + 26 * s + (18 + k)) 2) Gb hs hk (by decide) ⟨fun z => absurd z (by decide), fun z => absurd ((G.W.l0 hs hk).mpr z) c0⟩ (fun j q => by rw [uget, if_neg q]) (by rw [uget, if_pos rfl]; rfl)
    have ly := m_lays (μ := mset mk 20 0 (upd (upd (μ 20 0) (10 + 3 * sOw A s) (nI (sCn A (sOw A s) - sCost A (sOw A s)))) 7 (sC A 4 + nI (sCost A (sOw A s))))) (s := s) (w := 18 + k) (v := 2) (by omega) (by omega)
    rw [mset_s, mset_mset, ← nI_add] at ly
    have v7 : vp_in 7 240 := vp_in_nI (n := 7) (by decide) (by decide)
    refine ⟨mset mk 20 0 (upd (upd (upd (μ 20 0) (10 + 3 * sOw A s) (nI (sCn A (sOw A s) - sCost A (sOw A s)))) 7 (sC A 4 + nI (sCost A (sOw A s)))) (22 + 26 * s + (18 + k)) 2), nI (sCost A (sOw A s)), start _ ⟨fun _ => ⟨fun _ => ⟨_, _, ga, fun _ => ⟨_, _, m_price G1 wo, _, _, m_cn G1 wo, fun _ => ⟨_, k1, _, ad, v7, v7, fun m e => ?_⟩, fun q => absurd (by rw [zc]; omega) q⟩, fun q => absurd rfl q⟩, fun q => absurd (by omega) q⟩, fun q => absurd q c0⟩, ⟨by rw [mset_s]; exact Gc, Mf_of (Or.inr rfl) k2 (fun t o q => mset_n q)⟩, fun p q => by cases q; rfl⟩
    rw [mset_s, mset_mset, f7] at e
    rw [e]
    exact ⟨_, ly, rI_ok rfl rfl⟩
theorem n_correct {a b : Int32} (G : RM (μ 20 0) A) (K : KH μ) : CI M_X6_correct [aI a, aI b] μ A [0, 2] (chCor A a b) := by
  have w := G.W.sm
  unfold chCor CI
  have hpl := m_isPlace (a := a) (b := b) G
  rcases plc A G.W a b with c1 | ⟨s, k, hs, hk, rfl, rfl⟩
  · rw [if_pos c1]
    rw [bi_f (fun z => z c1)] at hpl
    refine ⟨faM μ (nI 1), 0, ?_, Rf_fa (by decide), fun p q => by cases q⟩
    refine MetA.of2 k_X6_correct rfl (Nat.le_of_ble_eq_true rfl) rfl (B_X6_correct_0 ?_)
    exact ⟨_, _, hpl, fun _ => B_X6_correct_15 ⟨_, _, m_failsc (by decide), fun q => absurd q (by decide), fun _ => rI_ok rfl rfl⟩, fun q => absurd rfl q⟩
  · have np := plc_no G.W hs hk
    rw [bi_t np] at hpl
    have w2 := G.W.ln hs
    have w3 := G.W.lv hs hk
    have wr := G.W.rt hs hk
    have wo := G.W.ow hs
    have wh := G.W.hm
    have wc := G.W.cn wo
    have wp := sFine_le G.W hs hk
    rw [if_neg np, nI_clamp (show s < 2 ^ 31 by omega), nI_clamp (show k < 2 ^ 31 by omega)]
    have G1 : RM (faM μ 0 20 0) A := by rw [faM_t (by decide)]; exact G
    have f0 : (nI (sFine A s k) = 0) = (sLv A s k = 0) := by
      rw [n0, nI_eqI (by omega) (by decide)]
      unfold sFine
      refine propext ⟨fun q => Classical.byContradiction fun z => ?_, fun q => by rw [if_pos q]⟩
      rw [if_neg z] at q
      have : 1 ≤ (1 + sBad A s k + (if 2 ≤ sLv A s k then 2 else 0)) * (if sLv A s k = 3 then 2 else 1) := Nat.mul_pos (by omega) (by split <;> omega)
      omega
    have hfa := m_fineAt G1 hs hk
    have hfo := m_ow G1 hs
    unfold chCor2
    by_cases c0 : sLv A s k = 0
    · rw [if_pos c0]
      refine ⟨rfM (faM μ 0) (nI 2) 4 (nI k), 0, ?_, Rf_rf (Or.inr rfl), fun p q => by cases q⟩
      refine MetA.of2 k_X6_correct rfl (Nat.le_of_ble_eq_true rfl) rfl (B_X6_correct_0 ?_)
      exact ⟨_, _, hpl, fun q => absurd q (by decide), fun _ => B_X6_correct_15 ⟨_, _, m_fails0, fun _ => ⟨_, _, hfo, _, _, hfa, fun q => absurd (f0.mpr c0) q, fun _ => ⟨_, _, m_refuses, rI_ok rfl rfl⟩⟩, fun q => absurd rfl q⟩⟩
    rw [if_neg c0]
    have zc : (nI (sFine A s k) ≤ nI (sCn A (sOw A s))) = (sFine A s k ≤ sCn A (sOw A s)) := propext (nI_leI (by omega) (by omega))
    by_cases c4 : sCn A (sOw A s) < sFine A s k
    · rw [if_pos c4]
      refine ⟨rfM (faM μ 0) (nI 2) 7 (nI (sCn A (sOw A s))), 0, ?_, Rf_rf (Or.inr rfl), fun p q => by cases q⟩
      refine MetA.of2 k_X6_correct rfl (Nat.le_of_ble_eq_true rfl) rfl (B_X6_correct_0 ?_)
      exact ⟨_, _, hpl, fun q => absurd q (by decide), fun _ => B_X6_correct_15 ⟨_, _, m_fails0, fun _ => ⟨_, _, hfo, _, _, hfa, fun _ => ⟨_, _, m_cn G1 wo, fun q => absurd q (by rw [zc]; omega), fun _ => ⟨_, _, m_cn G1 wo, _, _, m_refuses, rI_ok rfl rfl⟩⟩, fun q => absurd (f0.mp q) c0⟩, fun q => absurd rfl q⟩⟩
    rw [if_neg c4]
    obtain ⟨mk, k1, k2⟩ := m_keeps (μ := faM μ 0) (t := 20) (Or.inl rfl) K.fa G1
    have eg : mk 20 0 = μ 20 0 := by rw [k2.g, faM_t (by decide)]
    obtain ⟨h, eh⟩ : ∃ h, h = sOw A s := ⟨_, rfl⟩
    obtain ⟨f, ef⟩ : ∃ f, f = sFine A s k := ⟨_, rfl⟩
    rw [← eh] at wo wc hfo zc c4 ⊢
    rw [← ef] at wp hfa f0 zc c4 ⊢
    obtain ⟨g1, eg1⟩ : ∃ g1 : Nat → Int32, g1 = upd (μ 20 0) (10 + 3 * h) (nI (sCn A h - f)) := ⟨_, rfl⟩
    have ad := m_adds (μ := mk) (h := h) (w := 0) (v := -nI f) (by omega) (by decide)
    rw [eg, Nat.add_zero, G.cn wo, nI_addneg (by omega), ← eg1] at ad
    have Ga : RM g1 (oCn A h (sCn A h - f)) := by
      rw [eg1]
      exact RM_cn G wo (by omega) (fun j q => by rw [uget, if_neg q]) (by rw [uget, if_pos rfl])
    have e2 : g1 (10 + 3 * h + 2) = sFp A h := by rw [eg1, uget, if_neg (by omega)]; exact G.fp wo
    have e8 : g1 8 = μ 20 0 8 := by rw [eg1, uget, if_neg (by omega)]
    obtain ⟨g2, eg2⟩ : ∃ g2 : Nat → Int32, g2 = upd g1 (10 + 3 * h + 2) (sFp A h + nI f) := ⟨_, rfl⟩
    have ad2 := m_adds (μ := mset mk 20 0 g1) (h := h) (w := 2) (v := nI f) (by omega) (by decide)
    rw [mset_s, mset_mset, e2, ← eg2] at ad2
    have e82 : g2 8 = μ 20 0 8 := by rw [eg2, uget, if_neg (by omega)]; exact e8
    obtain ⟨g3, eg3⟩ : ∃ g3 : Nat → Int32, g3 = upd g2 8 (μ 20 0 8 + nI f) := ⟨_, rfl⟩
    have Gb : RM g3 (oFp (oCn A h (sCn A h - f)) h (sFp A h + nI f)) := RM_fp (v := nI f) Ga wo (fun j q1 q2 => by rw [eg3, uget, if_neg q2, eg2, uget, if_neg q1]) (by rw [eg3, uget, if_neg (by omega), eg2, uget, if_pos rfl]; rfl) (by rw [eg3, uget, if_pos rfl, e8])
    have G3 : RM (mset mk 20 0 g3 20 0) (oFp (oCn A h (sCn A h - f)) h (sFp A h + nI f)) := by rw [mset_s]; exact Gb
    have rr := m_rt G3 (s := s) (k := k) hs hk
    have l1 := m_lays (μ := mset mk 20 0 g3) (s := s) (w := 10 + k) (v := nI (sRt A s k)) (by omega) (by omega)
    rw [mset_s, mset_mset] at l1
    have l2 := m_lays (μ := mset mk 20 0 (upd g3 (22 + 26 * s + (10 + k)) (nI (sRt A s k)))) (s := s) (w := 18 + k) (v := 0) (by omega) (by omega)
    rw [mset_s, mset_mset, ← nI_add] at l2
    rw [← nI_add] at l1
    have Gc := RM_put (s := s) (k := k) (v := sRt A s k) (g' := upd (upd g3 (22 + 26 * s + (10 + k)) (nI (sRt A s k))) (22 + 26 * s + (18 + k)) 0) Gb hs hk wr (fun j q1 q2 => by rw [uget, if_neg q2, uget, if_neg q1]) (by rw [uget, if_neg (by omega), uget, if_pos rfl]) (by rw [uget, if_pos rfl]; show 0 = nI (if sRt A s k = sRt A s k then 0 else 1); rw [if_pos rfl]; rfl)
    have v8 : vp_in 8 240 := vp_in_nI (n := 8) (by decide) (by decide)
    refine ⟨mset mk 20 0 (upd (upd g3 (22 + 26 * s + (10 + k)) (nI (sRt A s k))) (22 + 26 * s + (18 + k)) 0), nI f, ?_, ⟨by rw [mset_s]; exact Gc, Mf_of (Or.inr rfl) k2 (fun t o q => mset_n q)⟩, fun p q => by cases q; rfl⟩
    refine MetA.of2 k_X6_correct rfl (Nat.le_of_ble_eq_true rfl) rfl (B_X6_correct_0 ?_)
    refine ⟨_, _, hpl, fun q => absurd q (by decide), fun _ => B_X6_correct_15 ⟨_, _, m_fails0, fun _ => ⟨_, _, hfo, _, _, hfa, fun _ => ⟨_, _, m_cn G1 wo, fun _ => ⟨_, k1, _, ad, _, ad2, v8, v8, fun m e => ?_⟩, fun q => absurd (by rw [zc]; omega) q⟩, fun q => absurd (f0.mp q) c0⟩, fun q => absurd rfl q⟩⟩
    rw [mset_s, mset_mset, show g2 (8 : Int32).toNatClampNeg = μ 20 0 8 from e82] at e
    have e' : m = mset mk 20 0 g3 := by rw [e, eg3]; rfl
    rw [e']
    exact ⟨_, _, rr, _, l1, _, l2, rI_ok rfl rfl⟩
theorem m_letters {a : Int32} : MetA M_X6_letters [aI a] μ (rI (nI (sLet a)) μ) := by
  have key : ∀ f X i, X < 2 ^ f → i + f ≤ 31 → X ≤ f + X → AW M_X6_letters 0 4 [some (aI a), some (aI (nI i)), some (aI (nI X))] [] μ (rI (nI (if i ≤ 8 then rl (8 - i) i X else 0)) μ) := by
    intro f
    induction f with
    | zero =>
      intro X i hX hi _
      have : X = 0 := by omega
      subst this
      refine B_X6_letters_4 ⟨fun _ => ⟨_, _, m_in, ?_⟩, fun q => absurd (show nI 0 ≤ 0 by decide) q⟩
      rw [rl_0, bi_cong (d := 3 ≤ i ∧ i ≤ 8) (by rw [show (3 : Int32) = nI 3 from rfl, show (8 : Int32) = nI 8 from rfl, nI_ltI (by omega) (by decide), nI_ltI (by decide) (by omega)]; omega)]
      by_cases c : 3 ≤ i ∧ i ≤ 8
      · rw [bi_t c, if_pos c.2, if_pos c.1]
        exact ⟨fun q => absurd q (by decide), fun _ => rI_ok rfl rfl⟩
      · rw [bi_f c]
        refine ⟨fun _ => rI_ok ?_ rfl, fun q => absurd rfl q⟩
        by_cases d : i ≤ 8
        · rw [if_pos d, if_neg (by omega)]
          rfl
        · rw [if_neg d]
          rfl
    | succ f ih =>
      intro X i hX hi _
      have hp : 2 ^ (f + 1) ≤ 2 ^ 31 := Nat.pow_le_pow_right (by omega) (by omega)
      have h31 : X < 2 ^ 31 := by omega
      by_cases c0 : X = 0
      · subst c0
        exact ih 0 i (Nat.pow_pos (by omega)) (by omega) (by omega)
      · refine B_X6_letters_4 ⟨fun q => absurd q (by rw [n0, nI_leI h31 (by decide)]; omega), fun _ => ⟨_, _, m_in, ?_⟩⟩
        rw [nI_rem h31, nI_div h31, bi_cong (d := 1 ≤ X % 10 ∧ X % 10 ≤ 6) (by rw [show (1 : Int32) = nI 1 from rfl, show (6 : Int32) = nI 6 from rfl, nI_ltI (by omega) (by decide), nI_ltI (by decide) (by omega)]; omega)]
        by_cases c : 1 ≤ X % 10 ∧ X % 10 ≤ 6
        · rw [bi_t c, show (1 : Int32) = nI 1 from rfl, nI_add]
          refine ⟨fun _ => ?_, fun q => absurd q (by decide)⟩
          have e : (if i ≤ 8 then rl (8 - i) i X else 0) = (if i + 1 ≤ 8 then rl (8 - (i + 1)) (i + 1) (X / 10) else 0) := by
            by_cases d : i + 1 ≤ 8
            · rw [if_pos (by omega), if_pos d, show 8 - i = (8 - (i + 1)) + 1 by omega, rl_s c]
            · rw [if_neg d]
              by_cases d2 : i ≤ 8
              · rw [if_pos d2, show 8 - i = 0 by omega, rl_z (by omega)]
              · rw [if_neg d2]
          rw [e]
          rw [Nat.pow_succ] at hX
          exact ih (X / 10) (i + 1) (by omega) (by omega) (by omega)
        · rw [bi_f c]
          refine ⟨fun q => absurd rfl q, fun _ => rI_ok ?_ rfl⟩
          by_cases d : i ≤ 8
          · rw [if_pos d, rl_n (by omega) c]
            rfl
          · rw [if_neg d]
            rfl
  refine MetA.of2 k_X6_letters rfl (Nat.le_of_ble_eq_true rfl) rfl (B_X6_letters_0 ?_)
  unfold sLet
  by_cases c : a < 0
  · rw [if_pos c]
    refine B_X6_letters_4 ⟨fun _ => ⟨_, _, m_in, fun _ => rI_ok rfl rfl, fun q => absurd (show nI (bi (¬ ((0 : Int32) < 3 ∨ (8 : Int32) < 0))) = 0 by decide) q⟩, fun q => absurd (Int32.le_of_lt c) q⟩
  · rw [if_neg c]
    obtain ⟨x, hx, rfl⟩ := nI_of c
    rw [nI_clamp hx]
    exact key 31 x 0 hx (by omega) (by omega)
theorem n_sheet {a b : Int32} (G : RM (μ 20 0) A) (K : KH μ) : CI M_X6_sheet [aI a, aI b] μ A [0, 1, 2] (chSheet A a b) := by
  have w := G.W.sm
  have wh := G.W.hm
  have v1 : vp_in 1 240 := vp_in_nI (n := 1) (by decide) (by decide)
  have hh := m_isHouse (a := a) G
  unfold chSheet CI
  rcases hs_or G.W a with c | ⟨h, hh2, rfl⟩
  · rw [if_pos c]
    rw [bi_f (fun z => z c)] at hh
    refine ⟨faM μ (nI 1), 0, ?_, Rf_fa (by decide), fun p q => by cases q⟩
    refine MetA.of2 k_X6_sheet rfl (Nat.le_of_ble_eq_true rfl) rfl (B_X6_sheet_0 ?_)
    exact ⟨_, _, hh, fun q => absurd rfl q, fun _ => ⟨_, _, m_failsc (by decide), fun q => absurd q (by decide), fun _ => rI_ok rfl rfl⟩⟩
  · rw [bi_t (in_no hh2 (by omega))] at hh
    rw [if_neg (in_no hh2 (by omega)), nI_clamp (show h < 2 ^ 31 by omega)]
    by_cases c2 : sLet b = 0
    · rw [if_pos c2]
      refine ⟨faM μ (nI 2), 0, ?_, Rf_fa (by decide), fun p q => by cases q⟩
      have lt := m_letters (μ := μ) (a := b)
      rw [c2] at lt
      refine MetA.of2 k_X6_sheet rfl (Nat.le_of_ble_eq_true rfl) rfl (B_X6_sheet_0 ?_)
      exact ⟨_, _, hh, fun _ => ⟨_, _, lt, fun q => absurd rfl q, fun _ => ⟨_, _, m_failsc (by decide), fun q => absurd q (by decide), fun _ => rI_ok rfl rfl⟩⟩, fun q => absurd q (by decide)⟩
    · rw [if_neg c2]
      obtain ⟨W, hW, eb, l3, l8, ld⟩ := sLet_W c2
      have zl : ¬ nI (sLet b) = 0 := by rw [nI_z (by omega)]; exact c2
      have eS : faM μ 0 20 0 (1 : Int32).toNatClampNeg = nI (sS A) := by rw [faM_t (by decide)]; exact G.S
      have start : ∀ P : RES → Mem → Prop, (vp_in 1 240 ∧ ((¬ nI (sS A) = 8 → ∃ m27 : Mem, MetA M_X6_keeps [aR 19 0, aR 20 0] (faM μ 0) (rV m27) ∧ (vp_in 1 240 ∧ (vp_in 1 240 ∧ (vp_in 1 240 ∧ (∀ m34 : Mem, m34 = mset m27 20 0 (upd (m27 20 0) 1 ((m27 20 0 1) + 1)) → AW M_X6_sheet 0 81 [some (aR 19 0), some (aI (nI h)), some (aI b), some (aI (m27 20 0 1)), some (aI 0), none] [] m34 P))))) ∧ (nI (sS A) = 8 → ∃ (r41 : Int32) (m38 : Mem), MetA M_X6_refuses [aR 19 0, aI 3, aI 1, aI 8] (faM μ 0) (rI r41 m38) ∧ (P (.inl (some (aI r41))) m38)))) → MetA M_X6_sheet [aR 19 0, aI (nI h), aI b] μ P := by
        intro P hP
        refine MetA.of2 k_X6_sheet rfl (Nat.le_of_ble_eq_true rfl) rfl (B_X6_sheet_0 ?_)
        refine ⟨_, _, hh, fun _ => ⟨_, _, m_letters, fun _ => ⟨_, _, m_fails0, fun _ => ?_, fun q => absurd rfl q⟩, fun q => absurd q zl⟩, fun q => absurd q (by decide)⟩
        rw [eS]
        exact hP
      have z8 : (nI (sS A) = 8) = (sS A = 8) := by rw [n8, nI_eqI (by omega) (by decide)]
      by_cases c8 : sS A = 8
      · rw [if_pos c8]
        exact ⟨rfM (faM μ 0) (nI 3) 1 8, 0, start _ ⟨v1, fun q => absurd (z8.mpr c8) q, fun _ => ⟨_, _, m_refuses, rI_ok rfl rfl⟩⟩, Rf_rf (Or.inr rfl), fun p q => by cases q⟩
      · rw [if_neg c8]
        have hc : b.toNatClampNeg = W := by rw [eb, nI_clamp hW]
        rw [hc]
        obtain ⟨n, en⟩ : ∃ n, n = sLet b := ⟨_, rfl⟩
        rw [← en] at c2 zl l3 l8 ld ⊢
        obtain ⟨mk, k1, k2⟩ := m_keeps (μ := faM μ 0) (t := 20) (Or.inl rfl) K.fa (by rw [faM_t (by decide)]; exact G)
        have eg : mk 20 0 = μ 20 0 := by rw [k2.g, faM_t (by decide)]
        obtain ⟨g1, eg1⟩ : ∃ g1 : Nat → Int32, g1 = upd (μ 20 0) 1 (nI (sS A + 1)) := ⟨_, rfl⟩
        obtain ⟨x, ex⟩ : ∃ x, x = 22 + 26 * sS A := ⟨_, rfl⟩
        have lp1 : ∀ P, AW M_X6_sheet 0 81 [some (aR 19 0), some (aI (nI h)), some (aI b), some (aI (nI (sS A))), some (aI (nI 26)), none] [] (mset mk 20 0 (zfl g1 x 26)) P → AW M_X6_sheet 0 81 [some (aR 19 0), some (aI (nI h)), some (aI b), some (aI (nI (sS A))), some (aI (nI 0)), none] [] (mset mk 20 0 (zfl g1 x 0)) P := by
          refine loopF 26 (fun i => ∀ P, AW M_X6_sheet 0 81 [some (aR 19 0), some (aI (nI h)), some (aI b), some (aI (nI (sS A))), some (aI (nI i)), none] [] (mset mk 20 0 (zfl g1 x i)) P → AW M_X6_sheet 0 81 [some (aR 19 0), some (aI (nI h)), some (aI b), some (aI (nI (sS A))), some (aI (nI 0)), none] [] (mset mk 20 0 (zfl g1 x 0)) P) (fun P h => h) ?_
          intro i hi ih P hP
          have ly := m_lays (μ := mset mk 20 0 (zfl g1 x i)) (s := sS A) (w := i) (v := 0) (by omega) hi
          rw [mset_s, mset_mset, ← ex, zfl1] at ly
          refine ih P (B_X6_sheet_81 ⟨fun q => absurd (show nI 26 ≤ nI i from q) (nI_ge hi (by decide)), fun _ => ⟨_, ly, ?_⟩⟩)
          rw [show (1 : Int32) = nI 1 from rfl, nI_add]
          exact hP
        rw [zfl0] at lp1
        obtain ⟨g2, eg2⟩ : ∃ g2 : Nat → Int32, g2 = upd (upd (zfl g1 x 26) x (nI h)) (x + 1) (nI n) := ⟨_, rfl⟩
        have lp2 : ∀ P, AW M_X6_sheet 0 130 [some (aR 19 0), some (aI (nI h)), some (aI b), some (aI (nI (sS A))), some (aI (nI (W / 10 ^ n))), some (aI (-1))] [] (mset mk 20 0 (ltf g2 x n W n)) P → AW M_X6_sheet 0 130 [some (aR 19 0), some (aI (nI h)), some (aI b), some (aI (nI (sS A))), some (aI (nI (W / 10 ^ 0))), some (aI (nI (n - 1)))] [] (mset mk 20 0 (ltf g2 x n W 0)) P := by
          have hz : ∀ d i, i + d = n → ∀ P, AW M_X6_sheet 0 130 [some (aR 19 0), some (aI (nI h)), some (aI b), some (aI (nI (sS A))), some (aI (nI (W / 10 ^ n))), some (aI (-1))] [] (mset mk 20 0 (ltf g2 x n W n)) P → AW M_X6_sheet 0 130 [some (aR 19 0), some (aI (nI h)), some (aI b), some (aI (nI (sS A))), some (aI (nI (W / 10 ^ i))), some (aI (if i < n then nI (n - 1 - i) else -1))] [] (mset mk 20 0 (ltf g2 x n W i)) P := by
            intro d
            induction d with
            | zero =>
              intro i hi P hP
              rw [if_neg (by omega)]
              obtain rfl : i = n := by omega
              exact hP
            | succ d ih =>
              intro i hi P hP
              have hX : W / 10 ^ i < 2 ^ 31 := Nat.lt_of_le_of_lt (Nat.div_le_self _ _) hW
              rw [if_pos (by omega)]
              have l1 := m_lays (μ := mset mk 20 0 (ltf g2 x n W i)) (s := sS A) (w := 2 + (n - 1 - i)) (v := nI (W / 10 ^ i % 10)) (by omega) (by omega)
              rw [mset_s, mset_mset, ← ex] at l1
              have l2 := m_lays (μ := mset mk 20 0 (upd (ltf g2 x n W i) (x + (2 + (n - 1 - i))) (nI (W / 10 ^ i % 10)))) (s := sS A) (w := 10 + (n - 1 - i)) (v := nI (W / 10 ^ i % 10)) (by omega) (by omega)
              rw [mset_s, mset_mset, ← ex, ltf1 _ _ _ _ _ (by omega) l8, ← nI_add] at l2
              rw [← nI_add] at l1
              refine B_X6_sheet_130 ⟨fun q => absurd q (nI_pos (by omega)), fun _ => ?_⟩
              rw [nI_rem hX, nI_div hX]
              refine ⟨_, l1, _, l2, ?_⟩
              have := ih (i + 1) (by omega) P hP
              rw [Nat.pow_succ, ← Nat.div_div_eq_div_mul] at this
              have e : nI (n - 1 - i) + (-1) = (if i + 1 < n then nI (n - 1 - (i + 1)) else -1) := by
                by_cases c : i + 1 < n
                · rw [if_pos c, nm1, nI_addneg (by omega)]
                  congr 1
                · rw [if_neg c, show n - 1 - i = 0 by omega]
                  rfl
              rw [e]
              exact this
          have := hz n 0 (by omega)
          rw [if_pos (by omega)] at this
          exact this
        rw [ltf0, Nat.pow_zero, Nat.div_one] at lp2
        have lo := m_lays (μ := mset mk 20 0 (zfl g1 x 26)) (s := sS A) (w := 0) (v := nI h) (by omega) (by omega)
        rw [mset_s, mset_mset, ← ex, Nat.add_zero] at lo
        have ll := m_lays (μ := mset mk 20 0 (upd (zfl g1 x 26) x (nI h))) (s := sS A) (w := 1) (v := nI n) (by omega) (by omega)
        rw [mset_s, mset_mset, ← ex, ← eg2] at ll
        have mlt : ∀ m : Mem, MetA M_X6_letters [aI b] m (rI (nI n) m) := fun m => by rw [en]; exact m_letters
        have GS : RM (ltf g2 x n W n) (oAddS A h n (dg W n)) := by
          have ltn : ∀ j, ¬ (x + 2 ≤ j ∧ j < x + 2 + n) → ¬ (x + 10 ≤ j ∧ j < x + 10 + n) → ltf g2 x n W n j = g2 j := fun j q1 q2 => by
            unfold ltf
            rw [if_neg (by omega), if_neg (by omega)]
          have g2n : ∀ j, j ≠ x → j ≠ x + 1 → g2 j = zfl g1 x 26 j := fun j q1 q2 => by rw [eg2, uget, if_neg q2, uget, if_neg q1]
          refine RM_addS G hh2 (by omega) hW ⟨l3, l8⟩ ld (fun j q1 q2 => ?_) ?_ ?_ ?_ (fun k hk => ⟨?_, ?_, ?_⟩)
          · rw [ltn j (by omega) (by omega), g2n j (by omega) (by omega), zfl, if_neg (by omega), eg1, uget, if_neg q1]
          · rw [ltn 1 (by omega) (by omega), g2n 1 (by omega) (by omega), zfl, if_neg (by omega), eg1, uget, if_pos rfl]
          · rw [← ex, ltn x (by omega) (by omega), eg2, uget, if_neg (by omega), uget, if_pos rfl]
          · rw [← ex, ltn (x + 1) (by omega) (by omega), eg2, uget, if_pos rfl]
          · rw [← ex]
            by_cases c : k < n
            · rw [if_pos c]
              unfold ltf
              rw [if_pos (by omega)]
              congr 2
              omega
            · rw [if_neg c, ltn _ (by omega) (by omega), g2n _ (by omega) (by omega), zfl, if_pos (by omega)]
              rfl
          · rw [← ex]
            by_cases c : k < n
            · rw [if_pos c]
              unfold ltf
              rw [if_neg (by omega), if_pos (by omega)]
              congr 2
              omega
            · rw [if_neg c, ltn _ (by omega) (by omega), g2n _ (by omega) (by omega), zfl, if_pos (by omega)]
              rfl
          · rw [← ex, ltn _ (by omega) (by omega), g2n _ (by omega) (by omega), zfl, if_pos (by omega)]
            rfl
        refine ⟨mset mk 20 0 (ltf g2 x n W n), nI (sS A), start _ ⟨v1, fun _ => ⟨mk, k1, v1, v1, v1, fun m em => ?_⟩, fun q => absurd (z8.mp q) c8⟩, ⟨by rw [mset_s]; exact GS, Mf_of (Or.inr rfl) k2 (fun t o q => mset_n q)⟩, fun p q => by cases q; rfl⟩
        rw [eg, G.S, show (1 : Int32) = nI 1 from rfl, nI_add, ← eg1] at em
        rw [em, eg, G.S]
        refine lp1 _ (B_X6_sheet_81 ⟨fun _ => ⟨_, lo, _, _, mlt _, _, ll, _, _, mlt _, ?_⟩, fun q => absurd (show (26 : Int32) ≤ nI 26 by decide) q⟩)
        rw [eb, show (1 : Int32) = nI 1 from rfl, pk_sub (by omega)]
        rw [eb] at lp2
        exact lp2 _ (B_X6_sheet_130 ⟨fun _ => rI_ok rfl rfl, fun q => absurd (by decide) q⟩)
end RF
