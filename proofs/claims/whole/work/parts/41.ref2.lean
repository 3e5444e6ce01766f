/-! what the reference reads -/
theorem sub_z {x y : Nat} (hx : x < 1000) (hy : y < 1000) : (nI x - nI y = 0) = (x = y) := by
  by_cases c : y ≤ x
  · rw [pk_sub c, n0, nI_eqI (by omega) (by decide)]
    exact propext ⟨fun _ => by omega, fun _ => by omega⟩
  · have := pk_sneg (a := x) (b := y) (by omega) (by omega)
    exact propext ⟨fun q => by rw [q] at this; exact absurd this (by decide), fun q => absurd q (by omega)⟩
theorem sub_lt {x y : Nat} (hx : x < 1000) (hy : y < 1000) : (nI x - nI y < 0) = (x < y) := by
  by_cases c : y ≤ x
  · rw [pk_sub c]
    exact propext ⟨fun q => absurd q (nI_pos (by omega)), fun q => absurd q (by omega)⟩
  · have := pk_sneg (a := x) (b := y) (by omega) (by omega)
    exact propext ⟨fun q => by omega, fun _ => this⟩
theorem sub_le {x y : Nat} (hx : x < 1000) (hy : y < 1000) : (nI x - nI y ≤ 0) = (x ≤ y) := by
  by_cases c : y ≤ x
  · rw [pk_sub c, n0, nI_leI (by omega) (by decide)]
    exact propext ⟨fun _ => by omega, fun _ => by omega⟩
  · have := pk_sneg (a := x) (b := y) (by omega) (by omega)
    exact propext ⟨fun q => by omega, fun _ => Int32.le_of_lt this⟩
theorem sub_gt {x y : Nat} (hx : x < 1000) (hy : y < 1000) : (0 < nI x - nI y) = (y < x) := by
  rw [← Int32.not_le, sub_le hx hy]
  exact propext Nat.not_le
theorem sm_sub {f g : Nat → Nat} : ∀ n, (∀ k, k < n → g k ≤ f k) → sm (fun k => f k - g k) n + sm g n = sm f n
  | 0, _ => rfl
  | n + 1, h => by
    have h1 := sm_sub (f := f) (g := g) n (fun k hk => h k (by omega))
    have h2 := h n (by omega)
    rw [sm, sm, sm]
    omega
theorem sm_split (f : Nat → Nat) (a : Nat) : ∀ b, sm f (a + b) = sm f a + sm (fun k => f (a + k)) b
  | 0 => rfl
  | b + 1 => by rw [← Nat.add_assoc, sm, sm_split f a b, sm, Nat.add_assoc]
theorem sm_one {f : Nat → Nat} : ∀ {n}, (∀ k, k < n → f k = 1) → sm f n = n
  | 0, _ => rfl
  | n + 1, h => by rw [sm, sm_one (fun k hk => h k (by omega)), h n (by omega)]
theorem sm_zero {f : Nat → Nat} : ∀ {n}, (∀ k, k < n → f k = 0) → sm f n = 0
  | 0, _ => rfl
  | n + 1, h => by rw [sm, sm_zero (fun k hk => h k (by omega)), h n (by omega)]
theorem far_un {A : SP} (W : WF A) {s o : Nat} (hs : s < sS A) (ho : o < sS A) : sm (fun k => bi (¬ (if k < sLn A s then sPl A s k else 0) = (if k < sLn A o then sRt A o k else 0))) 8 = sUn A s o := by
  have w1 := W.ln hs
  have w2 := W.ln ho
  have e : 8 = min (sLn A s) (sLn A o) + ((max (sLn A s) (sLn A o) - min (sLn A s) (sLn A o)) + (8 - max (sLn A s) (sLn A o))) := by omega
  rw [e, sm_split, sm_split]
  rw [sm_cong (g := fun k => bi (sPl A s k ≠ sRt A o k)) (fun k hk => by
    show bi _ = bi _
    refine bi_cong ?_
    rw [if_pos (by omega), if_pos (by omega)])]
  rw [sm_one (n := max (sLn A s) (sLn A o) - min (sLn A s) (sLn A o)) (fun k hk => by
    show bi _ = 1
    refine bi_t ?_
    by_cases c : min (sLn A s) (sLn A o) + k < sLn A s
    · have := W.pl hs c
      rw [if_pos c, if_neg (by omega)]
      omega
    · have h2 : min (sLn A s) (sLn A o) + k < sLn A o := by omega
      have := W.rt ho h2
      rw [if_neg c, if_pos h2]
      omega)]
  rw [sm_zero (n := 8 - max (sLn A s) (sLn A o)) (fun k hk => by
    show bi _ = 0
    refine bi_f ?_
    rw [if_neg (by omega), if_neg (by omega)]
    exact fun z => z rfl)]
  unfold sUn
  omega
theorem bit_k : ∀ m, m < 32 → ∀ k, k < 5 → (nI m >>> (nI k &&& 31)) &&& 1 = nI (m / 2 ^ k % 2) := by decide +kernel
section RB
variable {μ : Mem} {A : SP} {s k h w : Nat}
theorem m_ln (G : RM (μ 20 0) A) (hs : s < sS A) : MetA M_X6_of [aR 19 0, aI (nI s), aI 1] μ (rI (nI (sLn A s)) μ) := by
  have w := G.W.sm
  have h := m_of (μ := μ) (s := s) (w := 1) (by omega) (by decide)
  rw [G.ln hs] at h
  exact h
theorem m_ow (G : RM (μ 20 0) A) (hs : s < sS A) : MetA M_X6_of [aR 19 0, aI (nI s), aI 0] μ (rI (nI (sOw A s)) μ) := by
  have w := G.W.sm
  have h := m_of (μ := μ) (s := s) (w := 0) (by omega) (by decide)
  rw [Nat.add_zero, G.ow hs] at h
  exact h
theorem m_pl (G : RM (μ 20 0) A) (hs : s < sS A) (hk : k < sLn A s) : MetA M_X6_of [aR 19 0, aI (nI s), aI (10 + nI k)] μ (rI (nI (sPl A s k)) μ) := by
  have w := G.W.sm
  have w2 := G.W.ln hs
  have h := m_of (μ := μ) (s := s) (w := 10 + k) (by omega) (by omega)
  rw [G.pl hs hk, ← nI_add] at h
  exact h
theorem m_rt (G : RM (μ 20 0) A) (hs : s < sS A) (hk : k < sLn A s) : MetA M_X6_of [aR 19 0, aI (nI s), aI (2 + nI k)] μ (rI (nI (sRt A s k)) μ) := by
  have w := G.W.sm
  have w2 := G.W.ln hs
  have h := m_of (μ := μ) (s := s) (w := 2 + k) (by omega) (by omega)
  rw [G.rt hs hk, ← nI_add] at h
  exact h
theorem m_cn (G : RM (μ 20 0) A) (hh : h < sH A) : MetA M_X6_by [aR 19 0, aI (nI h), aI 0] μ (rI (nI (sCn A h)) μ) := by
  have w := G.W.hm
  have k := m_by (μ := μ) (h := h) (w := 0) (by omega) (by decide)
  rw [Nat.add_zero, G.cn hh] at k
  exact k
theorem m_sh (G : RM (μ 20 0) A) (hh : h < sH A) : MetA M_X6_by [aR 19 0, aI (nI h), aI 1] μ (rI (nI (sSh A h)) μ) := by
  have w := G.W.hm
  have k := m_by (μ := μ) (h := h) (w := 1) (by omega) (by decide)
  rw [G.sh hh] at k
  exact k
theorem m_fp (G : RM (μ 20 0) A) (hh : h < sH A) : MetA M_X6_by [aR 19 0, aI (nI h), aI 2] μ (rI (sFp A h) μ) := by
  have w := G.W.hm
  have k := m_by (μ := μ) (h := h) (w := 2) (by omega) (by decide)
  rw [G.fp hh] at k
  exact k
theorem m_misprints {lv : Nat} (G : RM (μ 20 0) A) (hs : s < sS A) (hl : lv < 100) : MetA M_X6_misprints [aR 19 0, aI (nI s), aI (nI lv)] μ (rI (nI (sCnt A s lv)) μ) := by
  have w2 := G.W.ln hs
  refine MetA.of2 k_X6_misprints rfl (Nat.le_of_ble_eq_true rfl) rfl (B_X6_misprints_0 ?_)
  refine loopN (sLn A s) (fun k => AW M_X6_misprints 0 5 [some (aR 19 0), some (aI (nI s)), some (aI (nI lv)), some (aI (nI (sm (fun k => bi (lv ≤ sLv A s k)) k))), some (aI (nI k))] [] μ _) ?_ ?_
  · refine B_X6_misprints_5 ⟨_, _, m_ln G hs, fun _ => rI_ok rfl rfl, fun q => absurd (nI_le (Nat.le_refl _) (by omega)) q⟩
  · intro k hk ih
    have w3 := G.W.lv hs hk
    refine B_X6_misprints_5 ⟨_, _, m_ln G hs, fun q => absurd q (nI_ge hk (by omega)), fun _ => ⟨_, _, m_mark G hs hk, ?_⟩⟩
    rw [sm] at ih
    rw [nI_ltI (by omega) (by omega), Int32.add_zero, show (1 : Int32) = nI 1 from rfl, nI_add, nI_add]
    refine ⟨fun q => ?_, fun q => ?_⟩
    · rw [bi_f (by omega)] at ih
      exact ih
    · rw [bi_t (by omega)] at ih
      exact ih
theorem m_ofHouse {lv : Nat} (G : RM (μ 20 0) A) (hh : h < sH A) (hl : lv < 100) : MetA M_X6_ofHouse [aR 19 0, aI (nI h), aI (nI lv)] μ (rI (nI (sCntH A h lv)) μ) := by
  have w := G.W.sm
  have w0 := G.W.hm
  have hv : vp_in 1 240 := vp_in_nI (n := 1) (by decide) (by decide)
  refine MetA.of2 k_X6_ofHouse rfl (Nat.le_of_ble_eq_true rfl) rfl (B_X6_ofHouse_0 ?_)
  refine loopN (sS A) (fun k => AW M_X6_ofHouse 0 5 [some (aR 19 0), some (aI (nI h)), some (aI (nI lv)), some (aI (nI (sm (fun s => if sOw A s = h then sCnt A s lv else 0) k))), some (aI (nI k))] [] μ _) ?_ ?_
  · refine B_X6_ofHouse_5 ⟨hv, ?_⟩
    rw [show μ 20 0 (1 : Int32).toNatClampNeg = nI (sS A) from G.S]
    exact ⟨fun _ => rI_ok rfl rfl, fun q => absurd (nI_le (Nat.le_refl _) (by omega)) q⟩
  · intro k hk ih
    have w1 := G.W.ow hk
    refine B_X6_ofHouse_5 ⟨hv, ?_⟩
    rw [show μ 20 0 (1 : Int32).toNatClampNeg = nI (sS A) from G.S]
    refine ⟨fun q => absurd q (nI_ge hk (by omega)), fun _ => ⟨_, _, m_ow G hk, ?_⟩⟩
    rw [sm] at ih
    rw [nI_eqI (by omega) (by omega), Int32.add_zero, show (1 : Int32) = nI 1 from rfl, nI_add]
    refine ⟨fun q => ?_, fun q => ⟨_, _, m_misprints G hk hl, ?_⟩⟩
    · rw [if_neg q] at ih
      exact ih
    · rw [if_pos q] at ih
      rw [nI_add]
      exact ih
theorem m_price (G : RM (μ 20 0) A) (hh : h < sH A) : MetA M_X6_price [aR 19 0, aI (nI h)] μ (rI (nI (sCost A h)) μ) := by
  refine MetA.of2 k_X6_price rfl (Nat.le_of_ble_eq_true rfl) rfl (B_X6_price_0 ?_)
  refine ⟨_, _, m_ofHouse G hh (by decide), rI_ok ?_ rfl⟩
  rw [show (2 : Int32) = nI 2 from rfl, nI_add]
  rfl
theorem m_isAshamed (G : RM (μ 20 0) A) (hh : h < sH A) : MetA M_X6_isAshamed [aR 19 0, aI (nI h)] μ (rI (nI (bi (20 < sSh A h))) μ) := by
  have w := G.W.sh hh
  refine MetA.of2 k_X6_isAshamed rfl (Nat.le_of_ble_eq_true rfl) rfl (B_X6_isAshamed_0 ?_)
  refine ⟨_, _, m_sh G hh, ?_⟩
  rw [show (20 : Int32) = nI 20 from rfl, nI_leI (by omega) (by decide)]
  refine ⟨fun q => rI_ok ?_ rfl, fun q => rI_ok ?_ rfl⟩
  · rw [bi_f (by omega)]
    rfl
  · rw [bi_t (by omega)]
    rfl
theorem m_fineAt (G : RM (μ 20 0) A) (hs : s < sS A) (hk : k < sLn A s) : MetA M_X6_fineAt [aR 19 0, aI (nI s), aI (nI k)] μ (rI (nI (sFine A s k)) μ) := by
  have w := G.W.lv hs hk
  have w2 := sBad_le G.W hs hk
  have z0 : (nI (sLv A s k) = 0) = (sLv A s k = 0) := by rw [n0, nI_eqI (by omega) (by decide)]
  have z1 : (nI (sLv A s k) ≤ 1) = (sLv A s k ≤ 1) := by rw [n1, nI_leI (by omega) (by decide)]
  have z3 : (nI (sLv A s k) = 3) = (sLv A s k = 3) := by rw [n3, nI_eqI (by omega) (by decide)]
  refine MetA.of2 k_X6_fineAt rfl (Nat.le_of_ble_eq_true rfl) rfl (B_X6_fineAt_0 ?_)
  refine ⟨_, _, m_mark G hs hk, ?_⟩
  rw [z0]
  unfold sFine
  refine ⟨fun q0 => ⟨_, _, m_bad G hs hk, ?_⟩, fun q0 => ?_⟩
  · rw [z1, z3, if_neg q0]
    simp only [n0, n1, n2, nI_add, pk_mul]
    refine ⟨fun q => ⟨fun q2 => rI_ok ?_ rfl, fun q2 => rI_ok ?_ rfl⟩, fun q => ⟨fun q2 => rI_ok ?_ rfl, fun q2 => rI_ok ?_ rfl⟩⟩
    · rw [if_neg (by omega), if_neg q2]
    · omega
    · rw [if_pos (by omega), if_neg q2]
    · rw [if_pos (by omega), if_pos q2]
  · rw [if_pos q0]
    exact rI_ok rfl rfl
theorem m_laughers (G : RM (μ 20 0) A) (hs : s < sS A) (hk : k < sLn A s) : MetA M_X6_laughers [aR 19 0, aI (nI s), aI (nI k)] μ (rI (nI (sMask A s k)) μ) := by
  have w := G.W.lv hs hk
  have w1 := G.W.rm
  have w2 := sBad_le G.W hs hk
  have w3 := sBad_0 G.W hs hk
  have w4 := G.W.pl hs hk
  have hv : vp_in 2 240 := vp_in_nI (n := 2) (by decide) (by decide)
  have z0 : (nI (sLv A s k) ≤ 0) = (sLv A s k ≤ 0) := by rw [n0, nI_leI (by omega) (by decide)]
  have eR : μ 20 0 (2 : Int32).toNatClampNeg = nI (sR A) := G.R
  refine MetA.of2 k_X6_laughers rfl (Nat.le_of_ble_eq_true rfl) rfl (B_X6_laughers_0 ?_)
  unfold sMask
  by_cases c : sBad A s k = 0
  · rw [if_pos c]
    refine B_X6_laughers_5 ⟨hv, fun _ => rI_ok rfl rfl, fun _ => ⟨_, _, m_mark G hs hk, fun _ => rI_ok rfl rfl, fun q => absurd (by rw [z0]; omega) q⟩⟩
  · rw [if_neg c]
    refine loopN (sR A) (fun r => AW M_X6_laughers 0 5 [some (aR 19 0), some (aI (nI s)), some (aI (nI k)), some (aI (nI (sm (fun r => if sLb A r s k then 2 ^ r else 0) r))), some (aI (nI r)), none, none] [] μ _) ?_ ?_
    · refine B_X6_laughers_5 ⟨hv, ?_⟩
      rw [eR]
      exact ⟨fun _ => rI_ok rfl rfl, fun q => absurd (nI_le (Nat.le_refl _) (by omega)) q⟩
    · intro r hr ih
      have w5 := G.W.rd hr
      refine B_X6_laughers_5 ⟨hv, ?_⟩
      rw [eR]
      refine ⟨fun q => absurd q (nI_ge hr (by omega)), fun _ => ⟨_, _, m_mark G hs hk, fun q => absurd q (by rw [z0]; omega), fun _ => ?_⟩⟩
      have i1 : (230 : Int32) + 2 * nI r = nI (230 + 2 * r) := by rw [show (230 : Int32) = nI 230 from rfl, show (2 : Int32) = nI 2 from rfl, pk_mul, nI_add]
      have i2 : nI (230 + 2 * r) + 1 = nI (230 + 2 * r + 1) := by rw [show (1 : Int32) = nI 1 from rfl, nI_add]
      rw [i1, i2, nI_clamp (by omega), nI_clamp (by omega), G.ki hr, G.ta hr]
      refine ⟨vp_in_nI (by omega) (by decide), vp_in_nI (by omega) (by decide), ?_⟩
      rw [sm] at ih
      have hb := sm_bits (fun r => sLb A r s k) r (by omega)
      rw [Int32.or_zero, show (1 : Int32) = nI 1 from rfl, nI_add, or_bit r (by omega) _ hb]
      have zk : (nI (sKi A r) = 0) = (sKi A r = 0) := by rw [n0, nI_eqI (by omega) (by decide)]
      rw [zk]
      refine ⟨fun q => ⟨_, _, m_bad G hs hk, ?_⟩, fun q => ⟨_, _, m_pl G hs hk, ?_⟩⟩
      · rw [nI_ltI (by omega) (by omega)]
        refine ⟨fun q2 => ?_, fun q2 => ?_⟩
        · have e : sLb A r s k = false := by unfold sLb; rw [if_neg q]; exact decide_eq_false (by omega)
          rw [e] at ih
          exact ih
        · have e : sLb A r s k = true := by unfold sLb; rw [if_neg q]; exact decide_eq_true (by omega)
          rw [e] at ih
          exact ih
      · rw [nI_eqI (by omega) (by omega)]
        refine ⟨fun q2 => ?_, fun q2 => ?_⟩
        · have e : sLb A r s k = false := by unfold sLb; rw [if_pos q]; exact decide_eq_false q2
          rw [e] at ih
          exact ih
        · have e : sLb A r s k = true := by unfold sLb; rw [if_pos q]; exact decide_eq_true q2
          rw [e] at ih
          exact ih
theorem m_laughs (G : RM (μ 20 0) A) (hs : s < sS A) (hk : k < sLn A s) (hl : ¬ sLv A s k = 0) : MetA M_X6_laughs [aR 19 0, aI (nI s), aI (nI k)] μ (rI (nI (sLg A s k)) μ) := by
  have hm := sMask_lt G.W s k
  have hb : ¬ sBad A s k = 0 := fun z => hl ((sBad_0 G.W hs hk).mp z)
  have e : sm (fun r => sMask A s k / 2 ^ r % 2) 5 = sLg A s k := by
    rw [← pop_sMask G.W hb]
    show 0 + _ / 2 ^ 0 % 2 + _ / 2 ^ 1 % 2 + _ / 2 ^ 2 % 2 + _ / 2 ^ 3 % 2 + _ / 2 ^ 4 % 2 = pop _
    unfold pop
    simp only [Nat.pow_zero, Nat.div_one, Nat.zero_add]
  rw [← e]
  refine MetA.of2 k_X6_laughs rfl (Nat.le_of_ble_eq_true rfl) rfl (B_X6_laughs_0 ?_)
  refine loopN 5 (fun r => AW M_X6_laughs 0 5 [some (aR 19 0), some (aI (nI s)), some (aI (nI k)), some (aI (nI (sm (fun r => sMask A s k / 2 ^ r % 2) r))), some (aI (nI r))] [] μ _) ?_ ?_
  · exact B_X6_laughs_5 ⟨fun _ => rI_ok rfl rfl, fun q => absurd (show (5 : Int32) ≤ nI 5 by decide) q⟩
  · intro r hr ih
    refine B_X6_laughs_5 ⟨fun q => absurd (show nI 5 ≤ nI r from q) (nI_ge hr (by decide)), fun _ => ⟨_, _, m_laughers G hs hk, ?_⟩⟩
    rw [bit_k _ hm r hr, nI_add, show (1 : Int32) = nI 1 from rfl, nI_add]
    exact ih
theorem m_printable (G : RM (μ 20 0) A) : MetA M_X6_printable [aR 19 0] μ (rI (nI (sm (fun s => sCnt A s 2 - sCnt A s 3) (sS A))) μ) := by
  have w := G.W.sm
  have hv : vp_in 1 240 := vp_in_nI (n := 1) (by decide) (by decide)
  have eS : μ 20 0 (1 : Int32).toNatClampNeg = nI (sS A) := G.S
  refine MetA.of2 k_X6_printable rfl (Nat.le_of_ble_eq_true rfl) rfl (B_X6_printable_0 ?_)
  refine loopN (sS A) (fun k => AW M_X6_printable 0 4 [some (aR 19 0), some (aI (nI (sm (fun s => sCnt A s 2 - sCnt A s 3) k))), some (aI (nI k))] [] μ _) ?_ ?_
  · refine B_X6_printable_4 ⟨hv, ?_⟩
    rw [eS]
    exact ⟨fun _ => rI_ok rfl rfl, fun q => absurd (nI_le (Nat.le_refl _) (by omega)) q⟩
  · intro k hk ih
    refine B_X6_printable_4 ⟨hv, ?_⟩
    rw [eS]
    refine ⟨fun q => absurd q (nI_ge hk (by omega)), fun _ => ⟨_, _, m_misprints (lv := 2) G hk (by decide), _, _, m_misprints (lv := 3) G hk (by decide), ?_⟩⟩
    have hle : sCnt A k 3 ≤ sCnt A k 2 := by
      have := sm_sub (f := fun i => bi (2 ≤ sLv A k i)) (g := fun i => bi (3 ≤ sLv A k i)) (sLn A k) (fun i _ => by show bi _ ≤ bi _; unfold bi; split <;> split <;> omega)
      unfold sCnt
      omega
    rw [sm] at ih
    rw [pk_sub hle, nI_add, show (1 : Int32) = nI 1 from rfl, nI_add]
    exact ih
theorem m_sheetsOf (G : RM (μ 20 0) A) (hh : h < sH A) : MetA M_X6_sheetsOf [aR 19 0, aI (nI h)] μ (rI (nI (sShe A h)) μ) := by
  have w := G.W.sm
  have w0 := G.W.hm
  have hv : vp_in 1 240 := vp_in_nI (n := 1) (by decide) (by decide)
  have eS : μ 20 0 (1 : Int32).toNatClampNeg = nI (sS A) := G.S
  refine MetA.of2 k_X6_sheetsOf rfl (Nat.le_of_ble_eq_true rfl) rfl (B_X6_sheetsOf_0 ?_)
  refine loopN (sS A) (fun k => AW M_X6_sheetsOf 0 4 [some (aR 19 0), some (aI (nI h)), some (aI (nI (sm (fun s => bi (sOw A s = h)) k))), some (aI (nI k))] [] μ _) ?_ ?_
  · refine B_X6_sheetsOf_4 ⟨hv, ?_⟩
    rw [eS]
    exact ⟨fun _ => rI_ok rfl rfl, fun q => absurd (nI_le (Nat.le_refl _) (by omega)) q⟩
  · intro k hk ih
    have w1 := G.W.ow hk
    refine B_X6_sheetsOf_4 ⟨hv, ?_⟩
    rw [eS]
    refine ⟨fun q => absurd q (nI_ge hk (by omega)), fun _ => ⟨_, _, m_ow G hk, ?_⟩⟩
    rw [sm] at ih
    rw [nI_eqI (by omega) (by omega), Int32.add_zero, show (1 : Int32) = nI 1 from rfl, nI_add, nI_add]
    refine ⟨fun q => ?_, fun q => ?_⟩
    · rw [bi_f q] at ih
      exact ih
    · rw [bi_t q] at ih
      exact ih
theorem m_badOf (G : RM (μ 20 0) A) (hs : s < sS A) : MetA M_X6_badOf [aR 19 0, aI (nI s)] μ (rI (nI (sBadS A s)) μ) := by
  have w2 := G.W.ln hs
  refine MetA.of2 k_X6_badOf rfl (Nat.le_of_ble_eq_true rfl) rfl (B_X6_badOf_0 ?_)
  refine loopN (sLn A s) (fun k => AW M_X6_badOf 0 4 [some (aR 19 0), some (aI (nI s)), some (aI (nI (sm (fun k => sBad A s k) k))), some (aI (nI k))] [] μ _) ?_ ?_
  · refine B_X6_badOf_4 ⟨_, _, m_ln G hs, fun _ => rI_ok rfl rfl, fun q => absurd (nI_le (Nat.le_refl _) (by omega)) q⟩
  · intro k hk ih
    refine B_X6_badOf_4 ⟨_, _, m_ln G hs, fun q => absurd q (nI_ge hk (by omega)), fun _ => ⟨_, _, m_bad G hs hk, ?_⟩⟩
    rw [sm] at ih
    rw [nI_add, show (1 : Int32) = nI 1 from rfl, nI_add]
    exact ih
theorem m_finesOf (G : RM (μ 20 0) A) (hs : s < sS A) : MetA M_X6_finesOf [aR 19 0, aI (nI s)] μ (rI (nI (sFines A s)) μ) := by
  have w2 := G.W.ln hs
  refine MetA.of2 k_X6_finesOf rfl (Nat.le_of_ble_eq_true rfl) rfl (B_X6_finesOf_0 ?_)
  refine loopN (sLn A s) (fun k => AW M_X6_finesOf 0 4 [some (aR 19 0), some (aI (nI s)), some (aI (nI (sm (fun k => sFine A s k) k))), some (aI (nI k))] [] μ _) ?_ ?_
  · refine B_X6_finesOf_4 ⟨_, _, m_ln G hs, fun _ => rI_ok rfl rfl, fun q => absurd (nI_le (Nat.le_refl _) (by omega)) q⟩
  · intro k hk ih
    refine B_X6_finesOf_4 ⟨_, _, m_ln G hs, fun q => absurd q (nI_ge hk (by omega)), fun _ => ⟨_, _, m_fineAt G hs hk, ?_⟩⟩
    rw [sm] at ih
    rw [nI_add, show (1 : Int32) = nI 1 from rfl, nI_add]
    exact ih
theorem m_canLicense (G : RM (μ 20 0) A) (hs : s < sS A) (hk : k < sLn A s) : MetA M_X6_canLicense [aR 19 0, aI (nI s), aI (nI k)] μ (rI (nI (bi ((¬ 20 < sSh A (sOw A s) ∧ sCost A (sOw A s) ≤ sCn A (sOw A s)) ∧ sLv A s k = 1))) μ) := by
  have w := G.W.lv hs hk
  have w1 := G.W.ow hs
  have w2 := G.W.cn w1
  have w4 := sCost_le G.W (sOw A s)
  have z1 : (nI (sLv A s k) = 1) = (sLv A s k = 1) := by rw [n1, nI_eqI (by omega) (by decide)]
  refine MetA.of2 k_X6_canLicense rfl (Nat.le_of_ble_eq_true rfl) rfl (B_X6_canLicense_0 ?_)
  refine ⟨_, _, m_ow G hs, _, _, m_mark G hs hk, ?_⟩
  rw [z1]
  refine ⟨fun q => rI_ok (by rw [bi_f (fun z => q z.2)]; rfl) rfl, fun q => ⟨_, _, m_isAshamed G w1, ?_⟩⟩
  by_cases c : 20 < sSh A (sOw A s)
  · rw [bi_t c, bi_f (fun z => z.1.1 c)]
    exact ⟨fun _ => rI_ok rfl rfl, fun q => absurd q (by decide)⟩
  · rw [bi_f c]
    refine ⟨fun q => absurd rfl q, fun _ => ⟨_, _, m_cn G w1, _, _, m_price G w1, ?_⟩⟩
    rw [nI_ltI (by omega) (by omega)]
    refine ⟨fun q2 => rI_ok ?_ rfl, fun q2 => rI_ok ?_ rfl⟩
    · rw [bi_f (fun z => absurd z.1.2 (by omega))]
      rfl
    · rw [bi_t ⟨⟨c, by omega⟩, q⟩]
      rfl
theorem m_far {o : Nat} (G : RM (μ 20 0) A) (hs : s < sS A) (ho : o < sS A) : MetA M_X6_far [aR 19 0, aI (nI s), aI (nI o)] μ (rI (nI (sUn A s o)) μ) := by
  have w := G.W.sm
  rw [← far_un G.W hs ho]
  refine MetA.of2 k_X6_far rfl (Nat.le_of_ble_eq_true rfl) rfl (B_X6_far_0 ?_)
  refine loopN 8 (fun k => AW M_X6_far 0 5 [some (aR 19 0), some (aI (nI s)), some (aI (nI o)), some (aI (nI (sm (fun k => bi (¬ (if k < sLn A s then sPl A s k else 0) = (if k < sLn A o then sRt A o k else 0))) k))), some (aI (nI k))] [] μ _) ?_ ?_
  · exact B_X6_far_5 ⟨fun _ => rI_ok rfl rfl, fun q => absurd (show (8 : Int32) ≤ nI 8 by decide) q⟩
  · intro k hk ih
    have h1 := m_of (μ := μ) (s := s) (w := 10 + k) (by omega) (by omega)
    have h2 := m_of (μ := μ) (s := o) (w := 2 + k) (by omega) (by omega)
    rw [G.pl8 hs hk] at h1
    rw [G.rt8 ho hk] at h2
    have b1 : (if k < sLn A s then sPl A s k else 0) < 100 := by
      split
      · have := G.W.pl hs (by assumption); omega
      · omega
    have b2 : (if k < sLn A o then sRt A o k else 0) < 100 := by
      split
      · have := G.W.rt ho (by assumption); omega
      · omega
    refine B_X6_far_5 ?_
    rw [show (10 : Int32) = nI 10 from rfl, nI_add, show (2 : Int32) = nI 2 from rfl, nI_add]
    refine ⟨fun q => absurd (show nI 8 ≤ nI k from q) (nI_ge hk (by decide)), fun _ => ⟨_, _, h1, _, _, h2, ?_⟩⟩
    rw [sm] at ih
    rw [nI_eqI (by omega) (by omega), Int32.add_zero, show (1 : Int32) = nI 1 from rfl, nI_add, nI_add]
    refine ⟨fun q => ?_, fun q => ?_⟩
    · rw [bi_t q] at ih
      exact ih
    · rw [bi_f (fun z => z q)] at ih
      exact ih
theorem m_isMoreAshamed {a b : Nat} (G : RM (μ 20 0) A) (ha : a < sH A) (hb : b < sH A) : MetA M_X6_isMoreAshamed [aR 19 0, aI (nI a), aI (nI b)] μ (rI (nI (if sMa A a b then 1 else 0)) μ) := by
  have w := G.W.hm
  have w1 := G.W.sh ha
  have w2 := G.W.sh hb
  have w3 := G.W.cn ha
  have w4 := G.W.cn hb
  refine MetA.of2 k_X6_isMoreAshamed rfl (Nat.le_of_ble_eq_true rfl) rfl (B_X6_isMoreAshamed_0 ?_)
  refine ⟨_, _, m_sh G ha, _, _, m_sh G hb, ?_⟩
  rw [sub_z (by omega) (by omega), sub_le (by omega) (by omega)]
  refine ⟨fun q => ⟨_, _, m_cn G ha, _, _, m_cn G hb, ?_⟩, fun q => ⟨fun q2 => rI_ok (nb_f ?_) rfl, fun q2 => rI_ok (nb_t ?_) rfl⟩⟩
  · rw [sub_z (by omega) (by omega), sub_lt (by omega) (by omega), nI_leI (by omega) (by omega)]
    refine ⟨fun q2 => rI_ok (nb_t ?_) rfl, fun q2 => ⟨fun q3 => rI_ok (nb_f ?_) rfl, fun q3 => ⟨fun q4 => rI_ok (nb_f ?_) rfl, fun q4 => rI_ok (nb_t ?_) rfl⟩⟩⟩
    · unfold sMa
      rw [if_neg (by omega), if_pos (by omega)]
      exact decide_eq_true q2
    · unfold sMa
      rw [if_neg (by omega), if_pos q3]
      exact decide_eq_false q2
    · unfold sMa
      rw [if_neg (by omega), if_neg (by omega)]
      exact decide_eq_false (by omega)
    · unfold sMa
      rw [if_neg (by omega), if_neg (by omega)]
      exact decide_eq_true (by omega)
  · unfold sMa
    rw [if_pos q]
    exact decide_eq_false (by omega)
  · unfold sMa
    rw [if_pos q]
    exact decide_eq_true (by omega)
theorem m_isWorse {a b : Nat} (G : RM (μ 20 0) A) (ha : a < sS A) (hb : b < sS A) : MetA M_X6_isWorse [aR 19 0, aI (nI a), aI (nI b)] μ (rI (nI (if sWo A a b then 1 else 0)) μ) := by
  have w := G.W.sm
  have w1 := sBadS_le G.W ha
  have w2 := sBadS_le G.W hb
  have w3 := sCnt_le A a 1
  have w4 := sCnt_le A b 1
  have w5 := G.W.ln ha
  have w6 := G.W.ln hb
  refine MetA.of2 k_X6_isWorse rfl (Nat.le_of_ble_eq_true rfl) rfl (B_X6_isWorse_0 ?_)
  refine ⟨_, _, m_badOf G ha, _, _, m_badOf G hb, ?_⟩
  rw [sub_z (by omega) (by omega), sub_le (by omega) (by omega)]
  refine ⟨fun q => ⟨_, _, m_misprints (lv := 1) G ha (by decide), _, _, m_misprints (lv := 1) G hb (by decide), ?_⟩, fun q => ⟨fun q2 => rI_ok (nb_f ?_) rfl, fun q2 => rI_ok (nb_t ?_) rfl⟩⟩
  · rw [sub_z (by omega) (by omega), sub_gt (by omega) (by omega), nI_leI (by omega) (by omega)]
    refine ⟨fun q2 => rI_ok (nb_t ?_) rfl, fun q2 => ⟨fun q3 => rI_ok (nb_f ?_) rfl, fun q3 => ⟨fun q4 => rI_ok (nb_f ?_) rfl, fun q4 => rI_ok (nb_t ?_) rfl⟩⟩⟩
    · unfold sWo
      rw [if_neg (by omega), if_pos (by omega)]
      exact decide_eq_true q2
    · unfold sWo
      rw [if_neg (by omega), if_pos q3]
      exact decide_eq_false q2
    · unfold sWo
      rw [if_neg (by omega), if_neg (by omega)]
      exact decide_eq_false (by omega)
    · unfold sWo
      rw [if_neg (by omega), if_neg (by omega)]
      exact decide_eq_true (by omega)
  · unfold sWo
    rw [if_pos q]
    exact decide_eq_false (by omega)
  · unfold sWo
    rw [if_pos q]
    exact decide_eq_true (by omega)
theorem m_all {lv : Nat} (G : RM (μ 20 0) A) (hl : lv < 100) : MetA M_X6_all [aR 19 0, aI (nI lv)] μ (rI (nI (sCntA A lv)) μ) := by
  have w := G.W.sm
  have hv : vp_in 1 240 := vp_in_nI (n := 1) (by decide) (by decide)
  have eS : μ 20 0 (1 : Int32).toNatClampNeg = nI (sS A) := G.S
  refine MetA.of2 k_X6_all rfl (Nat.le_of_ble_eq_true rfl) rfl (B_X6_all_0 ?_)
  refine loopN (sS A) (fun k => AW M_X6_all 0 4 [some (aR 19 0), some (aI (nI lv)), some (aI (nI (sm (fun s => sCnt A s lv) k))), some (aI (nI k))] [] μ _) ?_ ?_
  · refine B_X6_all_4 ⟨hv, ?_⟩
    rw [eS]
    exact ⟨fun _ => rI_ok rfl rfl, fun q => absurd (nI_le (Nat.le_refl _) (by omega)) q⟩
  · intro k hk ih
    refine B_X6_all_4 ⟨hv, ?_⟩
    rw [eS]
    refine ⟨fun q => absurd q (nI_ge hk (by omega)), fun _ => ⟨_, _, m_misprints G hk hl, ?_⟩⟩
    rw [sm] at ih
    rw [nI_add, show (1 : Int32) = nI 1 from rfl, nI_add]
    exact ih
theorem m_summed0 (G : RM (μ 20 0) A) : MetA M_X6_summed [aR 19 0, aI 0] μ (rI (nI (sm (sCn A) (sH A))) μ) := by
  have w := G.W.hm
  have hv : vp_in 0 240 := vp_in_nI (n := 0) (by decide) (by decide)
  have eS : μ 20 0 (0 : Int32).toNatClampNeg = nI (sH A) := G.H
  refine MetA.of2 k_X6_summed rfl (Nat.le_of_ble_eq_true rfl) rfl (B_X6_summed_0 ?_)
  refine loopN (sH A) (fun k => AW M_X6_summed 0 4 [some (aR 19 0), some (aI 0), some (aI (nI (sm (sCn A) k))), some (aI (nI k))] [] μ _) ?_ ?_
  · refine B_X6_summed_4 ⟨hv, ?_⟩
    rw [eS]
    exact ⟨fun _ => rI_ok rfl rfl, fun q => absurd (nI_le (Nat.le_refl _) (by omega)) q⟩
  · intro k hk ih
    refine B_X6_summed_4 ⟨hv, ?_⟩
    rw [eS]
    refine ⟨fun q => absurd q (nI_ge hk (by omega)), fun _ => ⟨_, _, m_cn G hk, ?_⟩⟩
    rw [sm] at ih
    rw [nI_add, show (1 : Int32) = nI 1 from rfl, nI_add]
    exact ih
theorem m_summed1 (G : RM (μ 20 0) A) : MetA M_X6_summed [aR 19 0, aI 1] μ (rI (nI (sm (sSh A) (sH A))) μ) := by
  have w := G.W.hm
  have hv : vp_in 0 240 := vp_in_nI (n := 0) (by decide) (by decide)
  have eS : μ 20 0 (0 : Int32).toNatClampNeg = nI (sH A) := G.H
  refine MetA.of2 k_X6_summed rfl (Nat.le_of_ble_eq_true rfl) rfl (B_X6_summed_0 ?_)
  refine loopN (sH A) (fun k => AW M_X6_summed 0 4 [some (aR 19 0), some (aI 1), some (aI (nI (sm (sSh A) k))), some (aI (nI k))] [] μ _) ?_ ?_
  · refine B_X6_summed_4 ⟨hv, ?_⟩
    rw [eS]
    exact ⟨fun _ => rI_ok rfl rfl, fun q => absurd (nI_le (Nat.le_refl _) (by omega)) q⟩
  · intro k hk ih
    refine B_X6_summed_4 ⟨hv, ?_⟩
    rw [eS]
    refine ⟨fun q => absurd q (nI_ge hk (by omega)), fun _ => ⟨_, _, m_sh G hk, ?_⟩⟩
    rw [sm] at ih
    rw [nI_add, show (1 : Int32) = nI 1 from rfl, nI_add]
    exact ih
end RB
