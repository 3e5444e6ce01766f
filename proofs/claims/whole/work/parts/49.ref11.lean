/-! the reference: the reader of orders -/
abbrev QS (μ : Mem) (φ ψ : Nat → Int32) : Mem := mset (mset μ 19 0 φ) 26 0 ψ
def TY (μ : Mem) (n : Nat) (g : Nat → Nat) : Prop := n ≤ 60 ∧ ∀ i, i < n → μ 24 0 i = nI (g i) ∧ g i < 65536
def PU (φ : Nat → Int32) (n p : Nat) : Prop := φ 14 = nI n ∧ φ 18 = nI p ∧ p ≤ n
def hv (n : Nat) (g : Nat → Nat) (p : Nat) : Int32 := if p < n then nI (g p) else -1
/-- what the reader has told of an order, from the place x on -/
def FQ (ψ : Nat → Int32) (x : Nat) (o : OD) : Prop := ψ x = nI o.1 ∧ (¬ o.1 = 100 → ¬ o.1 = 101 → ψ (x + 1) = nI o.2.1) ∧ (o.1 = 115 ∨ o.1 = 109 ∨ o.1 = 108 ∨ o.1 = 99 ∨ o.1 = 114 → ψ (x + 2) = nI o.2.2.1) ∧ (o.1 = 109 → ψ (x + 3) = nI (o.2.2.2 - 96) ∧ 97 ≤ o.2.2.2 ∧ o.2.2.2 ≤ 102)
theorem m1_ne {a : Nat} (h : a < 2 ^ 31) : ¬ (-1 : Int32) = nI a := fun q => nI_m1 h q.symm
theorem lc_1 {n : Nat} {g : Nat → Nat} {p : Nat} : lc n g 1 p = if isL n g p then 1 else 0 := by rw [lc, lc]
section RK
variable {μ : Mem} {φ ψ : Nat → Int32} {n p x t : Nat} {g : Nat → Nat}
theorem q19 : QS μ φ ψ 19 0 = φ := by rw [QS, mset_t (show (19 : Nat) ≠ 26 by decide), mset_s]
theorem q26 : QS μ φ ψ 26 0 = ψ := mset_s _ _ _ _
theorem q24 : QS μ φ ψ 24 0 = μ 24 0 := by rw [QS, mset_t (show (24 : Nat) ≠ 26 by decide), mset_t (show (24 : Nat) ≠ 19 by decide)]
theorem QSp {f : Nat → Int32} : mset (QS μ φ ψ) 19 0 f = QS μ f ψ := by
  funext t o
  unfold QS
  simp only [mget]
  by_cases c : t = 19 ∧ o = 0
  · rw [if_pos c, if_neg (by omega), if_pos c]
  · simp only [if_neg c]
theorem QSt {f : Nat → Int32} : mset (QS μ φ ψ) 26 0 f = QS μ φ f := mset_mset _ _ _ _ _
theorem m_here (hT : TY μ n g) (hP : PU φ n p) : MetA M_X6_here [aR 19 0] (QS μ φ ψ) (rI (hv n g p) (QS μ φ ψ)) := by
  obtain ⟨h1, h2, h3⟩ := hP
  have w := hT.1
  refine MetA.of2 k_X6_here rfl (Nat.le_of_ble_eq_true rfl) rfl (B_X6_here_0 ?_)
  rw [q19, q24, h1, h2, nI_leI (by omega) (by omega), nI_clamp (by omega)]
  unfold hv
  refine ⟨fun q => rI_ok ?_ rfl, fun q => ⟨vp_in_nI (by omega) (by omega), rI_ok ?_ rfl⟩⟩
  · rw [if_neg (by omega)]
  · rw [if_pos (by omega)]
    exact (hT.2 p (by omega)).1
theorem hv_eq (hT : TY μ n g) {c : Nat} (hc : c < 65536) : (hv n g p = nI c) = isC n g p c := by
  unfold hv
  by_cases h : p < n
  · have := (hT.2 p h).2
    rw [if_pos h, nI_eqI (by omega) (by omega)]
    exact propext ⟨fun q => ⟨h, by omega, by omega⟩, fun q => by omega⟩
  · rw [if_neg h]
    exact propext ⟨fun q => absurd q (m1_ne (by omega)), fun q => absurd q.1 h⟩
theorem hv_in (hT : TY μ n g) {a b : Nat} (ha : a < 65536) (hb : b < 65536) : bi (¬ (hv n g p < nI a ∨ nI b < hv n g p)) = bi (p < n ∧ a ≤ g p ∧ g p ≤ b) := by
  apply bi_cong
  unfold hv
  by_cases h : p < n
  · have := (hT.2 p h).2
    rw [if_pos h, nI_ltI (by omega) (by omega), nI_ltI (by omega) (by omega)]
    omega
  · rw [if_neg h]
    refine ⟨fun q => absurd (Or.inl ?_) q, fun q => absurd q.1 h⟩
    exact Int32.lt_of_lt_of_le (show (-1 : Int32) < 0 by decide) (nI_pos' (by omega))
theorem m_skips_y {c : Nat} (hT : TY μ n g) (hP : PU φ n p) (hc : c < 65536) (h : isC n g p c) : MetA M_X6_skips [aR 19 0, aI (nI c)] (QS μ φ ψ) (rI 1 (QS μ (upd φ 18 (nI (p + 1))) ψ)) := by
  refine MetA.of2 k_X6_skips rfl (Nat.le_of_ble_eq_true rfl) rfl (B_X6_skips_0 ?_)
  refine ⟨_, _, m_here hT hP, ?_⟩
  rw [hv_eq hT hc]
  refine ⟨fun _ m e => rI_ok rfl ?_, fun q => absurd h q⟩
  rw [e, q19, hP.2.1, show (1 : Int32) = nI 1 from rfl, nI_add, QSp]
theorem m_skips_n {c : Nat} (hT : TY μ n g) (hP : PU φ n p) (hc : c < 65536) (h : ¬ isC n g p c) : MetA M_X6_skips [aR 19 0, aI (nI c)] (QS μ φ ψ) (rI 0 (QS μ φ ψ)) := by
  refine MetA.of2 k_X6_skips rfl (Nat.le_of_ble_eq_true rfl) rfl (B_X6_skips_0 ?_)
  refine ⟨_, _, m_here hT hP, ?_⟩
  rw [hv_eq hT hc]
  exact ⟨fun q => absurd q h, fun _ => rI_ok rfl rfl⟩
theorem PU.nx (hP : PU φ n p) (h : p < n) : PU (upd φ 18 (nI (p + 1))) n (p + 1) := ⟨hP.1, rfl, h⟩
/-- one figure more -/
theorem fig_s {i m : Nat} {P : RES → Mem → Prop} (hT : TY μ n g) (hP : PU φ n p) (hx : x < 124) (hi : i < m) (hm : m < 10) (h : isD n g p) (k : AW M_X6_figures 0 25 [some (aR 19 0), some (aI (nI x)), some (aI (nI m)), some (aI (nI (i + 1)))] [] (QS μ (upd φ 18 (nI (p + 1))) (upd ψ x (10 * ψ x + nI (g p) - 48))) P) : AW M_X6_figures 0 25 [some (aR 19 0), some (aI (nI x)), some (aI (nI m)), some (aI (nI i))] [] (QS μ φ ψ) P := by
  have hh := m_here (ψ := ψ) hT hP
  have hi2 := hv_in (p := p) hT (a := 48) (b := 57) (by decide) (by decide)
  rw [bi_t h] at hi2
  refine B_X6_figures_25 ⟨fun q => absurd q (nI_ge hi (by omega)), fun _ => ⟨_, _, hh, _, _, m_in, ?_⟩⟩
  rw [show (48 : Int32) = nI 48 from rfl, show (57 : Int32) = nI 57 from rfl, hi2]
  refine ⟨fun q => absurd q (by decide), fun _ => ⟨vp_in_nI hx (by decide), _, _, hh, vp_in_nI hx (by decide), fun m21 e21 m25 e25 => ?_⟩⟩
  rw [nI_clamp (by omega), q26, QSt] at e21
  rw [e21, q19, QSp, hP.2.1, show (1 : Int32) = nI 1 from rfl, nI_add] at e25
  rw [e25, show (1 : Int32) = nI 1 from rfl, nI_add]
  rw [show hv n g p = nI (g p) from if_pos h.1]
  exact k
theorem fig_e {i m : Nat} {P : RES → Mem → Prop} (hT : TY μ n g) (hP : PU φ n p) (hm : m < 10) (h : m ≤ i ∨ ¬ isD n g p) (hi : i < 100) (k : P (.inl (some (aI 1))) (QS μ φ ψ)) : AW M_X6_figures 0 25 [some (aR 19 0), some (aI (nI x)), some (aI (nI m)), some (aI (nI i))] [] (QS μ φ ψ) P := by
  have hh := m_here (ψ := ψ) hT hP
  have hi2 := hv_in (p := p) hT (a := 48) (b := 57) (by decide) (by decide)
  refine B_X6_figures_25 ⟨fun _ => k, fun q => ⟨_, _, hh, _, _, m_in, ?_⟩⟩
  rw [nI_leI (by omega) (by omega)] at q
  rw [show (48 : Int32) = nI 48 from rfl, show (57 : Int32) = nI 57 from rfl, hi2, bi_f (h.resolve_left q)]
  exact ⟨fun _ => k, fun q => absurd rfl q⟩
theorem m_fig_n {m : Nat} (hT : TY μ n g) (hP : PU φ n p) (h : ¬ isD n g p) : MetA M_X6_figures [aR 19 0, aI (nI x), aI (nI m)] (QS μ φ ψ) (rI 0 (QS μ φ ψ)) := by
  have hi2 := hv_in (p := p) hT (a := 48) (b := 57) (by decide) (by decide)
  rw [bi_f h] at hi2
  refine MetA.of2 k_X6_figures rfl (Nat.le_of_ble_eq_true rfl) rfl (B_X6_figures_0 ?_)
  refine ⟨_, _, m_here hT hP, _, _, m_in, ?_⟩
  rw [show (48 : Int32) = nI 48 from rfl, show (57 : Int32) = nI 57 from rfl, hi2]
  exact ⟨fun q => absurd rfl q, fun _ => rI_ok rfl rfl⟩
theorem fig_0 {m : Nat} {P : RES → Mem → Prop} (hT : TY μ n g) (hP : PU φ n p) (hx : x < 124) (h : isD n g p) (k : AW M_X6_figures 0 25 [some (aR 19 0), some (aI (nI x)), some (aI (nI m)), some (aI (nI 0))] [] (QS μ φ (upd ψ x 0)) P) : MetA M_X6_figures [aR 19 0, aI (nI x), aI (nI m)] (QS μ φ ψ) P := by
  have hi2 := hv_in (p := p) hT (a := 48) (b := 57) (by decide) (by decide)
  rw [bi_t h] at hi2
  refine MetA.of2 k_X6_figures rfl (Nat.le_of_ble_eq_true rfl) rfl (B_X6_figures_0 ?_)
  refine ⟨_, _, m_here hT hP, _, _, m_in, ?_⟩
  rw [show (48 : Int32) = nI 48 from rfl, show (57 : Int32) = nI 57 from rfl, hi2]
  refine ⟨fun _ => ⟨vp_in_nI hx (by decide), fun m e => ?_⟩, fun q => absurd q (by decide)⟩
  rw [q26, nI_clamp (by omega), QSt] at e
  rw [e]
  exact k
theorem fg1 {a : Nat} (h : 48 ≤ a) : 10 * (0 : Int32) + nI a - 48 = nI (a - 48) := by
  rw [show (10 : Int32) * 0 = nI 0 from rfl, nI_add, Nat.zero_add, show (48 : Int32) = nI 48 from rfl, pk_sub h]
theorem fg2 {a b : Nat} (h : 48 ≤ b) : 10 * nI a + nI b - 48 = nI (10 * a + (b - 48)) := by
  rw [show (10 : Int32) = nI 10 from rfl, pk_mul, nI_add, show (48 : Int32) = nI 48 from rfl, pk_sub (by omega)]
  congr 1
  omega
theorem upd_upd {f : Nat → Int32} {k : Nat} {a b : Int32} : upd (upd f k a) k b = upd f k b := by
  funext i
  simp only [uget]
  split <;> rfl
theorem upd_at {f : Nat → Int32} {k : Nat} {a : Int32} : upd f k a k = a := by rw [uget, if_pos rfl]
theorem m_fig1_y (hT : TY μ n g) (hP : PU φ n p) (hx : x < 124) (h : isD n g p) : MetA M_X6_figures [aR 19 0, aI (nI x), aI (nI 1)] (QS μ φ ψ) (rI 1 (QS μ (upd φ 18 (nI (p + 1))) (upd ψ x (nI (g p - 48))))) := by
  refine fig_0 hT hP hx h (fig_s hT hP hx (by decide) (by decide) h ?_)
  rw [upd_at, upd_upd, fg1 h.2.1]
  exact fig_e hT (hP.nx h.1) (by decide) (Or.inl (by decide)) (by decide) (rI_ok rfl rfl)
theorem m_fig2_1 (hT : TY μ n g) (hP : PU φ n p) (hx : x < 124) (h : isD n g p) (h2 : ¬ isD n g (p + 1)) : MetA M_X6_figures [aR 19 0, aI (nI x), aI (nI 2)] (QS μ φ ψ) (rI 1 (QS μ (upd φ 18 (nI (p + 1))) (upd ψ x (nI (g p - 48))))) := by
  refine fig_0 hT hP hx h (fig_s hT hP hx (by decide) (by decide) h ?_)
  rw [upd_at, upd_upd, fg1 h.2.1]
  exact fig_e hT (hP.nx h.1) (by decide) (Or.inr h2) (by decide) (rI_ok rfl rfl)
theorem m_fig2_2 (hT : TY μ n g) (hP : PU φ n p) (hx : x < 124) (h : isD n g p) (h2 : isD n g (p + 1)) : MetA M_X6_figures [aR 19 0, aI (nI x), aI (nI 2)] (QS μ φ ψ) (rI 1 (QS μ (upd φ 18 (nI (p + 2))) (upd ψ x (nI (10 * (g p - 48) + (g (p + 1) - 48)))))) := by
  refine fig_0 hT hP hx h (fig_s hT hP hx (by decide) (by decide) h ?_)
  rw [upd_at, upd_upd, fg1 h.2.1]
  refine fig_s hT (hP.nx h.1) hx (by decide) (by decide) h2 ?_
  rw [upd_at, upd_upd, upd_upd, fg2 h2.2.1]
  exact fig_e hT ⟨hP.1, rfl, h2.1⟩ (by decide) (Or.inl (by decide)) (by decide) (rI_ok rfl rfl)
theorem m_word {a m : Nat} (hT : TY μ n g) (hP : PU φ n p) (hx : x < 124) (hm : m ≤ 8) (ha : a ≤ 8) : MetA M_X6_wordHere [aR 19 0, aI (nI x), aI (nI a), aI (nI m)] (QS μ φ ψ) (rI (nI (bi (a ≤ lc n g m p))) (QS μ (upd φ 18 (nI (p + lc n g m p))) (upd ψ x (nI (wv g p (lc n g m p)))))) := by
  have w := hT.1
  have fin : ∀ (i : Nat) (μ0 : Mem) (P : RES → Mem → Prop), i ≤ 8 → P (.inl (some (aI (nI (bi (a ≤ i)))))) μ0 → (nI i < nI a → P (.inl (some (aI 0))) μ0) ∧ (¬ nI i < nI a → P (.inl (some (aI 1))) μ0) := by
    intro i μ0 P hi h
    rw [nI_ltI (by omega) (by omega)]
    refine ⟨fun q => ?_, fun q => ?_⟩
    · rw [bi_f (by omega)] at h
      exact h
    · rw [bi_t (by omega)] at h
      exact h
  have key : ∀ d i, i + d = m → ∀ P, P (.inl (some (aI (nI (bi (a ≤ i + lc n g d (p + i))))))) (QS μ (upd φ 18 (nI (p + (i + lc n g d (p + i))))) (upd ψ x (nI (wv g p (i + lc n g d (p + i)))))) → p + i ≤ n → AW M_X6_wordHere 0 10 [some (aR 19 0), some (aI (nI x)), some (aI (nI a)), some (aI (nI m)), some (aI (nI i))] [] (QS μ (upd φ 18 (nI (p + i))) (upd ψ x (nI (wv g p i)))) P := by
    intro d
    induction d with
    | zero =>
      intro i hi P h _
      rw [lc, Nat.add_zero] at h
      refine B_X6_wordHere_10 ⟨fun _ => fin i _ P (by omega) h, fun q => absurd (nI_le (by omega) (by omega)) q⟩
    | succ d ih =>
      intro i hi P h hn
      have hP2 : PU (upd φ 18 (nI (p + i))) n (p + i) := ⟨hP.1, rfl, hn⟩
      have hh := m_here (ψ := upd ψ x (nI (wv g p i))) hT hP2
      have hi2 := hv_in (p := p + i) hT (a := 97) (b := 102) (by decide) (by decide)
      rw [lc] at h
      refine B_X6_wordHere_10 ⟨fun q => absurd q (nI_ge (by omega) (by omega)), fun _ => ⟨_, _, hh, _, _, m_in, ?_⟩⟩
      rw [show (97 : Int32) = nI 97 from rfl, show (102 : Int32) = nI 102 from rfl, hi2]
      by_cases c : isL n g (p + i)
      · rw [if_pos c] at h
        rw [bi_t c]
        refine ⟨fun q => absurd q (by decide), fun _ => ⟨vp_in_nI hx (by decide), _, _, hh, vp_in_nI hx (by decide), fun m27 e27 m31 e31 => ?_⟩⟩
        rw [show hv n g (p + i) = nI (g (p + i)) from if_pos c.1, nI_clamp (by omega), q26, QSt, upd_at, upd_upd, show (10 : Int32) = nI 10 from rfl, pk_mul, nI_add, pk_sub (by omega), show (1 : Int32) = nI 1 from rfl, nI_add] at e27
        rw [e27, q19, QSp, upd_at, upd_upd, show (1 : Int32) = nI 1 from rfl, nI_add] at e31
        rw [e31, show (1 : Int32) = nI 1 from rfl, nI_add]
        rw [show 10 * wv g p i + g (p + i) - 97 + 1 = wv g p (i + 1) by rw [wv]; omega]
        rw [show i + (lc n g d (p + i + 1) + 1) = (i + 1) + lc n g d (p + (i + 1)) by rw [show p + (i + 1) = p + i + 1 by omega]; omega] at h
        exact ih (i + 1) (by omega) P h (by omega)
      · rw [if_neg c, Nat.add_zero] at h
        rw [bi_f c]
        exact ⟨fun _ => fin i _ P (by omega) h, fun q => absurd rfl q⟩
  refine MetA.of2 k_X6_wordHere rfl (Nat.le_of_ble_eq_true rfl) rfl (B_X6_wordHere_0 ?_)
  refine ⟨vp_in_nI hx (by decide), fun m1 e1 => ?_⟩
  rw [q26, nI_clamp (by omega), QSt] at e1
  have k := key m 0 (by omega)
  rw [Nat.add_zero, Nat.zero_add, show upd φ 18 (nI p) = φ from by
    funext i
    rw [uget]
    by_cases c : i = 18
    · rw [if_pos c, c, hP.2.1]
    · rw [if_neg c]] at k
  rw [e1]
  exact k _ (rI_ok rfl rfl) hP.2.2
theorem m_orderHere (hT : TY μ n g) (hP : PU φ n p) (ht : φ 20 = nI t) (hx : t ≤ 30) : ∃ φ' ψ', MetA M_X6_orderHere [aR 19 0] (QS μ φ ψ) (rI (nI (if (pO n g p).1 = true then 1 else 0)) (QS μ φ' ψ')) ∧ PU φ' n (pO n g p).2.1 ∧ (∀ k, k ≠ 18 → φ' k = φ k) ∧ (∀ i, i < 4 * t → ψ' i = ψ i) ∧ ((pO n g p).1 = true → FQ ψ' (4 * t) (pO n g p).2.2) := by
  have w := hT.1
  have hP1 := hP
  have e4 : (4 : Int32) * nI t = nI (4 * t) := by rw [show (4 : Int32) = nI 4 from rfl, pk_mul]
  have e1 : nI (4 * t) + 1 = nI (4 * t + 1) := by rw [show (1 : Int32) = nI 1 from rfl, nI_add]
  have e2 : nI (4 * t) + 2 = nI (4 * t + 2) := by rw [show (2 : Int32) = nI 2 from rfl, nI_add]
  have e3 : nI (4 * t) + 3 = nI (4 * t + 3) := by rw [show (3 : Int32) = nI 3 from rfl, nI_add]
  have x0 : 4 * t < 124 := by omega
  have x1 : 4 * t + 1 < 124 := by omega
  have x2 : 4 * t + 2 < 124 := by omega
  have x3 : 4 * t + 3 < 124 := by omega
  obtain ⟨ψ1, eψ⟩ : ∃ ψ1, ψ1 = upd ψ (4 * t) (hv n g p) := ⟨_, rfl⟩
  have old : ∀ i, i < 4 * t → ψ1 i = ψ i := fun i hi => by rw [eψ, uget, if_neg (by omega)]
  have r18 : ∀ (v : Int32) k, k ≠ 18 → upd φ 18 v k = φ k := fun v k h => by rw [uget, if_neg h]
  have r18b : ∀ (v u : Int32) k, k ≠ 18 → upd (upd φ 18 u) 18 v k = φ k := fun v u k h => by rw [uget, if_neg h, uget, if_neg h]
  have start : ∀ P : RES → Mem → Prop, (∃ (r12 : Int32) (m9 : Mem), MetA M_X6_skips [aR 19 0, aI 101] (QS μ φ ψ1) (rI r12 m9) ∧ ((¬ r12 = 0 → P (.inl (some (aI 1))) m9) ∧ (r12 = 0 → ∃ (r19 : Int32) (m16 : Mem), MetA M_X6_skips [aR 19 0, aI 100] m9 (rI r19 m16) ∧ ((r19 = 0 → ∃ (r26 : Int32) (m23 : Mem), MetA M_X6_skips [aR 19 0, aI 104] m16 (rI r26 m23) ∧ ((r26 = 0 → ∃ (r33 : Int32) (m30 : Mem), MetA M_X6_skips [aR 19 0, aI 115] m23 (rI r33 m30) ∧ ((r33 = 0 → ∃ (r40 : Int32) (m37 : Mem), MetA M_X6_skips [aR 19 0, aI 109] m30 (rI r40 m37) ∧ ((r40 = 0 → ∃ (r47 : Int32) (m44 : Mem), MetA M_X6_skips [aR 19 0, aI 108] m37 (rI r47 m44) ∧ ((¬ r47 = 0 → ∃ (r54 : Int32) (m51 : Mem), MetA M_X6_figures [aR 19 0, aI (nI (4 * t + 1)), aI 1] m44 (rI r54 m51) ∧ ((r54 = 0 → P (.inl (some (aI 0))) m51) ∧ (¬ r54 = 0 → ∃ (r61 : Int32) (m58 : Mem), MetA M_X6_figures [aR 19 0, aI (nI (4 * t + 2)), aI 1] m51 (rI r61 m58) ∧ ((r61 = 0 → P (.inl (some (aI 0))) m58) ∧ (¬ r61 = 0 → P (.inl (some (aI 1))) m58))))) ∧ (r47 = 0 → ∃ (r68 : Int32) (m65 : Mem), MetA M_X6_skips [aR 19 0, aI 99] m44 (rI r68 m65) ∧ ((¬ r68 = 0 → ∃ (r75 : Int32) (m72 : Mem), MetA M_X6_figures [aR 19 0, aI (nI (4 * t + 1)), aI 1] m65 (rI r75 m72) ∧ ((r75 = 0 → P (.inl (some (aI 0))) m72) ∧ (¬ r75 = 0 → ∃ (r82 : Int32) (m79 : Mem), MetA M_X6_figures [aR 19 0, aI (nI (4 * t + 2)), aI 1] m72 (rI r82 m79) ∧ ((r82 = 0 → P (.inl (some (aI 0))) m79) ∧ (¬ r82 = 0 → P (.inl (some (aI 1))) m79))))) ∧ (r68 = 0 → ∃ (r89 : Int32) (m86 : Mem), MetA M_X6_skips [aR 19 0, aI 114] m65 (rI r89 m86) ∧ ((r89 = 0 → ∃ (r96 : Int32) (m93 : Mem), MetA M_X6_skips [aR 19 0, aI 120] m86 (rI r96 m93) ∧ ((r96 = 0 → P (.inl (some (aI 0))) m93) ∧ (¬ r96 = 0 → ∃ (r103 : Int32) (m100 : Mem), MetA M_X6_figures [aR 19 0, aI (nI (4 * t + 1)), aI 1] m93 (rI r103 m100) ∧ ((r103 = 0 → P (.inl (some (aI 0))) m100) ∧ (¬ r103 = 0 → P (.inl (some (aI 1))) m100))))) ∧ (¬ r89 = 0 → ∃ (r110 : Int32) (m107 : Mem), MetA M_X6_figures [aR 19 0, aI (nI (4 * t + 1)), aI 1] m86 (rI r110 m107) ∧ ((r110 = 0 → P (.inl (some (aI 0))) m107) ∧ (¬ r110 = 0 → ∃ (r117 : Int32) (m114 : Mem), MetA M_X6_figures [aR 19 0, aI (nI (4 * t + 2)), aI 1] m107 (rI r117 m114) ∧ ((r117 = 0 → P (.inl (some (aI 0))) m114) ∧ (¬ r117 = 0 → P (.inl (some (aI 1))) m114))))))))))) ∧ (¬ r40 = 0 → ∃ (r124 : Int32) (m121 : Mem), MetA M_X6_figures [aR 19 0, aI (nI (4 * t + 1)), aI 1] m37 (rI r124 m121) ∧ ((r124 = 0 → P (.inl (some (aI 0))) m121) ∧ (¬ r124 = 0 → ∃ (r131 : Int32) (m128 : Mem), MetA M_X6_figures [aR 19 0, aI (nI (4 * t + 2)), aI 1] m121 (rI r131 m128) ∧ ((r131 = 0 → P (.inl (some (aI 0))) m128) ∧ (¬ r131 = 0 → ∃ (r138 : Int32) (m135 : Mem), MetA M_X6_wordHere [aR 19 0, aI (nI (4 * t + 3)), aI 1, aI 1] m128 (rI r138 m135) ∧ ((r138 = 0 → P (.inl (some (aI 0))) m135) ∧ (¬ r138 = 0 → P (.inl (some (aI 1))) m135))))))))) ∧ (¬ r33 = 0 → ∃ (r145 : Int32) (m142 : Mem), MetA M_X6_figures [aR 19 0, aI (nI (4 * t + 1)), aI 1] m30 (rI r145 m142) ∧ ((r145 = 0 → P (.inl (some (aI 0))) m142) ∧ (¬ r145 = 0 → ∃ (r152 : Int32) (m149 : Mem), MetA M_X6_skips [aR 19 0, aI 61] m142 (rI r152 m149) ∧ ((r152 = 0 → P (.inl (some (aI 0))) m149) ∧ (¬ r152 = 0 → ∃ (r159 : Int32) (m156 : Mem), MetA M_X6_wordHere [aR 19 0, aI (nI (4 * t + 2)), aI 3, aI 8] m149 (rI r159 m156) ∧ ((r159 = 0 → P (.inl (some (aI 0))) m156) ∧ (¬ r159 = 0 → P (.inl (some (aI 1))) m156))))))))) ∧ (¬ r26 = 0 → ∃ (r166 : Int32) (m163 : Mem), MetA M_X6_figures [aR 19 0, aI (nI (4 * t + 1)), aI 2] m23 (rI r166 m163) ∧ (narrow .boolean (.int r166) = .int r166 ∧ P (.inl (some (aI r166))) m163)))) ∧ (¬ r19 = 0 → P (.inl (some (aI 1))) m16))))) → MetA M_X6_orderHere [aR 19 0] (QS μ φ ψ) P := by
    intro P h
    refine MetA.of2 k_X6_orderHere rfl (Nat.le_of_ble_eq_true rfl) rfl (B_X6_orderHere_0 ?_)
    rw [q19, ht, e4, e1, e2, e3, nI_clamp (by omega)]
    refine ⟨_, _, m_here hT hP, vp_in_nI x0 (by decide), fun m5 e5 => ?_⟩
    rw [q26, QSt, ← eψ] at e5
    rw [e5]
    exact h
  unfold pO
  by_cases c0 : p < n
  · rw [if_pos c0]
    have hg := (hT.2 p c0).2
    have hv1 : ψ1 (4 * t) = nI (g p) := by rw [eψ, uget, if_pos rfl]; exact if_pos c0
    have hP2 : PU (upd φ 18 (nI (p + 1))) n (p + 1) := hP.nx c0
    by_cases ch : g p = 104
    · rw [if_pos ch]
      have hC : isC n g p 104 := ⟨c0, by omega, by omega⟩
      have hN : ∀ z, z ≠ 104 → ¬ isC n g p z := fun z hz q => hz (by have := q.2; omega)
      by_cases d1 : isD n g (p + 1)
      · rw [if_pos d1]
        by_cases d2 : isD n g (p + 2)
        · rw [if_pos d2]
          exact ⟨_, _, start _ ⟨_, _, m_skips_n (c := 101) hT hP1 (by decide) (hN 101 (by decide)), fun q => absurd rfl q, fun _ => ⟨_, _, m_skips_n (c := 100) hT hP1 (by decide) (hN 100 (by decide)), fun _ => ⟨_, _, m_skips_y (c := 104) hT hP1 (by decide) hC, fun q => absurd q (by decide), fun _ => ⟨_, _, m_fig2_2 hT hP2 x1 d1 d2, rfl, rI_ok rfl rfl⟩⟩, fun q => absurd rfl q⟩⟩, ⟨hP.1, rfl, d2.1⟩, r18b _ _, fun i hi => by rw [uget, if_neg (by omega)]; exact old i hi, fun _ => ⟨by rw [uget, if_neg (by omega), hv1, ch], fun _ _ => upd_at, fun q => absurd q (by show ¬ (104 = 115 ∨ 104 = 109 ∨ 104 = 108 ∨ 104 = 99 ∨ 104 = 114); decide), fun q => absurd q (by show ¬ 104 = 109; decide)⟩⟩
        · rw [if_neg d2]
          exact ⟨_, _, start _ ⟨_, _, m_skips_n (c := 101) hT hP1 (by decide) (hN 101 (by decide)), fun q => absurd rfl q, fun _ => ⟨_, _, m_skips_n (c := 100) hT hP1 (by decide) (hN 100 (by decide)), fun _ => ⟨_, _, m_skips_y (c := 104) hT hP1 (by decide) hC, fun q => absurd q (by decide), fun _ => ⟨_, _, m_fig2_1 hT hP2 x1 d1 d2, rfl, rI_ok rfl rfl⟩⟩, fun q => absurd rfl q⟩⟩, ⟨hP.1, rfl, d1.1⟩, r18b _ _, fun i hi => by rw [uget, if_neg (by omega)]; exact old i hi, fun _ => ⟨by rw [uget, if_neg (by omega), hv1, ch], fun _ _ => upd_at, fun q => absurd q (by show ¬ (104 = 115 ∨ 104 = 109 ∨ 104 = 108 ∨ 104 = 99 ∨ 104 = 114); decide), fun q => absurd q (by show ¬ 104 = 109; decide)⟩⟩
      · rw [if_neg d1]
        exact ⟨_, _, start _ ⟨_, _, m_skips_n (c := 101) hT hP1 (by decide) (hN 101 (by decide)), fun q => absurd rfl q, fun _ => ⟨_, _, m_skips_n (c := 100) hT hP1 (by decide) (hN 100 (by decide)), fun _ => ⟨_, _, m_skips_y (c := 104) hT hP1 (by decide) hC, fun q => absurd q (by decide), fun _ => ⟨_, _, m_fig_n hT hP2 d1, rfl, rI_ok rfl rfl⟩⟩, fun q => absurd rfl q⟩⟩, hP2, r18 _, old, fun q => absurd q Bool.false_ne_true⟩
    rw [if_neg ch]
    by_cases cs : g p = 115
    · rw [if_pos cs]
      have hC : isC n g p 115 := ⟨c0, by omega, by omega⟩
      have hN : ∀ z, z ≠ 115 → ¬ isC n g p z := fun z hz q => hz (by have := q.2; omega)
      by_cases d1 : isD n g (p + 1)
      · rw [if_pos d1]
        have hP3 : PU (upd (upd φ 18 (nI (p + 1))) 18 (nI (p + 1 + 1))) n (p + 2) := ⟨hP.1, rfl, d1.1⟩
        by_cases d2 : isC n g (p + 2) 61
        · rw [if_pos d2]
          have hP4 : PU (upd (upd (upd φ 18 (nI (p + 1))) 18 (nI (p + 1 + 1))) 18 (nI (p + 2 + 1))) n (p + 3) := ⟨hP.1, rfl, d2.1⟩
          have hw := m_word (ψ := upd ψ1 (4 * t + 1) (nI (g (p + 1) - 48))) (a := 3) (m := 8) hT hP4 x2 (by decide) (by decide)
          have ll := lc_le (n := n) (g := g) 8 (p + 3) d2.1
          by_cases d3 : 3 ≤ lc n g 8 (p + 3)
          · rw [bi_t d3] at hw
            refine ⟨_, _, start _ ⟨_, _, m_skips_n (c := 101) hT hP1 (by decide) (hN 101 (by decide)), fun q => absurd rfl q, fun _ => ⟨_, _, m_skips_n (c := 100) hT hP1 (by decide) (hN 100 (by decide)), fun _ => ⟨_, _, m_skips_n (c := 104) hT hP1 (by decide) (hN 104 (by decide)), fun _ => ⟨_, _, m_skips_y (c := 115) hT hP1 (by decide) hC, fun q => absurd q (by decide), fun _ => ⟨_, _, m_fig1_y hT hP2 x1 d1, fun q => absurd q (by decide), fun _ => ⟨_, _, m_skips_y (c := 61) hT hP3 (by decide) d2, fun q => absurd q (by decide), fun _ => ⟨_, _, hw, fun q => absurd q (by decide), fun _ => rI_ok (by rw [if_pos (decide_eq_true d3)]; rfl) rfl⟩⟩⟩⟩, fun q => absurd rfl q⟩, fun q => absurd rfl q⟩⟩, ⟨hP.1, rfl, ll.2⟩, fun k h => by rw [uget, if_neg h, uget, if_neg h]; exact r18b _ _ k h, fun i hi => by rw [uget, if_neg (by omega), uget, if_neg (by omega)]; exact old i hi, fun _ => ⟨by rw [uget, if_neg (by omega), uget, if_neg (by omega), hv1, cs], fun _ _ => by rw [uget, if_neg (by omega), uget, if_pos rfl], fun _ => upd_at, fun q => absurd q (by show ¬ 115 = 109; decide)⟩⟩
          · rw [bi_f d3] at hw
            refine ⟨_, _, start _ ⟨_, _, m_skips_n (c := 101) hT hP1 (by decide) (hN 101 (by decide)), fun q => absurd rfl q, fun _ => ⟨_, _, m_skips_n (c := 100) hT hP1 (by decide) (hN 100 (by decide)), fun _ => ⟨_, _, m_skips_n (c := 104) hT hP1 (by decide) (hN 104 (by decide)), fun _ => ⟨_, _, m_skips_y (c := 115) hT hP1 (by decide) hC, fun q => absurd q (by decide), fun _ => ⟨_, _, m_fig1_y hT hP2 x1 d1, fun q => absurd q (by decide), fun _ => ⟨_, _, m_skips_y (c := 61) hT hP3 (by decide) d2, fun q => absurd q (by decide), fun _ => ⟨_, _, hw, fun _ => rI_ok (by rw [if_neg (by rw [decide_eq_false d3]; exact Bool.false_ne_true)]; rfl) rfl, fun q => absurd rfl q⟩⟩⟩⟩, fun q => absurd rfl q⟩, fun q => absurd rfl q⟩⟩, ⟨hP.1, rfl, ll.2⟩, fun k h => by rw [uget, if_neg h, uget, if_neg h]; exact r18b _ _ k h, fun i hi => by rw [uget, if_neg (by omega), uget, if_neg (by omega)]; exact old i hi, fun q => absurd (of_decide_eq_true q) d3⟩
        · rw [if_neg d2]
          exact ⟨_, _, start _ ⟨_, _, m_skips_n (c := 101) hT hP1 (by decide) (hN 101 (by decide)), fun q => absurd rfl q, fun _ => ⟨_, _, m_skips_n (c := 100) hT hP1 (by decide) (hN 100 (by decide)), fun _ => ⟨_, _, m_skips_n (c := 104) hT hP1 (by decide) (hN 104 (by decide)), fun _ => ⟨_, _, m_skips_y (c := 115) hT hP1 (by decide) hC, fun q => absurd q (by decide), fun _ => ⟨_, _, m_fig1_y hT hP2 x1 d1, fun q => absurd q (by decide), fun _ => ⟨_, _, m_skips_n (c := 61) hT hP3 (by decide) d2, fun _ => rI_ok rfl rfl, fun q => absurd rfl q⟩⟩⟩, fun q => absurd rfl q⟩, fun q => absurd rfl q⟩⟩, hP3, r18b _ _, fun i hi => by rw [uget, if_neg (by omega)]; exact old i hi, fun q => absurd q Bool.false_ne_true⟩
      · rw [if_neg d1]
        exact ⟨_, _, start _ ⟨_, _, m_skips_n (c := 101) hT hP1 (by decide) (hN 101 (by decide)), fun q => absurd rfl q, fun _ => ⟨_, _, m_skips_n (c := 100) hT hP1 (by decide) (hN 100 (by decide)), fun _ => ⟨_, _, m_skips_n (c := 104) hT hP1 (by decide) (hN 104 (by decide)), fun _ => ⟨_, _, m_skips_y (c := 115) hT hP1 (by decide) hC, fun q => absurd q (by decide), fun _ => ⟨_, _, m_fig_n hT hP2 d1, fun _ => rI_ok rfl rfl, fun q => absurd rfl q⟩⟩, fun q => absurd rfl q⟩, fun q => absurd rfl q⟩⟩, hP2, r18 _, old, fun q => absurd q Bool.false_ne_true⟩
    rw [if_neg cs]
    by_cases cm : g p = 109
    · rw [if_pos cm]
      have hC : isC n g p 109 := ⟨c0, by omega, by omega⟩
      have hN : ∀ z, z ≠ 109 → ¬ isC n g p z := fun z hz q => hz (by have := q.2; omega)
      by_cases d1 : isD n g (p + 1)
      · rw [if_pos d1]
        have hP3 : PU (upd (upd φ 18 (nI (p + 1))) 18 (nI (p + 1 + 1))) n (p + 2) := ⟨hP.1, rfl, d1.1⟩
        by_cases d2 : isD n g (p + 2)
        · rw [if_pos d2]
          have hP4 : PU (upd (upd (upd φ 18 (nI (p + 1))) 18 (nI (p + 1 + 1))) 18 (nI (p + 2 + 1))) n (p + 3) := ⟨hP.1, rfl, d2.1⟩
          have hw := m_word (ψ := upd (upd ψ1 (4 * t + 1) (nI (g (p + 1) - 48))) (4 * t + 2) (nI (g (p + 2) - 48))) (a := 1) (m := 1) hT hP4 x3 (by decide) (by decide)
          rw [lc_1] at hw
          by_cases d3 : isL n g (p + 3)
          · rw [if_pos d3]
            rw [if_pos d3, bi_t (Nat.le_refl 1), show wv g (p + 3) 1 = g (p + 3) - 96 by rw [wv, wv, Nat.add_zero]; omega] at hw
            refine ⟨_, _, start _ ⟨_, _, m_skips_n (c := 101) hT hP1 (by decide) (hN 101 (by decide)), fun q => absurd rfl q, fun _ => ⟨_, _, m_skips_n (c := 100) hT hP1 (by decide) (hN 100 (by decide)), fun _ => ⟨_, _, m_skips_n (c := 104) hT hP1 (by decide) (hN 104 (by decide)), fun _ => ⟨_, _, m_skips_n (c := 115) hT hP1 (by decide) (hN 115 (by decide)), fun _ => ⟨_, _, m_skips_y (c := 109) hT hP1 (by decide) hC, fun q => absurd q (by decide), fun _ => ⟨_, _, m_fig1_y hT hP2 x1 d1, fun q => absurd q (by decide), fun _ => ⟨_, _, m_fig1_y hT hP3 x2 d2, fun q => absurd q (by decide), fun _ => ⟨_, _, hw, fun q => absurd q (by decide), fun _ => rI_ok rfl rfl⟩⟩⟩⟩, fun q => absurd rfl q⟩, fun q => absurd rfl q⟩, fun q => absurd rfl q⟩⟩, ⟨hP.1, rfl, d3.1⟩, fun k h => by rw [uget, if_neg h, uget, if_neg h]; exact r18b _ _ k h, fun i hi => by rw [uget, if_neg (by omega), uget, if_neg (by omega), uget, if_neg (by omega)]; exact old i hi, fun _ => ⟨by rw [uget, if_neg (by omega), uget, if_neg (by omega), uget, if_neg (by omega), hv1, cm], fun _ _ => by rw [uget, if_neg (by omega), uget, if_neg (by omega), uget, if_pos rfl], fun _ => by rw [uget, if_neg (by omega), uget, if_pos rfl], fun _ => ⟨upd_at, d3.2.1, d3.2.2⟩⟩⟩
          · rw [if_neg d3]
            rw [if_neg d3, bi_f (by omega), Nat.add_zero] at hw
            refine ⟨_, _, start _ ⟨_, _, m_skips_n (c := 101) hT hP1 (by decide) (hN 101 (by decide)), fun q => absurd rfl q, fun _ => ⟨_, _, m_skips_n (c := 100) hT hP1 (by decide) (hN 100 (by decide)), fun _ => ⟨_, _, m_skips_n (c := 104) hT hP1 (by decide) (hN 104 (by decide)), fun _ => ⟨_, _, m_skips_n (c := 115) hT hP1 (by decide) (hN 115 (by decide)), fun _ => ⟨_, _, m_skips_y (c := 109) hT hP1 (by decide) hC, fun q => absurd q (by decide), fun _ => ⟨_, _, m_fig1_y hT hP2 x1 d1, fun q => absurd q (by decide), fun _ => ⟨_, _, m_fig1_y hT hP3 x2 d2, fun q => absurd q (by decide), fun _ => ⟨_, _, hw, fun _ => rI_ok rfl rfl, fun q => absurd rfl q⟩⟩⟩⟩, fun q => absurd rfl q⟩, fun q => absurd rfl q⟩, fun q => absurd rfl q⟩⟩, ⟨hP.1, rfl, d2.1⟩, fun k h => by rw [uget, if_neg h, uget, if_neg h]; exact r18b _ _ k h, fun i hi => by rw [uget, if_neg (by omega), uget, if_neg (by omega), uget, if_neg (by omega)]; exact old i hi, fun q => absurd q Bool.false_ne_true⟩
        · rw [if_neg d2]
          exact ⟨_, _, start _ ⟨_, _, m_skips_n (c := 101) hT hP1 (by decide) (hN 101 (by decide)), fun q => absurd rfl q, fun _ => ⟨_, _, m_skips_n (c := 100) hT hP1 (by decide) (hN 100 (by decide)), fun _ => ⟨_, _, m_skips_n (c := 104) hT hP1 (by decide) (hN 104 (by decide)), fun _ => ⟨_, _, m_skips_n (c := 115) hT hP1 (by decide) (hN 115 (by decide)), fun _ => ⟨_, _, m_skips_y (c := 109) hT hP1 (by decide) hC, fun q => absurd q (by decide), fun _ => ⟨_, _, m_fig1_y hT hP2 x1 d1, fun q => absurd q (by decide), fun _ => ⟨_, _, m_fig_n hT hP3 d2, fun _ => rI_ok rfl rfl, fun q => absurd rfl q⟩⟩⟩, fun q => absurd rfl q⟩, fun q => absurd rfl q⟩, fun q => absurd rfl q⟩⟩, hP3, r18b _ _, fun i hi => by rw [uget, if_neg (by omega)]; exact old i hi, fun q => absurd q Bool.false_ne_true⟩
      · rw [if_neg d1]
        exact ⟨_, _, start _ ⟨_, _, m_skips_n (c := 101) hT hP1 (by decide) (hN 101 (by decide)), fun q => absurd rfl q, fun _ => ⟨_, _, m_skips_n (c := 100) hT hP1 (by decide) (hN 100 (by decide)), fun _ => ⟨_, _, m_skips_n (c := 104) hT hP1 (by decide) (hN 104 (by decide)), fun _ => ⟨_, _, m_skips_n (c := 115) hT hP1 (by decide) (hN 115 (by decide)), fun _ => ⟨_, _, m_skips_y (c := 109) hT hP1 (by decide) hC, fun q => absurd q (by decide), fun _ => ⟨_, _, m_fig_n hT hP2 d1, fun _ => rI_ok rfl rfl, fun q => absurd rfl q⟩⟩, fun q => absurd rfl q⟩, fun q => absurd rfl q⟩, fun q => absurd rfl q⟩⟩, hP2, r18 _, old, fun q => absurd q Bool.false_ne_true⟩
    rw [if_neg cm]
    by_cases cl : g p = 108 ∨ g p = 99 ∨ g p = 114
    · rw [if_pos cl]
      have hP3 : isD n g (p + 1) → PU (upd (upd φ 18 (nI (p + 1))) 18 (nI (p + 1 + 1))) n (p + 2) := fun d1 => ⟨hP.1, rfl, d1.1⟩
      have lcr : ∀ (b : Bool) (φ2 ψ2 : Nat → Int32), (∃ (r61 : Int32) (m58 : Mem), MetA M_X6_figures [aR 19 0, aI (nI (4 * t + 1)), aI (nI 1)] (QS μ (upd φ 18 (nI (p + 1))) ψ1) (rI r61 m58) ∧ (r61 = 0 → b = false ∧ m58 = QS μ φ2 ψ2) ∧ (¬ r61 = 0 → ∃ (r82 : Int32) (m79 : Mem), MetA M_X6_figures [aR 19 0, aI (nI (4 * t + 2)), aI (nI 1)] m58 (rI r82 m79) ∧ (r82 = 0 → b = false ∧ m79 = QS μ φ2 ψ2) ∧ (¬ r82 = 0 → b = true ∧ m79 = QS μ φ2 ψ2))) → MetA M_X6_orderHere [aR 19 0] (QS μ φ ψ) (rI (nI (if b = true then 1 else 0)) (QS μ φ2 ψ2)) := by
        intro b φ2 ψ2 ⟨r1, m1, h1, h2, h3⟩
        have z : ∀ m, b = false ∧ m = QS μ φ2 ψ2 → rI (nI (if b = true then 1 else 0)) (QS μ φ2 ψ2) (.inl (some (aI 0))) m := fun m q => rI_ok (by rw [q.1]; rfl) q.2
        have o : ∀ m, b = true ∧ m = QS μ φ2 ψ2 → rI (nI (if b = true then 1 else 0)) (QS μ φ2 ψ2) (.inl (some (aI 1))) m := fun m q => rI_ok (by rw [q.1]; rfl) q.2
        rcases cl with cl | cl | cl
        · skip
          have hC : isC n g p 108 := ⟨c0, by omega, by omega⟩
          have hN : ∀ z, z ≠ 108 → ¬ isC n g p z := fun z hz q => hz (by have := q.2; omega)
          exact start _ ⟨_, _, m_skips_n (c := 101) hT hP1 (by decide) (hN 101 (by decide)), fun q => absurd rfl q, fun _ => ⟨_, _, m_skips_n (c := 100) hT hP1 (by decide) (hN 100 (by decide)), fun _ => ⟨_, _, m_skips_n (c := 104) hT hP1 (by decide) (hN 104 (by decide)), fun _ => ⟨_, _, m_skips_n (c := 115) hT hP1 (by decide) (hN 115 (by decide)), fun _ => ⟨_, _, m_skips_n (c := 109) hT hP1 (by decide) (hN 109 (by decide)), fun _ => ⟨_, _, m_skips_y (c := 108) hT hP1 (by decide) hC, fun _ => ⟨r1, m1, h1, fun q => z _ (h2 q), fun q => by obtain ⟨r2, m2, g1, g2, g3⟩ := h3 q; exact ⟨r2, m2, g1, fun y => z _ (g2 y), fun y => o _ (g3 y)⟩⟩, fun q => absurd q (by decide)⟩, fun q => absurd rfl q⟩, fun q => absurd rfl q⟩, fun q => absurd rfl q⟩, fun q => absurd rfl q⟩⟩
        · skip
          have hC : isC n g p 99 := ⟨c0, by omega, by omega⟩
          have hN : ∀ z, z ≠ 99 → ¬ isC n g p z := fun z hz q => hz (by have := q.2; omega)
          exact start _ ⟨_, _, m_skips_n (c := 101) hT hP1 (by decide) (hN 101 (by decide)), fun q => absurd rfl q, fun _ => ⟨_, _, m_skips_n (c := 100) hT hP1 (by decide) (hN 100 (by decide)), fun _ => ⟨_, _, m_skips_n (c := 104) hT hP1 (by decide) (hN 104 (by decide)), fun _ => ⟨_, _, m_skips_n (c := 115) hT hP1 (by decide) (hN 115 (by decide)), fun _ => ⟨_, _, m_skips_n (c := 109) hT hP1 (by decide) (hN 109 (by decide)), fun _ => ⟨_, _, m_skips_n (c := 108) hT hP1 (by decide) (hN 108 (by decide)), fun q => absurd rfl q, fun _ => ⟨_, _, m_skips_y (c := 99) hT hP1 (by decide) hC, fun _ => ⟨r1, m1, h1, fun q => z _ (h2 q), fun q => by obtain ⟨r2, m2, g1, g2, g3⟩ := h3 q; exact ⟨r2, m2, g1, fun y => z _ (g2 y), fun y => o _ (g3 y)⟩⟩, fun q => absurd q (by decide)⟩⟩, fun q => absurd rfl q⟩, fun q => absurd rfl q⟩, fun q => absurd rfl q⟩, fun q => absurd rfl q⟩⟩
        · skip
          have hC : isC n g p 114 := ⟨c0, by omega, by omega⟩
          have hN : ∀ z, z ≠ 114 → ¬ isC n g p z := fun z hz q => hz (by have := q.2; omega)
          exact start _ ⟨_, _, m_skips_n (c := 101) hT hP1 (by decide) (hN 101 (by decide)), fun q => absurd rfl q, fun _ => ⟨_, _, m_skips_n (c := 100) hT hP1 (by decide) (hN 100 (by decide)), fun _ => ⟨_, _, m_skips_n (c := 104) hT hP1 (by decide) (hN 104 (by decide)), fun _ => ⟨_, _, m_skips_n (c := 115) hT hP1 (by decide) (hN 115 (by decide)), fun _ => ⟨_, _, m_skips_n (c := 109) hT hP1 (by decide) (hN 109 (by decide)), fun _ => ⟨_, _, m_skips_n (c := 108) hT hP1 (by decide) (hN 108 (by decide)), fun q => absurd rfl q, fun _ => ⟨_, _, m_skips_n (c := 99) hT hP1 (by decide) (hN 99 (by decide)), fun q => absurd rfl q, fun _ => ⟨_, _, m_skips_y (c := 114) hT hP1 (by decide) hC, fun q => absurd q (by decide), fun _ => ⟨r1, m1, h1, fun q => z _ (h2 q), fun q => by obtain ⟨r2, m2, g1, g2, g3⟩ := h3 q; exact ⟨r2, m2, g1, fun y => z _ (g2 y), fun y => o _ (g3 y)⟩⟩⟩⟩⟩, fun q => absurd rfl q⟩, fun q => absurd rfl q⟩, fun q => absurd rfl q⟩, fun q => absurd rfl q⟩⟩
      by_cases d1 : isD n g (p + 1)
      · rw [if_pos d1]
        by_cases d2 : isD n g (p + 2)
        · rw [if_pos d2]
          exact ⟨_, _, lcr true _ _ ⟨_, _, m_fig1_y hT hP2 x1 d1, fun q => absurd q (by decide), fun _ => ⟨_, _, m_fig1_y hT (hP3 d1) x2 d2, fun q => absurd q (by decide), fun _ => ⟨rfl, rfl⟩⟩⟩, ⟨hP.1, rfl, d2.1⟩, fun k h => by rw [uget, if_neg h]; exact r18b _ _ k h, fun i hi => by rw [uget, if_neg (by omega), uget, if_neg (by omega)]; exact old i hi, fun _ => ⟨by rw [uget, if_neg (by omega), uget, if_neg (by omega)]; exact hv1, fun _ _ => by rw [uget, if_neg (by omega), uget, if_pos rfl], fun _ => upd_at, fun q => absurd (show g p = 109 from q) cm⟩⟩
        · rw [if_neg d2]
          exact ⟨_, _, lcr false _ _ ⟨_, _, m_fig1_y hT hP2 x1 d1, fun q => absurd q (by decide), fun _ => ⟨_, _, m_fig_n hT (hP3 d1) d2, fun _ => ⟨rfl, rfl⟩, fun q => absurd rfl q⟩⟩, hP3 d1, r18b _ _, fun i hi => by rw [uget, if_neg (by omega)]; exact old i hi, fun q => absurd q Bool.false_ne_true⟩
      · rw [if_neg d1]
        exact ⟨_, _, lcr false _ _ ⟨_, _, m_fig_n hT hP2 d1, fun _ => ⟨rfl, rfl⟩, fun q => absurd rfl q⟩, hP2, r18 _, old, fun q => absurd q Bool.false_ne_true⟩
    rw [if_neg cl]
    by_cases cx : g p = 120
    · rw [if_pos cx]
      have hC : isC n g p 120 := ⟨c0, by omega, by omega⟩
      have hN : ∀ z, z ≠ 120 → ¬ isC n g p z := fun z hz q => hz (by have := q.2; omega)
      by_cases d1 : isD n g (p + 1)
      · rw [if_pos d1]
        exact ⟨_, _, start _ ⟨_, _, m_skips_n (c := 101) hT hP1 (by decide) (hN 101 (by decide)), fun q => absurd rfl q, fun _ => ⟨_, _, m_skips_n (c := 100) hT hP1 (by decide) (hN 100 (by decide)), fun _ => ⟨_, _, m_skips_n (c := 104) hT hP1 (by decide) (hN 104 (by decide)), fun _ => ⟨_, _, m_skips_n (c := 115) hT hP1 (by decide) (hN 115 (by decide)), fun _ => ⟨_, _, m_skips_n (c := 109) hT hP1 (by decide) (hN 109 (by decide)), fun _ => ⟨_, _, m_skips_n (c := 108) hT hP1 (by decide) (hN 108 (by decide)), fun q => absurd rfl q, fun _ => ⟨_, _, m_skips_n (c := 99) hT hP1 (by decide) (hN 99 (by decide)), fun q => absurd rfl q, fun _ => ⟨_, _, m_skips_n (c := 114) hT hP1 (by decide) (hN 114 (by decide)), fun _ => ⟨_, _, m_skips_y (c := 120) hT hP1 (by decide) hC, fun q => absurd q (by decide), fun _ => ⟨_, _, m_fig1_y hT hP2 x1 d1, fun q => absurd q (by decide), fun _ => rI_ok rfl rfl⟩⟩, fun q => absurd rfl q⟩⟩⟩, fun q => absurd rfl q⟩, fun q => absurd rfl q⟩, fun q => absurd rfl q⟩, fun q => absurd rfl q⟩⟩, ⟨hP.1, rfl, d1.1⟩, r18b _ _, fun i hi => by rw [uget, if_neg (by omega)]; exact old i hi, fun _ => ⟨by rw [uget, if_neg (by omega), hv1, cx], fun _ _ => upd_at, fun q => absurd q (by show ¬ (120 = 115 ∨ 120 = 109 ∨ 120 = 108 ∨ 120 = 99 ∨ 120 = 114); decide), fun q => absurd q (by show ¬ 120 = 109; decide)⟩⟩
      · rw [if_neg d1]
        exact ⟨_, _, start _ ⟨_, _, m_skips_n (c := 101) hT hP1 (by decide) (hN 101 (by decide)), fun q => absurd rfl q, fun _ => ⟨_, _, m_skips_n (c := 100) hT hP1 (by decide) (hN 100 (by decide)), fun _ => ⟨_, _, m_skips_n (c := 104) hT hP1 (by decide) (hN 104 (by decide)), fun _ => ⟨_, _, m_skips_n (c := 115) hT hP1 (by decide) (hN 115 (by decide)), fun _ => ⟨_, _, m_skips_n (c := 109) hT hP1 (by decide) (hN 109 (by decide)), fun _ => ⟨_, _, m_skips_n (c := 108) hT hP1 (by decide) (hN 108 (by decide)), fun q => absurd rfl q, fun _ => ⟨_, _, m_skips_n (c := 99) hT hP1 (by decide) (hN 99 (by decide)), fun q => absurd rfl q, fun _ => ⟨_, _, m_skips_n (c := 114) hT hP1 (by decide) (hN 114 (by decide)), fun _ => ⟨_, _, m_skips_y (c := 120) hT hP1 (by decide) hC, fun q => absurd q (by decide), fun _ => ⟨_, _, m_fig_n hT hP2 d1, fun _ => rI_ok rfl rfl, fun q => absurd rfl q⟩⟩, fun q => absurd rfl q⟩⟩⟩, fun q => absurd rfl q⟩, fun q => absurd rfl q⟩, fun q => absurd rfl q⟩, fun q => absurd rfl q⟩⟩, hP2, r18 _, old, fun q => absurd q Bool.false_ne_true⟩
    rw [if_neg cx]
    by_cases ce : g p = 101
    · rw [if_pos (Or.inl ce)]
      have hC : isC n g p 101 := ⟨c0, by omega, by omega⟩
      have hN : ∀ z, z ≠ 101 → ¬ isC n g p z := fun z hz q => hz (by have := q.2; omega)
      exact ⟨_, _, start _ ⟨_, _, m_skips_y (c := 101) hT hP1 (by decide) hC, fun _ => rI_ok rfl rfl, fun q => absurd q (by decide)⟩, hP2, r18 _, old, fun _ => ⟨hv1, fun q1 q2 => absurd (show g p = 101 from ce) q2, fun q => absurd (show g p = 115 ∨ g p = 109 ∨ g p = 108 ∨ g p = 99 ∨ g p = 114 from q) (by omega), fun q => absurd (show g p = 109 from q) cm⟩⟩
    by_cases cd : g p = 100
    · rw [if_pos (Or.inr cd)]
      have hC : isC n g p 100 := ⟨c0, by omega, by omega⟩
      have hN : ∀ z, z ≠ 100 → ¬ isC n g p z := fun z hz q => hz (by have := q.2; omega)
      exact ⟨_, _, start _ ⟨_, _, m_skips_n (c := 101) hT hP1 (by decide) (hN 101 (by decide)), fun q => absurd rfl q, fun _ => ⟨_, _, m_skips_y (c := 100) hT hP1 (by decide) hC, fun q => absurd q (by decide), fun _ => rI_ok rfl rfl⟩⟩, hP2, r18 _, old, fun _ => ⟨hv1, fun q1 q2 => absurd (show g p = 100 from cd) q1, fun q => absurd (show g p = 115 ∨ g p = 109 ∨ g p = 108 ∨ g p = 99 ∨ g p = 114 from q) (by omega), fun q => absurd (show g p = 109 from q) cm⟩⟩
    rw [if_neg (show ¬ (g p = 101 ∨ g p = 100) from fun z => z.elim ce cd)]
    have hN : ∀ z, z = 101 ∨ z = 100 ∨ z = 104 ∨ z = 115 ∨ z = 109 ∨ z = 108 ∨ z = 99 ∨ z = 114 ∨ z = 120 → ¬ isC n g p z := fun z hz q => by have := q.2; omega
    exact ⟨_, _, start _ ⟨_, _, m_skips_n (c := 101) hT hP1 (by decide) (hN 101 (by decide)), fun q => absurd rfl q, fun _ => ⟨_, _, m_skips_n (c := 100) hT hP1 (by decide) (hN 100 (by decide)), fun _ => ⟨_, _, m_skips_n (c := 104) hT hP1 (by decide) (hN 104 (by decide)), fun _ => ⟨_, _, m_skips_n (c := 115) hT hP1 (by decide) (hN 115 (by decide)), fun _ => ⟨_, _, m_skips_n (c := 109) hT hP1 (by decide) (hN 109 (by decide)), fun _ => ⟨_, _, m_skips_n (c := 108) hT hP1 (by decide) (hN 108 (by decide)), fun q => absurd rfl q, fun _ => ⟨_, _, m_skips_n (c := 99) hT hP1 (by decide) (hN 99 (by decide)), fun q => absurd rfl q, fun _ => ⟨_, _, m_skips_n (c := 114) hT hP1 (by decide) (hN 114 (by decide)), fun _ => ⟨_, _, m_skips_n (c := 120) hT hP1 (by decide) (hN 120 (by decide)), fun _ => rI_ok rfl rfl, fun q => absurd rfl q⟩, fun q => absurd rfl q⟩⟩⟩, fun q => absurd rfl q⟩, fun q => absurd rfl q⟩, fun q => absurd rfl q⟩, fun q => absurd rfl q⟩⟩, hP, fun _ _ => rfl, old, fun q => absurd q Bool.false_ne_true⟩
  · rw [if_neg c0]
    have hN : ∀ z, z = 101 ∨ z = 100 ∨ z = 104 ∨ z = 115 ∨ z = 109 ∨ z = 108 ∨ z = 99 ∨ z = 114 ∨ z = 120 → ¬ isC n g p z := fun z _ q => c0 q.1
    exact ⟨_, _, start _ ⟨_, _, m_skips_n (c := 101) hT hP1 (by decide) (hN 101 (by decide)), fun q => absurd rfl q, fun _ => ⟨_, _, m_skips_n (c := 100) hT hP1 (by decide) (hN 100 (by decide)), fun _ => ⟨_, _, m_skips_n (c := 104) hT hP1 (by decide) (hN 104 (by decide)), fun _ => ⟨_, _, m_skips_n (c := 115) hT hP1 (by decide) (hN 115 (by decide)), fun _ => ⟨_, _, m_skips_n (c := 109) hT hP1 (by decide) (hN 109 (by decide)), fun _ => ⟨_, _, m_skips_n (c := 108) hT hP1 (by decide) (hN 108 (by decide)), fun q => absurd rfl q, fun _ => ⟨_, _, m_skips_n (c := 99) hT hP1 (by decide) (hN 99 (by decide)), fun q => absurd rfl q, fun _ => ⟨_, _, m_skips_n (c := 114) hT hP1 (by decide) (hN 114 (by decide)), fun _ => ⟨_, _, m_skips_n (c := 120) hT hP1 (by decide) (hN 120 (by decide)), fun _ => rI_ok rfl rfl, fun q => absurd rfl q⟩, fun q => absurd rfl q⟩⟩⟩, fun q => absurd rfl q⟩, fun q => absurd rfl q⟩, fun q => absurd rfl q⟩, fun q => absurd rfl q⟩⟩, hP, fun _ _ => rfl, old, fun q => absurd q Bool.false_ne_true⟩
end RK
