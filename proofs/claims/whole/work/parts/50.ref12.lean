/-! the reference: a text carried out -/
theorem uT_no {n : Nat} {g : Nat → Nat} {p : Nat} (h0 : ¬ p = 0) (h : ¬ isC n g p 59) : ∀ f, uT n g f p = (false, p, [])
  | 0 => rfl
  | f + 1 => by
    have e : nO n g p = (false, p, (0, 0, 0, 0)) := by rw [nO, if_neg h0, if_neg h]
    rw [uT, e]
    exact if_neg Bool.false_ne_true
def MC (μ μ' : Mem) (A : SP) (c : CH) : Prop := match c with
  | .inl p => RM (μ' 20 0) p.2 ∧ Mf μ μ' A
  | .inr p => ∃ k, 1 ≤ k ∧ k ≤ 3 ∧ Rf μ μ' k p
theorem cdl_in : ∀ (l : List Nat) (a e : Nat), 1 ≤ cdl (a :: l) e ∧ cdl (a :: l) e ≤ l.length + 1
  | [], a, e => by
    rw [cdl]
    split
    · exact ⟨Nat.le_refl _, Nat.le_refl _⟩
    · exact ⟨Nat.le_refl _, Nat.le_refl _⟩
  | b :: l, a, e => by
    have := cdl_in l b e
    rw [cdl]
    split
    · exact ⟨Nat.le_refl _, by omega⟩
    · exact ⟨by omega, by rw [List.length_cons]; omega⟩
section RL
variable {μ : Mem} {φ ψ : Nat → Int32} {A : SP} {T : TT} {n p q x t : Nat} {g : Nat → Nat}
theorem CI.mc {M : MI} {as : List AV} {a : Nat} {l : List Nat} {c : CH} (h : CI M as μ A (a :: l) c) (hl : l.length ≤ 2) : ∃ μ' v, MetA M (aR 19 0 :: as) μ (rI v μ') ∧ MC μ μ' A c := by
  obtain ⟨μ', v, h1, h2, -⟩ := h
  refine ⟨μ', v, h1, ?_⟩
  cases c with
  | inl p => exact h2
  | inr p =>
    have := cdl_in l a p.1
    exact ⟨_, this.1, by omega, h2⟩
theorem m_isText (hT : TY μ n g) (h14 : φ 14 = nI n) : ∃ φ' ψ', MetA M_X6_isText [aR 19 0] (QS μ φ ψ) (rI (nI (if (uT n g 61 0).1 = true then 1 else 0)) (QS μ φ' ψ')) ∧ φ' 18 = nI (uT n g 61 0).2.1 ∧ (∀ k, k ≠ 18 → k ≠ 20 → φ' k = φ k) ∧ ((uT n g 61 0).1 = true → φ' 20 = nI (uT n g 61 0).2.2.length ∧ (uT n g 61 0).2.2.length ≤ 30 ∧ ∀ i o, (uT n g 61 0).2.2[i]? = some o → okO o ∧ FQ ψ' (4 * i) o) := by
  have w := hT.1
  have key : ∀ f p q t φ ψ, p ≤ n → n < f + p → nO n g p = pO n g q → PU φ n q → φ 20 = nI t → 2 * t ≤ q → p ≤ q → ∃ φ' ψ', (∀ P : RES → Mem → Prop, P (.inl (some (aI (nI (if (uT n g f p).1 = true then 1 else 0))))) (QS μ φ' ψ') → AW M_X6_isText 0 10 [some (aR 19 0)] [] (QS μ φ ψ) P) ∧ φ' 18 = nI (uT n g f p).2.1 ∧ (∀ k, k ≠ 18 → k ≠ 20 → φ' k = φ k) ∧ (∀ i, i < 4 * t → ψ' i = ψ i) ∧ ((uT n g f p).1 = true → φ' 20 = nI (t + (uT n g f p).2.2.length) ∧ t + (uT n g f p).2.2.length ≤ 30 ∧ ∀ i o, (uT n g f p).2.2[i]? = some o → okO o ∧ FQ ψ' (4 * (t + i)) o) := by
    intro f
    induction f with
    | zero =>
      intro p q t φ ψ h1 h2
      exact absurd h2 (by omega)
    | succ f ih =>
      intro p q t φ ψ hp hf hpq hP ht h2t hle
      have hq := hP.2.2
      obtain ⟨φ1, ψ1, h1, h2, h3, h4, h5⟩ := m_orderHere (ψ := ψ) hT hP ht (by omega)
      have h6 := pO_at (g := g) hq
      have h7 : (pO n g q).1 = true → okO (pO n g q).2.2 := pO_ok
      rw [uT, hpq]
      by_cases c : (pO n g q).1 = true
      · rw [if_pos c]
        rw [if_pos c] at h1
        have hlt := h6.2.2 c
        have f20 : φ1 20 = nI t := by rw [h3 20 (by decide)]; exact ht
        have PU2 : PU (upd φ1 20 (nI (t + 1))) n (pO n g q).2.1 := ⟨h2.1, h2.2.1, h2.2.2⟩
        have step : ∀ P : RES → Mem → Prop, (∃ (r14 : Int32) (m11 : Mem), MetA M_X6_skips [aR 19 0, aI 59] (QS μ (upd φ1 20 (nI (t + 1))) ψ1) (rI r14 m11) ∧ ((¬ r14 = 0 → AW M_X6_isText 0 10 [some (aR 19 0)] [] m11 P) ∧ (r14 = 0 → (¬ (m11 19 0 18) = (m11 19 0 14) → P (.inl (some (aI 0))) m11) ∧ ((m11 19 0 18) = (m11 19 0 14) → P (.inl (some (aI 1))) m11)))) → AW M_X6_isText 0 10 [some (aR 19 0)] [] (QS μ φ ψ) P := by
          intro P h
          refine B_X6_isText_10 ⟨_, _, h1, fun _ m8 e8 => ?_, fun z => absurd z (by decide)⟩
          rw [q19, f20, show (1 : Int32) = nI 1 from rfl, nI_add, QSp] at e8
          rw [e8]
          exact h
        by_cases c2 : isC n g (pO n g q).2.1 59
        · have c3 : (pO n g q).2.1 < n := c2.1
          rw [if_pos c3]
          have e2 : nO n g (pO n g q).2.1 = pO n g ((pO n g q).2.1 + 1) := by rw [nO, if_neg (by omega), if_pos c2]
          obtain ⟨φ2, ψ2, g1, g2, g3, g4, g5⟩ := ih (pO n g q).2.1 ((pO n g q).2.1 + 1) (t + 1) (upd (upd φ1 20 (nI (t + 1))) 18 (nI ((pO n g q).2.1 + 1))) ψ1 (by omega) (by omega) e2 (PU2.nx c3) rfl (by omega) (by omega)
          refine ⟨φ2, ψ2, fun P h => step P ⟨_, _, m_skips_y (c := 59) hT PU2 (by decide) c2, fun _ => g1 P h, fun z => absurd z (by decide)⟩, g2, fun k y1 y2 => by rw [g3 k y1 y2, uget, if_neg y1, uget, if_neg y2]; exact h3 k y1, fun i hi => by rw [g4 i (by omega)]; exact h4 i hi, fun z => ?_⟩
          obtain ⟨k1, k2, k3⟩ := g5 z
          refine ⟨by rw [k1, List.length_cons]; congr 1; omega, by rw [List.length_cons]; omega, fun i o ho => ?_⟩
          cases i with
          | zero =>
            cases ho
            refine ⟨h7 c, ?_⟩
            obtain ⟨u1, u2, u3, u4⟩ := h5 c
            rw [Nat.add_zero]
            exact ⟨by rw [g4 _ (by omega)]; exact u1, fun y1 y2 => by rw [g4 _ (by omega)]; exact u2 y1 y2, fun y => by rw [g4 _ (by omega)]; exact u3 y, fun y => by rw [g4 _ (by omega)]; exact u4 y⟩
          | succ i =>
            have := k3 i o ho
            rw [show t + (i + 1) = t + 1 + i by omega]
            exact this
        · have sk := m_skips_n (c := 59) (ψ := ψ1) hT PU2 (by decide) c2
          by_cases c3 : (pO n g q).2.1 < n
          · rw [if_pos c3, uT_no (by omega) c2 f]
            refine ⟨upd φ1 20 (nI (t + 1)), ψ1, fun P h => step P ⟨_, _, sk, fun z => absurd rfl z, fun _ => ?_⟩, h2.2.1, fun k y1 y2 => by rw [uget, if_neg y2]; exact h3 k y1, h4, fun z => absurd z Bool.false_ne_true⟩
            rw [q19, PU2.1, PU2.2.1]
            exact ⟨fun _ => h, fun z => absurd ((nI_eq (by omega) (by omega)).mp z) (by omega)⟩
          · rw [if_neg c3]
            have en : (pO n g q).2.1 = n := by omega
            refine ⟨upd φ1 20 (nI (t + 1)), ψ1, fun P h => step P ⟨_, _, sk, fun z => absurd rfl z, fun _ => ?_⟩, h2.2.1, fun k y1 y2 => by rw [uget, if_neg y2]; exact h3 k y1, h4, fun _ => ⟨rfl, by show t + 1 ≤ 30; omega, fun i o ho => ?_⟩⟩
            · rw [q19, PU2.1, PU2.2.1]
              exact ⟨fun z => absurd (by rw [en]) z, fun _ => h⟩
            · cases i with
              | zero =>
                cases ho
                exact ⟨h7 c, h5 c⟩
              | succ i => cases ho
      · rw [if_neg c]
        rw [if_neg c] at h1
        refine ⟨φ1, ψ1, fun P h => B_X6_isText_10 ⟨_, _, h1, fun z => absurd rfl z, fun _ => h⟩, h2.2.1, fun k y1 _ => h3 k y1, h4, fun z => absurd z Bool.false_ne_true⟩
  obtain ⟨φ', ψ', k1, k2, k3, -, k5⟩ := key 61 0 0 0 (upd (upd φ 18 0) 20 0) ψ (Nat.zero_le _) (by omega) (by rw [nO, if_pos rfl]) ⟨h14, rfl, Nat.zero_le _⟩ rfl (by omega) (by omega)
  refine ⟨φ', ψ', ?_, k2, fun k y1 y2 => by rw [k3 k y1 y2, uget, if_neg y2, uget, if_neg y1], fun z => ?_⟩
  · refine MetA.of2 k_X6_isText rfl (Nat.le_of_ble_eq_true rfl) rfl (B_X6_isText_0 ?_)
    intro m1 e1 m4 e4
    rw [q19, QSp] at e1
    rw [e1, q19, QSp] at e4
    rw [e4]
    exact k1 _ (rI_ok rfl rfl)
  · obtain ⟨a1, a2, a3⟩ := k5 z
    rw [Nat.zero_add] at a1 a2
    refine ⟨a1, a2, fun i o ho => ?_⟩
    have := a3 i o ho
    rw [Nat.zero_add] at this
    exact this
theorem m_carries {o : OD} (G : RM (μ 20 0) A) (K6 : KH μ) (F : FQ (μ 26 0) x o) (K : okO o) (hx : x + 3 < 124) : ∃ μ' v, MetA M_X6_carries [aR 19 0, aI (nI x)] μ (rI v μ') ∧ MC μ μ' A (chO A o) := by
  obtain ⟨f1, f2, f3, f4⟩ := F
  have kb : o.1 < 200 := by unfold okO at K; omega
  have e : (μ 26 0 x).toInt = (o.1 : Int) := by rw [f1, nI_toInt (by omega)]
  have e1 : nI x + 1 = nI (x + 1) := by rw [show (1 : Int32) = nI 1 from rfl, nI_add]
  have e2 : nI x + 2 = nI (x + 2) := by rw [show (2 : Int32) = nI 2 from rfl, nI_add]
  have e3 : nI x + 3 = nI (x + 3) := by rw [show (3 : Int32) = nI 3 from rfl, nI_add]
  have v0 : vp_in (nI x) 124 := vp_in_nI (by omega) (by decide)
  have v1 : vp_in (nI (x + 1)) 124 := vp_in_nI (by omega) (by decide)
  have v2 : vp_in (nI (x + 2)) 124 := vp_in_nI (by omega) (by decide)
  have v3 : vp_in (nI (x + 3)) 124 := vp_in_nI (by omega) (by decide)
  unfold chO
  by_cases c104 : o.1 = 104
  · rw [if_pos c104]
    obtain ⟨m, v, h1, h2⟩ := CI.mc (n_house (a := nI o.2.1) G K6) (by decide)
    refine ⟨m, v, ?_, h2⟩
    refine MetA.of2 k_X6_carries rfl (Nat.le_of_ble_eq_true rfl) rfl (B_X6_carries_0 ?_)
    rw [e1, e2, e3, nI_clamp (show x < 2 ^ 31 by omega), nI_clamp (show x + 1 < 2 ^ 31 by omega), nI_clamp (show x + 2 < 2 ^ 31 by omega), nI_clamp (show x + 3 < 2 ^ 31 by omega), e, f2 (by omega) (by omega)]
    exact ⟨v1, v2, v0, fun q => absurd q (by omega), fun q => absurd q (by omega), fun _ => ⟨_, _, h1, rI_ok rfl rfl⟩, fun q => absurd q (by omega), fun q => absurd q (by omega), fun q => absurd q (by omega), fun q => absurd q (by omega), fun q => absurd q (by omega), fun z0 z1 z2 z3 z4 z5 z6 z7 => absurd (show (o.1 : Int) = 104 by omega) z2⟩
  rw [if_neg c104]
  by_cases c115 : o.1 = 115
  · rw [if_pos c115]
    obtain ⟨m, v, h1, h2⟩ := CI.mc (n_sheet (a := nI o.2.1) (b := nI o.2.2.1) G K6) (by decide)
    refine ⟨m, v, ?_, h2⟩
    refine MetA.of2 k_X6_carries rfl (Nat.le_of_ble_eq_true rfl) rfl (B_X6_carries_0 ?_)
    rw [e1, e2, e3, nI_clamp (show x < 2 ^ 31 by omega), nI_clamp (show x + 1 < 2 ^ 31 by omega), nI_clamp (show x + 2 < 2 ^ 31 by omega), nI_clamp (show x + 3 < 2 ^ 31 by omega), e, f2 (by omega) (by omega), f3 (by omega)]
    exact ⟨v1, v2, v0, fun q => absurd q (by omega), fun q => absurd q (by omega), fun q => absurd q (by omega), fun q => absurd q (by omega), fun q => absurd q (by omega), fun q => absurd q (by omega), fun _ => ⟨_, _, h1, rI_ok rfl rfl⟩, fun q => absurd q (by omega), fun z0 z1 z2 z3 z4 z5 z6 z7 => absurd (show (o.1 : Int) = 115 by omega) z6⟩
  rw [if_neg c115]
  by_cases c109 : o.1 = 109
  · rw [if_pos c109]
    obtain ⟨m, v, h1, h2⟩ := CI.mc (n_set (a := nI o.2.1) (b := nI o.2.2.1) (c := nI o.2.2.2) G K6) (by decide)
    refine ⟨m, v, ?_, h2⟩
    refine MetA.of2 k_X6_carries rfl (Nat.le_of_ble_eq_true rfl) rfl (B_X6_carries_0 ?_)
    rw [e1, e2, e3, nI_clamp (show x < 2 ^ 31 by omega), nI_clamp (show x + 1 < 2 ^ 31 by omega), nI_clamp (show x + 2 < 2 ^ 31 by omega), nI_clamp (show x + 3 < 2 ^ 31 by omega), e, f2 (by omega) (by omega), f3 (by omega), (f4 (by omega)).1]
    have hl := (f4 c109).2
    rw [show (96 : Int32) + nI (o.2.2.2 - 96) = nI o.2.2.2 by rw [show (96 : Int32) = nI 96 from rfl, nI_add]; congr 1; omega, chr (by omega)]
    exact ⟨v1, v2, v0, fun q => absurd q (by omega), fun q => absurd q (by omega), fun q => absurd q (by omega), fun q => absurd q (by omega), fun _ => ⟨v3, _, _, h1, rI_ok rfl rfl⟩, fun q => absurd q (by omega), fun q => absurd q (by omega), fun q => absurd q (by omega), fun z0 z1 z2 z3 z4 z5 z6 z7 => absurd (show (o.1 : Int) = 109 by omega) z4⟩
  rw [if_neg c109]
  by_cases c108 : o.1 = 108
  · rw [if_pos c108]
    obtain ⟨m, v, h1, h2⟩ := CI.mc (n_license (a := nI o.2.1) (b := nI o.2.2.1) G K6) (by decide)
    refine ⟨m, v, ?_, h2⟩
    refine MetA.of2 k_X6_carries rfl (Nat.le_of_ble_eq_true rfl) rfl (B_X6_carries_0 ?_)
    rw [e1, e2, e3, nI_clamp (show x < 2 ^ 31 by omega), nI_clamp (show x + 1 < 2 ^ 31 by omega), nI_clamp (show x + 2 < 2 ^ 31 by omega), nI_clamp (show x + 3 < 2 ^ 31 by omega), e, f2 (by omega) (by omega), f3 (by omega)]
    exact ⟨v1, v2, v0, fun q => absurd q (by omega), fun q => absurd q (by omega), fun q => absurd q (by omega), fun _ => ⟨_, _, h1, rI_ok rfl rfl⟩, fun q => absurd q (by omega), fun q => absurd q (by omega), fun q => absurd q (by omega), fun q => absurd q (by omega), fun z0 z1 z2 z3 z4 z5 z6 z7 => absurd (show (o.1 : Int) = 108 by omega) z3⟩
  rw [if_neg c108]
  by_cases c99 : o.1 = 99
  · rw [if_pos c99]
    obtain ⟨m, v, h1, h2⟩ := CI.mc (n_correct (a := nI o.2.1) (b := nI o.2.2.1) G K6) (by decide)
    refine ⟨m, v, ?_, h2⟩
    refine MetA.of2 k_X6_carries rfl (Nat.le_of_ble_eq_true rfl) rfl (B_X6_carries_0 ?_)
    rw [e1, e2, e3, nI_clamp (show x < 2 ^ 31 by omega), nI_clamp (show x + 1 < 2 ^ 31 by omega), nI_clamp (show x + 2 < 2 ^ 31 by omega), nI_clamp (show x + 3 < 2 ^ 31 by omega), e, f2 (by omega) (by omega), f3 (by omega)]
    exact ⟨v1, v2, v0, fun _ => ⟨_, _, h1, rI_ok rfl rfl⟩, fun q => absurd q (by omega), fun q => absurd q (by omega), fun q => absurd q (by omega), fun q => absurd q (by omega), fun q => absurd q (by omega), fun q => absurd q (by omega), fun q => absurd q (by omega), fun z0 z1 z2 z3 z4 z5 z6 z7 => absurd (show (o.1 : Int) = 99 by omega) z0⟩
  rw [if_neg c99]
  by_cases c114 : o.1 = 114
  · rw [if_pos c114]
    obtain ⟨m, v, h1, h2⟩ := CI.mc (n_reader (a := nI o.2.1) (b := nI o.2.2.1) G K6) (by decide)
    refine ⟨m, v, ?_, h2⟩
    refine MetA.of2 k_X6_carries rfl (Nat.le_of_ble_eq_true rfl) rfl (B_X6_carries_0 ?_)
    rw [e1, e2, e3, nI_clamp (show x < 2 ^ 31 by omega), nI_clamp (show x + 1 < 2 ^ 31 by omega), nI_clamp (show x + 2 < 2 ^ 31 by omega), nI_clamp (show x + 3 < 2 ^ 31 by omega), e, f2 (by omega) (by omega), f3 (by omega)]
    exact ⟨v1, v2, v0, fun q => absurd q (by omega), fun q => absurd q (by omega), fun q => absurd q (by omega), fun q => absurd q (by omega), fun q => absurd q (by omega), fun _ => ⟨_, _, h1, rI_ok rfl rfl⟩, fun q => absurd q (by omega), fun q => absurd q (by omega), fun z0 z1 z2 z3 z4 z5 z6 z7 => absurd (show (o.1 : Int) = 114 by omega) z5⟩
  rw [if_neg c114]
  by_cases c120 : o.1 = 120
  · rw [if_pos c120]
    obtain ⟨m, v, h1, h2⟩ := CI.mc (n_take (a := nI o.2.1) G K6) (by decide)
    refine ⟨m, v, ?_, h2⟩
    refine MetA.of2 k_X6_carries rfl (Nat.le_of_ble_eq_true rfl) rfl (B_X6_carries_0 ?_)
    rw [e1, e2, e3, nI_clamp (show x < 2 ^ 31 by omega), nI_clamp (show x + 1 < 2 ^ 31 by omega), nI_clamp (show x + 2 < 2 ^ 31 by omega), nI_clamp (show x + 3 < 2 ^ 31 by omega), e, f2 (by omega) (by omega)]
    exact ⟨v1, v2, v0, fun q => absurd q (by omega), fun q => absurd q (by omega), fun q => absurd q (by omega), fun q => absurd q (by omega), fun q => absurd q (by omega), fun q => absurd q (by omega), fun q => absurd q (by omega), fun _ => ⟨_, _, h1, rI_ok rfl rfl⟩, fun z0 z1 z2 z3 z4 z5 z6 z7 => absurd (show (o.1 : Int) = 120 by omega) z7⟩
  rw [if_neg c120]
  by_cases c101 : o.1 = 101
  · rw [if_pos c101]
    obtain ⟨m, v, h1, h2⟩ := CI.mc (n_edition G K6) (by decide)
    refine ⟨m, v, ?_, h2⟩
    refine MetA.of2 k_X6_carries rfl (Nat.le_of_ble_eq_true rfl) rfl (B_X6_carries_0 ?_)
    rw [e1, e2, e3, nI_clamp (show x < 2 ^ 31 by omega), nI_clamp (show x + 1 < 2 ^ 31 by omega), nI_clamp (show x + 2 < 2 ^ 31 by omega), nI_clamp (show x + 3 < 2 ^ 31 by omega), e]
    exact ⟨v1, v2, v0, fun q => absurd q (by omega), fun _ => ⟨_, _, h1, rI_ok rfl rfl⟩, fun q => absurd q (by omega), fun q => absurd q (by omega), fun q => absurd q (by omega), fun q => absurd q (by omega), fun q => absurd q (by omega), fun q => absurd q (by omega), fun z0 z1 z2 z3 z4 z5 z6 z7 => absurd (show (o.1 : Int) = 101 by omega) z1⟩
  rw [if_neg c101]
  obtain ⟨m, v, h1, h2, -⟩ := n_day G K6
  refine ⟨m, v, ?_, h2⟩
  refine MetA.of2 k_X6_carries rfl (Nat.le_of_ble_eq_true rfl) rfl (B_X6_carries_0 ?_)
  rw [e1, e2, e3, nI_clamp (show x < 2 ^ 31 by omega), nI_clamp (show x + 1 < 2 ^ 31 by omega), nI_clamp (show x + 2 < 2 ^ 31 by omega), nI_clamp (show x + 3 < 2 ^ 31 by omega), e]
  exact ⟨v1, v2, v0, fun q => absurd q (by omega), fun q => absurd q (by omega), fun q => absurd q (by omega), fun q => absurd q (by omega), fun q => absurd q (by omega), fun q => absurd q (by omega), fun q => absurd q (by omega), fun q => absurd q (by omega), fun _ _ _ _ _ _ _ _ => ⟨_, _, h1, rI_ok rfl rfl⟩⟩
def frM (μ : Mem) (d : Int32) : Mem := mset μ 19 0 (upd (upd (rfM μ 2 9 d 19 0) 11 (μ 19 0 9)) 12 (μ 19 0 10))
theorem m_refusesRun {d : Int32} : MetA M_X6_refusesRun [aR 19 0, aI d] μ (rI 0 (frM μ d)) := by
  refine MetA.of2 k_X6_refusesRun rfl (Nat.le_of_ble_eq_true rfl) rfl (B_X6_refusesRun_0 ?_)
  refine ⟨_, _, m_refuses, fun m5 e5 m8 e8 => rI_ok rfl ?_⟩
  rw [e8, e5, mset_s, mset_mset, frM]
  unfold rfM
  rw [mset_mset]
/-- how a text ends, from the state m20 at which its orders begin -/
def Ro (m20 : Mem) (f0 : Nat → SP) (n0 N : Nat) (A0 : SP) (μ' : Mem) (v : Int32) (r : SP ⊕ Option (Nat × Int32 × Int32)) : Prop := match r with
  | .inl A => v = nI N ∧ RM (μ' 20 0) A ∧ μ' 19 0 8 = 0 ∧ HM μ' (kF f0 n0 A0) (kN n0) ∧ μ' 19 0 6 = 0 ∧ (∀ t o, ¬ (t = 19 ∧ o = 0) → ¬ (t = 20 ∧ o = 0) → ¬ (t = 21 ∧ o = 0) → μ' t o = m20 t o) ∧ ∀ k, ¬ (5 ≤ k ∧ k ≤ 8) → μ' 19 0 k = m20 19 0 k
  | .inr none => RM (μ' 20 0) A0 ∧ μ' 19 0 8 = 1 ∧ μ' 19 0 6 = 0 ∧ (∀ t o, ¬ (t = 19 ∧ o = 0) → ¬ (t = 20 ∧ o = 0) → μ' t o = m20 t o) ∧ ∀ k, ¬ (6 ≤ k ∧ k ≤ 8) → μ' 19 0 k = m20 19 0 k
  | .inr (some p) => RM (μ' 20 0) A0 ∧ μ' 19 0 8 = 2 ∧ μ' 19 0 6 = 0 ∧ (μ' 19 0 9 = 9 ∧ μ' 19 0 10 = nI p.1 ∧ μ' 19 0 11 = p.2.1 ∧ μ' 19 0 12 = p.2.2) ∧ (∀ t o, ¬ (t = 19 ∧ o = 0) → ¬ (t = 20 ∧ o = 0) → μ' t o = m20 t o) ∧ ∀ k, ¬ (6 ≤ k ∧ k ≤ 12) → μ' 19 0 k = m20 19 0 k
theorem m_runLoop {m20 : Mem} {f0 : Nat → SP} {n0 N : Nat} {A0 : SP} {a1 : Int32} (h6 : m20 19 0 6 = 1) (h20 : m20 19 0 20 = nI N) (hN : N ≤ 30) (G0 : RM (m20 23 0) A0) (Hn : n0 ≤ 8) (H5 : m20 19 0 5 = nI n0) (Hf : ∀ i, i < n0 → RM (fun k => m20 21 0 (240 * i + k)) (f0 i)) :
    ∀ (l : List OD) (A : SP) (d : Nat) (m : Mem) (v0 : Int32), (∀ i o, l[i]? = some o → okO o ∧ FQ (m20 26 0) (4 * (d + i)) o) → d + l.length = N → RM (m 20 0) A → (∀ t o, ¬ (t = 19 ∧ o = 0) → ¬ (t = 20 ∧ o = 0) → m t o = m20 t o) → (∀ k, k ≠ 7 → k ≠ 8 → m 19 0 k = m20 19 0 k) → m 19 0 8 = 0 →
    ∃ μ' v, (∀ P : RES → Mem → Prop, P (.inl (some (aI v))) μ' → AW M_X6_run 0 66 [some (aR 19 0), some (aI a1), some (aI (nI d)), some (aI v0)] [] m P) ∧ Ro m20 f0 n0 N A0 μ' v (exL l A d) := by
  intro l
  induction l with
  | nil =>
    intro A d m v0 _ hd G s1 s2 h8
    have hd' : d = N := hd
    subst hd'
    obtain ⟨m4, e4⟩ : ∃ m4 : Mem, m4 = mset m 19 0 (upd (m 19 0) 6 0) := ⟨_, rfl⟩
    have x6 : m4 19 0 6 = 0 := by rw [e4, mset_s]; rfl
    have x8 : m4 19 0 8 = 0 := by rw [e4, mset_s]; exact h8
    have xo : ∀ t o, ¬ (t = 19 ∧ o = 0) → m4 t o = m t o := fun t o y => by rw [e4, mset_n y]
    have xk : ∀ k, k ≠ 6 → m4 19 0 k = m 19 0 k := fun k y => by rw [e4, mset_s, uget, if_neg y]
    have x23 : RM (m4 23 0) A0 := by rw [xo 23 0 (by omega), s1 23 0 (by omega) (by omega)]; exact G0
    have Hh : HM m4 f0 n0 := ⟨Hn, by rw [xk 5 (by decide), s2 5 (by decide) (by decide)]; exact H5, fun i hi => by rw [xo 21 0 (by omega), s1 21 0 (by omega) (by omega)]; exact Hf i hi⟩
    obtain ⟨mk, k1, k2, k3, k4, k5, k6⟩ := m_keep0 (t := 23) (Or.inr rfl) x6 Hh x23
    have y20 : mk 19 0 20 = nI d := by rw [k3 20 (by decide) (by decide), xk 20 (by decide), s2 20 (by decide) (by decide)]; exact h20
    refine ⟨mk, nI d, fun P h => B_X6_run_66 ?_, rfl, by rw [k2 20 0 (by omega) (by omega), xo 20 0 (by omega)]; exact G, k4, k6 x6 _ _ Hh, by rw [k3 6 (by decide) (by decide)]; exact x6, fun t o y1 y2 y3 => by rw [k2 t o y1 y3, xo t o y1]; exact s1 t o y1 y2, fun k y => by rw [k3 k (by omega) (by omega), xk k (by omega)]; exact s2 k (by omega) (by omega)⟩
    rw [s2 20 (by decide) (by decide), h20]
    refine ⟨fun _ m' em => ?_, fun q => absurd (nI_le (Nat.le_refl _) (by omega)) q⟩
    rw [← e4] at em
    rw [em, x8]
    refine ⟨fun _ => ⟨mk, k1, ?_⟩, fun q => absurd (by decide) q⟩
    rw [y20]
    exact h
  | cons o l ih =>
    intro A d m v0 hl hd G s1 s2 h8
    have hd' : d + (l.length + 1) = N := hd
    obtain ⟨ok, F⟩ := hl 0 o rfl
    rw [Nat.add_zero] at F
    have x6 : ¬ m 19 0 6 = 0 := by rw [s2 6 (by decide) (by decide), h6]; decide
    obtain ⟨m57, r60, c1, c2⟩ := m_carries (x := 4 * d) G (Or.inl x6) (by rw [s1 26 0 (by omega) (by omega)]; exact F) ok (by omega)
    have start : ∀ P : RES → Mem → Prop, ((¬ (m57 19 0 8) = 0 → AW M_X6_run 0 66 [some (aR 19 0), some (aI a1), some (aI (nI d)), some (aI r60)] [] m57 P) ∧ ((m57 19 0 8) = 0 → AW M_X6_run 0 66 [some (aR 19 0), some (aI a1), some (aI (nI (d + 1))), some (aI r60)] [] m57 P)) → AW M_X6_run 0 66 [some (aR 19 0), some (aI a1), some (aI (nI d)), some (aI v0)] [] m P := by
      intro P h
      refine B_X6_run_66 ?_
      rw [s2 20 (by decide) (by decide), h20, h8, show (4 : Int32) * nI d = nI (4 * d) by rw [show (4 : Int32) = nI 4 from rfl, pk_mul], show nI d + 1 = nI (d + 1) by rw [show (1 : Int32) = nI 1 from rfl, nI_add]]
      exact ⟨fun q => absurd q (nI_ge (by omega) (by omega)), fun _ => ⟨fun q => absurd rfl q, fun _ => ⟨_, _, c1, h⟩⟩⟩
    rw [exL]
    cases hc : chO A o with
    | inl p =>
      rw [hc] at c2
      obtain ⟨g1, w1, w2, w3, w4, w5⟩ := c2
      have w6 := w4 x6
      have t1 : ∀ t o, ¬ (t = 19 ∧ o = 0) → ¬ (t = 20 ∧ o = 0) → m57 t o = m20 t o := fun t o y1 y2 => by
        by_cases c : t = 21 ∧ o = 0
        · obtain ⟨rfl, rfl⟩ := c
          rw [w6.2]
          exact s1 21 0 (by omega) (by omega)
        · rw [w1 t o y1 c y2]
          exact s1 t o y1 y2
      have t2 : ∀ k, k ≠ 7 → k ≠ 8 → m57 19 0 k = m20 19 0 k := fun k y1 y2 => by
        by_cases c : k = 5
        · subst c
          rw [w6.1]
          exact s2 5 (by decide) (by decide)
        · rw [w2 k c y1 y2]
          exact s2 k y1 y2
      obtain ⟨μ', v, i1, i2⟩ := ih p.2 (d + 1) m57 r60 (fun i o' ho => by
        have := hl (i + 1) o' ho
        rw [show d + (i + 1) = d + 1 + i by omega] at this
        exact this) (by omega) g1 t1 t2 w3
      exact ⟨μ', v, fun P h => start P ⟨fun q => absurd w3 q, fun _ => i1 P h⟩, i2⟩
    | inr p =>
      rw [hc] at c2
      obtain ⟨k, hk1, hk2, w1, w2, w3, w4⟩ := c2
      have z8 : ¬ m57 19 0 8 = 0 := by rw [w2, nI_z (by omega)]; omega
      obtain ⟨m32, e32⟩ : ∃ m32 : Mem, m32 = mset m57 19 0 (upd (m57 19 0) 6 0) := ⟨_, rfl⟩
      obtain ⟨m41, e41⟩ : ∃ m41 : Mem, m41 = cpR m32 23 0 20 0 240 := ⟨_, rfl⟩
      have x32 : ∀ t o, ¬ (t = 19 ∧ o = 0) → m32 t o = m57 t o := fun t o y => by rw [e32, mset_n y]
      have x41 : ∀ t o, ¬ (t = 20 ∧ o = 0) → m41 t o = m32 t o := fun t o y => by rw [e41, cpR, mset_n y]
      have y19 : m41 19 0 = upd (m57 19 0) 6 0 := by rw [x41 19 0 (by omega), e32, mset_s]
      have z32 : ¬ m32 19 0 8 ≤ 0 := by
        rw [e32, mset_s, uget, if_neg (by decide), w2, show (0 : Int32) = nI 0 from rfl, nI_leI (by omega) (by decide)]
        omega
      have g41 : RM (m41 20 0) A0 := by
        refine RM.cong (fun i hi => ?_) G0
        rw [e41, cpR, mset_s]
        show (if _ then _ else _) = _
        rw [if_pos (by omega), Nat.sub_zero, Nat.zero_add, x32 23 0 (by omega), w1 23 0 (by omega), s1 23 0 (by omega) (by omega)]
      have cp := m_copies (μ := m32) (t := 23) (x := 0) (t2 := 20) (y := 0) rfl rfl rfl rfl (by decide) (by decide) (by decide) (by decide)
      rw [← e41] at cp
      have o41 : ∀ t o, ¬ (t = 19 ∧ o = 0) → ¬ (t = 20 ∧ o = 0) → m41 t o = m20 t o := fun t o y1 y2 => by rw [x41 t o y2, x32 t o y1, w1 t o y1]; exact s1 t o y1 y2
      have k41 : ∀ k, ¬ (6 ≤ k ∧ k ≤ 12) → m41 19 0 k = m20 19 0 k := fun k y => by rw [y19, uget, if_neg (by omega), w3 k (by omega)]; exact s2 k (by omega) (by omega)
      have mid : ∀ P : RES → Mem → Prop, (((m41 19 0 7) = 0 → ∀ m19 : Mem, m19 = mset m41 19 0 (upd (m41 19 0) 8 1) → (r60 ≤ 0 → P (.inl (some (aI r60))) m19) ∧ (¬ r60 ≤ 0 → P (.inl (some (aI 0))) m19)) ∧ (¬ (m41 19 0 7) = 0 → ∃ (r28 : Int32) (m25 : Mem), MetA M_X6_refusesRun [aR 19 0, aI (nI d)] m41 (rI r28 m25) ∧ (P (.inl (some (aI r28))) m25))) → AW M_X6_run 0 66 [some (aR 19 0), some (aI a1), some (aI (nI d)), some (aI v0)] [] m P := by
        intro P h
        refine start P ⟨fun _ => B_X6_run_66 ?_, fun q => absurd q z8⟩
        have x20 : m57 19 0 20 = nI N := by rw [w3 20 (by omega), s2 20 (by decide) (by decide)]; exact h20
        rw [x20]
        refine ⟨fun q => absurd q (nI_ge (by omega) (by omega)), fun _ => ⟨fun _ m' em => ?_, fun q => absurd q z8⟩⟩
        rw [← e32] at em
        rw [em]
        exact ⟨fun q => absurd q z32, fun _ => ⟨_, cp, h⟩⟩
      by_cases c : p.1 = 2
      · rw [if_pos c] at w4
        have r7 : ¬ m41 19 0 7 = 0 := by rw [y19, uget, if_neg (by decide), w4.1]; decide
        have r9 : m41 19 0 9 = p.2.1 := by rw [y19, uget, if_neg (by decide)]; exact w4.2.1
        have r10 : m41 19 0 10 = p.2.2 := by rw [y19, uget, if_neg (by decide)]; exact w4.2.2.1
        refine ⟨frM m41 (nI d), 0, fun P h => mid P ⟨fun q => absurd q r7, fun _ => ⟨_, _, m_refusesRun, h⟩⟩, ?_⟩
        show Ro _ _ _ _ _ _ _ (if p.1 = 2 then .inr (some (d, p.2.1, p.2.2)) else .inr none)
        rw [if_pos c]
        have f19 : frM m41 (nI d) 19 0 = upd (upd (rfM m41 2 9 (nI d) 19 0) 11 (m41 19 0 9)) 12 (m41 19 0 10) := mset_s _ _ _ _
        have f20 : ∀ t o, ¬ (t = 19 ∧ o = 0) → frM m41 (nI d) t o = m41 t o := fun t o y => mset_n y
        refine ⟨by rw [f20 20 0 (by omega)]; exact g41, by rw [f19, rfM, mset_s]; rfl, by rw [f19, rfM, mset_s]; show m41 19 0 6 = 0; rw [y19]; rfl, ⟨by rw [f19, rfM, mset_s]; rfl, by rw [f19, rfM, mset_s]; rfl, by rw [f19, uget, if_neg (by decide), upd_at]; exact r9, by rw [f19, upd_at]; exact r10⟩, fun t o y1 y2 => by rw [f20 t o y1]; exact o41 t o y1 y2, fun k y => ?_⟩
        rw [f19, uget, if_neg (by omega), uget, if_neg (by omega), rfM, mset_s, uget, if_neg (by omega), uget, if_neg (by omega), uget, if_neg (by omega), uget, if_neg (by omega), uget, if_neg (by omega), uget, if_neg (by omega)]
        exact k41 k y
      · rw [if_neg c] at w4
        have r7 : m41 19 0 7 = 0 := by rw [y19, uget, if_neg (by decide)]; exact w4.1
        have rr : ∀ k, ¬ (6 ≤ k ∧ k ≤ 8) → m41 19 0 k = m20 19 0 k := fun k y => by
          by_cases c9 : 9 ≤ k ∧ k ≤ 12
          · rw [y19, uget, if_neg (by omega), w4.2 k c9.1 c9.2]
            exact s2 k (by omega) (by omega)
          · exact k41 k (by omega)
        obtain ⟨m47, e47⟩ : ∃ m47 : Mem, m47 = mset m41 19 0 (upd (m41 19 0) 8 1) := ⟨_, rfl⟩
        have ro : Ro m20 f0 n0 N A0 m47 0 (.inr none) := ⟨by rw [e47, mset_n (by omega)]; exact g41, by rw [e47, mset_s]; rfl, by rw [e47, mset_s, uget, if_neg (by decide), y19]; rfl, fun t o y1 y2 => by rw [e47, mset_n y1]; exact o41 t o y1 y2, fun k y => by rw [e47, mset_s, uget, if_neg (by omega)]; exact rr k y⟩
        show ∃ μ' v, _ ∧ Ro _ _ _ _ _ _ _ (if p.1 = 2 then .inr (some (d, p.2.1, p.2.2)) else .inr none)
        rw [if_neg c]
        by_cases c0 : r60 ≤ 0
        · refine ⟨m47, r60, fun P h => mid P ⟨fun _ m' em => ?_, fun q => absurd r7 q⟩, ro⟩
          rw [← e47] at em
          rw [em]
          exact ⟨fun _ => h, fun q => absurd c0 q⟩
        · refine ⟨m47, 0, fun P h => mid P ⟨fun _ m' em => ?_, fun q => absurd r7 q⟩, ro⟩
          rw [← e47] at em
          rw [em]
          exact ⟨fun q => absurd q c0, fun _ => h⟩
theorem TM.rn {μ' : Mem} {A' : SP} {f : Nat → SP} {n : Nat} {r : Int32 × Int32 × Int32 × Int32} {e : Int32} (H : TM μ T) (hA : RM (μ' 20 0) A') (hH : HM μ' f n) (h4 : μ' 19 0 4 = μ 19 0 4) (h22 : μ' 22 0 = μ 22 0) (hr : μ' 19 0 9 = r.1 ∧ μ' 19 0 10 = r.2.1 ∧ μ' 19 0 11 = r.2.2.1 ∧ μ' 19 0 12 = r.2.2.2) (h14 : μ' 19 0 14 = 0) (h15 : μ' 19 0 15 = e) (h17 : μ' 19 0 17 = μ 19 0 17) (h25 : μ' 25 0 = μ 25 0) (h6 : μ' 19 0 6 = 0) : TM μ' (A', (f, n), T.2.2.1, r, (0, tIf T), e, T.2.2.2.2.2.2) := by
  obtain ⟨_, _, ⟨c1, c2⟩, _, _, _, ⟨g1, g2, g3⟩, _⟩ := H
  exact ⟨hA, hH, ⟨by rw [h4]; exact c1, fun q => by rw [h22]; exact c2 q⟩, hr, ⟨Nat.zero_le _, h14, fun i hi => absurd hi (Nat.not_lt_zero _)⟩, h15, ⟨g1, by rw [h17]; exact g2, fun i hi => by rw [h25]; exact g3 i hi⟩, h6⟩
theorem q_run (H : TM μ T) : CM M_X6_run [] μ [1, 2] (qRn T).1 (qRn T).2 := by
  have H0 := H
  obtain ⟨a, ⟨b1, b2, b3⟩, ⟨c1, c2⟩, dr, ⟨e1, e2, e3⟩, f, ⟨g1, g2, g3⟩, z⟩ := H
  have hT : TY μ (tIn T) (tIf T) := ⟨e1, e3⟩
  obtain ⟨φ, ψ, k1, k2, k3, k4⟩ := m_isText (φ := μ 19 0) (ψ := μ 26 0) hT e2
  have eQ : QS μ (μ 19 0) (μ 26 0) = μ := by rw [QS, mset_id, mset_id]
  rw [eQ] at k1
  obtain ⟨E, hE⟩ : ∃ E : Int32, E = (if (uT (tIn T) (tIf T) 61 0).1 = true then -1 else nI (uT (tIn T) (tIf T) 61 0).2.1) := ⟨_, rfl⟩
  obtain ⟨m4, e4⟩ : ∃ m4 : Mem, m4 = QS μ (upd (upd φ 15 E) 14 0) ψ := ⟨_, rfl⟩
  have y19 : m4 19 0 = upd (upd φ 15 E) 14 0 := by rw [e4]; exact q19
  have yo : ∀ t o, ¬ (t = 19 ∧ o = 0) → ¬ (t = 26 ∧ o = 0) → m4 t o = μ t o := fun t o x y => by rw [e4, QS, mset_n y, mset_n x]
  have yk : ∀ k, k ≠ 14 → k ≠ 15 → k ≠ 18 → k ≠ 20 → m4 19 0 k = μ 19 0 k := fun k x1 x2 x3 x4 => by rw [y19, uget, if_neg x1, uget, if_neg x2]; exact k3 k x3 x4
  have y14 : m4 19 0 14 = 0 := by rw [y19]; rfl
  have y15 : m4 19 0 15 = E := by rw [y19]; rfl
  unfold qRn
  by_cases c : (uT (tIn T) (tIf T) 61 0).1 = true
  · rw [if_pos c]
    rw [if_pos c] at k1 hE
    obtain ⟨l1, l2, l3⟩ := k4 c
    obtain ⟨m10, e10⟩ : ∃ m10 : Mem, m10 = faM m4 0 := ⟨_, rfl⟩
    obtain ⟨m17, e17⟩ : ∃ m17 : Mem, m17 = cpR m10 20 0 23 0 240 := ⟨_, rfl⟩
    obtain ⟨m20, e20⟩ : ∃ m20 : Mem, m20 = mset m17 19 0 (upd (m17 19 0) 6 1) := ⟨_, rfl⟩
    have u19 : m20 19 0 = upd (upd (upd (m4 19 0) 8 0) 7 0) 6 1 := by rw [e20, mset_s, e17, show cpR m10 20 0 23 0 240 19 0 = m10 19 0 from mset_t (by decide), e10, faM, mset_s]
    have uo : ∀ t o, ¬ (t = 19 ∧ o = 0) → ¬ (t = 23 ∧ o = 0) → m20 t o = m4 t o := fun t o x y => by rw [e20, mset_n x, e17, cpR, mset_n y, e10]; exact mset_n x
    have uk : ∀ k, ¬ (6 ≤ k ∧ k ≤ 8) → m20 19 0 k = m4 19 0 k := fun k x => by rw [u19, uget, if_neg (by omega), uget, if_neg (by omega), uget, if_neg (by omega)]
    have u23 : RM (m20 23 0) (tA T) := by
      refine RM.cong (fun i hi => ?_) a
      rw [e20, mset_n (by omega), e17, cpR, mset_s]
      show (if _ then _ else _) = _
      rw [if_pos (by omega), Nat.sub_zero, Nat.zero_add, e10, faM_t (by decide), yo 20 0 (by omega) (by omega)]
    have u20 : m20 19 0 20 = nI (uT (tIn T) (tIf T) 61 0).2.2.length := by rw [uk 20 (by omega), y19, uget, if_neg (by decide), uget, if_neg (by decide)]; exact l1
    have u5 : m20 19 0 5 = nI (tHn T) := by rw [uk 5 (by omega), yk 5 (by decide) (by decide) (by decide) (by decide)]; exact b2
    have uG : RM (m20 20 0) (tA T) := by rw [uo 20 0 (by omega) (by omega), yo 20 0 (by omega) (by omega)]; exact a
    have u26 : m20 26 0 = ψ := by rw [uo 26 0 (by omega) (by omega), e4]; exact q26
    have u21 : m20 21 0 = μ 21 0 := by rw [uo 21 0 (by omega) (by omega), yo 21 0 (by omega) (by omega)]
    obtain ⟨μ', v, r1, r2⟩ := m_runLoop (m20 := m20) (f0 := tHf T) (n0 := tHn T) (N := (uT (tIn T) (tIf T) 61 0).2.2.length) (A0 := tA T) (a1 := 1) (by rw [u19]; rfl) u20 l2 u23 b1 u5 (fun i hi => by rw [u21]; exact b3 i hi) (uT (tIn T) (tIf T) 61 0).2.2 (tA T) 0 m20 0 (fun i o ho => by
      have := l3 i o ho
      rw [u26, Nat.zero_add]
      exact this) (Nat.zero_add _) uG (fun _ _ _ _ => rfl) (fun _ _ _ => rfl) (by rw [u19]; rfl)
    have hM : MetA M_X6_run [aR 19 0] μ (rI v μ') := by
      refine MetA.of2 k_X6_run rfl (Nat.le_of_ble_eq_true rfl) rfl (B_X6_run_0 ?_)
      refine ⟨_, _, k1, fun q => absurd q (by decide), fun _ => B_X6_run_18 fun m1 em1 m4' em4 => ?_⟩
      rw [q19, QSp] at em1
      rw [em1, q19, QSp, ← hE, ← e4] at em4
      rw [em4]
      refine ⟨fun q => absurd q (show ¬ nI 1 = 0 by decide), fun _ => ⟨_, _, m_fails0, fun _ => ?_, fun q => absurd rfl q⟩⟩
      have cp := m_copies (μ := m10) (t := 20) (x := 0) (t2 := 23) (y := 0) rfl rfl rfl rfl (by decide) (by decide) (by decide) (by decide)
      rw [← e17, e10] at cp
      refine ⟨_, cp, fun m' em' => ?_⟩
      rw [← e20] at em'
      rw [em']
      exact r1 _ (rI_ok rfl rfl)
    have fo : ∀ t o, ¬ (t = 19 ∧ o = 0) → ¬ (t = 26 ∧ o = 0) → ¬ (t = 23 ∧ o = 0) → m20 t o = μ t o := fun t o x y w => by rw [uo t o x w, yo t o x y]
    have fk : ∀ k, ¬ (6 ≤ k ∧ k ≤ 8) → k ≠ 14 → k ≠ 15 → k ≠ 18 → k ≠ 20 → m20 19 0 k = μ 19 0 k := fun k x x1 x2 x3 x4 => by rw [uk k x, yk k x1 x2 x3 x4]
    have f14 : m20 19 0 14 = 0 := by rw [uk 14 (by omega)]; exact y14
    have f15 : m20 19 0 15 = -1 := by rw [uk 15 (by omega), y15]; exact hE
    have hmo : ∀ μ'' : Mem, (∀ t o, ¬ (t = 19 ∧ o = 0) → ¬ (t = 20 ∧ o = 0) → ¬ (t = 21 ∧ o = 0) → μ'' t o = m20 t o) → Mo μ μ'' := fun μ'' h t ht => by
      funext o
      rw [h t o (by omega) (by omega) (by omega)]
      exact fo t o (by omega) (by omega) (by omega)
    cases hx : exL (uT (tIn T) (tIf T) 61 0).2.2 (tA T) 0 with
    | inl A' =>
      rw [hx] at r2
      obtain ⟨s0, s1, s2, s3, s4, s5, s6⟩ := r2
      refine ⟨μ', v, hM, TM.rn H0 s1 s3 (by rw [s6 4 (by omega)]; exact fk 4 (by omega) (by decide) (by decide) (by decide) (by decide)) (by rw [s5 22 0 (by omega) (by omega) (by omega)]; exact fo 22 0 (by omega) (by omega) (by omega)) ⟨?_, ?_, ?_, ?_⟩ (by rw [s6 14 (by omega)]; exact f14) (by rw [s6 15 (by omega)]; exact f15) (by rw [s6 17 (by omega)]; exact fk 17 (by omega) (by decide) (by decide) (by decide) (by decide)) (by rw [s5 25 0 (by omega) (by omega) (by omega)]; exact fo 25 0 (by omega) (by omega) (by omega)) s4, hmo μ' s5, s2, fun x q => by cases q; exact s0⟩
      · rw [s6 9 (by omega), fk 9 (by omega) (by decide) (by decide) (by decide) (by decide)]; exact dr.1
      · rw [s6 10 (by omega), fk 10 (by omega) (by decide) (by decide) (by decide) (by decide)]; exact dr.2.1
      · rw [s6 11 (by omega), fk 11 (by omega) (by decide) (by decide) (by decide) (by decide)]; exact dr.2.2.1
      · rw [s6 12 (by omega), fk 12 (by omega) (by decide) (by decide) (by decide) (by decide)]; exact dr.2.2.2
    | inr y =>
      cases y with
      | none =>
        rw [hx] at r2
        obtain ⟨s1, s2, s4, s5, s6⟩ := r2
        have x21 : μ' 21 0 = μ 21 0 := by rw [s5 21 0 (by omega) (by omega)]; exact u21
        refine ⟨μ', v, hM, TM.rn H0 s1 ⟨b1, by rw [s6 5 (by omega)]; exact u5, fun i hi => by rw [x21]; exact b3 i hi⟩ (by rw [s6 4 (by omega)]; exact fk 4 (by omega) (by decide) (by decide) (by decide) (by decide)) (by rw [s5 22 0 (by omega) (by omega)]; exact fo 22 0 (by omega) (by omega) (by omega)) ⟨?_, ?_, ?_, ?_⟩ (by rw [s6 14 (by omega)]; exact f14) (by rw [s6 15 (by omega)]; exact f15) (by rw [s6 17 (by omega)]; exact fk 17 (by omega) (by decide) (by decide) (by decide) (by decide)) (by rw [s5 25 0 (by omega) (by omega)]; exact fo 25 0 (by omega) (by omega) (by omega)) s4, hmo μ' (fun t o y1 y2 _ => s5 t o y1 y2), s2, fun x q => by cases q⟩
        · rw [s6 9 (by omega), fk 9 (by omega) (by decide) (by decide) (by decide) (by decide)]; exact dr.1
        · rw [s6 10 (by omega), fk 10 (by omega) (by decide) (by decide) (by decide) (by decide)]; exact dr.2.1
        · rw [s6 11 (by omega), fk 11 (by omega) (by decide) (by decide) (by decide) (by decide)]; exact dr.2.2.1
        · rw [s6 12 (by omega), fk 12 (by omega) (by decide) (by decide) (by decide) (by decide)]; exact dr.2.2.2
      | some p =>
        rw [hx] at r2
        obtain ⟨s1, s2, s4, s7, s5, s6⟩ := r2
        have x21 : μ' 21 0 = μ 21 0 := by rw [s5 21 0 (by omega) (by omega)]; exact u21
        exact ⟨μ', v, hM, TM.rn (r := (9, nI p.1, p.2.1, p.2.2)) H0 s1 ⟨b1, by rw [s6 5 (by omega)]; exact u5, fun i hi => by rw [x21]; exact b3 i hi⟩ (by rw [s6 4 (by omega)]; exact fk 4 (by omega) (by decide) (by decide) (by decide) (by decide)) (by rw [s5 22 0 (by omega) (by omega)]; exact fo 22 0 (by omega) (by omega) (by omega)) s7 (by rw [s6 14 (by omega)]; exact f14) (by rw [s6 15 (by omega)]; exact f15) (by rw [s6 17 (by omega)]; exact fk 17 (by omega) (by decide) (by decide) (by decide) (by decide)) (by rw [s5 25 0 (by omega) (by omega)]; exact fo 25 0 (by omega) (by omega) (by omega)) s4, hmo μ' (fun t o y1 y2 _ => s5 t o y1 y2), s2, fun x q => by cases q⟩
  · rw [if_neg c]
    rw [if_neg c] at k1 hE
    have n1 : faM m4 1 19 0 = upd (upd (m4 19 0) 8 1) 7 0 := mset_s _ _ _ _
    have fo : ∀ t o, ¬ (t = 19 ∧ o = 0) → ¬ (t = 26 ∧ o = 0) → faM m4 1 t o = μ t o := fun t o x y => by rw [show faM m4 1 t o = m4 t o from mset_n x, yo t o x y]
    have fk : ∀ k, ¬ (7 ≤ k ∧ k ≤ 8) → k ≠ 14 → k ≠ 15 → k ≠ 18 → k ≠ 20 → faM m4 1 19 0 k = μ 19 0 k := fun k x x1 x2 x3 x4 => by rw [n1, uget, if_neg (by omega), uget, if_neg (by omega), yk k x1 x2 x3 x4]
    refine ⟨faM m4 1, 0, ?_, TM.rn H0 (by rw [fo 20 0 (by omega) (by omega)]; exact a) ⟨b1, by rw [fk 5 (by omega) (by decide) (by decide) (by decide) (by decide)]; exact b2, fun i hi => by rw [fo 21 0 (by omega) (by omega)]; exact b3 i hi⟩ (fk 4 (by omega) (by decide) (by decide) (by decide) (by decide)) (fo 22 0 (by omega) (by omega)) ⟨?_, ?_, ?_, ?_⟩ (by rw [n1, uget, if_neg (by decide), uget, if_neg (by decide)]; exact y14) (by rw [n1, uget, if_neg (by decide), uget, if_neg (by decide), y15]; exact hE) (fk 17 (by omega) (by decide) (by decide) (by decide) (by decide)) (fo 25 0 (by omega) (by omega)) (by rw [fk 6 (by omega) (by decide) (by decide) (by decide) (by decide)]; exact z), fun t ht => ?_, by rw [n1]; rfl, fun x q => by cases q⟩
    · refine MetA.of2 k_X6_run rfl (Nat.le_of_ble_eq_true rfl) rfl (B_X6_run_0 ?_)
      refine ⟨_, _, k1, fun _ => B_X6_run_18 fun m1 em1 m4' em4 => ?_, fun q => absurd rfl q⟩
      rw [q19, QSp, k2, ← hE] at em1
      rw [em1, q19, QSp, ← e4] at em4
      rw [em4]
      exact ⟨fun _ => ⟨_, _, m_failsc (by decide), fun q => absurd q (by decide), fun _ => rI_ok rfl rfl⟩, fun q => absurd rfl q⟩
    · rw [fk 9 (by omega) (by decide) (by decide) (by decide) (by decide)]; exact dr.1
    · rw [fk 10 (by omega) (by decide) (by decide) (by decide) (by decide)]; exact dr.2.1
    · rw [fk 11 (by omega) (by decide) (by decide) (by decide) (by decide)]; exact dr.2.2.1
    · rw [fk 12 (by omega) (by decide) (by decide) (by decide) (by decide)]; exact dr.2.2.2
    · funext o
      exact fo t o (by omega) (by omega)
end RL
