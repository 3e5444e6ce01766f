/-! the start: an empty press, the cells that the law lays -/
def A0 : SP := ((0, 0, 0), (fun _ => 0, fun _ => 0, fun _ => 0), (fun _ => 0, fun _ => 0), (fun _ _ => 0, fun _ _ => 0, fun _ _ => 0), (fun _ => 0, fun _ => 0), fun _ => 0)
def T0 : TT := (A0, (fun _ => A0, 0), (false, A0), (0, 0, 0, 0), (0, fun _ => 0), -1, (0, fun _ => 0))
theorem A0_WF : WF A0 := ⟨⟨Nat.zero_le _, Nat.zero_le _, Nat.zero_le _⟩, fun h hh => absurd hh (Nat.not_lt_zero _), fun s hs => absurd hs (Nat.not_lt_zero _), fun r hr => absurd hr (Nat.not_lt_zero _)⟩
theorem rf4_0 : ∀ k, k < 5 → rf4 (3 + k) = 0 := by decide +kernel
theorem T0_TC {μ : Mem} (h0 : μ 0 0 = rf4) (h11 : μ 11 0 = rf5) (h12 : μ 12 0 = rfh) (h14 : μ 14 0 = rf3) (h15 : μ 15 0 = rf2) (h17 : μ 17 0 = rf1) : TC μ T0 := by
  refine ⟨⟨A0_WF, ⟨?_, ?_, ?_, ?_⟩, fun h hh => absurd hh (Nat.not_lt_zero _), fun s hs => absurd hs (Nat.not_lt_zero _), fun r hr => absurd hr (Nat.not_lt_zero _)⟩, ⟨Nat.zero_le _, 0, by decide, ?_, ?_, fun i hi => absurd hi (Nat.not_lt_zero _)⟩, ⟨?_, fun h => nomatch h⟩, ⟨?_, ?_, ?_, ?_⟩, ⟨Nat.zero_le _, ?_, fun i hi => absurd hi (Nat.not_lt_zero _)⟩, ?_, ⟨Nat.zero_le _, ?_, fun i hi => absurd hi (Nat.not_lt_zero _)⟩⟩
  · rw [h0]; decide +kernel
  · rw [h0]; decide +kernel
  · rw [h0]; decide +kernel
  · rw [h0]; exact rf4_0
  · rw [h12]; decide +kernel
  · rw [h12]; decide +kernel
  · rw [h11]; decide +kernel
  · rw [h14]; decide +kernel
  · rw [h14]; decide +kernel
  · rw [h14]; decide +kernel
  · rw [h14]; decide +kernel
  · rw [h15]; decide +kernel
  · rw [h11]; decide +kernel
  · rw [h17]; decide +kernel
theorem T0_TM {μ : Mem} (h19 : μ 19 0 = rf6) (h20 : μ 20 0 = fun _ => 0) : TM μ T0 := by
  refine ⟨⟨A0_WF, ⟨?_, ?_, ?_, ?_, ?_⟩, fun h hh => absurd hh (Nat.not_lt_zero _), fun s hs => absurd hs (Nat.not_lt_zero _), fun r hr => absurd hr (Nat.not_lt_zero _)⟩, ⟨Nat.zero_le _, ?_, fun i hi => absurd hi (Nat.not_lt_zero _)⟩, ⟨?_, fun h => nomatch h⟩, ⟨?_, ?_, ?_, ?_⟩, ⟨Nat.zero_le _, ?_, fun i hi => absurd hi (Nat.not_lt_zero _)⟩, ?_, ⟨Nat.zero_le _, ?_, fun i hi => absurd hi (Nat.not_lt_zero _)⟩, ?_⟩
  · rw [h20]; rfl
  · rw [h20]; rfl
  · rw [h20]; rfl
  · rw [h20]; exact fun _ _ => rfl
  · rw [h20]; rfl
  · rw [h19]; decide +kernel
  · rw [h19]; decide +kernel
  · rw [h19]; decide +kernel
  · rw [h19]; decide +kernel
  · rw [h19]; decide +kernel
  · rw [h19]; decide +kernel
  · rw [h19]; decide +kernel
  · rw [h19]; decide +kernel
  · rw [h19]; decide +kernel
  · rw [h19]; decide +kernel
/-- every field that holds a reference is set -/
def RF (μ : Mem) : Prop := (∀ o, o < 12 → μ 0 o = rf4) ∧ μ 11 0 = rf5 ∧ μ 12 0 = rfh ∧ (μ 13 0 = fun k => if k < 8 then 1 else 0) ∧ μ 15 0 = rf2 ∧ μ 17 0 = rf1 ∧ μ 19 0 = rf6
theorem fl_rf : (∀ k, k < 18 → ∀ q, (fl 0)[k]? = some (some q) → ¬ rf4 k = 0) ∧ (∀ k, k < 10 → ∀ q, (fl 11)[k]? = some (some q) → ¬ rf5 k = 0) ∧ (∀ k, k < 3 → ∀ q, (fl 12)[k]? = some (some q) → ¬ rfh k = 0) ∧ (∀ k, k < 4 → ∀ q, ¬ (fl 14)[k]? = some (some q)) ∧ (∀ k, k < 7 → ∀ q, (fl 15)[k]? = some (some q) → ¬ rf2 k = 0) ∧ (∀ k, k < 2 → ∀ q, (fl 17)[k]? = some (some q) → ¬ rf1 k = 0) ∧ ∀ k, k < 21 → ∀ q, (fl 19)[k]? = some (some q) → ¬ rf6 k = 0 := by
  have key : ∀ (f : Nat → Int32) (l : List (Option (Nat × Option Nat))), (∀ k, k < l.length → (l[k]?.getD none).isSome = true → ¬ f k = 0) → ∀ k, k < l.length → ∀ q, l[k]? = some (some q) → ¬ f k = 0 := fun f l h k hk q e => h k hk (by rw [e]; rfl)
  refine ⟨key rf4 (fl 0) (by decide +kernel), key rf5 (fl 11) (by decide +kernel), key rfh (fl 12) (by decide +kernel), fun k hk q e => ?_, key rf2 (fl 15) (by decide +kernel), key rf1 (fl 17) (by decide +kernel), key rf6 (fl 19) (by decide +kernel)⟩
  have h : ∀ k, k < 4 → ((fl 14)[k]?.getD none).isSome = false := by decide +kernel
  have := h k hk
  rw [e] at this
  cases this
theorem fl_other : ∀ t, t < 29 → t ≠ 0 → t ≠ 11 → t ≠ 12 → t ≠ 14 → t ≠ 15 → t ≠ 17 → t ≠ 19 → fl t = [] := by
  intro t ht h0 h11 h12 h14 h15 h17 h19
  have h : ∀ t, t < 29 → t = 0 ∨ t = 11 ∨ t = 12 ∨ t = 14 ∨ t = 15 ∨ t = 17 ∨ t = 19 ∨ (fl t).length = 0 := by decide +kernel
  rcases h t ht with e | e | e | e | e | e | e | e <;> first | contradiction | exact List.eq_nil_of_length_eq_zero e
theorem RF.ne {μ : Mem} (R : RF μ) {t o : Nat} (hc : hasC t o = true) (k : Nat) (q : Nat × Option Nat) (hk : (fl t)[k]? = some (some q)) : ¬ μ t o k = 0 := by
  obtain ⟨r0, r11, r12, r13, r15, r17, r19⟩ := R
  obtain ⟨f0, f11, f12, f14, f15, f17, f19⟩ := fl_rf
  have hlt := hasC_lt hc
  have hl : k < (fl t).length := (List.getElem?_eq_some_iff.mp hk).1
  by_cases c0 : t = 0
  · subst c0; rw [r0 o hlt.2]; exact f0 k hl q hk
  have ho : ¬ t < 11 → o = 0 := fun h => by
    unfold hasC at hc
    rw [if_neg h] at hc
    simp only [Bool.and_eq_true, decide_eq_true_eq] at hc
    exact hc.2
  by_cases c11 : t = 11
  · subst c11; rw [ho (by decide), r11]; exact f11 k hl q hk
  by_cases c12 : t = 12
  · subst c12; rw [ho (by decide), r12]; exact f12 k hl q hk
  by_cases c14 : t = 14
  · subst c14; exact absurd hk (f14 k hl q)
  by_cases c15 : t = 15
  · subst c15; rw [ho (by decide), r15]; exact f15 k hl q hk
  by_cases c17 : t = 17
  · subst c17; rw [ho (by decide), r17]; exact f17 k hl q hk
  by_cases c19 : t = 19
  · subst c19; rw [ho (by decide), r19]; exact f19 k hl q hk
  rw [fl_other t hlt.1 c0 c11 c12 c14 c15 c17 c19] at hk
  cases hk
theorem fsB_A {G : GG} {μ : Mem} (R : RF μ) {t o : Nat} (hc : hasC t o = true) : fsB G μ t o = (fsA μ t o).map (conc G) := by
  apply List.ext_getElem?
  intro j
  unfold fsB fsA
  rw [List.getElem?_mapIdx, List.getElem?_map, List.getElem?_mapIdx]
  cases hx : (fl t)[j]? with
  | none => rfl
  | some x =>
    cases x with
    | none => rfl
    | some q =>
      show some (if μ t o j = 0 then Value.null else .ref (gad G (tgt o q).1 (tgt o q).2)) = _
      rw [if_neg (R.ne hc j q hx)]
      rfl
theorem kd3 : ∀ t, t < 29 → kd t = 3 → t = 13 := by decide +kernel
theorem dcd_has : ∀ i, i < 150 → hasC (dcd i).1 (dcd i).2 = true := by decide +kernel
theorem idf_inj {t o t' o' : Nat} (h : hasC t o = true) (h' : hasC t' o' = true) (e : idf t o = idf t' o') : (t, o) = (t', o') := by
  rw [← (idf_ok h).1, ← (idf_ok h').1, e]
theorem arrV_eq {cA : ClassId} {n : Nat} {f g : Nat → Value} (h : ∀ j, j < n → f j = g j) : arrV cA n f = arrV cA n g := by
  unfold arrV
  congr 1
  exact congrArg Array.ofFn (funext fun j => h j.val j.isLt)
theorem HB.hw {G : GG} {μ : Mem} {s : State} {H : Heap} (h : HB G μ 150 s H) (R : RF μ) : HW G μ s H := by
  obtain ⟨hK, hP, hX, hb, hz, a, hle, ao⟩ := h
  refine ⟨hK, fun k q hk => ?_, ⟨fun i j p q hp hq e => ?_, fun k q hq => ?_⟩, hX, hb, by omega⟩
  · have hk1 : k < 150 := by
      have := (List.getElem?_eq_some_iff.mp hk).1
      rwa [wl_len] at this
    rw [wl_get hk1] at hk
    cases hk
    have hc := dcd_has k hk1
    obtain ⟨h1, h2⟩ := idf_ok hc
    have hq := hP _ _ (wlB_get (G := G) (μ := μ) h2)
    rw [h1] at hq
    generalize (dcd k).1 = t at hc hq h1 h2
    generalize (dcd k).2 = o at hc hq h1 h2
    by_cases c0 : kd t = 0
    · have e1 : entB G μ t o = ent G μ t o := by
        unfold entB ent
        rw [if_pos c0, c0, fsB_A R hc]
        rfl
      rw [← e1]
      exact hq
    · by_cases c3 : kd t = 3
      · have h13 := kd3 t (hasC_lt hc).1 c3
        subst h13
        have ho : o = 0 := by
          unfold hasC at hc
          rw [if_neg (by decide)] at hc
          simp only [Bool.and_eq_true, decide_eq_true_eq] at hc
          exact hc.2
        subst ho
        have e2 : H[gad G 13 0]? = some (vp_cell (gcy G 3) (8, .inr (.inr (.inr (.inr (fun i => if μ 13 0 i = 0 then none else some (gad G 0 (4 + i)))))))) := hq
        show H[gad G 13 0]? = some (vp_cell (gcy G 3) (8, .inr (.inr (.inr (.inr (fun i => some (gad G 0 (4 + i))))))))
        rw [e2, vp_cell_q, vp_cell_q]
        congr 1
        refine arrV_eq fun j hj => ?_
        rw [if_neg (by rw [R.2.2.2.1]; show ¬ (if j < 8 then (1 : Int32) else 0) = 0; rw [if_pos hj]; decide)]
      · have e1 : entB G μ t o = ent G μ t o := by
          unfold entB
          rw [if_neg c0, if_neg c3]
        rw [← e1]
        exact hq
  · have hi : i < 150 := by
      have := (List.getElem?_eq_some_iff.mp hp).1
      rwa [wl_len] at this
    have hj : j < 150 := by
      have := (List.getElem?_eq_some_iff.mp hq).1
      rwa [wl_len] at this
    rw [wl_get hi] at hp
    rw [wl_get hj] at hq
    cases hp
    cases hq
    have h1 := a _ _ (dcd_has i hi)
    have h2 := a _ _ (dcd_has j hj)
    have e : gad G (dcd i).1 (dcd i).2 = gad G (dcd j).1 (dcd j).2 := e
    exact dcd_inj hi hj (idf_inj (dcd_has i hi) (dcd_has j hj) (Nat.add_left_cancel (h1.symm.trans (e.trans h2))))
  · have hk1 : k < 150 := by
      have := (List.getElem?_eq_some_iff.mp hq).1
      rwa [wl_len] at this
    rw [wl_get hk1] at hq
    cases hq
    show gn0 G ≤ gad G (dcd k).1 (dcd k).2
    rw [a _ _ (dcd_has k hk1)]
    omega
/-- the cells before the law's first instruction -/
def mu0 (L : Nat) (xs : Nat → Int32) : Mem := fun t _ k => if t = 98 then nI L else if t = 99 then xs k else 0
theorem mu0_0 {L : Nat} {xs : Nat → Int32} {t o : Nat} (h : t < 98) : mu0 L xs t o = fun _ => 0 := by
  funext k
  unfold mu0
  rw [if_neg (by omega), if_neg (by omega)]
theorem dbl_0 : dbl 0 0 = 0 := by decide +kernel
set_option maxRecDepth 100000 in
theorem law_start {L : Nat} {xs : Nat → Int32} : ∃ μ', RF μ' ∧ TC μ' T0 ∧ TM μ' T0 ∧ (∀ t, 98 ≤ t → μ' t = mu0 L xs t) ∧ BW M_law 0 [some (aR 99 0), none, none, none, none, none, none, none, none] [] (mu0 L xs) 0 0 0 (28, LL (4 * 0) none none none, [], μ', 150, 150, 5975) := by
  obtain ⟨m1, h1, a0, ai, a11, a12, a13, a14, a15, a17, -, -, ak⟩ := c_init5 (μ := mu0 L xs) (fun t o h => mu0_0 (by omega))
  have z : ∀ t, 19 ≤ t → t < 98 → m1 t 0 = fun _ => 0 := fun t g1 g2 => by rw [ak t g1]; exact mu0_0 g2
  have h2 := c_init6 (μ := m1) (z 19 (by decide) (by decide)) (z 20 (by decide) (by decide)) (z 21 (by decide) (by decide)) (z 22 (by decide) (by decide)) (z 23 (by decide) (by decide)) (z 24 (by decide) (by decide)) (z 25 (by decide) (by decide)) (z 26 (by decide) (by decide))
  have b : ∀ t o, t ≠ 19 → mset m1 19 0 rf6 t o = m1 t o := fun t o h => mset_t h
  refine ⟨mset m1 19 0 rf6, ⟨fun o ho => by rw [b _ _ (by decide)]; exact a0 o ho, by rw [b _ _ (by decide)]; exact a11, by rw [b _ _ (by decide)]; exact a12, by rw [b _ _ (by decide)]; exact a13, by rw [b _ _ (by decide)]; exact a15, by rw [b _ _ (by decide)]; exact a17, mset_s _ _ _ _⟩, T0_TC (by rw [b _ _ (by decide)]; exact a0 0 (by decide)) (by rw [b _ _ (by decide)]; exact a11) (by rw [b _ _ (by decide)]; exact a12) (by rw [b _ _ (by decide)]; exact a14) (by rw [b _ _ (by decide)]; exact a15) (by rw [b _ _ (by decide)]; exact a17), T0_TM (mset_s _ _ _ _) (by rw [b _ _ (by decide)]; exact z 20 (by decide) (by decide)), fun t ht => ?_, ?_⟩
  · funext o
    rw [b _ _ (by omega), ak t (by omega)]
  · refine BW_new (t := 11) (o := 0) dL_law_0 fn_L_8 rfl (by decide) (mu0_0 (by decide)) (Nat.le_of_ble_eq_true rfl) (Nat.le_of_ble_eq_true rfl) ?_
    refine BW_dup dL_law_3 ?_
    refine BW_callI dL_law_4 cfi_L_134 (Nat.le_of_ble_eq_true rfl) (Nat.le_of_ble_eq_true rfl) (Nat.le_of_ble_eq_true rfl) (Nat.le_of_ble_eq_true rfl) h1 ?_
    refine BW_astore_n dL_law_7 (Nat.le_of_ble_eq_true rfl) rfl rfl ?_
    refine BW_new (t := 19) (o := 0) dL_law_8 fn_L_135 rfl (by decide) (z 19 (by decide) (by decide)) (Nat.le_of_ble_eq_true rfl) (Nat.le_of_ble_eq_true rfl) ?_
    refine BW_dup dL_law_11 ?_
    refine BW_callI dL_law_12 cfi_L_137 (Nat.le_of_ble_eq_true rfl) (Nat.le_of_ble_eq_true rfl) (Nat.le_of_ble_eq_true rfl) (Nat.le_of_ble_eq_true rfl) h2 ?_
    refine BW_astore_n dL_law_15 (Nat.le_of_ble_eq_true rfl) rfl rfl ?_
    refine BW_iconst (v := 1) dL_law_16 (by decide) ?_
    refine BW_newa (t := 27) (o := 0) (j := 3) (N := 1) (ty := .long) (a0 := (1, .inr (.inl (fun _ => 0)))) dL_law_17 gw_ac_long rfl (fun U cA h => h) (fun G => rfl) rfl (by decide) (fun G => ?_) (fun cA => rfl) (by decide) (by decide) (by decide) (Nat.le_of_ble_eq_true rfl) (Nat.le_of_ble_eq_true rfl) ?_
    · show (Sum.inl (gcy G 4, 1, .inr (.inl (fun k => (mset m1 19 0 rf6 27 0 k).toInt64))) : va_E) = _
      rw [b _ _ (by decide), z 27 (by decide) (by decide)]
      rfl
    refine BW_astore_n dL_law_19 (Nat.le_of_ble_eq_true rfl) rfl rfl ?_
    refine BW_iconst (v := 1) dL_law_20 (by decide) ?_
    refine BW_newa (t := 28) (o := 0) (j := 4) (N := 1) (ty := .double) (a0 := (1, .inr (.inr (.inr (.inl (fun _ => 0)))))) dL_law_21 gw_ac_double rfl (fun U cA h => h) (fun G => rfl) rfl (by decide) (fun G => ?_) (fun cA => rfl) (by decide) (by decide) (by decide) (Nat.le_of_ble_eq_true rfl) (Nat.le_of_ble_eq_true rfl) ?_
    · show (Sum.inl (gcy G 5, 1, .inr (.inr (.inr (.inl (fun k => dbl (mset m1 19 0 rf6 28 0 k) (mset m1 19 0 rf6 28 (0 + 1) k)))))) : va_E) = _
      rw [show (fun k => dbl (mset m1 19 0 rf6 28 0 k) (mset m1 19 0 rf6 28 (0 + 1) k)) = (fun _ => (0 : UInt64)) from funext fun k => by
        rw [b _ _ (by decide), b _ _ (by decide), z 28 (by decide) (by decide), ak 28 (by decide), mu0_0 (by decide)]
        exact dbl_0]
    refine BW_astore dL_law_23 (Nat.le_of_ble_eq_true rfl) rfl rfl ?_
    refine BW_iconst (v := 0) dL_law_25 (by decide) ?_
    refine BW_istore dL_law_26 (Nat.le_of_ble_eq_true rfl) rfl rfl ?_
    exact BW_end
