/-! the law's wrappers: what they call, and what they answer -/
def Lw (μ μ' : Mem) : Prop := ∀ t, 19 ≤ t → t ≠ 27 → t ≠ 28 → μ' t = μ t
def LK (M : MI) (as : List AV) (l : List Nat) (μ : Mem) (c : AN) (T : TT) : Prop := ∃ μ', MetA M (aR 11 0 :: (as ++ [aR 27 0])) μ (rI (nI (cc l c)) μ') ∧ TC μ' T ∧ Lw μ μ' ∧ ∀ x, c = .inl x → μ' 27 0 0 = x
theorem Lw.cl {μ μ' : Mem} (h : Cl μ μ') : Lw μ μ' := fun t ht _ _ => h t ht
theorem Lw.st {μ μ' : Mem} {f : Nat → Int32} (h : Cl μ μ') : Lw μ (mset μ' 27 0 f) := fun t ht h2 _ => by
  rw [← h t ht]
  funext o
  exact mset_t h2
theorem TC.lo {μ μ' : Mem} {T : TT} (h : ∀ t, t < 19 → μ' t = μ t) (H : TC μ T) : TC μ' T := by
  obtain ⟨a, b, c, d, e, f, g⟩ := H
  exact ⟨RC.mv (fun t ht => by rw [h t (by omega)]) a, HC.mv (by rw [h 12 (by omega)]) (fun t j ht _ => by rw [h t (by omega)]) b, ZC.mv (by rw [h 11 (by omega)]) (fun t ht => by rw [h t (by omega)]) c, FC.mv (by rw [h 14 (by omega)]) d, IC.mv (by rw [h 15 (by omega)]) (by rw [h 16 (by omega)]) e, by rw [h 11 (by omega)]; exact f, LC.mv (by rw [h 17 (by omega)]) (by rw [h 18 (by omega)]) g⟩
theorem TC.st {μ : Mem} {T : TT} {t : Nat} {f : Nat → Int32} {o : Nat} (ht : 19 ≤ t) (H : TC μ T) : TC (mset μ t o f) T := TC.lo (fun t' h => by
  funext o'
  exact mset_t (by omega)) H
set_option maxRecDepth 100000 in
theorem l_house {a1 : Int32} {μ : Mem} {c : AN} {T : TT} (hK : CK M_X5_house [aI a1] μ c T) (hc : ∀ e, c = .inr e → e = 1 ∨ e = 2) : LK M_L_house [aI a1] [1, 2] μ c T := by
  obtain ⟨m1, h1, h2, h3⟩ := hK
  cases c with
  | inl v =>
    refine ⟨mset m1 27 0 (upd (m1 27 0) 0 v), ?_, TC.st (by decide) h2, Lw.st h3, fun x q => by cases q; rw [mset_s]; rfl⟩
    refine MetA.ofH kw_L_house rfl (Nat.le_of_ble_eq_true rfl) rfl ?_
    refine AW_aload_n dL_house_0 rfl ?_
    refine AW_iconst (v := 0) dL_house_1 (by decide) ?_
    refine AW_aload_n dL_house_2 rfl ?_
    refine AW_iload_n dL_house_3 rfl ?_
    refine AW_callVI [aI a1] dL_house_4 cv_L_7 rfl rfl rfl (by decide) rfl (by decide) (Nat.le_of_ble_eq_true rfl) h1 ?_
    refine AW_i2l dL_house_7 ?_
    refine AW_lastore dL_house_8 rfl rfl (vp_in_nI (n := 0) (N := 1) (by decide) (by decide)) rfl ?_
    refine AW_goto (tgt := 18) dL_house_9 (by decide) ?_
    refine AW_iconst (v := 0) dL_house_18 (by decide) ?_
    exact AW_ireturn (ty := .int) dL_house_19 rfl rfl ⟨rfl, rfl⟩
  | inr e =>
    refine ⟨m1, ?_, h2, Lw.cl h3, fun x q => by cases q⟩
    rcases hc e rfl with rfl | rfl
    · refine MetA.ofH kw_L_house rfl (Nat.le_of_ble_eq_true rfl) rfl ?_
      refine AW_aload_n dL_house_0 rfl ?_
      refine AW_iconst (v := 0) dL_house_1 (by decide) ?_
      refine AW_aload_n dL_house_2 rfl ?_
      refine AW_iload_n dL_house_3 rfl ?_
      refine AW_callVE [aI a1] dL_house_4 cv_L_7 rfl rfl rfl (by decide) (by decide) (Nat.le_of_ble_eq_true rfl) h1 ch_L_house_1 (fun q => ?_)
      refine AW_astoreX_n (q := q) (loc' := [some (aR 11 0), some (aI a1), some (aR 27 0), none]) dL_house_12 (Nat.le_of_ble_eq_true rfl) rfl rfl ?_
      refine AW_iconst (v := 1) dL_house_13 (by decide) ?_
      exact AW_ireturn (ty := .int) dL_house_14 rfl rfl ⟨rfl, rfl⟩
    · refine MetA.ofH kw_L_house rfl (Nat.le_of_ble_eq_true rfl) rfl ?_
      refine AW_aload_n dL_house_0 rfl ?_
      refine AW_iconst (v := 0) dL_house_1 (by decide) ?_
      refine AW_aload_n dL_house_2 rfl ?_
      refine AW_iload_n dL_house_3 rfl ?_
      refine AW_callVE [aI a1] dL_house_4 cv_L_7 rfl rfl rfl (by decide) (by decide) (Nat.le_of_ble_eq_true rfl) h1 ch_L_house_2 (fun q => ?_)
      refine AW_astoreX_n (q := q) (loc' := [some (aR 11 0), some (aI a1), some (aR 27 0), none]) dL_house_15 (Nat.le_of_ble_eq_true rfl) rfl rfl ?_
      refine AW_iconst (v := 2) dL_house_16 (by decide) ?_
      exact AW_ireturn (ty := .int) dL_house_17 rfl rfl ⟨rfl, rfl⟩
set_option maxRecDepth 100000 in
theorem l_sheet {a1 a2 : Int32} {μ : Mem} {c : AN} {T : TT} (hK : CK M_X5_sheet [aI a1, aI a2] μ c T) (hc : ∀ e, c = .inr e → e = 0 ∨ e = 1 ∨ e = 2) : LK M_L_sheet [aI a1, aI a2] [0, 1, 2] μ c T := by
  obtain ⟨m1, h1, h2, h3⟩ := hK
  cases c with
  | inl v =>
    refine ⟨mset m1 27 0 (upd (m1 27 0) 0 v), ?_, TC.st (by decide) h2, Lw.st h3, fun x q => by cases q; rw [mset_s]; rfl⟩
    refine MetA.ofH kw_L_sheet rfl (Nat.le_of_ble_eq_true rfl) rfl ?_
    refine AW_aload_n dL_sheet_0 rfl ?_
    refine AW_iconst (v := 0) dL_sheet_1 (by decide) ?_
    refine AW_aload_n dL_sheet_2 rfl ?_
    refine AW_iload_n dL_sheet_3 rfl ?_
    refine AW_iload_n dL_sheet_4 rfl ?_
    refine AW_callVI [aI a1, aI a2] dL_sheet_5 cv_L_17 rfl rfl rfl (by decide) rfl (by decide) (Nat.le_of_ble_eq_true rfl) h1 ?_
    refine AW_i2l dL_sheet_8 ?_
    refine AW_lastore dL_sheet_9 rfl rfl (vp_in_nI (n := 0) (N := 1) (by decide) (by decide)) rfl ?_
    refine AW_goto (tgt := 25) dL_sheet_10 (by decide) ?_
    refine AW_iconst (v := 0) dL_sheet_25 (by decide) ?_
    exact AW_ireturn (ty := .int) dL_sheet_26 rfl rfl ⟨rfl, rfl⟩
  | inr e =>
    refine ⟨m1, ?_, h2, Lw.cl h3, fun x q => by cases q⟩
    rcases hc e rfl with rfl | rfl | rfl
    · refine MetA.ofH kw_L_sheet rfl (Nat.le_of_ble_eq_true rfl) rfl ?_
      refine AW_aload_n dL_sheet_0 rfl ?_
      refine AW_iconst (v := 0) dL_sheet_1 (by decide) ?_
      refine AW_aload_n dL_sheet_2 rfl ?_
      refine AW_iload_n dL_sheet_3 rfl ?_
      refine AW_iload_n dL_sheet_4 rfl ?_
      refine AW_callVE [aI a1, aI a2] dL_sheet_5 cv_L_17 rfl rfl rfl (by decide) (by decide) (Nat.le_of_ble_eq_true rfl) h1 ch_L_sheet_0 (fun q => ?_)
      refine AW_astoreX (q := q) (loc' := [some (aR 11 0), some (aI a1), some (aI a2), some (aR 27 0), none]) dL_sheet_13 (Nat.le_of_ble_eq_true rfl) rfl rfl ?_
      refine AW_iconst (v := 1) dL_sheet_15 (by decide) ?_
      exact AW_ireturn (ty := .int) dL_sheet_16 rfl rfl ⟨rfl, rfl⟩
    · refine MetA.ofH kw_L_sheet rfl (Nat.le_of_ble_eq_true rfl) rfl ?_
      refine AW_aload_n dL_sheet_0 rfl ?_
      refine AW_iconst (v := 0) dL_sheet_1 (by decide) ?_
      refine AW_aload_n dL_sheet_2 rfl ?_
      refine AW_iload_n dL_sheet_3 rfl ?_
      refine AW_iload_n dL_sheet_4 rfl ?_
      refine AW_callVE [aI a1, aI a2] dL_sheet_5 cv_L_17 rfl rfl rfl (by decide) (by decide) (Nat.le_of_ble_eq_true rfl) h1 ch_L_sheet_1 (fun q => ?_)
      refine AW_astoreX (q := q) (loc' := [some (aR 11 0), some (aI a1), some (aI a2), some (aR 27 0), none]) dL_sheet_17 (Nat.le_of_ble_eq_true rfl) rfl rfl ?_
      refine AW_iconst (v := 2) dL_sheet_19 (by decide) ?_
      exact AW_ireturn (ty := .int) dL_sheet_20 rfl rfl ⟨rfl, rfl⟩
    · refine MetA.ofH kw_L_sheet rfl (Nat.le_of_ble_eq_true rfl) rfl ?_
      refine AW_aload_n dL_sheet_0 rfl ?_
      refine AW_iconst (v := 0) dL_sheet_1 (by decide) ?_
      refine AW_aload_n dL_sheet_2 rfl ?_
      refine AW_iload_n dL_sheet_3 rfl ?_
      refine AW_iload_n dL_sheet_4 rfl ?_
      refine AW_callVE [aI a1, aI a2] dL_sheet_5 cv_L_17 rfl rfl rfl (by decide) (by decide) (Nat.le_of_ble_eq_true rfl) h1 ch_L_sheet_2 (fun q => ?_)
      refine AW_astoreX (q := q) (loc' := [some (aR 11 0), some (aI a1), some (aI a2), some (aR 27 0), none]) dL_sheet_21 (Nat.le_of_ble_eq_true rfl) rfl rfl ?_
      refine AW_iconst (v := 3) dL_sheet_23 (by decide) ?_
      exact AW_ireturn (ty := .int) dL_sheet_24 rfl rfl ⟨rfl, rfl⟩
set_option maxRecDepth 100000 in
theorem l_take {a1 : Int32} {μ : Mem} {c : AN} {T : TT} (hK : CK M_X5_take [aI a1] μ c T) (hc : ∀ e, c = .inr e → e = 0) : LK M_L_take [aI a1] [0] μ c T := by
  obtain ⟨m1, h1, h2, h3⟩ := hK
  cases c with
  | inl v =>
    refine ⟨mset m1 27 0 (upd (m1 27 0) 0 v), ?_, TC.st (by decide) h2, Lw.st h3, fun x q => by cases q; rw [mset_s]; rfl⟩
    refine MetA.ofH kw_L_take rfl (Nat.le_of_ble_eq_true rfl) rfl ?_
    refine AW_aload_n dL_take_0 rfl ?_
    refine AW_iconst (v := 0) dL_take_1 (by decide) ?_
    refine AW_aload_n dL_take_2 rfl ?_
    refine AW_iload_n dL_take_3 rfl ?_
    refine AW_callVI [aI a1] dL_take_4 cv_L_23 rfl rfl rfl (by decide) rfl (by decide) (Nat.le_of_ble_eq_true rfl) h1 ?_
    refine AW_i2l dL_take_7 ?_
    refine AW_lastore dL_take_8 rfl rfl (vp_in_nI (n := 0) (N := 1) (by decide) (by decide)) rfl ?_
    refine AW_goto (tgt := 15) dL_take_9 (by decide) ?_
    refine AW_iconst (v := 0) dL_take_15 (by decide) ?_
    exact AW_ireturn (ty := .int) dL_take_16 rfl rfl ⟨rfl, rfl⟩
  | inr e =>
    refine ⟨m1, ?_, h2, Lw.cl h3, fun x q => by cases q⟩
    rcases hc e rfl with rfl
    · refine MetA.ofH kw_L_take rfl (Nat.le_of_ble_eq_true rfl) rfl ?_
      refine AW_aload_n dL_take_0 rfl ?_
      refine AW_iconst (v := 0) dL_take_1 (by decide) ?_
      refine AW_aload_n dL_take_2 rfl ?_
      refine AW_iload_n dL_take_3 rfl ?_
      refine AW_callVE [aI a1] dL_take_4 cv_L_23 rfl rfl rfl (by decide) (by decide) (Nat.le_of_ble_eq_true rfl) h1 ch_L_take_0 (fun q => ?_)
      refine AW_astoreX_n (q := q) (loc' := [some (aR 11 0), some (aI a1), some (aR 27 0), none]) dL_take_12 (Nat.le_of_ble_eq_true rfl) rfl rfl ?_
      refine AW_iconst (v := 1) dL_take_13 (by decide) ?_
      exact AW_ireturn (ty := .int) dL_take_14 rfl rfl ⟨rfl, rfl⟩
set_option maxRecDepth 100000 in
theorem l_set {a1 a2 a3 : Int32} {μ : Mem} {c : AN} {T : TT} (hK : CK M_X5_set [aI a1, aI a2, aI a3] μ c T) (hc : ∀ e, c = .inr e → e = 0 ∨ e = 1 ∨ e = 2) : LK M_L_set [aI a1, aI a2, aI a3] [0, 1, 2] μ c T := by
  obtain ⟨m1, h1, h2, h3⟩ := hK
  cases c with
  | inl v =>
    refine ⟨mset m1 27 0 (upd (m1 27 0) 0 v), ?_, TC.st (by decide) h2, Lw.st h3, fun x q => by cases q; rw [mset_s]; rfl⟩
    refine MetA.ofH kw_L_set rfl (Nat.le_of_ble_eq_true rfl) rfl ?_
    refine AW_aload dL_set_0 rfl ?_
    refine AW_iconst (v := 0) dL_set_2 (by decide) ?_
    refine AW_aload_n dL_set_3 rfl ?_
    refine AW_iload_n dL_set_4 rfl ?_
    refine AW_iload_n dL_set_5 rfl ?_
    refine AW_iload_n dL_set_6 rfl ?_
    refine AW_callVI [aI a1, aI a2, aI a3] dL_set_7 cv_L_26 rfl rfl rfl (by decide) rfl (by decide) (Nat.le_of_ble_eq_true rfl) h1 ?_
    refine AW_i2l dL_set_10 ?_
    refine AW_lastore dL_set_11 rfl rfl (vp_in_nI (n := 0) (N := 1) (by decide) (by decide)) rfl ?_
    refine AW_goto (tgt := 27) dL_set_12 (by decide) ?_
    refine AW_iconst (v := 0) dL_set_27 (by decide) ?_
    exact AW_ireturn (ty := .int) dL_set_28 rfl rfl ⟨rfl, rfl⟩
  | inr e =>
    refine ⟨m1, ?_, h2, Lw.cl h3, fun x q => by cases q⟩
    rcases hc e rfl with rfl | rfl | rfl
    · refine MetA.ofH kw_L_set rfl (Nat.le_of_ble_eq_true rfl) rfl ?_
      refine AW_aload dL_set_0 rfl ?_
      refine AW_iconst (v := 0) dL_set_2 (by decide) ?_
      refine AW_aload_n dL_set_3 rfl ?_
      refine AW_iload_n dL_set_4 rfl ?_
      refine AW_iload_n dL_set_5 rfl ?_
      refine AW_iload_n dL_set_6 rfl ?_
      refine AW_callVE [aI a1, aI a2, aI a3] dL_set_7 cv_L_26 rfl rfl rfl (by decide) (by decide) (Nat.le_of_ble_eq_true rfl) h1 ch_L_set_0 (fun q => ?_)
      refine AW_astoreX (q := q) (loc' := [some (aR 11 0), some (aI a1), some (aI a2), some (aI a3), some (aR 27 0), none]) dL_set_15 (Nat.le_of_ble_eq_true rfl) rfl rfl ?_
      refine AW_iconst (v := 1) dL_set_17 (by decide) ?_
      exact AW_ireturn (ty := .int) dL_set_18 rfl rfl ⟨rfl, rfl⟩
    · refine MetA.ofH kw_L_set rfl (Nat.le_of_ble_eq_true rfl) rfl ?_
      refine AW_aload dL_set_0 rfl ?_
      refine AW_iconst (v := 0) dL_set_2 (by decide) ?_
      refine AW_aload_n dL_set_3 rfl ?_
      refine AW_iload_n dL_set_4 rfl ?_
      refine AW_iload_n dL_set_5 rfl ?_
      refine AW_iload_n dL_set_6 rfl ?_
      refine AW_callVE [aI a1, aI a2, aI a3] dL_set_7 cv_L_26 rfl rfl rfl (by decide) (by decide) (Nat.le_of_ble_eq_true rfl) h1 ch_L_set_1 (fun q => ?_)
      refine AW_astoreX (q := q) (loc' := [some (aR 11 0), some (aI a1), some (aI a2), some (aI a3), some (aR 27 0), none]) dL_set_19 (Nat.le_of_ble_eq_true rfl) rfl rfl ?_
      refine AW_iconst (v := 2) dL_set_21 (by decide) ?_
      exact AW_ireturn (ty := .int) dL_set_22 rfl rfl ⟨rfl, rfl⟩
    · refine MetA.ofH kw_L_set rfl (Nat.le_of_ble_eq_true rfl) rfl ?_
      refine AW_aload dL_set_0 rfl ?_
      refine AW_iconst (v := 0) dL_set_2 (by decide) ?_
      refine AW_aload_n dL_set_3 rfl ?_
      refine AW_iload_n dL_set_4 rfl ?_
      refine AW_iload_n dL_set_5 rfl ?_
      refine AW_iload_n dL_set_6 rfl ?_
      refine AW_callVE [aI a1, aI a2, aI a3] dL_set_7 cv_L_26 rfl rfl rfl (by decide) (by decide) (Nat.le_of_ble_eq_true rfl) h1 ch_L_set_2 (fun q => ?_)
      refine AW_astoreX (q := q) (loc' := [some (aR 11 0), some (aI a1), some (aI a2), some (aI a3), some (aR 27 0), none]) dL_set_23 (Nat.le_of_ble_eq_true rfl) rfl rfl ?_
      refine AW_iconst (v := 3) dL_set_25 (by decide) ?_
      exact AW_ireturn (ty := .int) dL_set_26 rfl rfl ⟨rfl, rfl⟩
set_option maxRecDepth 100000 in
theorem l_license {a1 a2 : Int32} {μ : Mem} {c : AN} {T : TT} (hK : CK M_X5_license [aI a1, aI a2] μ c T) (hc : ∀ e, c = .inr e → e = 0 ∨ e = 2) : LK M_L_license [aI a1, aI a2] [0, 2] μ c T := by
  obtain ⟨m1, h1, h2, h3⟩ := hK
  cases c with
  | inl v =>
    refine ⟨mset m1 27 0 (upd (m1 27 0) 0 v), ?_, TC.st (by decide) h2, Lw.st h3, fun x q => by cases q; rw [mset_s]; rfl⟩
    refine MetA.ofH kw_L_license rfl (Nat.le_of_ble_eq_true rfl) rfl ?_
    refine AW_aload_n dL_license_0 rfl ?_
    refine AW_iconst (v := 0) dL_license_1 (by decide) ?_
    refine AW_aload_n dL_license_2 rfl ?_
    refine AW_iload_n dL_license_3 rfl ?_
    refine AW_iload_n dL_license_4 rfl ?_
    refine AW_callVI [aI a1, aI a2] dL_license_5 cv_L_30 rfl rfl rfl (by decide) rfl (by decide) (Nat.le_of_ble_eq_true rfl) h1 ?_
    refine AW_i2l dL_license_8 ?_
    refine AW_lastore dL_license_9 rfl rfl (vp_in_nI (n := 0) (N := 1) (by decide) (by decide)) rfl ?_
    refine AW_goto (tgt := 21) dL_license_10 (by decide) ?_
    refine AW_iconst (v := 0) dL_license_21 (by decide) ?_
    exact AW_ireturn (ty := .int) dL_license_22 rfl rfl ⟨rfl, rfl⟩
  | inr e =>
    refine ⟨m1, ?_, h2, Lw.cl h3, fun x q => by cases q⟩
    rcases hc e rfl with rfl | rfl
    · refine MetA.ofH kw_L_license rfl (Nat.le_of_ble_eq_true rfl) rfl ?_
      refine AW_aload_n dL_license_0 rfl ?_
      refine AW_iconst (v := 0) dL_license_1 (by decide) ?_
      refine AW_aload_n dL_license_2 rfl ?_
      refine AW_iload_n dL_license_3 rfl ?_
      refine AW_iload_n dL_license_4 rfl ?_
      refine AW_callVE [aI a1, aI a2] dL_license_5 cv_L_30 rfl rfl rfl (by decide) (by decide) (Nat.le_of_ble_eq_true rfl) h1 ch_L_license_0 (fun q => ?_)
      refine AW_astoreX (q := q) (loc' := [some (aR 11 0), some (aI a1), some (aI a2), some (aR 27 0), none]) dL_license_13 (Nat.le_of_ble_eq_true rfl) rfl rfl ?_
      refine AW_iconst (v := 1) dL_license_15 (by decide) ?_
      exact AW_ireturn (ty := .int) dL_license_16 rfl rfl ⟨rfl, rfl⟩
    · refine MetA.ofH kw_L_license rfl (Nat.le_of_ble_eq_true rfl) rfl ?_
      refine AW_aload_n dL_license_0 rfl ?_
      refine AW_iconst (v := 0) dL_license_1 (by decide) ?_
      refine AW_aload_n dL_license_2 rfl ?_
      refine AW_iload_n dL_license_3 rfl ?_
      refine AW_iload_n dL_license_4 rfl ?_
      refine AW_callVE [aI a1, aI a2] dL_license_5 cv_L_30 rfl rfl rfl (by decide) (by decide) (Nat.le_of_ble_eq_true rfl) h1 ch_L_license_2 (fun q => ?_)
      refine AW_astoreX (q := q) (loc' := [some (aR 11 0), some (aI a1), some (aI a2), some (aR 27 0), none]) dL_license_17 (Nat.le_of_ble_eq_true rfl) rfl rfl ?_
      refine AW_iconst (v := 2) dL_license_19 (by decide) ?_
      exact AW_ireturn (ty := .int) dL_license_20 rfl rfl ⟨rfl, rfl⟩
set_option maxRecDepth 100000 in
theorem l_correct {a1 a2 : Int32} {μ : Mem} {c : AN} {T : TT} (hK : CK M_X5_correct [aI a1, aI a2] μ c T) (hc : ∀ e, c = .inr e → e = 0 ∨ e = 2) : LK M_L_correct [aI a1, aI a2] [0, 2] μ c T := by
  obtain ⟨m1, h1, h2, h3⟩ := hK
  cases c with
  | inl v =>
    refine ⟨mset m1 27 0 (upd (m1 27 0) 0 v), ?_, TC.st (by decide) h2, Lw.st h3, fun x q => by cases q; rw [mset_s]; rfl⟩
    refine MetA.ofH kw_L_correct rfl (Nat.le_of_ble_eq_true rfl) rfl ?_
    refine AW_aload_n dL_correct_0 rfl ?_
    refine AW_iconst (v := 0) dL_correct_1 (by decide) ?_
    refine AW_aload_n dL_correct_2 rfl ?_
    refine AW_iload_n dL_correct_3 rfl ?_
    refine AW_iload_n dL_correct_4 rfl ?_
    refine AW_callVI [aI a1, aI a2] dL_correct_5 cv_L_33 rfl rfl rfl (by decide) rfl (by decide) (Nat.le_of_ble_eq_true rfl) h1 ?_
    refine AW_i2l dL_correct_8 ?_
    refine AW_lastore dL_correct_9 rfl rfl (vp_in_nI (n := 0) (N := 1) (by decide) (by decide)) rfl ?_
    refine AW_goto (tgt := 21) dL_correct_10 (by decide) ?_
    refine AW_iconst (v := 0) dL_correct_21 (by decide) ?_
    exact AW_ireturn (ty := .int) dL_correct_22 rfl rfl ⟨rfl, rfl⟩
  | inr e =>
    refine ⟨m1, ?_, h2, Lw.cl h3, fun x q => by cases q⟩
    rcases hc e rfl with rfl | rfl
    · refine MetA.ofH kw_L_correct rfl (Nat.le_of_ble_eq_true rfl) rfl ?_
      refine AW_aload_n dL_correct_0 rfl ?_
      refine AW_iconst (v := 0) dL_correct_1 (by decide) ?_
      refine AW_aload_n dL_correct_2 rfl ?_
      refine AW_iload_n dL_correct_3 rfl ?_
      refine AW_iload_n dL_correct_4 rfl ?_
      refine AW_callVE [aI a1, aI a2] dL_correct_5 cv_L_33 rfl rfl rfl (by decide) (by decide) (Nat.le_of_ble_eq_true rfl) h1 ch_L_correct_0 (fun q => ?_)
      refine AW_astoreX (q := q) (loc' := [some (aR 11 0), some (aI a1), some (aI a2), some (aR 27 0), none]) dL_correct_13 (Nat.le_of_ble_eq_true rfl) rfl rfl ?_
      refine AW_iconst (v := 1) dL_correct_15 (by decide) ?_
      exact AW_ireturn (ty := .int) dL_correct_16 rfl rfl ⟨rfl, rfl⟩
    · refine MetA.ofH kw_L_correct rfl (Nat.le_of_ble_eq_true rfl) rfl ?_
      refine AW_aload_n dL_correct_0 rfl ?_
      refine AW_iconst (v := 0) dL_correct_1 (by decide) ?_
      refine AW_aload_n dL_correct_2 rfl ?_
      refine AW_iload_n dL_correct_3 rfl ?_
      refine AW_iload_n dL_correct_4 rfl ?_
      refine AW_callVE [aI a1, aI a2] dL_correct_5 cv_L_33 rfl rfl rfl (by decide) (by decide) (Nat.le_of_ble_eq_true rfl) h1 ch_L_correct_2 (fun q => ?_)
      refine AW_astoreX (q := q) (loc' := [some (aR 11 0), some (aI a1), some (aI a2), some (aR 27 0), none]) dL_correct_17 (Nat.le_of_ble_eq_true rfl) rfl rfl ?_
      refine AW_iconst (v := 2) dL_correct_19 (by decide) ?_
      exact AW_ireturn (ty := .int) dL_correct_20 rfl rfl ⟨rfl, rfl⟩
set_option maxRecDepth 100000 in
theorem l_reader {a1 a2 : Int32} {μ : Mem} {c : AN} {T : TT} (hK : CK M_X5_reader [aI a1, aI a2] μ c T) (hc : ∀ e, c = .inr e → e = 1 ∨ e = 2) : LK M_L_reader [aI a1, aI a2] [1, 2] μ c T := by
  obtain ⟨m1, h1, h2, h3⟩ := hK
  cases c with
  | inl v =>
    refine ⟨mset m1 27 0 (upd (m1 27 0) 0 v), ?_, TC.st (by decide) h2, Lw.st h3, fun x q => by cases q; rw [mset_s]; rfl⟩
    refine MetA.ofH kw_L_reader rfl (Nat.le_of_ble_eq_true rfl) rfl ?_
    refine AW_aload_n dL_reader_0 rfl ?_
    refine AW_iconst (v := 0) dL_reader_1 (by decide) ?_
    refine AW_aload_n dL_reader_2 rfl ?_
    refine AW_iload_n dL_reader_3 rfl ?_
    refine AW_iload_n dL_reader_4 rfl ?_
    refine AW_callVI [aI a1, aI a2] dL_reader_5 cv_L_36 rfl rfl rfl (by decide) rfl (by decide) (Nat.le_of_ble_eq_true rfl) h1 ?_
    refine AW_i2l dL_reader_8 ?_
    refine AW_lastore dL_reader_9 rfl rfl (vp_in_nI (n := 0) (N := 1) (by decide) (by decide)) rfl ?_
    refine AW_goto (tgt := 21) dL_reader_10 (by decide) ?_
    refine AW_iconst (v := 0) dL_reader_21 (by decide) ?_
    exact AW_ireturn (ty := .int) dL_reader_22 rfl rfl ⟨rfl, rfl⟩
  | inr e =>
    refine ⟨m1, ?_, h2, Lw.cl h3, fun x q => by cases q⟩
    rcases hc e rfl with rfl | rfl
    · refine MetA.ofH kw_L_reader rfl (Nat.le_of_ble_eq_true rfl) rfl ?_
      refine AW_aload_n dL_reader_0 rfl ?_
      refine AW_iconst (v := 0) dL_reader_1 (by decide) ?_
      refine AW_aload_n dL_reader_2 rfl ?_
      refine AW_iload_n dL_reader_3 rfl ?_
      refine AW_iload_n dL_reader_4 rfl ?_
      refine AW_callVE [aI a1, aI a2] dL_reader_5 cv_L_36 rfl rfl rfl (by decide) (by decide) (Nat.le_of_ble_eq_true rfl) h1 ch_L_reader_1 (fun q => ?_)
      refine AW_astoreX (q := q) (loc' := [some (aR 11 0), some (aI a1), some (aI a2), some (aR 27 0), none]) dL_reader_13 (Nat.le_of_ble_eq_true rfl) rfl rfl ?_
      refine AW_iconst (v := 1) dL_reader_15 (by decide) ?_
      exact AW_ireturn (ty := .int) dL_reader_16 rfl rfl ⟨rfl, rfl⟩
    · refine MetA.ofH kw_L_reader rfl (Nat.le_of_ble_eq_true rfl) rfl ?_
      refine AW_aload_n dL_reader_0 rfl ?_
      refine AW_iconst (v := 0) dL_reader_1 (by decide) ?_
      refine AW_aload_n dL_reader_2 rfl ?_
      refine AW_iload_n dL_reader_3 rfl ?_
      refine AW_iload_n dL_reader_4 rfl ?_
      refine AW_callVE [aI a1, aI a2] dL_reader_5 cv_L_36 rfl rfl rfl (by decide) (by decide) (Nat.le_of_ble_eq_true rfl) h1 ch_L_reader_2 (fun q => ?_)
      refine AW_astoreX (q := q) (loc' := [some (aR 11 0), some (aI a1), some (aI a2), some (aR 27 0), none]) dL_reader_17 (Nat.le_of_ble_eq_true rfl) rfl rfl ?_
      refine AW_iconst (v := 2) dL_reader_19 (by decide) ?_
      exact AW_ireturn (ty := .int) dL_reader_20 rfl rfl ⟨rfl, rfl⟩
set_option maxRecDepth 100000 in
theorem l_edition {μ : Mem} {c : AN} {T : TT} (hK : CK M_X5_edition [] μ c T) (hc : ∀ e, c = .inr e → e = 2) : LK M_L_edition [] [2] μ c T := by
  obtain ⟨m1, h1, h2, h3⟩ := hK
  cases c with
  | inl v =>
    refine ⟨mset m1 27 0 (upd (m1 27 0) 0 v), ?_, TC.st (by decide) h2, Lw.st h3, fun x q => by cases q; rw [mset_s]; rfl⟩
    refine MetA.ofH kw_L_edition rfl (Nat.le_of_ble_eq_true rfl) rfl ?_
    refine AW_aload_n dL_edition_0 rfl ?_
    refine AW_iconst (v := 0) dL_edition_1 (by decide) ?_
    refine AW_aload_n dL_edition_2 rfl ?_
    refine AW_callVI [] dL_edition_3 cv_L_39 rfl rfl rfl (by decide) rfl (by decide) (Nat.le_of_ble_eq_true rfl) h1 ?_
    refine AW_i2l dL_edition_6 ?_
    refine AW_lastore dL_edition_7 rfl rfl (vp_in_nI (n := 0) (N := 1) (by decide) (by decide)) rfl ?_
    refine AW_goto (tgt := 14) dL_edition_8 (by decide) ?_
    refine AW_iconst (v := 0) dL_edition_14 (by decide) ?_
    exact AW_ireturn (ty := .int) dL_edition_15 rfl rfl ⟨rfl, rfl⟩
  | inr e =>
    refine ⟨m1, ?_, h2, Lw.cl h3, fun x q => by cases q⟩
    rcases hc e rfl with rfl
    · refine MetA.ofH kw_L_edition rfl (Nat.le_of_ble_eq_true rfl) rfl ?_
      refine AW_aload_n dL_edition_0 rfl ?_
      refine AW_iconst (v := 0) dL_edition_1 (by decide) ?_
      refine AW_aload_n dL_edition_2 rfl ?_
      refine AW_callVE [] dL_edition_3 cv_L_39 rfl rfl rfl (by decide) (by decide) (Nat.le_of_ble_eq_true rfl) h1 ch_L_edition_2 (fun q => ?_)
      refine AW_astoreX_n (q := q) (loc' := [some (aR 11 0), some (aR 27 0), none]) dL_edition_11 (Nat.le_of_ble_eq_true rfl) rfl rfl ?_
      refine AW_iconst (v := 1) dL_edition_12 (by decide) ?_
      exact AW_ireturn (ty := .int) dL_edition_13 rfl rfl ⟨rfl, rfl⟩
set_option maxRecDepth 100000 in
theorem l_houseOf {a1 a2 : Int32} {μ : Mem} {c : AN} {T : TT} (hK : CK M_X5_houseOf [aI a1, aI a2] μ c T) (hc : ∀ e, c = .inr e → e = 0 ∨ e = 1) : LK M_L_houseOf [aI a1, aI a2] [0, 1] μ c T := by
  obtain ⟨m1, h1, h2, h3⟩ := hK
  cases c with
  | inl v =>
    refine ⟨mset m1 27 0 (upd (m1 27 0) 0 v), ?_, TC.st (by decide) h2, Lw.st h3, fun x q => by cases q; rw [mset_s]; rfl⟩
    refine MetA.ofH kw_L_houseOf rfl (Nat.le_of_ble_eq_true rfl) rfl ?_
    refine AW_aload_n dL_houseOf_0 rfl ?_
    refine AW_iconst (v := 0) dL_houseOf_1 (by decide) ?_
    refine AW_aload_n dL_houseOf_2 rfl ?_
    refine AW_iload_n dL_houseOf_3 rfl ?_
    refine AW_iload_n dL_houseOf_4 rfl ?_
    refine AW_callVI [aI a1, aI a2] dL_houseOf_5 cv_L_43 rfl rfl rfl (by decide) rfl (by decide) (Nat.le_of_ble_eq_true rfl) h1 ?_
    refine AW_i2l dL_houseOf_8 ?_
    refine AW_lastore dL_houseOf_9 rfl rfl (vp_in_nI (n := 0) (N := 1) (by decide) (by decide)) rfl ?_
    refine AW_goto (tgt := 21) dL_houseOf_10 (by decide) ?_
    refine AW_iconst (v := 0) dL_houseOf_21 (by decide) ?_
    exact AW_ireturn (ty := .int) dL_houseOf_22 rfl rfl ⟨rfl, rfl⟩
  | inr e =>
    refine ⟨m1, ?_, h2, Lw.cl h3, fun x q => by cases q⟩
    rcases hc e rfl with rfl | rfl
    · refine MetA.ofH kw_L_houseOf rfl (Nat.le_of_ble_eq_true rfl) rfl ?_
      refine AW_aload_n dL_houseOf_0 rfl ?_
      refine AW_iconst (v := 0) dL_houseOf_1 (by decide) ?_
      refine AW_aload_n dL_houseOf_2 rfl ?_
      refine AW_iload_n dL_houseOf_3 rfl ?_
      refine AW_iload_n dL_houseOf_4 rfl ?_
      refine AW_callVE [aI a1, aI a2] dL_houseOf_5 cv_L_43 rfl rfl rfl (by decide) (by decide) (Nat.le_of_ble_eq_true rfl) h1 ch_L_houseOf_0 (fun q => ?_)
      refine AW_astoreX (q := q) (loc' := [some (aR 11 0), some (aI a1), some (aI a2), some (aR 27 0), none]) dL_houseOf_13 (Nat.le_of_ble_eq_true rfl) rfl rfl ?_
      refine AW_iconst (v := 1) dL_houseOf_15 (by decide) ?_
      exact AW_ireturn (ty := .int) dL_houseOf_16 rfl rfl ⟨rfl, rfl⟩
    · refine MetA.ofH kw_L_houseOf rfl (Nat.le_of_ble_eq_true rfl) rfl ?_
      refine AW_aload_n dL_houseOf_0 rfl ?_
      refine AW_iconst (v := 0) dL_houseOf_1 (by decide) ?_
      refine AW_aload_n dL_houseOf_2 rfl ?_
      refine AW_iload_n dL_houseOf_3 rfl ?_
      refine AW_iload_n dL_houseOf_4 rfl ?_
      refine AW_callVE [aI a1, aI a2] dL_houseOf_5 cv_L_43 rfl rfl rfl (by decide) (by decide) (Nat.le_of_ble_eq_true rfl) h1 ch_L_houseOf_1 (fun q => ?_)
      refine AW_astoreX (q := q) (loc' := [some (aR 11 0), some (aI a1), some (aI a2), some (aR 27 0), none]) dL_houseOf_17 (Nat.le_of_ble_eq_true rfl) rfl rfl ?_
      refine AW_iconst (v := 2) dL_houseOf_19 (by decide) ?_
      exact AW_ireturn (ty := .int) dL_houseOf_20 rfl rfl ⟨rfl, rfl⟩
set_option maxRecDepth 100000 in
theorem l_sheetOf {a1 a2 : Int32} {μ : Mem} {c : AN} {T : TT} (hK : CK M_X5_sheetOf [aI a1, aI a2] μ c T) (hc : ∀ e, c = .inr e → e = 0 ∨ e = 1) : LK M_L_sheetOf [aI a1, aI a2] [0, 1] μ c T := by
  obtain ⟨m1, h1, h2, h3⟩ := hK
  cases c with
  | inl v =>
    refine ⟨mset m1 27 0 (upd (m1 27 0) 0 v), ?_, TC.st (by decide) h2, Lw.st h3, fun x q => by cases q; rw [mset_s]; rfl⟩
    refine MetA.ofH kw_L_sheetOf rfl (Nat.le_of_ble_eq_true rfl) rfl ?_
    refine AW_aload_n dL_sheetOf_0 rfl ?_
    refine AW_iconst (v := 0) dL_sheetOf_1 (by decide) ?_
    refine AW_aload_n dL_sheetOf_2 rfl ?_
    refine AW_iload_n dL_sheetOf_3 rfl ?_
    refine AW_iload_n dL_sheetOf_4 rfl ?_
    refine AW_callVI [aI a1, aI a2] dL_sheetOf_5 cv_L_46 rfl rfl rfl (by decide) rfl (by decide) (Nat.le_of_ble_eq_true rfl) h1 ?_
    refine AW_i2l dL_sheetOf_8 ?_
    refine AW_lastore dL_sheetOf_9 rfl rfl (vp_in_nI (n := 0) (N := 1) (by decide) (by decide)) rfl ?_
    refine AW_goto (tgt := 21) dL_sheetOf_10 (by decide) ?_
    refine AW_iconst (v := 0) dL_sheetOf_21 (by decide) ?_
    exact AW_ireturn (ty := .int) dL_sheetOf_22 rfl rfl ⟨rfl, rfl⟩
  | inr e =>
    refine ⟨m1, ?_, h2, Lw.cl h3, fun x q => by cases q⟩
    rcases hc e rfl with rfl | rfl
    · refine MetA.ofH kw_L_sheetOf rfl (Nat.le_of_ble_eq_true rfl) rfl ?_
      refine AW_aload_n dL_sheetOf_0 rfl ?_
      refine AW_iconst (v := 0) dL_sheetOf_1 (by decide) ?_
      refine AW_aload_n dL_sheetOf_2 rfl ?_
      refine AW_iload_n dL_sheetOf_3 rfl ?_
      refine AW_iload_n dL_sheetOf_4 rfl ?_
      refine AW_callVE [aI a1, aI a2] dL_sheetOf_5 cv_L_46 rfl rfl rfl (by decide) (by decide) (Nat.le_of_ble_eq_true rfl) h1 ch_L_sheetOf_0 (fun q => ?_)
      refine AW_astoreX (q := q) (loc' := [some (aR 11 0), some (aI a1), some (aI a2), some (aR 27 0), none]) dL_sheetOf_13 (Nat.le_of_ble_eq_true rfl) rfl rfl ?_
      refine AW_iconst (v := 1) dL_sheetOf_15 (by decide) ?_
      exact AW_ireturn (ty := .int) dL_sheetOf_16 rfl rfl ⟨rfl, rfl⟩
    · refine MetA.ofH kw_L_sheetOf rfl (Nat.le_of_ble_eq_true rfl) rfl ?_
      refine AW_aload_n dL_sheetOf_0 rfl ?_
      refine AW_iconst (v := 0) dL_sheetOf_1 (by decide) ?_
      refine AW_aload_n dL_sheetOf_2 rfl ?_
      refine AW_iload_n dL_sheetOf_3 rfl ?_
      refine AW_iload_n dL_sheetOf_4 rfl ?_
      refine AW_callVE [aI a1, aI a2] dL_sheetOf_5 cv_L_46 rfl rfl rfl (by decide) (by decide) (Nat.le_of_ble_eq_true rfl) h1 ch_L_sheetOf_1 (fun q => ?_)
      refine AW_astoreX (q := q) (loc' := [some (aR 11 0), some (aI a1), some (aI a2), some (aR 27 0), none]) dL_sheetOf_17 (Nat.le_of_ble_eq_true rfl) rfl rfl ?_
      refine AW_iconst (v := 2) dL_sheetOf_19 (by decide) ?_
      exact AW_ireturn (ty := .int) dL_sheetOf_20 rfl rfl ⟨rfl, rfl⟩
set_option maxRecDepth 100000 in
theorem l_letterAt {a1 a2 a3 : Int32} {μ : Mem} {c : AN} {T : TT} (hK : CK M_X5_letterAt [aI a1, aI a2, aI a3] μ c T) (hc : ∀ e, c = .inr e → e = 0) : LK M_L_letterAt [aI a1, aI a2, aI a3] [0] μ c T := by
  obtain ⟨m1, h1, h2, h3⟩ := hK
  cases c with
  | inl v =>
    refine ⟨mset m1 27 0 (upd (m1 27 0) 0 v), ?_, TC.st (by decide) h2, Lw.st h3, fun x q => by cases q; rw [mset_s]; rfl⟩
    refine MetA.ofH kw_L_letterAt rfl (Nat.le_of_ble_eq_true rfl) rfl ?_
    refine AW_aload dL_letterAt_0 rfl ?_
    refine AW_iconst (v := 0) dL_letterAt_2 (by decide) ?_
    refine AW_aload_n dL_letterAt_3 rfl ?_
    refine AW_iload_n dL_letterAt_4 rfl ?_
    refine AW_iload_n dL_letterAt_5 rfl ?_
    refine AW_iload_n dL_letterAt_6 rfl ?_
    refine AW_callVI [aI a1, aI a2, aI a3] dL_letterAt_7 cv_L_49 rfl rfl rfl (by decide) rfl (by decide) (Nat.le_of_ble_eq_true rfl) h1 ?_
    refine AW_i2l dL_letterAt_10 ?_
    refine AW_lastore dL_letterAt_11 rfl rfl (vp_in_nI (n := 0) (N := 1) (by decide) (by decide)) rfl ?_
    refine AW_goto (tgt := 19) dL_letterAt_12 (by decide) ?_
    refine AW_iconst (v := 0) dL_letterAt_19 (by decide) ?_
    exact AW_ireturn (ty := .int) dL_letterAt_20 rfl rfl ⟨rfl, rfl⟩
  | inr e =>
    refine ⟨m1, ?_, h2, Lw.cl h3, fun x q => by cases q⟩
    rcases hc e rfl with rfl
    · refine MetA.ofH kw_L_letterAt rfl (Nat.le_of_ble_eq_true rfl) rfl ?_
      refine AW_aload dL_letterAt_0 rfl ?_
      refine AW_iconst (v := 0) dL_letterAt_2 (by decide) ?_
      refine AW_aload_n dL_letterAt_3 rfl ?_
      refine AW_iload_n dL_letterAt_4 rfl ?_
      refine AW_iload_n dL_letterAt_5 rfl ?_
      refine AW_iload_n dL_letterAt_6 rfl ?_
      refine AW_callVE [aI a1, aI a2, aI a3] dL_letterAt_7 cv_L_49 rfl rfl rfl (by decide) (by decide) (Nat.le_of_ble_eq_true rfl) h1 ch_L_letterAt_0 (fun q => ?_)
      refine AW_astoreX (q := q) (loc' := [some (aR 11 0), some (aI a1), some (aI a2), some (aI a3), some (aR 27 0), none]) dL_letterAt_15 (Nat.le_of_ble_eq_true rfl) rfl rfl ?_
      refine AW_iconst (v := 1) dL_letterAt_17 (by decide) ?_
      exact AW_ireturn (ty := .int) dL_letterAt_18 rfl rfl ⟨rfl, rfl⟩
set_option maxRecDepth 100000 in
theorem l_markAt {a1 a2 : Int32} {μ : Mem} {c : AN} {T : TT} (hK : CK M_X5_markAt [aI a1, aI a2] μ c T) (hc : ∀ e, c = .inr e → e = 0) : LK M_L_markAt [aI a1, aI a2] [0] μ c T := by
  obtain ⟨m1, h1, h2, h3⟩ := hK
  cases c with
  | inl v =>
    refine ⟨mset m1 27 0 (upd (m1 27 0) 0 v), ?_, TC.st (by decide) h2, Lw.st h3, fun x q => by cases q; rw [mset_s]; rfl⟩
    refine MetA.ofH kw_L_markAt rfl (Nat.le_of_ble_eq_true rfl) rfl ?_
    refine AW_aload_n dL_markAt_0 rfl ?_
    refine AW_iconst (v := 0) dL_markAt_1 (by decide) ?_
    refine AW_aload_n dL_markAt_2 rfl ?_
    refine AW_iload_n dL_markAt_3 rfl ?_
    refine AW_iload_n dL_markAt_4 rfl ?_
    refine AW_callVI [aI a1, aI a2] dL_markAt_5 cv_L_53 rfl rfl rfl (by decide) rfl (by decide) (Nat.le_of_ble_eq_true rfl) h1 ?_
    refine AW_i2l dL_markAt_8 ?_
    refine AW_lastore dL_markAt_9 rfl rfl (vp_in_nI (n := 0) (N := 1) (by decide) (by decide)) rfl ?_
    refine AW_goto (tgt := 17) dL_markAt_10 (by decide) ?_
    refine AW_iconst (v := 0) dL_markAt_17 (by decide) ?_
    exact AW_ireturn (ty := .int) dL_markAt_18 rfl rfl ⟨rfl, rfl⟩
  | inr e =>
    refine ⟨m1, ?_, h2, Lw.cl h3, fun x q => by cases q⟩
    rcases hc e rfl with rfl
    · refine MetA.ofH kw_L_markAt rfl (Nat.le_of_ble_eq_true rfl) rfl ?_
      refine AW_aload_n dL_markAt_0 rfl ?_
      refine AW_iconst (v := 0) dL_markAt_1 (by decide) ?_
      refine AW_aload_n dL_markAt_2 rfl ?_
      refine AW_iload_n dL_markAt_3 rfl ?_
      refine AW_iload_n dL_markAt_4 rfl ?_
      refine AW_callVE [aI a1, aI a2] dL_markAt_5 cv_L_53 rfl rfl rfl (by decide) (by decide) (Nat.le_of_ble_eq_true rfl) h1 ch_L_markAt_0 (fun q => ?_)
      refine AW_astoreX (q := q) (loc' := [some (aR 11 0), some (aI a1), some (aI a2), some (aR 27 0), none]) dL_markAt_13 (Nat.le_of_ble_eq_true rfl) rfl rfl ?_
      refine AW_iconst (v := 1) dL_markAt_15 (by decide) ?_
      exact AW_ireturn (ty := .int) dL_markAt_16 rfl rfl ⟨rfl, rfl⟩
set_option maxRecDepth 100000 in
theorem l_fine {a1 a2 a3 : Int32} {μ : Mem} {c : AN} {T : TT} (hK : CK M_X5_fine [aI a1, aI a2, aI a3] μ c T) (hc : ∀ e, c = .inr e → e = 0) : LK M_L_fine [aI a1, aI a2, aI a3] [0] μ c T := by
  obtain ⟨m1, h1, h2, h3⟩ := hK
  cases c with
  | inl v =>
    refine ⟨mset m1 27 0 (upd (m1 27 0) 0 v), ?_, TC.st (by decide) h2, Lw.st h3, fun x q => by cases q; rw [mset_s]; rfl⟩
    refine MetA.ofH kw_L_fine rfl (Nat.le_of_ble_eq_true rfl) rfl ?_
    refine AW_aload dL_fine_0 rfl ?_
    refine AW_iconst (v := 0) dL_fine_2 (by decide) ?_
    refine AW_aload_n dL_fine_3 rfl ?_
    refine AW_iload_n dL_fine_4 rfl ?_
    refine AW_iload_n dL_fine_5 rfl ?_
    refine AW_iload_n dL_fine_6 rfl ?_
    refine AW_callVI [aI a1, aI a2, aI a3] dL_fine_7 cv_L_56 rfl rfl rfl (by decide) rfl (by decide) (Nat.le_of_ble_eq_true rfl) h1 ?_
    refine AW_i2l dL_fine_10 ?_
    refine AW_lastore dL_fine_11 rfl rfl (vp_in_nI (n := 0) (N := 1) (by decide) (by decide)) rfl ?_
    refine AW_goto (tgt := 19) dL_fine_12 (by decide) ?_
    refine AW_iconst (v := 0) dL_fine_19 (by decide) ?_
    exact AW_ireturn (ty := .int) dL_fine_20 rfl rfl ⟨rfl, rfl⟩
  | inr e =>
    refine ⟨m1, ?_, h2, Lw.cl h3, fun x q => by cases q⟩
    rcases hc e rfl with rfl
    · refine MetA.ofH kw_L_fine rfl (Nat.le_of_ble_eq_true rfl) rfl ?_
      refine AW_aload dL_fine_0 rfl ?_
      refine AW_iconst (v := 0) dL_fine_2 (by decide) ?_
      refine AW_aload_n dL_fine_3 rfl ?_
      refine AW_iload_n dL_fine_4 rfl ?_
      refine AW_iload_n dL_fine_5 rfl ?_
      refine AW_iload_n dL_fine_6 rfl ?_
      refine AW_callVE [aI a1, aI a2, aI a3] dL_fine_7 cv_L_56 rfl rfl rfl (by decide) (by decide) (Nat.le_of_ble_eq_true rfl) h1 ch_L_fine_0 (fun q => ?_)
      refine AW_astoreX (q := q) (loc' := [some (aR 11 0), some (aI a1), some (aI a2), some (aI a3), some (aR 27 0), none]) dL_fine_15 (Nat.le_of_ble_eq_true rfl) rfl rfl ?_
      refine AW_iconst (v := 1) dL_fine_17 (by decide) ?_
      exact AW_ireturn (ty := .int) dL_fine_18 rfl rfl ⟨rfl, rfl⟩
set_option maxRecDepth 100000 in
theorem l_fines {a1 a2 : Int32} {μ : Mem} {c : AN} {T : TT} (hK : CK M_X5_fines [aI a1, aI a2] μ c T) (hc : ∀ e, c = .inr e → e = 0) : LK M_L_fines [aI a1, aI a2] [0] μ c T := by
  obtain ⟨m1, h1, h2, h3⟩ := hK
  cases c with
  | inl v =>
    refine ⟨mset m1 27 0 (upd (m1 27 0) 0 v), ?_, TC.st (by decide) h2, Lw.st h3, fun x q => by cases q; rw [mset_s]; rfl⟩
    refine MetA.ofH kw_L_fines rfl (Nat.le_of_ble_eq_true rfl) rfl ?_
    refine AW_aload_n dL_fines_0 rfl ?_
    refine AW_iconst (v := 0) dL_fines_1 (by decide) ?_
    refine AW_aload_n dL_fines_2 rfl ?_
    refine AW_iload_n dL_fines_3 rfl ?_
    refine AW_iload_n dL_fines_4 rfl ?_
    refine AW_callVI [aI a1, aI a2] dL_fines_5 cv_L_60 rfl rfl rfl (by decide) rfl (by decide) (Nat.le_of_ble_eq_true rfl) h1 ?_
    refine AW_i2l dL_fines_8 ?_
    refine AW_lastore dL_fines_9 rfl rfl (vp_in_nI (n := 0) (N := 1) (by decide) (by decide)) rfl ?_
    refine AW_goto (tgt := 17) dL_fines_10 (by decide) ?_
    refine AW_iconst (v := 0) dL_fines_17 (by decide) ?_
    exact AW_ireturn (ty := .int) dL_fines_18 rfl rfl ⟨rfl, rfl⟩
  | inr e =>
    refine ⟨m1, ?_, h2, Lw.cl h3, fun x q => by cases q⟩
    rcases hc e rfl with rfl
    · refine MetA.ofH kw_L_fines rfl (Nat.le_of_ble_eq_true rfl) rfl ?_
      refine AW_aload_n dL_fines_0 rfl ?_
      refine AW_iconst (v := 0) dL_fines_1 (by decide) ?_
      refine AW_aload_n dL_fines_2 rfl ?_
      refine AW_iload_n dL_fines_3 rfl ?_
      refine AW_iload_n dL_fines_4 rfl ?_
      refine AW_callVE [aI a1, aI a2] dL_fines_5 cv_L_60 rfl rfl rfl (by decide) (by decide) (Nat.le_of_ble_eq_true rfl) h1 ch_L_fines_0 (fun q => ?_)
      refine AW_astoreX (q := q) (loc' := [some (aR 11 0), some (aI a1), some (aI a2), some (aR 27 0), none]) dL_fines_13 (Nat.le_of_ble_eq_true rfl) rfl rfl ?_
      refine AW_iconst (v := 1) dL_fines_15 (by decide) ?_
      exact AW_ireturn (ty := .int) dL_fines_16 rfl rfl ⟨rfl, rfl⟩
set_option maxRecDepth 100000 in
theorem l_canMend {a1 : Int32} {μ : Mem} {c : AN} {T : TT} (hK : CK M_X5_canMend [aI a1] μ c T) (hc : ∀ e, c = .inr e → e = 0) (hb : ∀ v, c = .inl v → v = 0 ∨ v = 1) : LK M_L_canMend [aI a1] [0] μ c T := by
  obtain ⟨m1, h1, h2, h3⟩ := hK
  cases c with
  | inl v =>
    refine ⟨mset m1 27 0 (upd (m1 27 0) 0 v), ?_, TC.st (by decide) h2, Lw.st h3, fun x q => by cases q; rw [mset_s]; rfl⟩
    refine MetA.ofH kw_L_canMend rfl (Nat.le_of_ble_eq_true rfl) rfl ?_
    refine AW_aload_n dL_canMend_0 rfl ?_
    refine AW_iconst (v := 0) dL_canMend_1 (by decide) ?_
    refine AW_aload_n dL_canMend_2 rfl ?_
    refine AW_iload_n dL_canMend_3 rfl ?_
    refine AW_callVI [aI a1] dL_canMend_4 cv_L_64 rfl rfl rfl (by decide) rfl (by decide) (Nat.le_of_ble_eq_true rfl) h1 ?_
    rcases hb v rfl with rfl | rfl
    · refine AW_if_eq (tgt := 14) dL_canMend_7 (by decide) (fun _ => ?_) (fun q => absurd rfl q)
      refine AW_lconst (v := 0) dL_canMend_14 (by decide) ?_
      refine AW_lastore dL_canMend_15 rfl rfl (vp_in_nI (n := 0) (N := 1) (by decide) (by decide)) rfl ?_
      refine AW_goto (tgt := 22) dL_canMend_16 (by decide) ?_
      refine AW_iconst (v := 0) dL_canMend_22 (by decide) ?_
      exact AW_ireturn (ty := .int) dL_canMend_23 rfl rfl ⟨rfl, rfl⟩
    · refine AW_if_eq (tgt := 14) dL_canMend_7 (by decide) (fun q => absurd q (by decide)) (fun _ => ?_)
      refine AW_lconst (v := 1) dL_canMend_10 (by decide) ?_
      refine AW_goto (tgt := 15) dL_canMend_11 (by decide) ?_
      refine AW_lastore dL_canMend_15 rfl rfl (vp_in_nI (n := 0) (N := 1) (by decide) (by decide)) rfl ?_
      refine AW_goto (tgt := 22) dL_canMend_16 (by decide) ?_
      refine AW_iconst (v := 0) dL_canMend_22 (by decide) ?_
      exact AW_ireturn (ty := .int) dL_canMend_23 rfl rfl ⟨rfl, rfl⟩
  | inr e =>
    refine ⟨m1, ?_, h2, Lw.cl h3, fun x q => by cases q⟩
    rcases hc e rfl with rfl
    · refine MetA.ofH kw_L_canMend rfl (Nat.le_of_ble_eq_true rfl) rfl ?_
      refine AW_aload_n dL_canMend_0 rfl ?_
      refine AW_iconst (v := 0) dL_canMend_1 (by decide) ?_
      refine AW_aload_n dL_canMend_2 rfl ?_
      refine AW_iload_n dL_canMend_3 rfl ?_
      refine AW_callVE [aI a1] dL_canMend_4 cv_L_64 rfl rfl rfl (by decide) (by decide) (Nat.le_of_ble_eq_true rfl) h1 ch_L_canMend_0 (fun q => ?_)
      refine AW_astoreX_n (q := q) (loc' := [some (aR 11 0), some (aI a1), some (aR 27 0), none]) dL_canMend_19 (Nat.le_of_ble_eq_true rfl) rfl rfl ?_
      refine AW_iconst (v := 1) dL_canMend_20 (by decide) ?_
      exact AW_ireturn (ty := .int) dL_canMend_21 rfl rfl ⟨rfl, rfl⟩
set_option maxRecDepth 100000 in
theorem l_laughing {a1 a2 : Int32} {μ : Mem} {c : AN} {T : TT} (hK : CK M_X5_laughing [aI a1, aI a2] μ c T) (hc : ∀ e, c = .inr e → e = 0) : LK M_L_laughing [aI a1, aI a2] [0] μ c T := by
  obtain ⟨m1, h1, h2, h3⟩ := hK
  cases c with
  | inl v =>
    refine ⟨mset m1 27 0 (upd (m1 27 0) 0 v), ?_, TC.st (by decide) h2, Lw.st h3, fun x q => by cases q; rw [mset_s]; rfl⟩
    refine MetA.ofH kw_L_laughing rfl (Nat.le_of_ble_eq_true rfl) rfl ?_
    refine AW_aload_n dL_laughing_0 rfl ?_
    refine AW_iconst (v := 0) dL_laughing_1 (by decide) ?_
    refine AW_aload_n dL_laughing_2 rfl ?_
    refine AW_iload_n dL_laughing_3 rfl ?_
    refine AW_iload_n dL_laughing_4 rfl ?_
    refine AW_callVI [aI a1, aI a2] dL_laughing_5 cv_L_68 rfl rfl rfl (by decide) rfl (by decide) (Nat.le_of_ble_eq_true rfl) h1 ?_
    refine AW_i2l dL_laughing_8 ?_
    refine AW_lastore dL_laughing_9 rfl rfl (vp_in_nI (n := 0) (N := 1) (by decide) (by decide)) rfl ?_
    refine AW_goto (tgt := 17) dL_laughing_10 (by decide) ?_
    refine AW_iconst (v := 0) dL_laughing_17 (by decide) ?_
    exact AW_ireturn (ty := .int) dL_laughing_18 rfl rfl ⟨rfl, rfl⟩
  | inr e =>
    refine ⟨m1, ?_, h2, Lw.cl h3, fun x q => by cases q⟩
    rcases hc e rfl with rfl
    · refine MetA.ofH kw_L_laughing rfl (Nat.le_of_ble_eq_true rfl) rfl ?_
      refine AW_aload_n dL_laughing_0 rfl ?_
      refine AW_iconst (v := 0) dL_laughing_1 (by decide) ?_
      refine AW_aload_n dL_laughing_2 rfl ?_
      refine AW_iload_n dL_laughing_3 rfl ?_
      refine AW_iload_n dL_laughing_4 rfl ?_
      refine AW_callVE [aI a1, aI a2] dL_laughing_5 cv_L_68 rfl rfl rfl (by decide) (by decide) (Nat.le_of_ble_eq_true rfl) h1 ch_L_laughing_0 (fun q => ?_)
      refine AW_astoreX (q := q) (loc' := [some (aR 11 0), some (aI a1), some (aI a2), some (aR 27 0), none]) dL_laughing_13 (Nat.le_of_ble_eq_true rfl) rfl rfl ?_
      refine AW_iconst (v := 1) dL_laughing_15 (by decide) ?_
      exact AW_ireturn (ty := .int) dL_laughing_16 rfl rfl ⟨rfl, rfl⟩
set_option maxRecDepth 100000 in
theorem l_bargain {a1 : Int32} {μ : Mem} {c : AN} {T : TT} (hK : CK M_X5_bargain [aI a1] μ c T) (hc : ∀ e, c = .inr e → e = 4) : LK M_L_bargain [aI a1] [4] μ c T := by
  obtain ⟨m1, h1, h2, h3⟩ := hK
  cases c with
  | inl v =>
    refine ⟨mset m1 27 0 (upd (m1 27 0) 0 v), ?_, TC.st (by decide) h2, Lw.st h3, fun x q => by cases q; rw [mset_s]; rfl⟩
    refine MetA.ofH kw_L_bargain rfl (Nat.le_of_ble_eq_true rfl) rfl ?_
    refine AW_aload_n dL_bargain_0 rfl ?_
    refine AW_iconst (v := 0) dL_bargain_1 (by decide) ?_
    refine AW_aload_n dL_bargain_2 rfl ?_
    refine AW_iload_n dL_bargain_3 rfl ?_
    refine AW_callVI [aI a1] dL_bargain_4 cv_L_71 rfl rfl rfl (by decide) rfl (by decide) (Nat.le_of_ble_eq_true rfl) h1 ?_
    refine AW_i2l dL_bargain_7 ?_
    refine AW_lastore dL_bargain_8 rfl rfl (vp_in_nI (n := 0) (N := 1) (by decide) (by decide)) rfl ?_
    refine AW_goto (tgt := 15) dL_bargain_9 (by decide) ?_
    refine AW_iconst (v := 0) dL_bargain_15 (by decide) ?_
    exact AW_ireturn (ty := .int) dL_bargain_16 rfl rfl ⟨rfl, rfl⟩
  | inr e =>
    refine ⟨m1, ?_, h2, Lw.cl h3, fun x q => by cases q⟩
    rcases hc e rfl with rfl
    · refine MetA.ofH kw_L_bargain rfl (Nat.le_of_ble_eq_true rfl) rfl ?_
      refine AW_aload_n dL_bargain_0 rfl ?_
      refine AW_iconst (v := 0) dL_bargain_1 (by decide) ?_
      refine AW_aload_n dL_bargain_2 rfl ?_
      refine AW_iload_n dL_bargain_3 rfl ?_
      refine AW_callVE [aI a1] dL_bargain_4 cv_L_71 rfl rfl rfl (by decide) (by decide) (Nat.le_of_ble_eq_true rfl) h1 ch_L_bargain_4 (fun q => ?_)
      refine AW_astoreX_n (q := q) (loc' := [some (aR 11 0), some (aI a1), some (aR 27 0), none]) dL_bargain_12 (Nat.le_of_ble_eq_true rfl) rfl rfl ?_
      refine AW_iconst (v := 1) dL_bargain_13 (by decide) ?_
      exact AW_ireturn (ty := .int) dL_bargain_14 rfl rfl ⟨rfl, rfl⟩
set_option maxRecDepth 100000 in
theorem l_wouldShame {a1 : Int32} {μ : Mem} {c : AN} {T : TT} (hK : CK M_X5_wouldShame [aI a1] μ c T) (hc : ∀ e, c = .inr e → e = 0) : LK M_L_wouldShame [aI a1] [0] μ c T := by
  obtain ⟨m1, h1, h2, h3⟩ := hK
  cases c with
  | inl v =>
    refine ⟨mset m1 27 0 (upd (m1 27 0) 0 v), ?_, TC.st (by decide) h2, Lw.st h3, fun x q => by cases q; rw [mset_s]; rfl⟩
    refine MetA.ofH kw_L_wouldShame rfl (Nat.le_of_ble_eq_true rfl) rfl ?_
    refine AW_aload_n dL_wouldShame_0 rfl ?_
    refine AW_iconst (v := 0) dL_wouldShame_1 (by decide) ?_
    refine AW_aload_n dL_wouldShame_2 rfl ?_
    refine AW_iload_n dL_wouldShame_3 rfl ?_
    refine AW_callVI [aI a1] dL_wouldShame_4 cv_L_77 rfl rfl rfl (by decide) rfl (by decide) (Nat.le_of_ble_eq_true rfl) h1 ?_
    refine AW_i2l dL_wouldShame_7 ?_
    refine AW_lastore dL_wouldShame_8 rfl rfl (vp_in_nI (n := 0) (N := 1) (by decide) (by decide)) rfl ?_
    refine AW_goto (tgt := 15) dL_wouldShame_9 (by decide) ?_
    refine AW_iconst (v := 0) dL_wouldShame_15 (by decide) ?_
    exact AW_ireturn (ty := .int) dL_wouldShame_16 rfl rfl ⟨rfl, rfl⟩
  | inr e =>
    refine ⟨m1, ?_, h2, Lw.cl h3, fun x q => by cases q⟩
    rcases hc e rfl with rfl
    · refine MetA.ofH kw_L_wouldShame rfl (Nat.le_of_ble_eq_true rfl) rfl ?_
      refine AW_aload_n dL_wouldShame_0 rfl ?_
      refine AW_iconst (v := 0) dL_wouldShame_1 (by decide) ?_
      refine AW_aload_n dL_wouldShame_2 rfl ?_
      refine AW_iload_n dL_wouldShame_3 rfl ?_
      refine AW_callVE [aI a1] dL_wouldShame_4 cv_L_77 rfl rfl rfl (by decide) (by decide) (Nat.le_of_ble_eq_true rfl) h1 ch_L_wouldShame_0 (fun q => ?_)
      refine AW_astoreX_n (q := q) (loc' := [some (aR 11 0), some (aI a1), some (aR 27 0), none]) dL_wouldShame_12 (Nat.le_of_ble_eq_true rfl) rfl rfl ?_
      refine AW_iconst (v := 1) dL_wouldShame_13 (by decide) ?_
      exact AW_ireturn (ty := .int) dL_wouldShame_14 rfl rfl ⟨rfl, rfl⟩
set_option maxRecDepth 100000 in
theorem l_nearest {a1 : Int32} {μ : Mem} {c : AN} {T : TT} (hK : CK M_X5_nearest [aI a1] μ c T) (hc : ∀ e, c = .inr e → e = 0) : LK M_L_nearest [aI a1] [0] μ c T := by
  obtain ⟨m1, h1, h2, h3⟩ := hK
  cases c with
  | inl v =>
    refine ⟨mset m1 27 0 (upd (m1 27 0) 0 v), ?_, TC.st (by decide) h2, Lw.st h3, fun x q => by cases q; rw [mset_s]; rfl⟩
    refine MetA.ofH kw_L_nearest rfl (Nat.le_of_ble_eq_true rfl) rfl ?_
    refine AW_aload_n dL_nearest_0 rfl ?_
    refine AW_iconst (v := 0) dL_nearest_1 (by decide) ?_
    refine AW_aload_n dL_nearest_2 rfl ?_
    refine AW_iload_n dL_nearest_3 rfl ?_
    refine AW_callVI [aI a1] dL_nearest_4 cv_L_80 rfl rfl rfl (by decide) rfl (by decide) (Nat.le_of_ble_eq_true rfl) h1 ?_
    refine AW_i2l dL_nearest_7 ?_
    refine AW_lastore dL_nearest_8 rfl rfl (vp_in_nI (n := 0) (N := 1) (by decide) (by decide)) rfl ?_
    refine AW_goto (tgt := 15) dL_nearest_9 (by decide) ?_
    refine AW_iconst (v := 0) dL_nearest_15 (by decide) ?_
    exact AW_ireturn (ty := .int) dL_nearest_16 rfl rfl ⟨rfl, rfl⟩
  | inr e =>
    refine ⟨m1, ?_, h2, Lw.cl h3, fun x q => by cases q⟩
    rcases hc e rfl with rfl
    · refine MetA.ofH kw_L_nearest rfl (Nat.le_of_ble_eq_true rfl) rfl ?_
      refine AW_aload_n dL_nearest_0 rfl ?_
      refine AW_iconst (v := 0) dL_nearest_1 (by decide) ?_
      refine AW_aload_n dL_nearest_2 rfl ?_
      refine AW_iload_n dL_nearest_3 rfl ?_
      refine AW_callVE [aI a1] dL_nearest_4 cv_L_80 rfl rfl rfl (by decide) (by decide) (Nat.le_of_ble_eq_true rfl) h1 ch_L_nearest_0 (fun q => ?_)
      refine AW_astoreX_n (q := q) (loc' := [some (aR 11 0), some (aI a1), some (aR 27 0), none]) dL_nearest_12 (Nat.le_of_ble_eq_true rfl) rfl rfl ?_
      refine AW_iconst (v := 1) dL_nearest_13 (by decide) ?_
      exact AW_ireturn (ty := .int) dL_nearest_14 rfl rfl ⟨rfl, rfl⟩
set_option maxRecDepth 100000 in
theorem l_calmIn {a1 : Int32} {μ : Mem} {c : AN} {T : TT} (hK : CK M_X5_calmIn [aI a1] μ c T) (hc : ∀ e, c = .inr e → e = 0) : LK M_L_calmIn [aI a1] [0] μ c T := by
  obtain ⟨m1, h1, h2, h3⟩ := hK
  cases c with
  | inl v =>
    refine ⟨mset m1 27 0 (upd (m1 27 0) 0 v), ?_, TC.st (by decide) h2, Lw.st h3, fun x q => by cases q; rw [mset_s]; rfl⟩
    refine MetA.ofH kw_L_calmIn rfl (Nat.le_of_ble_eq_true rfl) rfl ?_
    refine AW_aload_n dL_calmIn_0 rfl ?_
    refine AW_iconst (v := 0) dL_calmIn_1 (by decide) ?_
    refine AW_aload_n dL_calmIn_2 rfl ?_
    refine AW_iload_n dL_calmIn_3 rfl ?_
    refine AW_callVI [aI a1] dL_calmIn_4 cv_L_83 rfl rfl rfl (by decide) rfl (by decide) (Nat.le_of_ble_eq_true rfl) h1 ?_
    refine AW_i2l dL_calmIn_7 ?_
    refine AW_lastore dL_calmIn_8 rfl rfl (vp_in_nI (n := 0) (N := 1) (by decide) (by decide)) rfl ?_
    refine AW_goto (tgt := 15) dL_calmIn_9 (by decide) ?_
    refine AW_iconst (v := 0) dL_calmIn_15 (by decide) ?_
    exact AW_ireturn (ty := .int) dL_calmIn_16 rfl rfl ⟨rfl, rfl⟩
  | inr e =>
    refine ⟨m1, ?_, h2, Lw.cl h3, fun x q => by cases q⟩
    rcases hc e rfl with rfl
    · refine MetA.ofH kw_L_calmIn rfl (Nat.le_of_ble_eq_true rfl) rfl ?_
      refine AW_aload_n dL_calmIn_0 rfl ?_
      refine AW_iconst (v := 0) dL_calmIn_1 (by decide) ?_
      refine AW_aload_n dL_calmIn_2 rfl ?_
      refine AW_iload_n dL_calmIn_3 rfl ?_
      refine AW_callVE [aI a1] dL_calmIn_4 cv_L_83 rfl rfl rfl (by decide) (by decide) (Nat.le_of_ble_eq_true rfl) h1 ch_L_calmIn_0 (fun q => ?_)
      refine AW_astoreX_n (q := q) (loc' := [some (aR 11 0), some (aI a1), some (aR 27 0), none]) dL_calmIn_12 (Nat.le_of_ble_eq_true rfl) rfl rfl ?_
      refine AW_iconst (v := 1) dL_calmIn_13 (by decide) ?_
      exact AW_ireturn (ty := .int) dL_calmIn_14 rfl rfl ⟨rfl, rfl⟩
set_option maxRecDepth 100000 in
theorem l_ashamed {a1 : Int32} {μ : Mem} {c : AN} {T : TT} (hK : CK M_X5_ashamed [aI a1] μ c T) (hc : ∀ e, c = .inr e → e = 4) : LK M_L_ashamed [aI a1] [4] μ c T := by
  obtain ⟨m1, h1, h2, h3⟩ := hK
  cases c with
  | inl v =>
    refine ⟨mset m1 27 0 (upd (m1 27 0) 0 v), ?_, TC.st (by decide) h2, Lw.st h3, fun x q => by cases q; rw [mset_s]; rfl⟩
    refine MetA.ofH kw_L_ashamed rfl (Nat.le_of_ble_eq_true rfl) rfl ?_
    refine AW_aload_n dL_ashamed_0 rfl ?_
    refine AW_iconst (v := 0) dL_ashamed_1 (by decide) ?_
    refine AW_aload_n dL_ashamed_2 rfl ?_
    refine AW_iload_n dL_ashamed_3 rfl ?_
    refine AW_callVI [aI a1] dL_ashamed_4 cv_L_86 rfl rfl rfl (by decide) rfl (by decide) (Nat.le_of_ble_eq_true rfl) h1 ?_
    refine AW_i2l dL_ashamed_7 ?_
    refine AW_lastore dL_ashamed_8 rfl rfl (vp_in_nI (n := 0) (N := 1) (by decide) (by decide)) rfl ?_
    refine AW_goto (tgt := 15) dL_ashamed_9 (by decide) ?_
    refine AW_iconst (v := 0) dL_ashamed_15 (by decide) ?_
    exact AW_ireturn (ty := .int) dL_ashamed_16 rfl rfl ⟨rfl, rfl⟩
  | inr e =>
    refine ⟨m1, ?_, h2, Lw.cl h3, fun x q => by cases q⟩
    rcases hc e rfl with rfl
    · refine MetA.ofH kw_L_ashamed rfl (Nat.le_of_ble_eq_true rfl) rfl ?_
      refine AW_aload_n dL_ashamed_0 rfl ?_
      refine AW_iconst (v := 0) dL_ashamed_1 (by decide) ?_
      refine AW_aload_n dL_ashamed_2 rfl ?_
      refine AW_iload_n dL_ashamed_3 rfl ?_
      refine AW_callVE [aI a1] dL_ashamed_4 cv_L_86 rfl rfl rfl (by decide) (by decide) (Nat.le_of_ble_eq_true rfl) h1 ch_L_ashamed_4 (fun q => ?_)
      refine AW_astoreX_n (q := q) (loc' := [some (aR 11 0), some (aI a1), some (aR 27 0), none]) dL_ashamed_12 (Nat.le_of_ble_eq_true rfl) rfl rfl ?_
      refine AW_iconst (v := 1) dL_ashamed_13 (by decide) ?_
      exact AW_ireturn (ty := .int) dL_ashamed_14 rfl rfl ⟨rfl, rfl⟩
set_option maxRecDepth 100000 in
theorem l_worst {a1 : Int32} {μ : Mem} {c : AN} {T : TT} (hK : CK M_X5_worst [aI a1] μ c T) (hc : ∀ e, c = .inr e → e = 4) : LK M_L_worst [aI a1] [4] μ c T := by
  obtain ⟨m1, h1, h2, h3⟩ := hK
  cases c with
  | inl v =>
    refine ⟨mset m1 27 0 (upd (m1 27 0) 0 v), ?_, TC.st (by decide) h2, Lw.st h3, fun x q => by cases q; rw [mset_s]; rfl⟩
    refine MetA.ofH kw_L_worst rfl (Nat.le_of_ble_eq_true rfl) rfl ?_
    refine AW_aload_n dL_worst_0 rfl ?_
    refine AW_iconst (v := 0) dL_worst_1 (by decide) ?_
    refine AW_aload_n dL_worst_2 rfl ?_
    refine AW_iload_n dL_worst_3 rfl ?_
    refine AW_callVI [aI a1] dL_worst_4 cv_L_89 rfl rfl rfl (by decide) rfl (by decide) (Nat.le_of_ble_eq_true rfl) h1 ?_
    refine AW_i2l dL_worst_7 ?_
    refine AW_lastore dL_worst_8 rfl rfl (vp_in_nI (n := 0) (N := 1) (by decide) (by decide)) rfl ?_
    refine AW_goto (tgt := 15) dL_worst_9 (by decide) ?_
    refine AW_iconst (v := 0) dL_worst_15 (by decide) ?_
    exact AW_ireturn (ty := .int) dL_worst_16 rfl rfl ⟨rfl, rfl⟩
  | inr e =>
    refine ⟨m1, ?_, h2, Lw.cl h3, fun x q => by cases q⟩
    rcases hc e rfl with rfl
    · refine MetA.ofH kw_L_worst rfl (Nat.le_of_ble_eq_true rfl) rfl ?_
      refine AW_aload_n dL_worst_0 rfl ?_
      refine AW_iconst (v := 0) dL_worst_1 (by decide) ?_
      refine AW_aload_n dL_worst_2 rfl ?_
      refine AW_iload_n dL_worst_3 rfl ?_
      refine AW_callVE [aI a1] dL_worst_4 cv_L_89 rfl rfl rfl (by decide) (by decide) (Nat.le_of_ble_eq_true rfl) h1 ch_L_worst_4 (fun q => ?_)
      refine AW_astoreX_n (q := q) (loc' := [some (aR 11 0), some (aI a1), some (aR 27 0), none]) dL_worst_12 (Nat.le_of_ble_eq_true rfl) rfl rfl ?_
      refine AW_iconst (v := 1) dL_worst_13 (by decide) ?_
      exact AW_ireturn (ty := .int) dL_worst_14 rfl rfl ⟨rfl, rfl⟩
set_option maxRecDepth 100000 in
theorem l_line {a1 : Int32} {μ : Mem} {c : AN} {T : TT} (hK : CK M_X5_line [aI a1] μ c T) (hc : ∀ e, c = .inr e → e = 0) : LK M_L_line [aI a1] [0] μ c T := by
  obtain ⟨m1, h1, h2, h3⟩ := hK
  cases c with
  | inl v =>
    refine ⟨mset m1 27 0 (upd (m1 27 0) 0 v), ?_, TC.st (by decide) h2, Lw.st h3, fun x q => by cases q; rw [mset_s]; rfl⟩
    refine MetA.ofH kw_L_line rfl (Nat.le_of_ble_eq_true rfl) rfl ?_
    refine AW_aload_n dL_line_0 rfl ?_
    refine AW_iconst (v := 0) dL_line_1 (by decide) ?_
    refine AW_aload_n dL_line_2 rfl ?_
    refine AW_iload_n dL_line_3 rfl ?_
    refine AW_callVI [aI a1] dL_line_4 cv_L_92 rfl rfl rfl (by decide) rfl (by decide) (Nat.le_of_ble_eq_true rfl) h1 ?_
    refine AW_i2l dL_line_7 ?_
    refine AW_lastore dL_line_8 rfl rfl (vp_in_nI (n := 0) (N := 1) (by decide) (by decide)) rfl ?_
    refine AW_goto (tgt := 15) dL_line_9 (by decide) ?_
    refine AW_iconst (v := 0) dL_line_15 (by decide) ?_
    exact AW_ireturn (ty := .int) dL_line_16 rfl rfl ⟨rfl, rfl⟩
  | inr e =>
    refine ⟨m1, ?_, h2, Lw.cl h3, fun x q => by cases q⟩
    rcases hc e rfl with rfl
    · refine MetA.ofH kw_L_line rfl (Nat.le_of_ble_eq_true rfl) rfl ?_
      refine AW_aload_n dL_line_0 rfl ?_
      refine AW_iconst (v := 0) dL_line_1 (by decide) ?_
      refine AW_aload_n dL_line_2 rfl ?_
      refine AW_iload_n dL_line_3 rfl ?_
      refine AW_callVE [aI a1] dL_line_4 cv_L_92 rfl rfl rfl (by decide) (by decide) (Nat.le_of_ble_eq_true rfl) h1 ch_L_line_0 (fun q => ?_)
      refine AW_astoreX_n (q := q) (loc' := [some (aR 11 0), some (aI a1), some (aR 27 0), none]) dL_line_12 (Nat.le_of_ble_eq_true rfl) rfl rfl ?_
      refine AW_iconst (v := 1) dL_line_13 (by decide) ?_
      exact AW_ireturn (ty := .int) dL_line_14 rfl rfl ⟨rfl, rfl⟩
set_option maxRecDepth 100000 in
theorem l_houseLine {a1 : Int32} {μ : Mem} {c : AN} {T : TT} (hK : CK M_X5_houseLine [aI a1] μ c T) (hc : ∀ e, c = .inr e → e = 0) : LK M_L_houseLine [aI a1] [0] μ c T := by
  obtain ⟨m1, h1, h2, h3⟩ := hK
  cases c with
  | inl v =>
    refine ⟨mset m1 27 0 (upd (m1 27 0) 0 v), ?_, TC.st (by decide) h2, Lw.st h3, fun x q => by cases q; rw [mset_s]; rfl⟩
    refine MetA.ofH kw_L_houseLine rfl (Nat.le_of_ble_eq_true rfl) rfl ?_
    refine AW_aload_n dL_houseLine_0 rfl ?_
    refine AW_iconst (v := 0) dL_houseLine_1 (by decide) ?_
    refine AW_aload_n dL_houseLine_2 rfl ?_
    refine AW_iload_n dL_houseLine_3 rfl ?_
    refine AW_callVI [aI a1] dL_houseLine_4 cv_L_95 rfl rfl rfl (by decide) rfl (by decide) (Nat.le_of_ble_eq_true rfl) h1 ?_
    refine AW_i2l dL_houseLine_7 ?_
    refine AW_lastore dL_houseLine_8 rfl rfl (vp_in_nI (n := 0) (N := 1) (by decide) (by decide)) rfl ?_
    refine AW_goto (tgt := 15) dL_houseLine_9 (by decide) ?_
    refine AW_iconst (v := 0) dL_houseLine_15 (by decide) ?_
    exact AW_ireturn (ty := .int) dL_houseLine_16 rfl rfl ⟨rfl, rfl⟩
  | inr e =>
    refine ⟨m1, ?_, h2, Lw.cl h3, fun x q => by cases q⟩
    rcases hc e rfl with rfl
    · refine MetA.ofH kw_L_houseLine rfl (Nat.le_of_ble_eq_true rfl) rfl ?_
      refine AW_aload_n dL_houseLine_0 rfl ?_
      refine AW_iconst (v := 0) dL_houseLine_1 (by decide) ?_
      refine AW_aload_n dL_houseLine_2 rfl ?_
      refine AW_iload_n dL_houseLine_3 rfl ?_
      refine AW_callVE [aI a1] dL_houseLine_4 cv_L_95 rfl rfl rfl (by decide) (by decide) (Nat.le_of_ble_eq_true rfl) h1 ch_L_houseLine_0 (fun q => ?_)
      refine AW_astoreX_n (q := q) (loc' := [some (aR 11 0), some (aI a1), some (aR 27 0), none]) dL_houseLine_12 (Nat.le_of_ble_eq_true rfl) rfl rfl ?_
      refine AW_iconst (v := 1) dL_houseLine_13 (by decide) ?_
      exact AW_ireturn (ty := .int) dL_houseLine_14 rfl rfl ⟨rfl, rfl⟩
set_option maxRecDepth 100000 in
theorem l_character {a1 : Int32} {μ : Mem} {c : AN} {T : TT} (hK : CK M_X5_character [aI a1] μ c T) (hc : ∀ e, c = .inr e → e = 0) : LK M_L_character [aI a1] [0] μ c T := by
  obtain ⟨m1, h1, h2, h3⟩ := hK
  cases c with
  | inl v =>
    refine ⟨mset m1 27 0 (upd (m1 27 0) 0 v), ?_, TC.st (by decide) h2, Lw.st h3, fun x q => by cases q; rw [mset_s]; rfl⟩
    refine MetA.ofH kw_L_character rfl (Nat.le_of_ble_eq_true rfl) rfl ?_
    refine AW_aload_n dL_character_0 rfl ?_
    refine AW_iconst (v := 0) dL_character_1 (by decide) ?_
    refine AW_aload_n dL_character_2 rfl ?_
    refine AW_iload_n dL_character_3 rfl ?_
    refine AW_callVI [aI a1] dL_character_4 cv_L_98 rfl rfl rfl (by decide) rfl (by decide) (Nat.le_of_ble_eq_true rfl) h1 ?_
    refine AW_i2l dL_character_7 ?_
    refine AW_lastore dL_character_8 rfl rfl (vp_in_nI (n := 0) (N := 1) (by decide) (by decide)) rfl ?_
    refine AW_goto (tgt := 15) dL_character_9 (by decide) ?_
    refine AW_iconst (v := 0) dL_character_15 (by decide) ?_
    exact AW_ireturn (ty := .int) dL_character_16 rfl rfl ⟨rfl, rfl⟩
  | inr e =>
    refine ⟨m1, ?_, h2, Lw.cl h3, fun x q => by cases q⟩
    rcases hc e rfl with rfl
    · refine MetA.ofH kw_L_character rfl (Nat.le_of_ble_eq_true rfl) rfl ?_
      refine AW_aload_n dL_character_0 rfl ?_
      refine AW_iconst (v := 0) dL_character_1 (by decide) ?_
      refine AW_aload_n dL_character_2 rfl ?_
      refine AW_iload_n dL_character_3 rfl ?_
      refine AW_callVE [aI a1] dL_character_4 cv_L_98 rfl rfl rfl (by decide) (by decide) (Nat.le_of_ble_eq_true rfl) h1 ch_L_character_0 (fun q => ?_)
      refine AW_astoreX_n (q := q) (loc' := [some (aR 11 0), some (aI a1), some (aR 27 0), none]) dL_character_12 (Nat.le_of_ble_eq_true rfl) rfl rfl ?_
      refine AW_iconst (v := 1) dL_character_13 (by decide) ?_
      exact AW_ireturn (ty := .int) dL_character_14 rfl rfl ⟨rfl, rfl⟩
set_option maxRecDepth 100000 in
theorem l_append {a1 : Int32} {μ : Mem} {c : AN} {T : TT} (hK : CK M_X5_append [aI a1] μ c T) (hc : ∀ e, c = .inr e → e = 3) : LK M_L_append [aI a1] [3] μ c T := by
  obtain ⟨m1, h1, h2, h3⟩ := hK
  cases c with
  | inl v =>
    refine ⟨mset m1 27 0 (upd (m1 27 0) 0 v), ?_, TC.st (by decide) h2, Lw.st h3, fun x q => by cases q; rw [mset_s]; rfl⟩
    refine MetA.ofH kw_L_append rfl (Nat.le_of_ble_eq_true rfl) rfl ?_
    refine AW_aload_n dL_append_0 rfl ?_
    refine AW_iconst (v := 0) dL_append_1 (by decide) ?_
    refine AW_aload_n dL_append_2 rfl ?_
    refine AW_iload_n dL_append_3 rfl ?_
    refine AW_callVI [aI a1] dL_append_4 cv_L_102 rfl rfl rfl (by decide) rfl (by decide) (Nat.le_of_ble_eq_true rfl) h1 ?_
    refine AW_i2l dL_append_7 ?_
    refine AW_lastore dL_append_8 rfl rfl (vp_in_nI (n := 0) (N := 1) (by decide) (by decide)) rfl ?_
    refine AW_goto (tgt := 15) dL_append_9 (by decide) ?_
    refine AW_iconst (v := 0) dL_append_15 (by decide) ?_
    exact AW_ireturn (ty := .int) dL_append_16 rfl rfl ⟨rfl, rfl⟩
  | inr e =>
    refine ⟨m1, ?_, h2, Lw.cl h3, fun x q => by cases q⟩
    rcases hc e rfl with rfl
    · refine MetA.ofH kw_L_append rfl (Nat.le_of_ble_eq_true rfl) rfl ?_
      refine AW_aload_n dL_append_0 rfl ?_
      refine AW_iconst (v := 0) dL_append_1 (by decide) ?_
      refine AW_aload_n dL_append_2 rfl ?_
      refine AW_iload_n dL_append_3 rfl ?_
      refine AW_callVE [aI a1] dL_append_4 cv_L_102 rfl rfl rfl (by decide) (by decide) (Nat.le_of_ble_eq_true rfl) h1 ch_L_append_3 (fun q => ?_)
      refine AW_astoreX_n (q := q) (loc' := [some (aR 11 0), some (aI a1), some (aR 27 0), none]) dL_append_12 (Nat.le_of_ble_eq_true rfl) rfl rfl ?_
      refine AW_iconst (v := 1) dL_append_13 (by decide) ?_
      exact AW_ireturn (ty := .int) dL_append_14 rfl rfl ⟨rfl, rfl⟩
set_option maxRecDepth 100000 in
theorem l_run {μ : Mem} {c : AN} {T : TT} (hK : CK M_X5_run [] μ c T) (hc : ∀ e, c = .inr e → e = 1 ∨ e = 2) : LK M_L_run [] [1, 2] μ c T := by
  obtain ⟨m1, h1, h2, h3⟩ := hK
  cases c with
  | inl v =>
    refine ⟨mset m1 27 0 (upd (m1 27 0) 0 v), ?_, TC.st (by decide) h2, Lw.st h3, fun x q => by cases q; rw [mset_s]; rfl⟩
    refine MetA.ofH kw_L_run rfl (Nat.le_of_ble_eq_true rfl) rfl ?_
    refine AW_aload_n dL_run_0 rfl ?_
    refine AW_iconst (v := 0) dL_run_1 (by decide) ?_
    refine AW_aload_n dL_run_2 rfl ?_
    refine AW_callVI [] dL_run_3 cv_L_108 rfl rfl rfl (by decide) rfl (by decide) (Nat.le_of_ble_eq_true rfl) h1 ?_
    refine AW_i2l dL_run_6 ?_
    refine AW_lastore dL_run_7 rfl rfl (vp_in_nI (n := 0) (N := 1) (by decide) (by decide)) rfl ?_
    refine AW_goto (tgt := 17) dL_run_8 (by decide) ?_
    refine AW_iconst (v := 0) dL_run_17 (by decide) ?_
    exact AW_ireturn (ty := .int) dL_run_18 rfl rfl ⟨rfl, rfl⟩
  | inr e =>
    refine ⟨m1, ?_, h2, Lw.cl h3, fun x q => by cases q⟩
    rcases hc e rfl with rfl | rfl
    · refine MetA.ofH kw_L_run rfl (Nat.le_of_ble_eq_true rfl) rfl ?_
      refine AW_aload_n dL_run_0 rfl ?_
      refine AW_iconst (v := 0) dL_run_1 (by decide) ?_
      refine AW_aload_n dL_run_2 rfl ?_
      refine AW_callVE [] dL_run_3 cv_L_108 rfl rfl rfl (by decide) (by decide) (Nat.le_of_ble_eq_true rfl) h1 ch_L_run_1 (fun q => ?_)
      refine AW_astoreX_n (q := q) (loc' := [some (aR 11 0), some (aR 27 0), none]) dL_run_11 (Nat.le_of_ble_eq_true rfl) rfl rfl ?_
      refine AW_iconst (v := 1) dL_run_12 (by decide) ?_
      exact AW_ireturn (ty := .int) dL_run_13 rfl rfl ⟨rfl, rfl⟩
    · refine MetA.ofH kw_L_run rfl (Nat.le_of_ble_eq_true rfl) rfl ?_
      refine AW_aload_n dL_run_0 rfl ?_
      refine AW_iconst (v := 0) dL_run_1 (by decide) ?_
      refine AW_aload_n dL_run_2 rfl ?_
      refine AW_callVE [] dL_run_3 cv_L_108 rfl rfl rfl (by decide) (by decide) (Nat.le_of_ble_eq_true rfl) h1 ch_L_run_2 (fun q => ?_)
      refine AW_astoreX_n (q := q) (loc' := [some (aR 11 0), some (aR 27 0), none]) dL_run_14 (Nat.le_of_ble_eq_true rfl) rfl rfl ?_
      refine AW_iconst (v := 2) dL_run_15 (by decide) ?_
      exact AW_ireturn (ty := .int) dL_run_16 rfl rfl ⟨rfl, rfl⟩
set_option maxRecDepth 100000 in
theorem l_refusal {a1 a2 : Int32} {μ : Mem} {c : AN} {T : TT} (hK : CK M_X5_refusal [aI a1, aI a2] μ c T) (hc : ∀ e, c = .inr e → e = 4) : LK M_L_refusal [aI a1, aI a2] [4] μ c T := by
  obtain ⟨m1, h1, h2, h3⟩ := hK
  cases c with
  | inl v =>
    refine ⟨mset m1 27 0 (upd (m1 27 0) 0 v), ?_, TC.st (by decide) h2, Lw.st h3, fun x q => by cases q; rw [mset_s]; rfl⟩
    refine MetA.ofH kw_L_refusal rfl (Nat.le_of_ble_eq_true rfl) rfl ?_
    refine AW_aload_n dL_refusal_0 rfl ?_
    refine AW_iconst (v := 0) dL_refusal_1 (by decide) ?_
    refine AW_aload_n dL_refusal_2 rfl ?_
    refine AW_iload_n dL_refusal_3 rfl ?_
    refine AW_iload_n dL_refusal_4 rfl ?_
    refine AW_callVI [aI a1, aI a2] dL_refusal_5 cv_L_111 rfl rfl rfl (by decide) rfl (by decide) (Nat.le_of_ble_eq_true rfl) h1 ?_
    refine AW_i2l dL_refusal_8 ?_
    refine AW_lastore dL_refusal_9 rfl rfl (vp_in_nI (n := 0) (N := 1) (by decide) (by decide)) rfl ?_
    refine AW_goto (tgt := 17) dL_refusal_10 (by decide) ?_
    refine AW_iconst (v := 0) dL_refusal_17 (by decide) ?_
    exact AW_ireturn (ty := .int) dL_refusal_18 rfl rfl ⟨rfl, rfl⟩
  | inr e =>
    refine ⟨m1, ?_, h2, Lw.cl h3, fun x q => by cases q⟩
    rcases hc e rfl with rfl
    · refine MetA.ofH kw_L_refusal rfl (Nat.le_of_ble_eq_true rfl) rfl ?_
      refine AW_aload_n dL_refusal_0 rfl ?_
      refine AW_iconst (v := 0) dL_refusal_1 (by decide) ?_
      refine AW_aload_n dL_refusal_2 rfl ?_
      refine AW_iload_n dL_refusal_3 rfl ?_
      refine AW_iload_n dL_refusal_4 rfl ?_
      refine AW_callVE [aI a1, aI a2] dL_refusal_5 cv_L_111 rfl rfl rfl (by decide) (by decide) (Nat.le_of_ble_eq_true rfl) h1 ch_L_refusal_4 (fun q => ?_)
      refine AW_astoreX (q := q) (loc' := [some (aR 11 0), some (aI a1), some (aI a2), some (aR 27 0), none]) dL_refusal_13 (Nat.le_of_ble_eq_true rfl) rfl rfl ?_
      refine AW_iconst (v := 1) dL_refusal_15 (by decide) ?_
      exact AW_ireturn (ty := .int) dL_refusal_16 rfl rfl ⟨rfl, rfl⟩
set_option maxRecDepth 100000 in
theorem l_account {a1 : Int32} {μ : Mem} {c : AN} {T : TT} (hK : CK M_X5_account [aI a1] μ c T) (hc : ∀ e, c = .inr e → e = 1) : LK M_L_account [aI a1] [1] μ c T := by
  obtain ⟨m1, h1, h2, h3⟩ := hK
  cases c with
  | inl v =>
    refine ⟨mset m1 27 0 (upd (m1 27 0) 0 v), ?_, TC.st (by decide) h2, Lw.st h3, fun x q => by cases q; rw [mset_s]; rfl⟩
    refine MetA.ofH kw_L_account rfl (Nat.le_of_ble_eq_true rfl) rfl ?_
    refine AW_aload_n dL_account_0 rfl ?_
    refine AW_iconst (v := 0) dL_account_1 (by decide) ?_
    refine AW_aload_n dL_account_2 rfl ?_
    refine AW_iload_n dL_account_3 rfl ?_
    refine AW_callVI [aI a1] dL_account_4 cv_L_115 rfl rfl rfl (by decide) rfl (by decide) (Nat.le_of_ble_eq_true rfl) h1 ?_
    refine AW_i2l dL_account_7 ?_
    refine AW_lastore dL_account_8 rfl rfl (vp_in_nI (n := 0) (N := 1) (by decide) (by decide)) rfl ?_
    refine AW_goto (tgt := 15) dL_account_9 (by decide) ?_
    refine AW_iconst (v := 0) dL_account_15 (by decide) ?_
    exact AW_ireturn (ty := .int) dL_account_16 rfl rfl ⟨rfl, rfl⟩
  | inr e =>
    refine ⟨m1, ?_, h2, Lw.cl h3, fun x q => by cases q⟩
    rcases hc e rfl with rfl
    · refine MetA.ofH kw_L_account rfl (Nat.le_of_ble_eq_true rfl) rfl ?_
      refine AW_aload_n dL_account_0 rfl ?_
      refine AW_iconst (v := 0) dL_account_1 (by decide) ?_
      refine AW_aload_n dL_account_2 rfl ?_
      refine AW_iload_n dL_account_3 rfl ?_
      refine AW_callVE [aI a1] dL_account_4 cv_L_115 rfl rfl rfl (by decide) (by decide) (Nat.le_of_ble_eq_true rfl) h1 ch_L_account_1 (fun q => ?_)
      refine AW_astoreX_n (q := q) (loc' := [some (aR 11 0), some (aI a1), some (aR 27 0), none]) dL_account_12 (Nat.le_of_ble_eq_true rfl) rfl rfl ?_
      refine AW_iconst (v := 1) dL_account_13 (by decide) ?_
      exact AW_ireturn (ty := .int) dL_account_14 rfl rfl ⟨rfl, rfl⟩
set_option maxRecDepth 100000 in
theorem l_undo {μ : Mem} {c : AN} {T : TT} (hK : CK M_X5_undo [] μ c T) (hc : ∀ e, c = .inr e → e = 3) : LK M_L_undo [] [3] μ c T := by
  obtain ⟨m1, h1, h2, h3⟩ := hK
  cases c with
  | inl v =>
    refine ⟨mset m1 27 0 (upd (m1 27 0) 0 v), ?_, TC.st (by decide) h2, Lw.st h3, fun x q => by cases q; rw [mset_s]; rfl⟩
    refine MetA.ofH kw_L_undo rfl (Nat.le_of_ble_eq_true rfl) rfl ?_
    refine AW_aload_n dL_undo_0 rfl ?_
    refine AW_iconst (v := 0) dL_undo_1 (by decide) ?_
    refine AW_aload_n dL_undo_2 rfl ?_
    refine AW_callVI [] dL_undo_3 cv_L_128 rfl rfl rfl (by decide) rfl (by decide) (Nat.le_of_ble_eq_true rfl) h1 ?_
    refine AW_i2l dL_undo_6 ?_
    refine AW_lastore dL_undo_7 rfl rfl (vp_in_nI (n := 0) (N := 1) (by decide) (by decide)) rfl ?_
    refine AW_goto (tgt := 14) dL_undo_8 (by decide) ?_
    refine AW_iconst (v := 0) dL_undo_14 (by decide) ?_
    exact AW_ireturn (ty := .int) dL_undo_15 rfl rfl ⟨rfl, rfl⟩
  | inr e =>
    refine ⟨m1, ?_, h2, Lw.cl h3, fun x q => by cases q⟩
    rcases hc e rfl with rfl
    · refine MetA.ofH kw_L_undo rfl (Nat.le_of_ble_eq_true rfl) rfl ?_
      refine AW_aload_n dL_undo_0 rfl ?_
      refine AW_iconst (v := 0) dL_undo_1 (by decide) ?_
      refine AW_aload_n dL_undo_2 rfl ?_
      refine AW_callVE [] dL_undo_3 cv_L_128 rfl rfl rfl (by decide) (by decide) (Nat.le_of_ble_eq_true rfl) h1 ch_L_undo_3 (fun q => ?_)
      refine AW_astoreX_n (q := q) (loc' := [some (aR 11 0), some (aR 27 0), none]) dL_undo_11 (Nat.le_of_ble_eq_true rfl) rfl rfl ?_
      refine AW_iconst (v := 1) dL_undo_12 (by decide) ?_
      exact AW_ireturn (ty := .int) dL_undo_13 rfl rfl ⟨rfl, rfl⟩
set_option maxRecDepth 100000 in
theorem l_restore {μ : Mem} {c : AN} {T : TT} (hK : CK M_X5_restore [] μ c T) (hc : ∀ e, c = .inr e → e = 3) : LK M_L_restore [] [3] μ c T := by
  obtain ⟨m1, h1, h2, h3⟩ := hK
  cases c with
  | inl v =>
    refine ⟨mset m1 27 0 (upd (m1 27 0) 0 v), ?_, TC.st (by decide) h2, Lw.st h3, fun x q => by cases q; rw [mset_s]; rfl⟩
    refine MetA.ofH kw_L_restore rfl (Nat.le_of_ble_eq_true rfl) rfl ?_
    refine AW_aload_n dL_restore_0 rfl ?_
    refine AW_iconst (v := 0) dL_restore_1 (by decide) ?_
    refine AW_aload_n dL_restore_2 rfl ?_
    refine AW_callVI [] dL_restore_3 cv_L_131 rfl rfl rfl (by decide) rfl (by decide) (Nat.le_of_ble_eq_true rfl) h1 ?_
    refine AW_i2l dL_restore_6 ?_
    refine AW_lastore dL_restore_7 rfl rfl (vp_in_nI (n := 0) (N := 1) (by decide) (by decide)) rfl ?_
    refine AW_goto (tgt := 14) dL_restore_8 (by decide) ?_
    refine AW_iconst (v := 0) dL_restore_14 (by decide) ?_
    exact AW_ireturn (ty := .int) dL_restore_15 rfl rfl ⟨rfl, rfl⟩
  | inr e =>
    refine ⟨m1, ?_, h2, Lw.cl h3, fun x q => by cases q⟩
    rcases hc e rfl with rfl
    · refine MetA.ofH kw_L_restore rfl (Nat.le_of_ble_eq_true rfl) rfl ?_
      refine AW_aload_n dL_restore_0 rfl ?_
      refine AW_iconst (v := 0) dL_restore_1 (by decide) ?_
      refine AW_aload_n dL_restore_2 rfl ?_
      refine AW_callVE [] dL_restore_3 cv_L_131 rfl rfl rfl (by decide) (by decide) (Nat.le_of_ble_eq_true rfl) h1 ch_L_restore_3 (fun q => ?_)
      refine AW_astoreX_n (q := q) (loc' := [some (aR 11 0), some (aR 27 0), none]) dL_restore_11 (Nat.le_of_ble_eq_true rfl) rfl rfl ?_
      refine AW_iconst (v := 1) dL_restore_12 (by decide) ?_
      exact AW_ireturn (ty := .int) dL_restore_13 rfl rfl ⟨rfl, rfl⟩
set_option maxRecDepth 100000 in
theorem l_meanShame_y {μ : Mem} {v : UInt64} (h1 : MetA M_X5_meanShame [aR 11 0] μ (rD v μ)) : MetA M_L_meanShame [aR 11 0, aR 28 0] μ (rI 0 (dst μ 0 v)) := by
  refine MetA.ofH kw_L_meanShame rfl (Nat.le_of_ble_eq_true rfl) rfl ?_
  refine AW_aload_n dL_meanShame_0 rfl ?_
  refine AW_iconst (v := 0) dL_meanShame_1 (by decide) ?_
  refine AW_aload_n dL_meanShame_2 rfl ?_
  refine AW_callV [] dL_meanShame_3 cv_L_118 rfl rfl rfl (by decide) (by decide) (by decide) h1 (fun _ _ h => nomatch h.1) (fun w μ2 h => ?_)
  obtain ⟨h2, rfl⟩ := h
  cases h2
  show AW M_L_meanShame 1 6 [some (aR 11 0), some (aR 28 0), none] [aD v, aI 0, aR 28 0] μ2 _
  refine AW_dastore dL_meanShame_6 (vp_in_nI (n := 0) (N := 1) (by decide) (by decide)) ?_
  refine AW_goto (tgt := 13) dL_meanShame_7 (by decide) ?_
  refine AW_iconst (v := 0) dL_meanShame_13 (by decide) ?_
  exact AW_ireturn (ty := .int) dL_meanShame_14 rfl rfl ⟨rfl, rfl⟩
set_option maxRecDepth 100000 in
theorem l_meanShame_n {μ : Mem} (h1 : MetA M_X5_meanShame [aR 11 0] μ (rX (exn 5) μ)) : MetA M_L_meanShame [aR 11 0, aR 28 0] μ (rI 1 μ) := by
  refine MetA.ofH kw_L_meanShame rfl (Nat.le_of_ble_eq_true rfl) rfl ?_
  refine AW_aload_n dL_meanShame_0 rfl ?_
  refine AW_iconst (v := 0) dL_meanShame_1 (by decide) ?_
  refine AW_aload_n dL_meanShame_2 rfl ?_
  refine AW_callVE [] dL_meanShame_3 cv_L_118 rfl rfl rfl (by decide) (by decide) (Nat.le_of_ble_eq_true rfl) h1 ch_L_meanShame_5 (fun q => ?_)
  refine AW_astoreX_n (q := q) (loc' := [some (aR 11 0), some (aR 28 0), none]) dL_meanShame_10 (Nat.le_of_ble_eq_true rfl) rfl rfl ?_
  refine AW_iconst (v := 1) dL_meanShame_11 (by decide) ?_
  exact AW_ireturn (ty := .int) dL_meanShame_12 rfl rfl ⟨rfl, rfl⟩
set_option maxRecDepth 100000 in
theorem l_errorShare_y {μ : Mem} {v : UInt32} (h1 : MetA M_X5_errorShare [aR 11 0] μ (rF v μ)) (hv : vf_n64 (FP.f2d v)) : MetA M_L_errorShare [aR 11 0, aR 28 0] μ (rI 0 (dst μ 0 (FP.f2d v))) := by
  refine MetA.ofH kw_L_errorShare rfl (Nat.le_of_ble_eq_true rfl) rfl ?_
  refine AW_aload_n dL_errorShare_0 rfl ?_
  refine AW_iconst (v := 0) dL_errorShare_1 (by decide) ?_
  refine AW_aload_n dL_errorShare_2 rfl ?_
  refine AW_callV [] dL_errorShare_3 cv_L_124 rfl rfl rfl (by decide) (by decide) (by decide) h1 (fun _ _ h => nomatch h.1) (fun w μ2 h => ?_)
  obtain ⟨h2, rfl⟩ := h
  cases h2
  show AW M_L_errorShare 1 6 [some (aR 11 0), some (aR 28 0), none] [aF v, aI 0, aR 28 0] μ2 _
  refine AW_f2d dL_errorShare_6 hv ?_
  refine AW_dastore dL_errorShare_7 (vp_in_nI (n := 0) (N := 1) (by decide) (by decide)) ?_
  refine AW_goto (tgt := 14) dL_errorShare_8 (by decide) ?_
  refine AW_iconst (v := 0) dL_errorShare_14 (by decide) ?_
  exact AW_ireturn (ty := .int) dL_errorShare_15 rfl rfl ⟨rfl, rfl⟩
set_option maxRecDepth 100000 in
theorem l_errorShare_n {μ : Mem} (h1 : MetA M_X5_errorShare [aR 11 0] μ (rX (exn 5) μ)) : MetA M_L_errorShare [aR 11 0, aR 28 0] μ (rI 1 μ) := by
  refine MetA.ofH kw_L_errorShare rfl (Nat.le_of_ble_eq_true rfl) rfl ?_
  refine AW_aload_n dL_errorShare_0 rfl ?_
  refine AW_iconst (v := 0) dL_errorShare_1 (by decide) ?_
  refine AW_aload_n dL_errorShare_2 rfl ?_
  refine AW_callVE [] dL_errorShare_3 cv_L_124 rfl rfl rfl (by decide) (by decide) (Nat.le_of_ble_eq_true rfl) h1 ch_L_errorShare_5 (fun q => ?_)
  refine AW_astoreX_n (q := q) (loc' := [some (aR 11 0), some (aR 28 0), none]) dL_errorShare_11 (Nat.le_of_ble_eq_true rfl) rfl rfl ?_
  refine AW_iconst (v := 1) dL_errorShare_12 (by decide) ?_
  exact AW_ireturn (ty := .int) dL_errorShare_13 rfl rfl ⟨rfl, rfl⟩
