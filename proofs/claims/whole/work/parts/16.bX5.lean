set_option maxRecDepth 100000 in
theorem B_X0_keep_0 {o1 : Nat} {μ : Mem} {P : RES → Mem → Prop} (ho1 : o1 < 12) (h : vp_in (μ 12 0 1) 8 ∧ (∃ m3 : Mem, MetA M_X4_copyFrom [aR 0 (4 + (μ 12 0 1).toNatClampNeg), aR 0 o1] μ (rV m3) ∧ (∀ m6 : Mem, m6 = mset m3 12 0 (upd (m3 12 0) 1 (((m3 12 0 1) + 1) - ((m3 12 0 1) + 1) / 8 * 8)) → ∀ r9 : Int32, r9 = (if ((m6 12 0 2) + 1) < 8 then ((m6 12 0 2) + 1) else 8) → ∀ m11 : Mem, m11 = mset m6 12 0 (upd (m6 12 0) 2 r9) → P (.inl none) m11))) : AW M_X0_keep 0 0 [some (aR 12 0), some (aR 0 o1)] [] μ P := by
  refine AW_aload_n dX0_keep_0 rfl ?_
  refine AW_getv (t := 12) (o := 0) (k := 0) (some (13, none)) (v := aR 13 0) dX0_keep_1 ff_X0_11 rfl rfl rfl ?_
  refine AW_aload_n dX0_keep_4 rfl ?_
  refine AW_getv (t := 12) (o := 0) (k := 1) none (v := aI (μ 12 0 1)) dX0_keep_5 ff_X0_18 rfl rfl rfl ?_
  obtain ⟨h1, h2⟩ := h
  refine AW_aaload dX0_keep_8 rfl rfl h1 ?_
  refine AW_aload_n dX0_keep_9 rfl ?_
  obtain ⟨m3, h5, h4⟩ := h2
  refine AW_callVV [aR 0 o1] dX0_keep_10 cv_X0_22 rfl rfl (decide_eq_true (vp_lt12 h1)) (by decide) rfl (by decide) (Nat.le_of_ble_eq_true rfl) h5 ?_
  refine AW_aload_n dX0_keep_13 rfl ?_
  refine AW_aload_n dX0_keep_14 rfl ?_
  refine AW_getv (t := 12) (o := 0) (k := 1) none (v := aI (m3 12 0 1)) dX0_keep_15 ff_X0_18 rfl rfl rfl ?_
  refine AW_iconst (v := 1) dX0_keep_18 (by decide) ?_
  refine AW_iadd dX0_keep_19 ?_
  refine AW_bipush (v := 8) dX0_keep_20 (by decide) ?_
  refine AW_irem dX0_keep_22 (by decide) ?_
  obtain ⟨m6, em6⟩ : ∃ z : Mem, z = mset m3 12 0 (upd (m3 12 0) 1 (((m3 12 0 1) + 1) - ((m3 12 0 1) + 1) / 8 * 8)) := ⟨_, rfl⟩
  have h7 := h4 m6 em6
  refine AW_putf (t := 12) (o := 0) (k := 1) dX0_keep_23 fp_X0_18 rfl rfl rfl rfl em6.symm ?_
  refine AW_aload_n dX0_keep_26 rfl ?_
  refine AW_bipush (v := 8) dX0_keep_27 (by decide) ?_
  refine AW_aload_n dX0_keep_29 rfl ?_
  refine AW_getv (t := 12) (o := 0) (k := 2) none (v := aI (m6 12 0 2)) dX0_keep_30 ff_X0_26 rfl rfl rfl ?_
  refine AW_iconst (v := 1) dX0_keep_33 (by decide) ?_
  refine AW_iadd dX0_keep_34 ?_
  obtain ⟨r9, er9⟩ : ∃ z : Int32, z = (if ((m6 12 0 2) + 1) < 8 then ((m6 12 0 2) + 1) else 8) := ⟨_, rfl⟩
  have h10 := h7 r9 er9
  refine AW_mmin dX0_keep_35 w_374 (by decide) (Nat.le_of_ble_eq_true rfl) er9.symm ?_
  obtain ⟨m11, em11⟩ : ∃ z : Mem, z = mset m6 12 0 (upd (m6 12 0) 2 r9) := ⟨_, rfl⟩
  have h12 := h10 m11 em11
  refine AW_putf (t := 12) (o := 0) (k := 2) dX0_keep_38 fp_X0_26 rfl rfl rfl rfl em11.symm ?_
  exact AW_return dX0_keep_41 rfl h12
set_option maxRecDepth 100000 in
theorem B_X0_takeBack_0 {o1 : Nat} {μ : Mem} {P : RES → Mem → Prop} (ho1 : o1 < 12) (h : ∀ m1 : Mem, m1 = mset μ 12 0 (upd (μ 12 0) 1 ((((μ 12 0 1) + 8) - 1) - (((μ 12 0 1) + 8) - 1) / 8 * 8)) → vp_in (m1 12 0 1) 8 ∧ (∃ m6 : Mem, MetA M_X4_copyFrom [aR 0 o1, aR 0 (4 + (m1 12 0 1).toNatClampNeg)] m1 (rV m6) ∧ (∀ m9 : Mem, m9 = mset m6 12 0 (upd (m6 12 0) 2 ((m6 12 0 2) - 1)) → P (.inl none) m9))) : AW M_X0_takeBack 0 0 [some (aR 12 0), some (aR 0 o1)] [] μ P := by
  refine AW_aload_n dX0_takeBack_0 rfl ?_
  refine AW_aload_n dX0_takeBack_1 rfl ?_
  refine AW_getv (t := 12) (o := 0) (k := 1) none (v := aI (μ 12 0 1)) dX0_takeBack_2 ff_X0_18 rfl rfl rfl ?_
  refine AW_bipush (v := 8) dX0_takeBack_5 (by decide) ?_
  refine AW_iadd dX0_takeBack_7 ?_
  refine AW_iconst (v := 1) dX0_takeBack_8 (by decide) ?_
  refine AW_isub dX0_takeBack_9 ?_
  refine AW_bipush (v := 8) dX0_takeBack_10 (by decide) ?_
  refine AW_irem dX0_takeBack_12 (by decide) ?_
  obtain ⟨m1, em1⟩ : ∃ z : Mem, z = mset μ 12 0 (upd (μ 12 0) 1 ((((μ 12 0 1) + 8) - 1) - (((μ 12 0 1) + 8) - 1) / 8 * 8)) := ⟨_, rfl⟩
  have h2 := h m1 em1
  refine AW_putf (t := 12) (o := 0) (k := 1) dX0_takeBack_13 fp_X0_18 rfl rfl rfl rfl em1.symm ?_
  refine AW_aload_n dX0_takeBack_16 rfl ?_
  refine AW_aload_n dX0_takeBack_17 rfl ?_
  refine AW_getv (t := 12) (o := 0) (k := 0) (some (13, none)) (v := aR 13 0) dX0_takeBack_18 ff_X0_11 rfl rfl rfl ?_
  refine AW_aload_n dX0_takeBack_21 rfl ?_
  refine AW_getv (t := 12) (o := 0) (k := 1) none (v := aI (m1 12 0 1)) dX0_takeBack_22 ff_X0_18 rfl rfl rfl ?_
  obtain ⟨h4, h5⟩ := h2
  refine AW_aaload dX0_takeBack_25 rfl rfl h4 ?_
  obtain ⟨m6, h8, h7⟩ := h5
  refine AW_callVV [aR 0 (4 + (m1 12 0 1).toNatClampNeg)] dX0_takeBack_26 cv_X0_22 rfl rfl (decide_eq_true ho1) (by decide) rfl (by decide) (Nat.le_of_ble_eq_true rfl) h8 ?_
  refine AW_aload_n dX0_takeBack_29 rfl ?_
  refine AW_dup dX0_takeBack_30 rfl ?_
  refine AW_getv (t := 12) (o := 0) (k := 2) none (v := aI (m6 12 0 2)) dX0_takeBack_31 ff_X0_26 rfl rfl rfl ?_
  refine AW_iconst (v := 1) dX0_takeBack_34 (by decide) ?_
  refine AW_isub dX0_takeBack_35 ?_
  obtain ⟨m9, em9⟩ : ∃ z : Mem, z = mset m6 12 0 (upd (m6 12 0) 2 ((m6 12 0 2) - 1)) := ⟨_, rfl⟩
  have h10 := h7 m9 em9
  refine AW_putf (t := 12) (o := 0) (k := 2) dX0_takeBack_36 fp_X0_26 rfl rfl rfl rfl em9.symm ?_
  exact AW_return dX0_takeBack_39 rfl h10
set_option maxRecDepth 100000 in
theorem B_X1_put_0 {a1 : Int32} {μ : Mem} {P : RES → Mem → Prop}  (h : (18 ≤ (μ 17 0 1) → P (.inl none) μ) ∧ (¬ 18 ≤ (μ 17 0 1) → vp_in (μ 17 0 1) 18 ∧ (∀ m4 : Mem, m4 = mset μ 18 0 (upd (μ 18 0) (μ 17 0 1).toNatClampNeg (vp_nar .char a1)) → ∀ m8 : Mem, m8 = mset m4 17 0 (upd (m4 17 0) 1 ((m4 17 0 1) + 1)) → P (.inl none) m8))) : AW M_X1_put 0 0 [some (aR 17 0), some (aI a1)] [] μ P := by
  refine AW_aload_n dX1_put_0 rfl ?_
  refine AW_getv (t := 17) (o := 0) (k := 1) none (v := aI (μ 17 0 1)) dX1_put_1 ff_X1_15 rfl rfl rfl ?_
  refine AW_bipush (v := 18) dX1_put_4 (by decide) ?_
  refine AW_icmp_ge (tgt := 29) dX1_put_6 (by decide) (fun q3 => ?_) (fun q3 => ?_)
  · have h1 := h.1 q3
    exact AW_return dX1_put_29 rfl h1
  · have h2 := h.2 q3
    refine AW_aload_n dX1_put_9 rfl ?_
    refine AW_getv (t := 17) (o := 0) (k := 0) (some (18, none)) (v := aR 18 0) dX1_put_10 ff_X1_9 rfl rfl rfl ?_
    refine AW_aload_n dX1_put_13 rfl ?_
    refine AW_getv (t := 17) (o := 0) (k := 1) none (v := aI (μ 17 0 1)) dX1_put_14 ff_X1_15 rfl rfl rfl ?_
    refine AW_iload_n dX1_put_17 rfl ?_
    obtain ⟨h5, h7⟩ := h2
    obtain ⟨m4, em4⟩ : ∃ z : Mem, z = mset μ 18 0 (upd (μ 18 0) (μ 17 0 1).toNatClampNeg (vp_nar .char a1)) := ⟨_, rfl⟩
    have h6 := h7 m4 em4
    refine AW_castore dX1_put_18 rfl rfl h5 rfl em4.symm ?_
    refine AW_aload_n dX1_put_19 rfl ?_
    refine AW_dup dX1_put_20 rfl ?_
    refine AW_getv (t := 17) (o := 0) (k := 1) none (v := aI (m4 17 0 1)) dX1_put_21 ff_X1_15 rfl rfl rfl ?_
    refine AW_iconst (v := 1) dX1_put_24 (by decide) ?_
    refine AW_iadd dX1_put_25 ?_
    obtain ⟨m8, em8⟩ : ∃ z : Mem, z = mset m4 17 0 (upd (m4 17 0) 1 ((m4 17 0 1) + 1)) := ⟨_, rfl⟩
    have h9 := h6 m8 em8
    refine AW_putf (t := 17) (o := 0) (k := 1) dX1_put_26 fp_X1_15 rfl rfl rfl rfl em8.symm ?_
    exact AW_return dX1_put_29 rfl h9
set_option maxRecDepth 100000 in
theorem B_X1_putNumber_0 {a1 : Int32} {μ : Mem} {P : RES → Mem → Prop}  (h : (a1 < 10 → ∃ m4 : Mem, MetA M_X1_put [aR 17 0, aI (((48 + (a1 - a1 / 10 * 10)).toUInt32 % 65536).toInt32)] μ (rV m4) ∧ (P (.inl none) m4)) ∧ (¬ a1 < 10 → ∃ m7 : Mem, MetA M_X1_put [aR 17 0, aI (((48 + (a1 / 10)).toUInt32 % 65536).toInt32)] μ (rV m7) ∧ (∃ m10 : Mem, MetA M_X1_put [aR 17 0, aI (((48 + (a1 - a1 / 10 * 10)).toUInt32 % 65536).toInt32)] m7 (rV m10) ∧ (P (.inl none) m10)))) : AW M_X1_putNumber 0 0 [some (aR 17 0), some (aI a1)] [] μ P := by
  refine AW_iload_n dX1_putNumber_0 rfl ?_
  refine AW_bipush (v := 10) dX1_putNumber_1 (by decide) ?_
  refine AW_icmp_lt (tgt := 18) dX1_putNumber_3 (by decide) (fun q3 => ?_) (fun q3 => ?_)
  · have h1 := h.1 q3
    refine AW_aload_n dX1_putNumber_18 rfl ?_
    refine AW_bipush (v := 48) dX1_putNumber_19 (by decide) ?_
    refine AW_iload_n dX1_putNumber_21 rfl ?_
    refine AW_bipush (v := 10) dX1_putNumber_22 (by decide) ?_
    refine AW_irem dX1_putNumber_24 (by decide) ?_
    refine AW_iadd dX1_putNumber_25 ?_
    refine AW_i2c (v := ((48 + (a1 - a1 / 10 * 10)).toUInt32 % 65536).toInt32) dX1_putNumber_26 rfl ?_
    obtain ⟨m4, h6, h5⟩ := h1
    refine AW_callVV [aI (((48 + (a1 - a1 / 10 * 10)).toUInt32 % 65536).toInt32)] dX1_putNumber_27 cv_X1_19 rfl rfl rfl (by decide) rfl (by decide) (Nat.le_of_ble_eq_true rfl) h6 ?_
    exact AW_return dX1_putNumber_30 rfl h5
  · have h2 := h.2 q3
    refine AW_aload_n dX1_putNumber_6 rfl ?_
    refine AW_bipush (v := 48) dX1_putNumber_7 (by decide) ?_
    refine AW_iload_n dX1_putNumber_9 rfl ?_
    refine AW_bipush (v := 10) dX1_putNumber_10 (by decide) ?_
    refine AW_idiv dX1_putNumber_12 (by decide) ?_
    refine AW_iadd dX1_putNumber_13 ?_
    refine AW_i2c (v := ((48 + (a1 / 10)).toUInt32 % 65536).toInt32) dX1_putNumber_14 rfl ?_
    obtain ⟨m7, h9, h8⟩ := h2
    refine AW_callVV [aI (((48 + (a1 / 10)).toUInt32 % 65536).toInt32)] dX1_putNumber_15 cv_X1_19 rfl rfl rfl (by decide) rfl (by decide) (Nat.le_of_ble_eq_true rfl) h9 ?_
    refine AW_aload_n dX1_putNumber_18 rfl ?_
    refine AW_bipush (v := 48) dX1_putNumber_19 (by decide) ?_
    refine AW_iload_n dX1_putNumber_21 rfl ?_
    refine AW_bipush (v := 10) dX1_putNumber_22 (by decide) ?_
    refine AW_irem dX1_putNumber_24 (by decide) ?_
    refine AW_iadd dX1_putNumber_25 ?_
    refine AW_i2c (v := ((48 + (a1 - a1 / 10 * 10)).toUInt32 % 65536).toInt32) dX1_putNumber_26 rfl ?_
    obtain ⟨m10, h12, h11⟩ := h8
    refine AW_callVV [aI (((48 + (a1 - a1 / 10 * 10)).toUInt32 % 65536).toInt32)] dX1_putNumber_27 cv_X1_19 rfl rfl rfl (by decide) rfl (by decide) (Nat.le_of_ble_eq_true rfl) h12 ?_
    exact AW_return dX1_putNumber_30 rfl h11
set_option maxRecDepth 100000 in
theorem B_X2_findError_0  {μ : Mem} {P : RES → Mem → Prop}  (h : ∀ m1 : Mem, m1 = mset μ 15 0 (upd (μ 15 0) 2 0) → AW M_X2_findError 0 7 [some (aR 15 0), some (aI 0)] [] m1 P) : AW M_X2_findError 0 0 [some (aR 15 0), none] [] μ P := by
  refine AW_aload_n dX2_findError_0 rfl ?_
  refine AW_iconst (v := 0) dX2_findError_1 (by decide) ?_
  obtain ⟨m1, em1⟩ : ∃ z : Mem, z = mset μ 15 0 (upd (μ 15 0) 2 0) := ⟨_, rfl⟩
  have h2 := h m1 em1
  refine AW_putf (t := 15) (o := 0) (k := 2) dX2_findError_2 fp_X2_15 rfl rfl rfl rfl em1.symm ?_
  refine AW_iconst (v := 0) dX2_findError_5 (by decide) ?_
  refine AW_istore_n (loc' := [some (aR 15 0), some (aI 0)]) dX2_findError_6 (Nat.le_of_ble_eq_true rfl) rfl rfl ?_
  exact h2
set_option maxRecDepth 100000 in
theorem B_X2_findError_7 {a1 : Int32} {μ : Mem} {P : RES → Mem → Prop}  (h : (60 ≤ a1 → P (.inl (some (aI (μ 15 0 2)))) μ) ∧ (¬ 60 ≤ a1 → ∃ (r7 : Int32) (m4 : Mem), MetA M_X2_readNext [aR 15 0] μ (rI r7 m4) ∧ ((¬ r7 = 0 → ((m4 15 0 2) < (m4 15 0 1) → AW M_X2_findError 0 7 [some (aR 15 0), some (aI (a1 + 1))] [] m4 P) ∧ (¬ (m4 15 0 2) < (m4 15 0 1) → P (.inl (some (aI (-1)))) m4)) ∧ (r7 = 0 → P (.inl (some (aI (m4 15 0 2)))) m4)))) : AW M_X2_findError 0 7 [some (aR 15 0), some (aI a1)] [] μ P := by
  refine AW_iload_n dX2_findError_7 rfl ?_
  refine AW_bipush (v := 60) dX2_findError_8 (by decide) ?_
  refine AW_icmp_ge (tgt := 44) dX2_findError_10 (by decide) (fun q3 => ?_) (fun q3 => ?_)
  · have h1 := h.1 q3
    refine AW_aload_n dX2_findError_44 rfl ?_
    refine AW_getv (t := 15) (o := 0) (k := 2) none (v := aI (μ 15 0 2)) dX2_findError_45 ff_X2_15 rfl rfl rfl ?_
    exact AW_ireturn (ty := .int) dX2_findError_48 rfl rfl h1
  · have h2 := h.2 q3
    refine AW_aload_n dX2_findError_13 rfl ?_
    obtain ⟨r7, m4, h6, h5⟩ := h2
    refine AW_callVI [] dX2_findError_14 cv_X2_19 rfl rfl rfl (by decide) rfl (by decide) (Nat.le_of_ble_eq_true rfl) h6 ?_
    refine AW_if_ne (tgt := 25) dX2_findError_17 (by decide) (fun q10 => ?_) (fun q10 => ?_)
    · have h8 := h5.1 q10
      refine AW_aload_n dX2_findError_25 rfl ?_
      refine AW_getv (t := 15) (o := 0) (k := 2) none (v := aI (m4 15 0 2)) dX2_findError_26 ff_X2_15 rfl rfl rfl ?_
      refine AW_aload_n dX2_findError_29 rfl ?_
      refine AW_getv (t := 15) (o := 0) (k := 1) none (v := aI (m4 15 0 1)) dX2_findError_30 ff_X2_23 rfl rfl rfl ?_
      refine AW_icmp_lt (tgt := 38) dX2_findError_33 (by decide) (fun q13 => ?_) (fun q13 => ?_)
      · have h11 := h8.1 q13
        refine AW_iinc (v := a1 + 1) (loc' := [some (aR 15 0), some (aI (a1 + 1))]) dX2_findError_38 rfl rfl (Nat.le_of_ble_eq_true rfl) rfl rfl ?_
        refine AW_goto (tgt := 7) dX2_findError_41 (by decide) ?_
        exact h11
      · have h12 := h8.2 q13
        refine AW_iconst (v := (-1)) dX2_findError_36 (by decide) ?_
        exact AW_ireturn (ty := .int) dX2_findError_37 rfl rfl h12
    · have h9 := h5.2 q10
      refine AW_aload_n dX2_findError_20 rfl ?_
      refine AW_getv (t := 15) (o := 0) (k := 2) none (v := aI (m4 15 0 2)) dX2_findError_21 ff_X2_15 rfl rfl rfl ?_
      exact AW_ireturn (ty := .int) dX2_findError_24 rfl rfl h9
set_option maxRecDepth 100000 in
theorem B_X2_readNext_0  {μ : Mem} {P : RES → Mem → Prop}  (h : ((μ 15 0 2) ≤ 0 → ((μ 15 0 1) ≤ (μ 15 0 2) → P (.inl (some (aI 0))) μ) ∧ (¬ (μ 15 0 1) ≤ (μ 15 0 2) → ((μ 15 0 2) < 60 → vp_in (μ 15 0 2) 60 ∧ ((narrow .char (.int (μ 16 0 (μ 15 0 2).toNatClampNeg)) = .int (μ 16 0 (μ 15 0 2).toNatClampNeg) ∧ fits .char (.int (μ 16 0 (μ 15 0 2).toNatClampNeg)) = true) ∧ (∀ m12 : Mem, m12 = mset μ 15 0 (upd (μ 15 0) 3 (μ 16 0 (μ 15 0 2).toNatClampNeg)) → ∃ (r18 : Int32) (m15 : Mem), MetA M_X2_readOrder [aR 15 0] m12 (rI r18 m15) ∧ (narrow .boolean (.int r18) = .int r18 ∧ P (.inl (some (aI r18))) m15)))) ∧ (¬ (μ 15 0 2) < 60 → P (.inl (some (aI 0))) μ))) ∧ (¬ (μ 15 0 2) ≤ 0 → ∃ (r25 : Int32) (m22 : Mem), MetA M_X2_readSign [aR 15 0, aI 59] μ (rI r25 m22) ∧ ((¬ r25 = 0 → ((m22 15 0 1) ≤ (m22 15 0 2) → P (.inl (some (aI 0))) m22) ∧ (¬ (m22 15 0 1) ≤ (m22 15 0 2) → ((m22 15 0 2) < 60 → vp_in (m22 15 0 2) 60 ∧ ((narrow .char (.int (m22 16 0 (m22 15 0 2).toNatClampNeg)) = .int (m22 16 0 (m22 15 0 2).toNatClampNeg) ∧ fits .char (.int (m22 16 0 (m22 15 0 2).toNatClampNeg)) = true) ∧ (∀ m37 : Mem, m37 = mset m22 15 0 (upd (m22 15 0) 3 (m22 16 0 (m22 15 0 2).toNatClampNeg)) → ∃ (r43 : Int32) (m40 : Mem), MetA M_X2_readOrder [aR 15 0] m37 (rI r43 m40) ∧ (narrow .boolean (.int r43) = .int r43 ∧ P (.inl (some (aI r43))) m40)))) ∧ (¬ (m22 15 0 2) < 60 → P (.inl (some (aI 0))) m22))) ∧ (r25 = 0 → P (.inl (some (aI 0))) m22)))) : AW M_X2_readNext 0 0 [some (aR 15 0)] [] μ P := by
  refine AW_aload_n dX2_readNext_0 rfl ?_
  refine AW_getv (t := 15) (o := 0) (k := 2) none (v := aI (μ 15 0 2)) dX2_readNext_1 ff_X2_15 rfl rfl rfl ?_
  refine AW_if_le (tgt := 18) dX2_readNext_4 (by decide) (fun q3 => ?_) (fun q3 => ?_)
  · have h1 := h.1 q3
    refine AW_aload_n dX2_readNext_18 rfl ?_
    refine AW_getv (t := 15) (o := 0) (k := 2) none (v := aI (μ 15 0 2)) dX2_readNext_19 ff_X2_15 rfl rfl rfl ?_
    refine AW_aload_n dX2_readNext_22 rfl ?_
    refine AW_getv (t := 15) (o := 0) (k := 1) none (v := aI (μ 15 0 1)) dX2_readNext_23 ff_X2_23 rfl rfl rfl ?_
    refine AW_icmp_ge (tgt := 38) dX2_readNext_26 (by decide) (fun q6 => ?_) (fun q6 => ?_)
    · have h4 := h1.1 q6
      refine AW_iconst (v := 0) dX2_readNext_38 (by decide) ?_
      exact AW_ireturn (ty := .boolean) dX2_readNext_39 rfl rfl h4
    · have h5 := h1.2 q6
      refine AW_aload_n dX2_readNext_29 rfl ?_
      refine AW_getv (t := 15) (o := 0) (k := 2) none (v := aI (μ 15 0 2)) dX2_readNext_30 ff_X2_15 rfl rfl rfl ?_
      refine AW_bipush (v := 60) dX2_readNext_33 (by decide) ?_
      refine AW_icmp_lt (tgt := 40) dX2_readNext_35 (by decide) (fun q9 => ?_) (fun q9 => ?_)
      · have h7 := h5.1 q9
        refine AW_aload_n dX2_readNext_40 rfl ?_
        refine AW_aload_n dX2_readNext_41 rfl ?_
        refine AW_getv (t := 15) (o := 0) (k := 0) (some (16, none)) (v := aR 16 0) dX2_readNext_42 ff_X2_9 rfl rfl rfl ?_
        refine AW_aload_n dX2_readNext_45 rfl ?_
        refine AW_getv (t := 15) (o := 0) (k := 2) none (v := aI (μ 15 0 2)) dX2_readNext_46 ff_X2_15 rfl rfl rfl ?_
        obtain ⟨h10, h11⟩ := h7
        refine AW_caload dX2_readNext_49 rfl rfl h10 ?_
        obtain ⟨h14, h21⟩ := h11
        obtain ⟨m12, em12⟩ : ∃ z : Mem, z = mset μ 15 0 (upd (μ 15 0) 3 (μ 16 0 (μ 15 0 2).toNatClampNeg)) := ⟨_, rfl⟩
        have h13 := h21 m12 em12
        refine AW_putf (t := 15) (o := 0) (k := 3) dX2_readNext_50 fp_X2_30 rfl rfl h14.1 h14.2 em12.symm ?_
        refine AW_aload_n dX2_readNext_53 rfl ?_
        obtain ⟨r18, m15, h17, h16⟩ := h13
        refine AW_callVI [] dX2_readNext_54 cv_X2_34 rfl rfl rfl (by decide) rfl (by decide) (Nat.le_of_ble_eq_true rfl) h17 ?_
        obtain ⟨h19, h20⟩ := h16
        exact AW_ireturn (ty := .boolean) dX2_readNext_57 rfl h19 h20
      · have h8 := h5.2 q9
        refine AW_iconst (v := 0) dX2_readNext_38 (by decide) ?_
        exact AW_ireturn (ty := .boolean) dX2_readNext_39 rfl rfl h8
  · have h2 := h.2 q3
    refine AW_aload_n dX2_readNext_7 rfl ?_
    refine AW_bipush (v := 59) dX2_readNext_8 (by decide) ?_
    obtain ⟨r25, m22, h24, h23⟩ := h2
    refine AW_callVI [aI 59] dX2_readNext_10 cv_X2_26 rfl rfl rfl (by decide) rfl (by decide) (Nat.le_of_ble_eq_true rfl) h24 ?_
    refine AW_if_ne (tgt := 18) dX2_readNext_13 (by decide) (fun q28 => ?_) (fun q28 => ?_)
    · have h26 := h23.1 q28
      refine AW_aload_n dX2_readNext_18 rfl ?_
      refine AW_getv (t := 15) (o := 0) (k := 2) none (v := aI (m22 15 0 2)) dX2_readNext_19 ff_X2_15 rfl rfl rfl ?_
      refine AW_aload_n dX2_readNext_22 rfl ?_
      refine AW_getv (t := 15) (o := 0) (k := 1) none (v := aI (m22 15 0 1)) dX2_readNext_23 ff_X2_23 rfl rfl rfl ?_
      refine AW_icmp_ge (tgt := 38) dX2_readNext_26 (by decide) (fun q31 => ?_) (fun q31 => ?_)
      · have h29 := h26.1 q31
        refine AW_iconst (v := 0) dX2_readNext_38 (by decide) ?_
        exact AW_ireturn (ty := .boolean) dX2_readNext_39 rfl rfl h29
      · have h30 := h26.2 q31
        refine AW_aload_n dX2_readNext_29 rfl ?_
        refine AW_getv (t := 15) (o := 0) (k := 2) none (v := aI (m22 15 0 2)) dX2_readNext_30 ff_X2_15 rfl rfl rfl ?_
        refine AW_bipush (v := 60) dX2_readNext_33 (by decide) ?_
        refine AW_icmp_lt (tgt := 40) dX2_readNext_35 (by decide) (fun q34 => ?_) (fun q34 => ?_)
        · have h32 := h30.1 q34
          refine AW_aload_n dX2_readNext_40 rfl ?_
          refine AW_aload_n dX2_readNext_41 rfl ?_
          refine AW_getv (t := 15) (o := 0) (k := 0) (some (16, none)) (v := aR 16 0) dX2_readNext_42 ff_X2_9 rfl rfl rfl ?_
          refine AW_aload_n dX2_readNext_45 rfl ?_
          refine AW_getv (t := 15) (o := 0) (k := 2) none (v := aI (m22 15 0 2)) dX2_readNext_46 ff_X2_15 rfl rfl rfl ?_
          obtain ⟨h35, h36⟩ := h32
          refine AW_caload dX2_readNext_49 rfl rfl h35 ?_
          obtain ⟨h39, h46⟩ := h36
          obtain ⟨m37, em37⟩ : ∃ z : Mem, z = mset m22 15 0 (upd (m22 15 0) 3 (m22 16 0 (m22 15 0 2).toNatClampNeg)) := ⟨_, rfl⟩
          have h38 := h46 m37 em37
          refine AW_putf (t := 15) (o := 0) (k := 3) dX2_readNext_50 fp_X2_30 rfl rfl h39.1 h39.2 em37.symm ?_
          refine AW_aload_n dX2_readNext_53 rfl ?_
          obtain ⟨r43, m40, h42, h41⟩ := h38
          refine AW_callVI [] dX2_readNext_54 cv_X2_34 rfl rfl rfl (by decide) rfl (by decide) (Nat.le_of_ble_eq_true rfl) h42 ?_
          obtain ⟨h44, h45⟩ := h41
          exact AW_ireturn (ty := .boolean) dX2_readNext_57 rfl h44 h45
        · have h33 := h30.2 q34
          refine AW_iconst (v := 0) dX2_readNext_38 (by decide) ?_
          exact AW_ireturn (ty := .boolean) dX2_readNext_39 rfl rfl h33
    · have h27 := h23.2 q28
      refine AW_iconst (v := 0) dX2_readNext_16 (by decide) ?_
      exact AW_ireturn (ty := .boolean) dX2_readNext_17 rfl rfl h27
set_option maxRecDepth 100000 in
theorem B_X2_readOrder_0  {μ : Mem} {P : RES → Mem → Prop}  (h : ((μ 15 0 3).toInt = 99 ∨ (μ 15 0 3).toInt = 108 ∨ (μ 15 0 3).toInt = 114 → ∀ m3 : Mem, m3 = mset μ 15 0 (upd (μ 15 0) 2 ((μ 15 0 2) + 1)) → ∃ (r9 : Int32) (m6 : Mem), MetA M_X2_readFirst [aR 15 0] m3 (rI r9 m6) ∧ ((r9 = 0 → P (.inl (some (aI 0))) m6) ∧ (¬ r9 = 0 → ∃ (r16 : Int32) (m13 : Mem), MetA M_X2_readSecond [aR 15 0] m6 (rI r16 m13) ∧ ((r16 = 0 → P (.inl (some (aI 0))) m13) ∧ (¬ r16 = 0 → P (.inl (some (aI 1))) m13))))) ∧ ((μ 15 0 3).toInt = 100 ∨ (μ 15 0 3).toInt = 101 → ∀ m21 : Mem, m21 = mset μ 15 0 (upd (μ 15 0) 2 ((μ 15 0 2) + 1)) → P (.inl (some (aI 1))) m21) ∧ ((μ 15 0 3).toInt = 104 → ∀ m25 : Mem, m25 = mset μ 15 0 (upd (μ 15 0) 2 ((μ 15 0 2) + 1)) → ∃ (r31 : Int32) (m28 : Mem), MetA M_X2_readCoins [aR 15 0] m25 (rI r31 m28) ∧ (narrow .boolean (.int r31) = .int r31 ∧ P (.inl (some (aI r31))) m28)) ∧ ((μ 15 0 3).toInt = 109 → ∀ m35 : Mem, m35 = mset μ 15 0 (upd (μ 15 0) 2 ((μ 15 0 2) + 1)) → ∃ (r41 : Int32) (m38 : Mem), MetA M_X2_readFirst [aR 15 0] m35 (rI r41 m38) ∧ ((r41 = 0 → P (.inl (some (aI 0))) m38) ∧ (¬ r41 = 0 → ∃ (r48 : Int32) (m45 : Mem), MetA M_X2_readSecond [aR 15 0] m38 (rI r48 m45) ∧ ((r48 = 0 → P (.inl (some (aI 0))) m45) ∧ (¬ r48 = 0 → ∃ (r55 : Int32) (m52 : Mem), MetA M_X2_readLetter [aR 15 0] m45 (rI r55 m52) ∧ ((r55 = 0 → P (.inl (some (aI 0))) m52) ∧ (¬ r55 = 0 → P (.inl (some (aI 1))) m52))))))) ∧ ((μ 15 0 3).toInt = 115 → ∀ m60 : Mem, m60 = mset μ 15 0 (upd (μ 15 0) 2 ((μ 15 0 2) + 1)) → ∃ (r66 : Int32) (m63 : Mem), MetA M_X2_readFirst [aR 15 0] m60 (rI r66 m63) ∧ ((r66 = 0 → P (.inl (some (aI 0))) m63) ∧ (¬ r66 = 0 → ∃ (r73 : Int32) (m70 : Mem), MetA M_X2_readSign [aR 15 0, aI 61] m63 (rI r73 m70) ∧ ((r73 = 0 → P (.inl (some (aI 0))) m70) ∧ (¬ r73 = 0 → ∃ (r80 : Int32) (m77 : Mem), MetA M_X2_readWord [aR 15 0] m70 (rI r80 m77) ∧ ((r80 = 0 → P (.inl (some (aI 0))) m77) ∧ (¬ r80 = 0 → P (.inl (some (aI 1))) m77))))))) ∧ ((μ 15 0 3).toInt = 120 → ∀ m85 : Mem, m85 = mset μ 15 0 (upd (μ 15 0) 2 ((μ 15 0 2) + 1)) → ∃ (r91 : Int32) (m88 : Mem), MetA M_X2_readFirst [aR 15 0] m85 (rI r91 m88) ∧ (narrow .boolean (.int r91) = .int r91 ∧ P (.inl (some (aI r91))) m88)) ∧ (¬ (μ 15 0 3).toInt = 99 → ¬ (μ 15 0 3).toInt = 100 → ¬ (μ 15 0 3).toInt = 101 → ¬ (μ 15 0 3).toInt = 104 → ¬ (μ 15 0 3).toInt = 108 → ¬ (μ 15 0 3).toInt = 109 → ¬ (μ 15 0 3).toInt = 114 → ¬ (μ 15 0 3).toInt = 115 → ¬ (μ 15 0 3).toInt = 120 → P (.inl (some (aI 0))) μ)) : AW M_X2_readOrder 0 0 [some (aR 15 0)] [] μ P := by
  refine AW_aload_n dX2_readOrder_0 rfl ?_
  refine AW_getv (t := 15) (o := 0) (k := 3) none (v := aI (μ 15 0 3)) dX2_readOrder_1 ff_X2_30 rfl rfl rfl ?_
  obtain ⟨g95, g96, g97, g98, g99, g100, g101⟩ := h
  have hdf : (¬ (μ 15 0 3).toInt = 99 → ¬ (μ 15 0 3).toInt = 100 → ¬ (μ 15 0 3).toInt = 101 → ¬ (μ 15 0 3).toInt = 104 → ¬ (μ 15 0 3).toInt = 108 → ¬ (μ 15 0 3).toInt = 109 → ¬ (μ 15 0 3).toInt = 114 → ¬ (μ 15 0 3).toInt = 115 → ¬ (μ 15 0 3).toInt = 120 → AW M_X2_readOrder 0 256 [some (aR 15 0)] [] μ P) := by
    intro z0 z1 z2 z3 z4 z5 z6 z7 z8
    have h94 := g101 z0 z1 z2 z3 z4 z5 z6 z7 z8
    refine AW_iconst (v := 0) dX2_readOrder_256 (by decide) ?_
    exact AW_ireturn (ty := .boolean) dX2_readOrder_257 rfl rfl h94
  have ho195 : ((μ 15 0 3).toInt = 99 ∨ (μ 15 0 3).toInt = 108 ∨ (μ 15 0 3).toInt = 114 → AW M_X2_readOrder 0 199 [some (aR 15 0)] [] μ P) := by
    intro z
    have h2 := g95 z
    refine AW_aload_n dX2_readOrder_199 rfl ?_
    refine AW_dup dX2_readOrder_200 rfl ?_
    refine AW_getv (t := 15) (o := 0) (k := 2) none (v := aI (μ 15 0 2)) dX2_readOrder_201 ff_X2_15 rfl rfl rfl ?_
    refine AW_iconst (v := 1) dX2_readOrder_204 (by decide) ?_
    refine AW_iadd dX2_readOrder_205 ?_
    obtain ⟨m3, em3⟩ : ∃ z : Mem, z = mset μ 15 0 (upd (μ 15 0) 2 ((μ 15 0 2) + 1)) := ⟨_, rfl⟩
    have h4 := h2 m3 em3
    refine AW_putf (t := 15) (o := 0) (k := 2) dX2_readOrder_206 fp_X2_15 rfl rfl rfl rfl em3.symm ?_
    refine AW_aload_n dX2_readOrder_209 rfl ?_
    obtain ⟨r9, m6, h8, h7⟩ := h4
    refine AW_callVI [] dX2_readOrder_210 cv_X2_40 rfl rfl rfl (by decide) rfl (by decide) (Nat.le_of_ble_eq_true rfl) h8 ?_
    refine AW_if_eq (tgt := 227) dX2_readOrder_213 (by decide) (fun q12 => ?_) (fun q12 => ?_)
    · have h10 := h7.1 q12
      refine AW_iconst (v := 0) dX2_readOrder_227 (by decide) ?_
      exact AW_ireturn (ty := .boolean) dX2_readOrder_228 rfl rfl h10
    · have h11 := h7.2 q12
      refine AW_aload_n dX2_readOrder_216 rfl ?_
      obtain ⟨r16, m13, h15, h14⟩ := h11
      refine AW_callVI [] dX2_readOrder_217 cv_X2_46 rfl rfl rfl (by decide) rfl (by decide) (Nat.le_of_ble_eq_true rfl) h15 ?_
      refine AW_if_eq (tgt := 227) dX2_readOrder_220 (by decide) (fun q19 => ?_) (fun q19 => ?_)
      · have h17 := h14.1 q19
        refine AW_iconst (v := 0) dX2_readOrder_227 (by decide) ?_
        exact AW_ireturn (ty := .boolean) dX2_readOrder_228 rfl rfl h17
      · have h18 := h14.2 q19
        refine AW_iconst (v := 1) dX2_readOrder_223 (by decide) ?_
        refine AW_goto (tgt := 228) dX2_readOrder_224 (by decide) ?_
        exact AW_ireturn (ty := .boolean) dX2_readOrder_228 rfl rfl h18
  have ho240 : ((μ 15 0 3).toInt = 100 ∨ (μ 15 0 3).toInt = 101 → AW M_X2_readOrder 0 244 [some (aR 15 0)] [] μ P) := by
    intro z
    have h20 := g96 z
    refine AW_aload_n dX2_readOrder_244 rfl ?_
    refine AW_dup dX2_readOrder_245 rfl ?_
    refine AW_getv (t := 15) (o := 0) (k := 2) none (v := aI (μ 15 0 2)) dX2_readOrder_246 ff_X2_15 rfl rfl rfl ?_
    refine AW_iconst (v := 1) dX2_readOrder_249 (by decide) ?_
    refine AW_iadd dX2_readOrder_250 ?_
    obtain ⟨m21, em21⟩ : ∃ z : Mem, z = mset μ 15 0 (upd (μ 15 0) 2 ((μ 15 0 2) + 1)) := ⟨_, rfl⟩
    have h22 := h20 m21 em21
    refine AW_putf (t := 15) (o := 0) (k := 2) dX2_readOrder_251 fp_X2_15 rfl rfl rfl rfl em21.symm ?_
    refine AW_iconst (v := 1) dX2_readOrder_254 (by decide) ?_
    exact AW_ireturn (ty := .boolean) dX2_readOrder_255 rfl rfl h22
  have ho104 : ((μ 15 0 3).toInt = 104 → AW M_X2_readOrder 0 108 [some (aR 15 0)] [] μ P) := by
    intro z
    have h24 := g97 z
    refine AW_aload_n dX2_readOrder_108 rfl ?_
    refine AW_dup dX2_readOrder_109 rfl ?_
    refine AW_getv (t := 15) (o := 0) (k := 2) none (v := aI (μ 15 0 2)) dX2_readOrder_110 ff_X2_15 rfl rfl rfl ?_
    refine AW_iconst (v := 1) dX2_readOrder_113 (by decide) ?_
    refine AW_iadd dX2_readOrder_114 ?_
    obtain ⟨m25, em25⟩ : ∃ z : Mem, z = mset μ 15 0 (upd (μ 15 0) 2 ((μ 15 0 2) + 1)) := ⟨_, rfl⟩
    have h26 := h24 m25 em25
    refine AW_putf (t := 15) (o := 0) (k := 2) dX2_readOrder_115 fp_X2_15 rfl rfl rfl rfl em25.symm ?_
    refine AW_aload_n dX2_readOrder_118 rfl ?_
    obtain ⟨r31, m28, h30, h29⟩ := h26
    refine AW_callVI [] dX2_readOrder_119 cv_X2_37 rfl rfl rfl (by decide) rfl (by decide) (Nat.le_of_ble_eq_true rfl) h30 ?_
    obtain ⟨h32, h33⟩ := h29
    exact AW_ireturn (ty := .boolean) dX2_readOrder_122 rfl h32 h33
  have ho158 : ((μ 15 0 3).toInt = 109 → AW M_X2_readOrder 0 162 [some (aR 15 0)] [] μ P) := by
    intro z
    have h34 := g98 z
    refine AW_aload_n dX2_readOrder_162 rfl ?_
    refine AW_dup dX2_readOrder_163 rfl ?_
    refine AW_getv (t := 15) (o := 0) (k := 2) none (v := aI (μ 15 0 2)) dX2_readOrder_164 ff_X2_15 rfl rfl rfl ?_
    refine AW_iconst (v := 1) dX2_readOrder_167 (by decide) ?_
    refine AW_iadd dX2_readOrder_168 ?_
    obtain ⟨m35, em35⟩ : ∃ z : Mem, z = mset μ 15 0 (upd (μ 15 0) 2 ((μ 15 0 2) + 1)) := ⟨_, rfl⟩
    have h36 := h34 m35 em35
    refine AW_putf (t := 15) (o := 0) (k := 2) dX2_readOrder_169 fp_X2_15 rfl rfl rfl rfl em35.symm ?_
    refine AW_aload_n dX2_readOrder_172 rfl ?_
    obtain ⟨r41, m38, h40, h39⟩ := h36
    refine AW_callVI [] dX2_readOrder_173 cv_X2_40 rfl rfl rfl (by decide) rfl (by decide) (Nat.le_of_ble_eq_true rfl) h40 ?_
    refine AW_if_eq (tgt := 197) dX2_readOrder_176 (by decide) (fun q44 => ?_) (fun q44 => ?_)
    · have h42 := h39.1 q44
      refine AW_iconst (v := 0) dX2_readOrder_197 (by decide) ?_
      exact AW_ireturn (ty := .boolean) dX2_readOrder_198 rfl rfl h42
    · have h43 := h39.2 q44
      refine AW_aload_n dX2_readOrder_179 rfl ?_
      obtain ⟨r48, m45, h47, h46⟩ := h43
      refine AW_callVI [] dX2_readOrder_180 cv_X2_46 rfl rfl rfl (by decide) rfl (by decide) (Nat.le_of_ble_eq_true rfl) h47 ?_
      refine AW_if_eq (tgt := 197) dX2_readOrder_183 (by decide) (fun q51 => ?_) (fun q51 => ?_)
      · have h49 := h46.1 q51
        refine AW_iconst (v := 0) dX2_readOrder_197 (by decide) ?_
        exact AW_ireturn (ty := .boolean) dX2_readOrder_198 rfl rfl h49
      · have h50 := h46.2 q51
        refine AW_aload_n dX2_readOrder_186 rfl ?_
        obtain ⟨r55, m52, h54, h53⟩ := h50
        refine AW_callVI [] dX2_readOrder_187 cv_X2_49 rfl rfl rfl (by decide) rfl (by decide) (Nat.le_of_ble_eq_true rfl) h54 ?_
        refine AW_if_eq (tgt := 197) dX2_readOrder_190 (by decide) (fun q58 => ?_) (fun q58 => ?_)
        · have h56 := h53.1 q58
          refine AW_iconst (v := 0) dX2_readOrder_197 (by decide) ?_
          exact AW_ireturn (ty := .boolean) dX2_readOrder_198 rfl rfl h56
        · have h57 := h53.2 q58
          refine AW_iconst (v := 1) dX2_readOrder_193 (by decide) ?_
          refine AW_goto (tgt := 198) dX2_readOrder_194 (by decide) ?_
          exact AW_ireturn (ty := .boolean) dX2_readOrder_198 rfl rfl h57
  have ho119 : ((μ 15 0 3).toInt = 115 → AW M_X2_readOrder 0 123 [some (aR 15 0)] [] μ P) := by
    intro z
    have h59 := g99 z
    refine AW_aload_n dX2_readOrder_123 rfl ?_
    refine AW_dup dX2_readOrder_124 rfl ?_
    refine AW_getv (t := 15) (o := 0) (k := 2) none (v := aI (μ 15 0 2)) dX2_readOrder_125 ff_X2_15 rfl rfl rfl ?_
    refine AW_iconst (v := 1) dX2_readOrder_128 (by decide) ?_
    refine AW_iadd dX2_readOrder_129 ?_
    obtain ⟨m60, em60⟩ : ∃ z : Mem, z = mset μ 15 0 (upd (μ 15 0) 2 ((μ 15 0 2) + 1)) := ⟨_, rfl⟩
    have h61 := h59 m60 em60
    refine AW_putf (t := 15) (o := 0) (k := 2) dX2_readOrder_130 fp_X2_15 rfl rfl rfl rfl em60.symm ?_
    refine AW_aload_n dX2_readOrder_133 rfl ?_
    obtain ⟨r66, m63, h65, h64⟩ := h61
    refine AW_callVI [] dX2_readOrder_134 cv_X2_40 rfl rfl rfl (by decide) rfl (by decide) (Nat.le_of_ble_eq_true rfl) h65 ?_
    refine AW_if_eq (tgt := 160) dX2_readOrder_137 (by decide) (fun q69 => ?_) (fun q69 => ?_)
    · have h67 := h64.1 q69
      refine AW_iconst (v := 0) dX2_readOrder_160 (by decide) ?_
      exact AW_ireturn (ty := .boolean) dX2_readOrder_161 rfl rfl h67
    · have h68 := h64.2 q69
      refine AW_aload_n dX2_readOrder_140 rfl ?_
      refine AW_bipush (v := 61) dX2_readOrder_141 (by decide) ?_
      obtain ⟨r73, m70, h72, h71⟩ := h68
      refine AW_callVI [aI 61] dX2_readOrder_143 cv_X2_26 rfl rfl rfl (by decide) rfl (by decide) (Nat.le_of_ble_eq_true rfl) h72 ?_
      refine AW_if_eq (tgt := 160) dX2_readOrder_146 (by decide) (fun q76 => ?_) (fun q76 => ?_)
      · have h74 := h71.1 q76
        refine AW_iconst (v := 0) dX2_readOrder_160 (by decide) ?_
        exact AW_ireturn (ty := .boolean) dX2_readOrder_161 rfl rfl h74
      · have h75 := h71.2 q76
        refine AW_aload_n dX2_readOrder_149 rfl ?_
        obtain ⟨r80, m77, h79, h78⟩ := h75
        refine AW_callVI [] dX2_readOrder_150 cv_X2_43 rfl rfl rfl (by decide) rfl (by decide) (Nat.le_of_ble_eq_true rfl) h79 ?_
        refine AW_if_eq (tgt := 160) dX2_readOrder_153 (by decide) (fun q83 => ?_) (fun q83 => ?_)
        · have h81 := h78.1 q83
          refine AW_iconst (v := 0) dX2_readOrder_160 (by decide) ?_
          exact AW_ireturn (ty := .boolean) dX2_readOrder_161 rfl rfl h81
        · have h82 := h78.2 q83
          refine AW_iconst (v := 1) dX2_readOrder_156 (by decide) ?_
          refine AW_goto (tgt := 161) dX2_readOrder_157 (by decide) ?_
          exact AW_ireturn (ty := .boolean) dX2_readOrder_161 rfl rfl h82
  have ho225 : ((μ 15 0 3).toInt = 120 → AW M_X2_readOrder 0 229 [some (aR 15 0)] [] μ P) := by
    intro z
    have h84 := g100 z
    refine AW_aload_n dX2_readOrder_229 rfl ?_
    refine AW_dup dX2_readOrder_230 rfl ?_
    refine AW_getv (t := 15) (o := 0) (k := 2) none (v := aI (μ 15 0 2)) dX2_readOrder_231 ff_X2_15 rfl rfl rfl ?_
    refine AW_iconst (v := 1) dX2_readOrder_234 (by decide) ?_
    refine AW_iadd dX2_readOrder_235 ?_
    obtain ⟨m85, em85⟩ : ∃ z : Mem, z = mset μ 15 0 (upd (μ 15 0) 2 ((μ 15 0 2) + 1)) := ⟨_, rfl⟩
    have h86 := h84 m85 em85
    refine AW_putf (t := 15) (o := 0) (k := 2) dX2_readOrder_236 fp_X2_15 rfl rfl rfl rfl em85.symm ?_
    refine AW_aload_n dX2_readOrder_239 rfl ?_
    obtain ⟨r91, m88, h90, h89⟩ := h86
    refine AW_callVI [] dX2_readOrder_240 cv_X2_40 rfl rfl rfl (by decide) rfl (by decide) (Nat.le_of_ble_eq_true rfl) h90 ?_
    obtain ⟨h92, h93⟩ := h89
    exact AW_ireturn (ty := .boolean) dX2_readOrder_243 rfl h92 h93
  exact AW_tsw dX2_readOrder_4 (by decide) (fun q102 => ⟨256, by decide, hdf (by omega) (by omega) (by omega) (by omega) (by omega) (by omega) (by omega) (by omega) (by omega)⟩) ⟨fun q102 => ⟨199, by decide, ho195 (by omega)⟩, fun q102 => ⟨244, by decide, ho240 (by omega)⟩, fun q102 => ⟨244, by decide, ho240 (by omega)⟩, fun q102 => ⟨256, by decide, hdf (by omega) (by omega) (by omega) (by omega) (by omega) (by omega) (by omega) (by omega) (by omega)⟩, fun q102 => ⟨256, by decide, hdf (by omega) (by omega) (by omega) (by omega) (by omega) (by omega) (by omega) (by omega) (by omega)⟩, fun q102 => ⟨108, by decide, ho104 (by omega)⟩, fun q102 => ⟨256, by decide, hdf (by omega) (by omega) (by omega) (by omega) (by omega) (by omega) (by omega) (by omega) (by omega)⟩, fun q102 => ⟨256, by decide, hdf (by omega) (by omega) (by omega) (by omega) (by omega) (by omega) (by omega) (by omega) (by omega)⟩, fun q102 => ⟨256, by decide, hdf (by omega) (by omega) (by omega) (by omega) (by omega) (by omega) (by omega) (by omega) (by omega)⟩, fun q102 => ⟨199, by decide, ho195 (by omega)⟩, fun q102 => ⟨162, by decide, ho158 (by omega)⟩, fun q102 => ⟨256, by decide, hdf (by omega) (by omega) (by omega) (by omega) (by omega) (by omega) (by omega) (by omega) (by omega)⟩, fun q102 => ⟨256, by decide, hdf (by omega) (by omega) (by omega) (by omega) (by omega) (by omega) (by omega) (by omega) (by omega)⟩, fun q102 => ⟨256, by decide, hdf (by omega) (by omega) (by omega) (by omega) (by omega) (by omega) (by omega) (by omega) (by omega)⟩, fun q102 => ⟨256, by decide, hdf (by omega) (by omega) (by omega) (by omega) (by omega) (by omega) (by omega) (by omega) (by omega)⟩, fun q102 => ⟨199, by decide, ho195 (by omega)⟩, fun q102 => ⟨123, by decide, ho119 (by omega)⟩, fun q102 => ⟨256, by decide, hdf (by omega) (by omega) (by omega) (by omega) (by omega) (by omega) (by omega) (by omega) (by omega)⟩, fun q102 => ⟨256, by decide, hdf (by omega) (by omega) (by omega) (by omega) (by omega) (by omega) (by omega) (by omega) (by omega)⟩, fun q102 => ⟨256, by decide, hdf (by omega) (by omega) (by omega) (by omega) (by omega) (by omega) (by omega) (by omega) (by omega)⟩, fun q102 => ⟨256, by decide, hdf (by omega) (by omega) (by omega) (by omega) (by omega) (by omega) (by omega) (by omega) (by omega)⟩, fun q102 => ⟨229, by decide, ho225 (by omega)⟩, trivial⟩
set_option maxRecDepth 100000 in
theorem B_X2_isAhead_0 {a1 : Int32} {a2 : Int32} {μ : Mem} {P : RES → Mem → Prop}  (h : ((μ 15 0 1) ≤ (μ 15 0 2) → P (.inl (some (aI 0))) μ) ∧ (¬ (μ 15 0 1) ≤ (μ 15 0 2) → (60 ≤ (μ 15 0 2) → P (.inl (some (aI 0))) μ) ∧ (¬ 60 ≤ (μ 15 0 2) → vp_in (μ 15 0 2) 60 ∧ (((μ 16 0 (μ 15 0 2).toNatClampNeg) < a1 → P (.inl (some (aI 0))) μ) ∧ (¬ (μ 16 0 (μ 15 0 2).toNatClampNeg) < a1 → vp_in (μ 15 0 2) 60 ∧ ((a2 < (μ 16 0 (μ 15 0 2).toNatClampNeg) → P (.inl (some (aI 0))) μ) ∧ (¬ a2 < (μ 16 0 (μ 15 0 2).toNatClampNeg) → P (.inl (some (aI 1))) μ))))))) : AW M_X2_isAhead 0 0 [some (aR 15 0), some (aI a1), some (aI a2)] [] μ P := by
  refine AW_aload_n dX2_isAhead_0 rfl ?_
  refine AW_getv (t := 15) (o := 0) (k := 2) none (v := aI (μ 15 0 2)) dX2_isAhead_1 ff_X2_15 rfl rfl rfl ?_
  refine AW_aload_n dX2_isAhead_4 rfl ?_
  refine AW_getv (t := 15) (o := 0) (k := 1) none (v := aI (μ 15 0 1)) dX2_isAhead_5 ff_X2_23 rfl rfl rfl ?_
  refine AW_icmp_ge (tgt := 50) dX2_isAhead_8 (by decide) (fun q3 => ?_) (fun q3 => ?_)
  · have h1 := h.1 q3
    refine AW_iconst (v := 0) dX2_isAhead_50 (by decide) ?_
    exact AW_ireturn (ty := .boolean) dX2_isAhead_51 rfl rfl h1
  · have h2 := h.2 q3
    refine AW_aload_n dX2_isAhead_11 rfl ?_
    refine AW_getv (t := 15) (o := 0) (k := 2) none (v := aI (μ 15 0 2)) dX2_isAhead_12 ff_X2_15 rfl rfl rfl ?_
    refine AW_bipush (v := 60) dX2_isAhead_15 (by decide) ?_
    refine AW_icmp_ge (tgt := 50) dX2_isAhead_17 (by decide) (fun q6 => ?_) (fun q6 => ?_)
    · have h4 := h2.1 q6
      refine AW_iconst (v := 0) dX2_isAhead_50 (by decide) ?_
      exact AW_ireturn (ty := .boolean) dX2_isAhead_51 rfl rfl h4
    · have h5 := h2.2 q6
      refine AW_aload_n dX2_isAhead_20 rfl ?_
      refine AW_getv (t := 15) (o := 0) (k := 0) (some (16, none)) (v := aR 16 0) dX2_isAhead_21 ff_X2_9 rfl rfl rfl ?_
      refine AW_aload_n dX2_isAhead_24 rfl ?_
      refine AW_getv (t := 15) (o := 0) (k := 2) none (v := aI (μ 15 0 2)) dX2_isAhead_25 ff_X2_15 rfl rfl rfl ?_
      obtain ⟨h7, h8⟩ := h5
      refine AW_caload dX2_isAhead_28 rfl rfl h7 ?_
      refine AW_iload_n dX2_isAhead_29 rfl ?_
      refine AW_icmp_lt (tgt := 50) dX2_isAhead_30 (by decide) (fun q11 => ?_) (fun q11 => ?_)
      · have h9 := h8.1 q11
        refine AW_iconst (v := 0) dX2_isAhead_50 (by decide) ?_
        exact AW_ireturn (ty := .boolean) dX2_isAhead_51 rfl rfl h9
      · have h10 := h8.2 q11
        refine AW_aload_n dX2_isAhead_33 rfl ?_
        refine AW_getv (t := 15) (o := 0) (k := 0) (some (16, none)) (v := aR 16 0) dX2_isAhead_34 ff_X2_9 rfl rfl rfl ?_
        refine AW_aload_n dX2_isAhead_37 rfl ?_
        refine AW_getv (t := 15) (o := 0) (k := 2) none (v := aI (μ 15 0 2)) dX2_isAhead_38 ff_X2_15 rfl rfl rfl ?_
        obtain ⟨h12, h13⟩ := h10
        refine AW_caload dX2_isAhead_41 rfl rfl h12 ?_
        refine AW_iload_n dX2_isAhead_42 rfl ?_
        refine AW_icmp_gt (tgt := 50) dX2_isAhead_43 (by decide) (fun q16 => ?_) (fun q16 => ?_)
        · have h14 := h13.1 q16
          refine AW_iconst (v := 0) dX2_isAhead_50 (by decide) ?_
          exact AW_ireturn (ty := .boolean) dX2_isAhead_51 rfl rfl h14
        · have h15 := h13.2 q16
          refine AW_iconst (v := 1) dX2_isAhead_46 (by decide) ?_
          refine AW_goto (tgt := 51) dX2_isAhead_47 (by decide) ?_
          exact AW_ireturn (ty := .boolean) dX2_isAhead_51 rfl rfl h15
set_option maxRecDepth 100000 in
theorem B_X2_readSign_0 {a1 : Int32} {μ : Mem} {P : RES → Mem → Prop}  (h : ∃ (r4 : Int32) (m1 : Mem), MetA M_X2_isAhead [aR 15 0, aI a1, aI a1] μ (rI r4 m1) ∧ ((¬ r4 = 0 → ∀ m8 : Mem, m8 = mset m1 15 0 (upd (m1 15 0) 2 ((m1 15 0 2) + 1)) → P (.inl (some (aI 1))) m8) ∧ (r4 = 0 → P (.inl (some (aI 0))) m1))) : AW M_X2_readSign 0 0 [some (aR 15 0), some (aI a1)] [] μ P := by
  refine AW_aload_n dX2_readSign_0 rfl ?_
  refine AW_iload_n dX2_readSign_1 rfl ?_
  refine AW_iload_n dX2_readSign_2 rfl ?_
  obtain ⟨r4, m1, h3, h2⟩ := h
  refine AW_callVI [aI a1, aI a1] dX2_readSign_3 cv_X2_52 rfl rfl rfl (by decide) rfl (by decide) (Nat.le_of_ble_eq_true rfl) h3 ?_
  refine AW_if_ne (tgt := 11) dX2_readSign_6 (by decide) (fun q7 => ?_) (fun q7 => ?_)
  · have h5 := h2.1 q7
    refine AW_aload_n dX2_readSign_11 rfl ?_
    refine AW_dup dX2_readSign_12 rfl ?_
    refine AW_getv (t := 15) (o := 0) (k := 2) none (v := aI (m1 15 0 2)) dX2_readSign_13 ff_X2_15 rfl rfl rfl ?_
    refine AW_iconst (v := 1) dX2_readSign_16 (by decide) ?_
    refine AW_iadd dX2_readSign_17 ?_
    obtain ⟨m8, em8⟩ : ∃ z : Mem, z = mset m1 15 0 (upd (m1 15 0) 2 ((m1 15 0 2) + 1)) := ⟨_, rfl⟩
    have h9 := h5 m8 em8
    refine AW_putf (t := 15) (o := 0) (k := 2) dX2_readSign_18 fp_X2_15 rfl rfl rfl rfl em8.symm ?_
    refine AW_iconst (v := 1) dX2_readSign_21 (by decide) ?_
    exact AW_ireturn (ty := .boolean) dX2_readSign_22 rfl rfl h9
  · have h6 := h2.2 q7
    refine AW_iconst (v := 0) dX2_readSign_9 (by decide) ?_
    exact AW_ireturn (ty := .boolean) dX2_readSign_10 rfl rfl h6
set_option maxRecDepth 100000 in
theorem B_X2_readFirst_0  {μ : Mem} {P : RES → Mem → Prop}  (h : ∃ (r4 : Int32) (m1 : Mem), MetA M_X2_readDigit [aR 15 0] μ (rI r4 m1) ∧ (∀ m5 : Mem, m5 = mset m1 15 0 (upd (m1 15 0) 4 r4) → ((m5 15 0 4) = (-1) → P (.inl (some (aI 0))) m5) ∧ (¬ (m5 15 0 4) = (-1) → P (.inl (some (aI 1))) m5))) : AW M_X2_readFirst 0 0 [some (aR 15 0)] [] μ P := by
  refine AW_aload_n dX2_readFirst_0 rfl ?_
  refine AW_aload_n dX2_readFirst_1 rfl ?_
  obtain ⟨r4, m1, h3, h2⟩ := h
  refine AW_callVI [] dX2_readFirst_2 cv_X2_56 rfl rfl rfl (by decide) rfl (by decide) (Nat.le_of_ble_eq_true rfl) h3 ?_
  obtain ⟨m5, em5⟩ : ∃ z : Mem, z = mset m1 15 0 (upd (m1 15 0) 4 r4) := ⟨_, rfl⟩
  have h6 := h2 m5 em5
  refine AW_putf (t := 15) (o := 0) (k := 4) dX2_readFirst_5 fp_X2_60 rfl rfl rfl rfl em5.symm ?_
  refine AW_aload_n dX2_readFirst_8 rfl ?_
  refine AW_getv (t := 15) (o := 0) (k := 4) none (v := aI (m5 15 0 4)) dX2_readFirst_9 ff_X2_60 rfl rfl rfl ?_
  refine AW_iconst (v := (-1)) dX2_readFirst_12 (by decide) ?_
  refine AW_icmp_eq (tgt := 20) dX2_readFirst_13 (by decide) (fun q10 => ?_) (fun q10 => ?_)
  · have h8 := h6.1 q10
    refine AW_iconst (v := 0) dX2_readFirst_20 (by decide) ?_
    exact AW_ireturn (ty := .boolean) dX2_readFirst_21 rfl rfl h8
  · have h9 := h6.2 q10
    refine AW_iconst (v := 1) dX2_readFirst_16 (by decide) ?_
    refine AW_goto (tgt := 21) dX2_readFirst_17 (by decide) ?_
    exact AW_ireturn (ty := .boolean) dX2_readFirst_21 rfl rfl h9
set_option maxRecDepth 100000 in
theorem B_X2_readSecond_0  {μ : Mem} {P : RES → Mem → Prop}  (h : ∃ (r4 : Int32) (m1 : Mem), MetA M_X2_readDigit [aR 15 0] μ (rI r4 m1) ∧ (∀ m5 : Mem, m5 = mset m1 15 0 (upd (m1 15 0) 5 r4) → ((m5 15 0 5) = (-1) → P (.inl (some (aI 0))) m5) ∧ (¬ (m5 15 0 5) = (-1) → P (.inl (some (aI 1))) m5))) : AW M_X2_readSecond 0 0 [some (aR 15 0)] [] μ P := by
  refine AW_aload_n dX2_readSecond_0 rfl ?_
  refine AW_aload_n dX2_readSecond_1 rfl ?_
  obtain ⟨r4, m1, h3, h2⟩ := h
  refine AW_callVI [] dX2_readSecond_2 cv_X2_56 rfl rfl rfl (by decide) rfl (by decide) (Nat.le_of_ble_eq_true rfl) h3 ?_
  obtain ⟨m5, em5⟩ : ∃ z : Mem, z = mset m1 15 0 (upd (m1 15 0) 5 r4) := ⟨_, rfl⟩
  have h6 := h2 m5 em5
  refine AW_putf (t := 15) (o := 0) (k := 5) dX2_readSecond_5 fp_X2_63 rfl rfl rfl rfl em5.symm ?_
  refine AW_aload_n dX2_readSecond_8 rfl ?_
  refine AW_getv (t := 15) (o := 0) (k := 5) none (v := aI (m5 15 0 5)) dX2_readSecond_9 ff_X2_63 rfl rfl rfl ?_
  refine AW_iconst (v := (-1)) dX2_readSecond_12 (by decide) ?_
  refine AW_icmp_eq (tgt := 20) dX2_readSecond_13 (by decide) (fun q10 => ?_) (fun q10 => ?_)
  · have h8 := h6.1 q10
    refine AW_iconst (v := 0) dX2_readSecond_20 (by decide) ?_
    exact AW_ireturn (ty := .boolean) dX2_readSecond_21 rfl rfl h8
  · have h9 := h6.2 q10
    refine AW_iconst (v := 1) dX2_readSecond_16 (by decide) ?_
    refine AW_goto (tgt := 21) dX2_readSecond_17 (by decide) ?_
    exact AW_ireturn (ty := .boolean) dX2_readSecond_21 rfl rfl h9
set_option maxRecDepth 100000 in
theorem B_X2_readDigit_0  {μ : Mem} {P : RES → Mem → Prop}  (h : ∃ (r4 : Int32) (m1 : Mem), MetA M_X2_isAhead [aR 15 0, aI 48, aI 57] μ (rI r4 m1) ∧ ((¬ r4 = 0 → vp_in (m1 15 0 2) 60 ∧ (∀ m10 : Mem, m10 = mset m1 15 0 (upd (m1 15 0) 2 ((m1 15 0 2) + 1)) → P (.inl (some (aI ((m1 16 0 (m1 15 0 2).toNatClampNeg) - 48)))) m10)) ∧ (r4 = 0 → P (.inl (some (aI (-1)))) m1))) : AW M_X2_readDigit 0 0 [some (aR 15 0), none] [] μ P := by
  refine AW_aload_n dX2_readDigit_0 rfl ?_
  refine AW_bipush (v := 48) dX2_readDigit_1 (by decide) ?_
  refine AW_bipush (v := 57) dX2_readDigit_3 (by decide) ?_
  obtain ⟨r4, m1, h3, h2⟩ := h
  refine AW_callVI [aI 48, aI 57] dX2_readDigit_5 cv_X2_52 rfl rfl rfl (by decide) rfl (by decide) (Nat.le_of_ble_eq_true rfl) h3 ?_
  refine AW_if_ne (tgt := 13) dX2_readDigit_8 (by decide) (fun q7 => ?_) (fun q7 => ?_)
  · have h5 := h2.1 q7
    refine AW_aload_n dX2_readDigit_13 rfl ?_
    refine AW_getv (t := 15) (o := 0) (k := 0) (some (16, none)) (v := aR 16 0) dX2_readDigit_14 ff_X2_9 rfl rfl rfl ?_
    refine AW_aload_n dX2_readDigit_17 rfl ?_
    refine AW_getv (t := 15) (o := 0) (k := 2) none (v := aI (m1 15 0 2)) dX2_readDigit_18 ff_X2_15 rfl rfl rfl ?_
    obtain ⟨h8, h9⟩ := h5
    refine AW_caload dX2_readDigit_21 rfl rfl h8 ?_
    refine AW_bipush (v := 48) dX2_readDigit_22 (by decide) ?_
    refine AW_isub dX2_readDigit_24 ?_
    refine AW_istore_n (loc' := [some (aR 15 0), some (aI ((m1 16 0 (m1 15 0 2).toNatClampNeg) - 48))]) dX2_readDigit_25 (Nat.le_of_ble_eq_true rfl) rfl rfl ?_
    refine AW_aload_n dX2_readDigit_26 rfl ?_
    refine AW_dup dX2_readDigit_27 rfl ?_
    refine AW_getv (t := 15) (o := 0) (k := 2) none (v := aI (m1 15 0 2)) dX2_readDigit_28 ff_X2_15 rfl rfl rfl ?_
    refine AW_iconst (v := 1) dX2_readDigit_31 (by decide) ?_
    refine AW_iadd dX2_readDigit_32 ?_
    obtain ⟨m10, em10⟩ : ∃ z : Mem, z = mset m1 15 0 (upd (m1 15 0) 2 ((m1 15 0 2) + 1)) := ⟨_, rfl⟩
    have h11 := h9 m10 em10
    refine AW_putf (t := 15) (o := 0) (k := 2) dX2_readDigit_33 fp_X2_15 rfl rfl rfl rfl em10.symm ?_
    refine AW_iload_n dX2_readDigit_36 rfl ?_
    exact AW_ireturn (ty := .int) dX2_readDigit_37 rfl rfl h11
  · have h6 := h2.2 q7
    refine AW_iconst (v := (-1)) dX2_readDigit_11 (by decide) ?_
    exact AW_ireturn (ty := .int) dX2_readDigit_12 rfl rfl h6
set_option maxRecDepth 100000 in
theorem B_X2_readCoins_0  {μ : Mem} {P : RES → Mem → Prop}  (h : ∃ (r4 : Int32) (m1 : Mem), MetA M_X2_readDigit [aR 15 0] μ (rI r4 m1) ∧ (∀ m5 : Mem, m5 = mset m1 15 0 (upd (m1 15 0) 4 r4) → ((m5 15 0 4) = (-1) → ((m5 15 0 4) = (-1) → P (.inl (some (aI 0))) m5) ∧ (¬ (m5 15 0 4) = (-1) → P (.inl (some (aI 1))) m5)) ∧ (¬ (m5 15 0 4) = (-1) → ∃ (r17 : Int32) (m14 : Mem), MetA M_X2_isAhead [aR 15 0, aI 48, aI 57] m5 (rI r17 m14) ∧ ((r17 = 0 → ((m14 15 0 4) = (-1) → P (.inl (some (aI 0))) m14) ∧ (¬ (m14 15 0 4) = (-1) → P (.inl (some (aI 1))) m14)) ∧ (¬ r17 = 0 → ∃ (r27 : Int32) (m24 : Mem), MetA M_X2_readDigit [aR 15 0] m14 (rI r27 m24) ∧ (∀ m28 : Mem, m28 = mset m24 15 0 (upd (m24 15 0) 4 (((m14 15 0 4) * 10) + r27)) → ((m28 15 0 4) = (-1) → P (.inl (some (aI 0))) m28) ∧ (¬ (m28 15 0 4) = (-1) → P (.inl (some (aI 1))) m28))))))) : AW M_X2_readCoins 0 0 [some (aR 15 0)] [] μ P := by
  refine AW_aload_n dX2_readCoins_0 rfl ?_
  refine AW_aload_n dX2_readCoins_1 rfl ?_
  obtain ⟨r4, m1, h3, h2⟩ := h
  refine AW_callVI [] dX2_readCoins_2 cv_X2_56 rfl rfl rfl (by decide) rfl (by decide) (Nat.le_of_ble_eq_true rfl) h3 ?_
  obtain ⟨m5, em5⟩ : ∃ z : Mem, z = mset m1 15 0 (upd (m1 15 0) 4 r4) := ⟨_, rfl⟩
  have h6 := h2 m5 em5
  refine AW_putf (t := 15) (o := 0) (k := 4) dX2_readCoins_5 fp_X2_60 rfl rfl rfl rfl em5.symm ?_
  refine AW_aload_n dX2_readCoins_8 rfl ?_
  refine AW_getv (t := 15) (o := 0) (k := 4) none (v := aI (m5 15 0 4)) dX2_readCoins_9 ff_X2_60 rfl rfl rfl ?_
  refine AW_iconst (v := (-1)) dX2_readCoins_12 (by decide) ?_
  refine AW_icmp_eq (tgt := 43) dX2_readCoins_13 (by decide) (fun q10 => ?_) (fun q10 => ?_)
  · have h8 := h6.1 q10
    refine AW_aload_n dX2_readCoins_43 rfl ?_
    refine AW_getv (t := 15) (o := 0) (k := 4) none (v := aI (m5 15 0 4)) dX2_readCoins_44 ff_X2_60 rfl rfl rfl ?_
    refine AW_iconst (v := (-1)) dX2_readCoins_47 (by decide) ?_
    refine AW_icmp_eq (tgt := 55) dX2_readCoins_48 (by decide) (fun q13 => ?_) (fun q13 => ?_)
    · have h11 := h8.1 q13
      refine AW_iconst (v := 0) dX2_readCoins_55 (by decide) ?_
      exact AW_ireturn (ty := .boolean) dX2_readCoins_56 rfl rfl h11
    · have h12 := h8.2 q13
      refine AW_iconst (v := 1) dX2_readCoins_51 (by decide) ?_
      refine AW_goto (tgt := 56) dX2_readCoins_52 (by decide) ?_
      exact AW_ireturn (ty := .boolean) dX2_readCoins_56 rfl rfl h12
  · have h9 := h6.2 q10
    refine AW_aload_n dX2_readCoins_16 rfl ?_
    refine AW_bipush (v := 48) dX2_readCoins_17 (by decide) ?_
    refine AW_bipush (v := 57) dX2_readCoins_19 (by decide) ?_
    obtain ⟨r17, m14, h16, h15⟩ := h9
    refine AW_callVI [aI 48, aI 57] dX2_readCoins_21 cv_X2_52 rfl rfl rfl (by decide) rfl (by decide) (Nat.le_of_ble_eq_true rfl) h16 ?_
    refine AW_if_eq (tgt := 43) dX2_readCoins_24 (by decide) (fun q20 => ?_) (fun q20 => ?_)
    · have h18 := h15.1 q20
      refine AW_aload_n dX2_readCoins_43 rfl ?_
      refine AW_getv (t := 15) (o := 0) (k := 4) none (v := aI (m14 15 0 4)) dX2_readCoins_44 ff_X2_60 rfl rfl rfl ?_
      refine AW_iconst (v := (-1)) dX2_readCoins_47 (by decide) ?_
      refine AW_icmp_eq (tgt := 55) dX2_readCoins_48 (by decide) (fun q23 => ?_) (fun q23 => ?_)
      · have h21 := h18.1 q23
        refine AW_iconst (v := 0) dX2_readCoins_55 (by decide) ?_
        exact AW_ireturn (ty := .boolean) dX2_readCoins_56 rfl rfl h21
      · have h22 := h18.2 q23
        refine AW_iconst (v := 1) dX2_readCoins_51 (by decide) ?_
        refine AW_goto (tgt := 56) dX2_readCoins_52 (by decide) ?_
        exact AW_ireturn (ty := .boolean) dX2_readCoins_56 rfl rfl h22
    · have h19 := h15.2 q20
      refine AW_aload_n dX2_readCoins_27 rfl ?_
      refine AW_aload_n dX2_readCoins_28 rfl ?_
      refine AW_getv (t := 15) (o := 0) (k := 4) none (v := aI (m14 15 0 4)) dX2_readCoins_29 ff_X2_60 rfl rfl rfl ?_
      refine AW_bipush (v := 10) dX2_readCoins_32 (by decide) ?_
      refine AW_imul dX2_readCoins_34 ?_
      refine AW_aload_n dX2_readCoins_35 rfl ?_
      obtain ⟨r27, m24, h26, h25⟩ := h19
      refine AW_callVI [] dX2_readCoins_36 cv_X2_56 rfl rfl rfl (by decide) rfl (by decide) (Nat.le_of_ble_eq_true rfl) h26 ?_
      refine AW_iadd dX2_readCoins_39 ?_
      obtain ⟨m28, em28⟩ : ∃ z : Mem, z = mset m24 15 0 (upd (m24 15 0) 4 (((m14 15 0 4) * 10) + r27)) := ⟨_, rfl⟩
      have h29 := h25 m28 em28
      refine AW_putf (t := 15) (o := 0) (k := 4) dX2_readCoins_40 fp_X2_60 rfl rfl rfl rfl em28.symm ?_
      refine AW_aload_n dX2_readCoins_43 rfl ?_
      refine AW_getv (t := 15) (o := 0) (k := 4) none (v := aI (m28 15 0 4)) dX2_readCoins_44 ff_X2_60 rfl rfl rfl ?_
      refine AW_iconst (v := (-1)) dX2_readCoins_47 (by decide) ?_
      refine AW_icmp_eq (tgt := 55) dX2_readCoins_48 (by decide) (fun q33 => ?_) (fun q33 => ?_)
      · have h31 := h29.1 q33
        refine AW_iconst (v := 0) dX2_readCoins_55 (by decide) ?_
        exact AW_ireturn (ty := .boolean) dX2_readCoins_56 rfl rfl h31
      · have h32 := h29.2 q33
        refine AW_iconst (v := 1) dX2_readCoins_51 (by decide) ?_
        refine AW_goto (tgt := 56) dX2_readCoins_52 (by decide) ?_
        exact AW_ireturn (ty := .boolean) dX2_readCoins_56 rfl rfl h32
set_option maxRecDepth 100000 in
theorem B_X2_readLetter_0  {μ : Mem} {P : RES → Mem → Prop}  (h : ∃ (r4 : Int32) (m1 : Mem), MetA M_X2_isAhead [aR 15 0, aI 97, aI 102] μ (rI r4 m1) ∧ ((¬ r4 = 0 → vp_in (m1 15 0 2) 60 ∧ ((narrow .char (.int (m1 16 0 (m1 15 0 2).toNatClampNeg)) = .int (m1 16 0 (m1 15 0 2).toNatClampNeg) ∧ fits .char (.int (m1 16 0 (m1 15 0 2).toNatClampNeg)) = true) ∧ (∀ m10 : Mem, m10 = mset m1 15 0 (upd (m1 15 0) 6 (m1 16 0 (m1 15 0 2).toNatClampNeg)) → ∀ m13 : Mem, m13 = mset m10 15 0 (upd (m10 15 0) 2 ((m10 15 0 2) + 1)) → P (.inl (some (aI 1))) m13))) ∧ (r4 = 0 → P (.inl (some (aI 0))) m1))) : AW M_X2_readLetter 0 0 [some (aR 15 0)] [] μ P := by
  refine AW_aload_n dX2_readLetter_0 rfl ?_
  refine AW_bipush (v := 97) dX2_readLetter_1 (by decide) ?_
  refine AW_bipush (v := 102) dX2_readLetter_3 (by decide) ?_
  obtain ⟨r4, m1, h3, h2⟩ := h
  refine AW_callVI [aI 97, aI 102] dX2_readLetter_5 cv_X2_52 rfl rfl rfl (by decide) rfl (by decide) (Nat.le_of_ble_eq_true rfl) h3 ?_
  refine AW_if_ne (tgt := 13) dX2_readLetter_8 (by decide) (fun q7 => ?_) (fun q7 => ?_)
  · have h5 := h2.1 q7
    refine AW_aload_n dX2_readLetter_13 rfl ?_
    refine AW_aload_n dX2_readLetter_14 rfl ?_
    refine AW_getv (t := 15) (o := 0) (k := 0) (some (16, none)) (v := aR 16 0) dX2_readLetter_15 ff_X2_9 rfl rfl rfl ?_
    refine AW_aload_n dX2_readLetter_18 rfl ?_
    refine AW_getv (t := 15) (o := 0) (k := 2) none (v := aI (m1 15 0 2)) dX2_readLetter_19 ff_X2_15 rfl rfl rfl ?_
    obtain ⟨h8, h9⟩ := h5
    refine AW_caload dX2_readLetter_22 rfl rfl h8 ?_
    obtain ⟨h12, h16⟩ := h9
    obtain ⟨m10, em10⟩ : ∃ z : Mem, z = mset m1 15 0 (upd (m1 15 0) 6 (m1 16 0 (m1 15 0 2).toNatClampNeg)) := ⟨_, rfl⟩
    have h11 := h16 m10 em10
    refine AW_putf (t := 15) (o := 0) (k := 6) dX2_readLetter_23 fp_X2_66 rfl rfl h12.1 h12.2 em10.symm ?_
    refine AW_aload_n dX2_readLetter_26 rfl ?_
    refine AW_dup dX2_readLetter_27 rfl ?_
    refine AW_getv (t := 15) (o := 0) (k := 2) none (v := aI (m10 15 0 2)) dX2_readLetter_28 ff_X2_15 rfl rfl rfl ?_
    refine AW_iconst (v := 1) dX2_readLetter_31 (by decide) ?_
    refine AW_iadd dX2_readLetter_32 ?_
    obtain ⟨m13, em13⟩ : ∃ z : Mem, z = mset m10 15 0 (upd (m10 15 0) 2 ((m10 15 0 2) + 1)) := ⟨_, rfl⟩
    have h14 := h11 m13 em13
    refine AW_putf (t := 15) (o := 0) (k := 2) dX2_readLetter_33 fp_X2_15 rfl rfl rfl rfl em13.symm ?_
    refine AW_iconst (v := 1) dX2_readLetter_36 (by decide) ?_
    exact AW_ireturn (ty := .boolean) dX2_readLetter_37 rfl rfl h14
  · have h6 := h2.2 q7
    refine AW_iconst (v := 0) dX2_readLetter_11 (by decide) ?_
    exact AW_ireturn (ty := .boolean) dX2_readLetter_12 rfl rfl h6
set_option maxRecDepth 100000 in
theorem B_X2_readWord_0  {μ : Mem} {P : RES → Mem → Prop}  (h : ∀ m1 : Mem, m1 = mset μ 15 0 (upd (μ 15 0) 5 0) → AW M_X2_readWord 0 7 [some (aR 15 0), some (aI 0)] [] m1 P) : AW M_X2_readWord 0 0 [some (aR 15 0), none] [] μ P := by
  refine AW_iconst (v := 0) dX2_readWord_0 (by decide) ?_
  refine AW_istore_n (loc' := [some (aR 15 0), some (aI 0)]) dX2_readWord_1 (Nat.le_of_ble_eq_true rfl) rfl rfl ?_
  refine AW_aload_n dX2_readWord_2 rfl ?_
  refine AW_iconst (v := 0) dX2_readWord_3 (by decide) ?_
  obtain ⟨m1, em1⟩ : ∃ z : Mem, z = mset μ 15 0 (upd (μ 15 0) 5 0) := ⟨_, rfl⟩
  have h2 := h m1 em1
  refine AW_putf (t := 15) (o := 0) (k := 5) dX2_readWord_4 fp_X2_63 rfl rfl rfl rfl em1.symm ?_
  exact h2
set_option maxRecDepth 100000 in
theorem B_X2_readWord_7 {a1 : Int32} {μ : Mem} {P : RES → Mem → Prop}  (h : (8 ≤ a1 → (a1 < 3 → P (.inl (some (aI 0))) μ) ∧ (¬ a1 < 3 → P (.inl (some (aI 1))) μ)) ∧ (¬ 8 ≤ a1 → ∃ (r10 : Int32) (m7 : Mem), MetA M_X2_readLetter [aR 15 0] μ (rI r10 m7) ∧ ((r10 = 0 → (a1 < 3 → P (.inl (some (aI 0))) m7) ∧ (¬ a1 < 3 → P (.inl (some (aI 1))) m7)) ∧ (¬ r10 = 0 → ∀ m17 : Mem, m17 = mset m7 15 0 (upd (m7 15 0) 5 (((((m7 15 0 5) * 10) + (m7 15 0 6)) - 97) + 1)) → AW M_X2_readWord 0 7 [some (aR 15 0), some (aI (a1 + 1))] [] m17 P)))) : AW M_X2_readWord 0 7 [some (aR 15 0), some (aI a1)] [] μ P := by
  refine AW_iload_n dX2_readWord_7 rfl ?_
  refine AW_bipush (v := 8) dX2_readWord_8 (by decide) ?_
  refine AW_icmp_ge (tgt := 47) dX2_readWord_10 (by decide) (fun q3 => ?_) (fun q3 => ?_)
  · have h1 := h.1 q3
    refine AW_iload_n dX2_readWord_47 rfl ?_
    refine AW_iconst (v := 3) dX2_readWord_48 (by decide) ?_
    refine AW_icmp_lt (tgt := 56) dX2_readWord_49 (by decide) (fun q6 => ?_) (fun q6 => ?_)
    · have h4 := h1.1 q6
      refine AW_iconst (v := 0) dX2_readWord_56 (by decide) ?_
      exact AW_ireturn (ty := .boolean) dX2_readWord_57 rfl rfl h4
    · have h5 := h1.2 q6
      refine AW_iconst (v := 1) dX2_readWord_52 (by decide) ?_
      refine AW_goto (tgt := 57) dX2_readWord_53 (by decide) ?_
      exact AW_ireturn (ty := .boolean) dX2_readWord_57 rfl rfl h5
  · have h2 := h.2 q3
    refine AW_aload_n dX2_readWord_13 rfl ?_
    obtain ⟨r10, m7, h9, h8⟩ := h2
    refine AW_callVI [] dX2_readWord_14 cv_X2_49 rfl rfl rfl (by decide) rfl (by decide) (Nat.le_of_ble_eq_true rfl) h9 ?_
    refine AW_if_eq (tgt := 47) dX2_readWord_17 (by decide) (fun q13 => ?_) (fun q13 => ?_)
    · have h11 := h8.1 q13
      refine AW_iload_n dX2_readWord_47 rfl ?_
      refine AW_iconst (v := 3) dX2_readWord_48 (by decide) ?_
      refine AW_icmp_lt (tgt := 56) dX2_readWord_49 (by decide) (fun q16 => ?_) (fun q16 => ?_)
      · have h14 := h11.1 q16
        refine AW_iconst (v := 0) dX2_readWord_56 (by decide) ?_
        exact AW_ireturn (ty := .boolean) dX2_readWord_57 rfl rfl h14
      · have h15 := h11.2 q16
        refine AW_iconst (v := 1) dX2_readWord_52 (by decide) ?_
        refine AW_goto (tgt := 57) dX2_readWord_53 (by decide) ?_
        exact AW_ireturn (ty := .boolean) dX2_readWord_57 rfl rfl h15
    · have h12 := h8.2 q13
      refine AW_aload_n dX2_readWord_20 rfl ?_
      refine AW_aload_n dX2_readWord_21 rfl ?_
      refine AW_getv (t := 15) (o := 0) (k := 5) none (v := aI (m7 15 0 5)) dX2_readWord_22 ff_X2_63 rfl rfl rfl ?_
      refine AW_bipush (v := 10) dX2_readWord_25 (by decide) ?_
      refine AW_imul dX2_readWord_27 ?_
      refine AW_aload_n dX2_readWord_28 rfl ?_
      refine AW_getv (t := 15) (o := 0) (k := 6) none (v := aI (m7 15 0 6)) dX2_readWord_29 ff_X2_66 rfl rfl rfl ?_
      refine AW_iadd dX2_readWord_32 ?_
      refine AW_bipush (v := 97) dX2_readWord_33 (by decide) ?_
      refine AW_isub dX2_readWord_35 ?_
      refine AW_iconst (v := 1) dX2_readWord_36 (by decide) ?_
      refine AW_iadd dX2_readWord_37 ?_
      obtain ⟨m17, em17⟩ : ∃ z : Mem, z = mset m7 15 0 (upd (m7 15 0) 5 (((((m7 15 0 5) * 10) + (m7 15 0 6)) - 97) + 1)) := ⟨_, rfl⟩
      have h18 := h12 m17 em17
      refine AW_putf (t := 15) (o := 0) (k := 5) dX2_readWord_38 fp_X2_63 rfl rfl rfl rfl em17.symm ?_
      refine AW_iinc (v := a1 + 1) (loc' := [some (aR 15 0), some (aI (a1 + 1))]) dX2_readWord_41 rfl rfl (Nat.le_of_ble_eq_true rfl) rfl rfl ?_
      refine AW_goto (tgt := 7) dX2_readWord_44 (by decide) ?_
      exact h18
set_option maxRecDepth 100000 in
theorem B_X3_become_0 {a1 : Int32} {a2 : Int32} {μ : Mem} {P : RES → Mem → Prop}  (h : ∀ m1 : Mem, m1 = mset μ 14 0 (upd (μ 14 0) 0 a1) → ∀ m4 : Mem, m4 = mset m1 14 0 (upd (m1 14 0) 1 a2) → ∀ m7 : Mem, m7 = mset m4 14 0 (upd (m4 14 0) 2 0) → ∀ m10 : Mem, m10 = mset m7 14 0 (upd (m7 14 0) 3 0) → P (.inl none) m10) : AW M_X3_become 0 0 [some (aR 14 0), some (aI a1), some (aI a2)] [] μ P := by
  refine AW_aload_n dX3_become_0 rfl ?_
  refine AW_iload_n dX3_become_1 rfl ?_
  obtain ⟨m1, em1⟩ : ∃ z : Mem, z = mset μ 14 0 (upd (μ 14 0) 0 a1) := ⟨_, rfl⟩
  have h2 := h m1 em1
  refine AW_putf (t := 14) (o := 0) (k := 0) dX3_become_2 fp_X3_9 rfl rfl rfl rfl em1.symm ?_
  refine AW_aload_n dX3_become_5 rfl ?_
  refine AW_iload_n dX3_become_6 rfl ?_
  obtain ⟨m4, em4⟩ : ∃ z : Mem, z = mset m1 14 0 (upd (m1 14 0) 1 a2) := ⟨_, rfl⟩
  have h5 := h2 m4 em4
  refine AW_putf (t := 14) (o := 0) (k := 1) dX3_become_7 fp_X3_18 rfl rfl rfl rfl em4.symm ?_
  refine AW_aload_n dX3_become_10 rfl ?_
  refine AW_iconst (v := 0) dX3_become_11 (by decide) ?_
  obtain ⟨m7, em7⟩ : ∃ z : Mem, z = mset m4 14 0 (upd (m4 14 0) 2 0) := ⟨_, rfl⟩
  have h8 := h5 m7 em7
  refine AW_putf (t := 14) (o := 0) (k := 2) dX3_become_12 fp_X3_15 rfl rfl rfl rfl em7.symm ?_
  refine AW_aload_n dX3_become_15 rfl ?_
  refine AW_iconst (v := 0) dX3_become_16 (by decide) ?_
  obtain ⟨m10, em10⟩ : ∃ z : Mem, z = mset m7 14 0 (upd (m7 14 0) 3 0) := ⟨_, rfl⟩
  have h11 := h8 m10 em10
  refine AW_putf (t := 14) (o := 0) (k := 3) dX3_become_17 fp_X3_21 rfl rfl rfl rfl em10.symm ?_
  exact AW_return dX3_become_20 rfl h11
set_option maxRecDepth 100000 in
theorem B_X3_standBehind_0 {a1 : Int32} {a2 : Int32} {μ : Mem} {P : RES → Mem → Prop}  (h : ∀ m1 : Mem, m1 = mset μ 14 0 (upd (μ 14 0) 2 (μ 14 0 0)) → ∀ m4 : Mem, m4 = mset m1 14 0 (upd (m1 14 0) 3 (m1 14 0 1)) → ∀ m7 : Mem, m7 = mset m4 14 0 (upd (m4 14 0) 0 a1) → ∀ m10 : Mem, m10 = mset m7 14 0 (upd (m7 14 0) 1 a2) → P (.inl none) m10) : AW M_X3_standBehind 0 0 [some (aR 14 0), some (aI a1), some (aI a2)] [] μ P := by
  refine AW_aload_n dX3_standBehind_0 rfl ?_
  refine AW_aload_n dX3_standBehind_1 rfl ?_
  refine AW_getv (t := 14) (o := 0) (k := 0) none (v := aI (μ 14 0 0)) dX3_standBehind_2 ff_X3_9 rfl rfl rfl ?_
  obtain ⟨m1, em1⟩ : ∃ z : Mem, z = mset μ 14 0 (upd (μ 14 0) 2 (μ 14 0 0)) := ⟨_, rfl⟩
  have h2 := h m1 em1
  refine AW_putf (t := 14) (o := 0) (k := 2) dX3_standBehind_5 fp_X3_15 rfl rfl rfl rfl em1.symm ?_
  refine AW_aload_n dX3_standBehind_8 rfl ?_
  refine AW_aload_n dX3_standBehind_9 rfl ?_
  refine AW_getv (t := 14) (o := 0) (k := 1) none (v := aI (m1 14 0 1)) dX3_standBehind_10 ff_X3_18 rfl rfl rfl ?_
  obtain ⟨m4, em4⟩ : ∃ z : Mem, z = mset m1 14 0 (upd (m1 14 0) 3 (m1 14 0 1)) := ⟨_, rfl⟩
  have h5 := h2 m4 em4
  refine AW_putf (t := 14) (o := 0) (k := 3) dX3_standBehind_13 fp_X3_21 rfl rfl rfl rfl em4.symm ?_
  refine AW_aload_n dX3_standBehind_16 rfl ?_
  refine AW_iload_n dX3_standBehind_17 rfl ?_
  obtain ⟨m7, em7⟩ : ∃ z : Mem, z = mset m4 14 0 (upd (m4 14 0) 0 a1) := ⟨_, rfl⟩
  have h8 := h5 m7 em7
  refine AW_putf (t := 14) (o := 0) (k := 0) dX3_standBehind_18 fp_X3_9 rfl rfl rfl rfl em7.symm ?_
  refine AW_aload_n dX3_standBehind_21 rfl ?_
  refine AW_iload_n dX3_standBehind_22 rfl ?_
  obtain ⟨m10, em10⟩ : ∃ z : Mem, z = mset m7 14 0 (upd (m7 14 0) 1 a2) := ⟨_, rfl⟩
  have h11 := h8 m10 em10
  refine AW_putf (t := 14) (o := 0) (k := 1) dX3_standBehind_23 fp_X3_18 rfl rfl rfl rfl em10.symm ?_
  exact AW_return dX3_standBehind_26 rfl h11
set_option maxRecDepth 100000 in
theorem B_J6_bitCount_0f7a4_0 {a0 : Int32} {μ : Mem} {P : RES → Mem → Prop}  (h : P (.inl (some (aI ((((((((a0 - (((a0.toUInt32 >>> (((1) : Int32).toUInt32 &&& Int32.toUInt32 31)).toInt32) &&& 1431655765)) &&& 858993459) + ((((a0 - (((a0.toUInt32 >>> (((1) : Int32).toUInt32 &&& Int32.toUInt32 31)).toInt32) &&& 1431655765)).toUInt32 >>> (((2) : Int32).toUInt32 &&& Int32.toUInt32 31)).toInt32) &&& 858993459)) + (((((a0 - (((a0.toUInt32 >>> (((1) : Int32).toUInt32 &&& Int32.toUInt32 31)).toInt32) &&& 1431655765)) &&& 858993459) + ((((a0 - (((a0.toUInt32 >>> (((1) : Int32).toUInt32 &&& Int32.toUInt32 31)).toInt32) &&& 1431655765)).toUInt32 >>> (((2) : Int32).toUInt32 &&& Int32.toUInt32 31)).toInt32) &&& 858993459)).toUInt32 >>> (((4) : Int32).toUInt32 &&& Int32.toUInt32 31)).toInt32)) &&& 252645135) + (((((((a0 - (((a0.toUInt32 >>> (((1) : Int32).toUInt32 &&& Int32.toUInt32 31)).toInt32) &&& 1431655765)) &&& 858993459) + ((((a0 - (((a0.toUInt32 >>> (((1) : Int32).toUInt32 &&& Int32.toUInt32 31)).toInt32) &&& 1431655765)).toUInt32 >>> (((2) : Int32).toUInt32 &&& Int32.toUInt32 31)).toInt32) &&& 858993459)) + (((((a0 - (((a0.toUInt32 >>> (((1) : Int32).toUInt32 &&& Int32.toUInt32 31)).toInt32) &&& 1431655765)) &&& 858993459) + ((((a0 - (((a0.toUInt32 >>> (((1) : Int32).toUInt32 &&& Int32.toUInt32 31)).toInt32) &&& 1431655765)).toUInt32 >>> (((2) : Int32).toUInt32 &&& Int32.toUInt32 31)).toInt32) &&& 858993459)).toUInt32 >>> (((4) : Int32).toUInt32 &&& Int32.toUInt32 31)).toInt32)) &&& 252645135).toUInt32 >>> (((8) : Int32).toUInt32 &&& Int32.toUInt32 31)).toInt32)) + ((((((((a0 - (((a0.toUInt32 >>> (((1) : Int32).toUInt32 &&& Int32.toUInt32 31)).toInt32) &&& 1431655765)) &&& 858993459) + ((((a0 - (((a0.toUInt32 >>> (((1) : Int32).toUInt32 &&& Int32.toUInt32 31)).toInt32) &&& 1431655765)).toUInt32 >>> (((2) : Int32).toUInt32 &&& Int32.toUInt32 31)).toInt32) &&& 858993459)) + (((((a0 - (((a0.toUInt32 >>> (((1) : Int32).toUInt32 &&& Int32.toUInt32 31)).toInt32) &&& 1431655765)) &&& 858993459) + ((((a0 - (((a0.toUInt32 >>> (((1) : Int32).toUInt32 &&& Int32.toUInt32 31)).toInt32) &&& 1431655765)).toUInt32 >>> (((2) : Int32).toUInt32 &&& Int32.toUInt32 31)).toInt32) &&& 858993459)).toUInt32 >>> (((4) : Int32).toUInt32 &&& Int32.toUInt32 31)).toInt32)) &&& 252645135) + (((((((a0 - (((a0.toUInt32 >>> (((1) : Int32).toUInt32 &&& Int32.toUInt32 31)).toInt32) &&& 1431655765)) &&& 858993459) + ((((a0 - (((a0.toUInt32 >>> (((1) : Int32).toUInt32 &&& Int32.toUInt32 31)).toInt32) &&& 1431655765)).toUInt32 >>> (((2) : Int32).toUInt32 &&& Int32.toUInt32 31)).toInt32) &&& 858993459)) + (((((a0 - (((a0.toUInt32 >>> (((1) : Int32).toUInt32 &&& Int32.toUInt32 31)).toInt32) &&& 1431655765)) &&& 858993459) + ((((a0 - (((a0.toUInt32 >>> (((1) : Int32).toUInt32 &&& Int32.toUInt32 31)).toInt32) &&& 1431655765)).toUInt32 >>> (((2) : Int32).toUInt32 &&& Int32.toUInt32 31)).toInt32) &&& 858993459)).toUInt32 >>> (((4) : Int32).toUInt32 &&& Int32.toUInt32 31)).toInt32)) &&& 252645135).toUInt32 >>> (((8) : Int32).toUInt32 &&& Int32.toUInt32 31)).toInt32)).toUInt32 >>> (((16) : Int32).toUInt32 &&& Int32.toUInt32 31)).toInt32)) &&& 63)))) μ) : AW M_J6_bitCount_0f7a4 0 0 [some (aI a0)] [] μ P := by
  refine AW_iload_n dJ6_bitCount_0f7a4_0 rfl ?_
  refine AW_iload_n dJ6_bitCount_0f7a4_1 rfl ?_
  refine AW_iconst (v := 1) dJ6_bitCount_0f7a4_2 (by decide) ?_
  refine AW_iushr dJ6_bitCount_0f7a4_3 ?_
  refine AW_ldcw (v := 1431655765) dJ6_bitCount_0f7a4_4 w_417 ?_
  refine AW_iand dJ6_bitCount_0f7a4_7 ?_
  refine AW_isub dJ6_bitCount_0f7a4_8 ?_
  refine AW_istore_n (loc' := [some (aI (a0 - (((a0.toUInt32 >>> (((1) : Int32).toUInt32 &&& Int32.toUInt32 31)).toInt32) &&& 1431655765)))]) dJ6_bitCount_0f7a4_9 (Nat.le_of_ble_eq_true rfl) rfl rfl ?_
  refine AW_iload_n dJ6_bitCount_0f7a4_10 rfl ?_
  refine AW_ldcw (v := 858993459) dJ6_bitCount_0f7a4_11 w_418 ?_
  refine AW_iand dJ6_bitCount_0f7a4_14 ?_
  refine AW_iload_n dJ6_bitCount_0f7a4_15 rfl ?_
  refine AW_iconst (v := 2) dJ6_bitCount_0f7a4_16 (by decide) ?_
  refine AW_iushr dJ6_bitCount_0f7a4_17 ?_
  refine AW_ldcw (v := 858993459) dJ6_bitCount_0f7a4_18 w_418 ?_
  refine AW_iand dJ6_bitCount_0f7a4_21 ?_
  refine AW_iadd dJ6_bitCount_0f7a4_22 ?_
  refine AW_istore_n (loc' := [some (aI (((a0 - (((a0.toUInt32 >>> (((1) : Int32).toUInt32 &&& Int32.toUInt32 31)).toInt32) &&& 1431655765)) &&& 858993459) + ((((a0 - (((a0.toUInt32 >>> (((1) : Int32).toUInt32 &&& Int32.toUInt32 31)).toInt32) &&& 1431655765)).toUInt32 >>> (((2) : Int32).toUInt32 &&& Int32.toUInt32 31)).toInt32) &&& 858993459)))]) dJ6_bitCount_0f7a4_23 (Nat.le_of_ble_eq_true rfl) rfl rfl ?_
  refine AW_iload_n dJ6_bitCount_0f7a4_24 rfl ?_
  refine AW_iload_n dJ6_bitCount_0f7a4_25 rfl ?_
  refine AW_iconst (v := 4) dJ6_bitCount_0f7a4_26 (by decide) ?_
  refine AW_iushr dJ6_bitCount_0f7a4_27 ?_
  refine AW_iadd dJ6_bitCount_0f7a4_28 ?_
  refine AW_ldcw (v := 252645135) dJ6_bitCount_0f7a4_29 w_419 ?_
  refine AW_iand dJ6_bitCount_0f7a4_32 ?_
  refine AW_istore_n (loc' := [some (aI (((((a0 - (((a0.toUInt32 >>> (((1) : Int32).toUInt32 &&& Int32.toUInt32 31)).toInt32) &&& 1431655765)) &&& 858993459) + ((((a0 - (((a0.toUInt32 >>> (((1) : Int32).toUInt32 &&& Int32.toUInt32 31)).toInt32) &&& 1431655765)).toUInt32 >>> (((2) : Int32).toUInt32 &&& Int32.toUInt32 31)).toInt32) &&& 858993459)) + (((((a0 - (((a0.toUInt32 >>> (((1) : Int32).toUInt32 &&& Int32.toUInt32 31)).toInt32) &&& 1431655765)) &&& 858993459) + ((((a0 - (((a0.toUInt32 >>> (((1) : Int32).toUInt32 &&& Int32.toUInt32 31)).toInt32) &&& 1431655765)).toUInt32 >>> (((2) : Int32).toUInt32 &&& Int32.toUInt32 31)).toInt32) &&& 858993459)).toUInt32 >>> (((4) : Int32).toUInt32 &&& Int32.toUInt32 31)).toInt32)) &&& 252645135))]) dJ6_bitCount_0f7a4_33 (Nat.le_of_ble_eq_true rfl) rfl rfl ?_
  refine AW_iload_n dJ6_bitCount_0f7a4_34 rfl ?_
  refine AW_iload_n dJ6_bitCount_0f7a4_35 rfl ?_
  refine AW_bipush (v := 8) dJ6_bitCount_0f7a4_36 (by decide) ?_
  refine AW_iushr dJ6_bitCount_0f7a4_38 ?_
  refine AW_iadd dJ6_bitCount_0f7a4_39 ?_
  refine AW_istore_n (loc' := [some (aI ((((((a0 - (((a0.toUInt32 >>> (((1) : Int32).toUInt32 &&& Int32.toUInt32 31)).toInt32) &&& 1431655765)) &&& 858993459) + ((((a0 - (((a0.toUInt32 >>> (((1) : Int32).toUInt32 &&& Int32.toUInt32 31)).toInt32) &&& 1431655765)).toUInt32 >>> (((2) : Int32).toUInt32 &&& Int32.toUInt32 31)).toInt32) &&& 858993459)) + (((((a0 - (((a0.toUInt32 >>> (((1) : Int32).toUInt32 &&& Int32.toUInt32 31)).toInt32) &&& 1431655765)) &&& 858993459) + ((((a0 - (((a0.toUInt32 >>> (((1) : Int32).toUInt32 &&& Int32.toUInt32 31)).toInt32) &&& 1431655765)).toUInt32 >>> (((2) : Int32).toUInt32 &&& Int32.toUInt32 31)).toInt32) &&& 858993459)).toUInt32 >>> (((4) : Int32).toUInt32 &&& Int32.toUInt32 31)).toInt32)) &&& 252645135) + (((((((a0 - (((a0.toUInt32 >>> (((1) : Int32).toUInt32 &&& Int32.toUInt32 31)).toInt32) &&& 1431655765)) &&& 858993459) + ((((a0 - (((a0.toUInt32 >>> (((1) : Int32).toUInt32 &&& Int32.toUInt32 31)).toInt32) &&& 1431655765)).toUInt32 >>> (((2) : Int32).toUInt32 &&& Int32.toUInt32 31)).toInt32) &&& 858993459)) + (((((a0 - (((a0.toUInt32 >>> (((1) : Int32).toUInt32 &&& Int32.toUInt32 31)).toInt32) &&& 1431655765)) &&& 858993459) + ((((a0 - (((a0.toUInt32 >>> (((1) : Int32).toUInt32 &&& Int32.toUInt32 31)).toInt32) &&& 1431655765)).toUInt32 >>> (((2) : Int32).toUInt32 &&& Int32.toUInt32 31)).toInt32) &&& 858993459)).toUInt32 >>> (((4) : Int32).toUInt32 &&& Int32.toUInt32 31)).toInt32)) &&& 252645135).toUInt32 >>> (((8) : Int32).toUInt32 &&& Int32.toUInt32 31)).toInt32)))]) dJ6_bitCount_0f7a4_40 (Nat.le_of_ble_eq_true rfl) rfl rfl ?_
  refine AW_iload_n dJ6_bitCount_0f7a4_41 rfl ?_
  refine AW_iload_n dJ6_bitCount_0f7a4_42 rfl ?_
  refine AW_bipush (v := 16) dJ6_bitCount_0f7a4_43 (by decide) ?_
  refine AW_iushr dJ6_bitCount_0f7a4_45 ?_
  refine AW_iadd dJ6_bitCount_0f7a4_46 ?_
  refine AW_istore_n (loc' := [some (aI (((((((a0 - (((a0.toUInt32 >>> (((1) : Int32).toUInt32 &&& Int32.toUInt32 31)).toInt32) &&& 1431655765)) &&& 858993459) + ((((a0 - (((a0.toUInt32 >>> (((1) : Int32).toUInt32 &&& Int32.toUInt32 31)).toInt32) &&& 1431655765)).toUInt32 >>> (((2) : Int32).toUInt32 &&& Int32.toUInt32 31)).toInt32) &&& 858993459)) + (((((a0 - (((a0.toUInt32 >>> (((1) : Int32).toUInt32 &&& Int32.toUInt32 31)).toInt32) &&& 1431655765)) &&& 858993459) + ((((a0 - (((a0.toUInt32 >>> (((1) : Int32).toUInt32 &&& Int32.toUInt32 31)).toInt32) &&& 1431655765)).toUInt32 >>> (((2) : Int32).toUInt32 &&& Int32.toUInt32 31)).toInt32) &&& 858993459)).toUInt32 >>> (((4) : Int32).toUInt32 &&& Int32.toUInt32 31)).toInt32)) &&& 252645135) + (((((((a0 - (((a0.toUInt32 >>> (((1) : Int32).toUInt32 &&& Int32.toUInt32 31)).toInt32) &&& 1431655765)) &&& 858993459) + ((((a0 - (((a0.toUInt32 >>> (((1) : Int32).toUInt32 &&& Int32.toUInt32 31)).toInt32) &&& 1431655765)).toUInt32 >>> (((2) : Int32).toUInt32 &&& Int32.toUInt32 31)).toInt32) &&& 858993459)) + (((((a0 - (((a0.toUInt32 >>> (((1) : Int32).toUInt32 &&& Int32.toUInt32 31)).toInt32) &&& 1431655765)) &&& 858993459) + ((((a0 - (((a0.toUInt32 >>> (((1) : Int32).toUInt32 &&& Int32.toUInt32 31)).toInt32) &&& 1431655765)).toUInt32 >>> (((2) : Int32).toUInt32 &&& Int32.toUInt32 31)).toInt32) &&& 858993459)).toUInt32 >>> (((4) : Int32).toUInt32 &&& Int32.toUInt32 31)).toInt32)) &&& 252645135).toUInt32 >>> (((8) : Int32).toUInt32 &&& Int32.toUInt32 31)).toInt32)) + ((((((((a0 - (((a0.toUInt32 >>> (((1) : Int32).toUInt32 &&& Int32.toUInt32 31)).toInt32) &&& 1431655765)) &&& 858993459) + ((((a0 - (((a0.toUInt32 >>> (((1) : Int32).toUInt32 &&& Int32.toUInt32 31)).toInt32) &&& 1431655765)).toUInt32 >>> (((2) : Int32).toUInt32 &&& Int32.toUInt32 31)).toInt32) &&& 858993459)) + (((((a0 - (((a0.toUInt32 >>> (((1) : Int32).toUInt32 &&& Int32.toUInt32 31)).toInt32) &&& 1431655765)) &&& 858993459) + ((((a0 - (((a0.toUInt32 >>> (((1) : Int32).toUInt32 &&& Int32.toUInt32 31)).toInt32) &&& 1431655765)).toUInt32 >>> (((2) : Int32).toUInt32 &&& Int32.toUInt32 31)).toInt32) &&& 858993459)).toUInt32 >>> (((4) : Int32).toUInt32 &&& Int32.toUInt32 31)).toInt32)) &&& 252645135) + (((((((a0 - (((a0.toUInt32 >>> (((1) : Int32).toUInt32 &&& Int32.toUInt32 31)).toInt32) &&& 1431655765)) &&& 858993459) + ((((a0 - (((a0.toUInt32 >>> (((1) : Int32).toUInt32 &&& Int32.toUInt32 31)).toInt32) &&& 1431655765)).toUInt32 >>> (((2) : Int32).toUInt32 &&& Int32.toUInt32 31)).toInt32) &&& 858993459)) + (((((a0 - (((a0.toUInt32 >>> (((1) : Int32).toUInt32 &&& Int32.toUInt32 31)).toInt32) &&& 1431655765)) &&& 858993459) + ((((a0 - (((a0.toUInt32 >>> (((1) : Int32).toUInt32 &&& Int32.toUInt32 31)).toInt32) &&& 1431655765)).toUInt32 >>> (((2) : Int32).toUInt32 &&& Int32.toUInt32 31)).toInt32) &&& 858993459)).toUInt32 >>> (((4) : Int32).toUInt32 &&& Int32.toUInt32 31)).toInt32)) &&& 252645135).toUInt32 >>> (((8) : Int32).toUInt32 &&& Int32.toUInt32 31)).toInt32)).toUInt32 >>> (((16) : Int32).toUInt32 &&& Int32.toUInt32 31)).toInt32)))]) dJ6_bitCount_0f7a4_47 (Nat.le_of_ble_eq_true rfl) rfl rfl ?_
  refine AW_iload_n dJ6_bitCount_0f7a4_48 rfl ?_
  refine AW_bipush (v := 63) dJ6_bitCount_0f7a4_49 (by decide) ?_
  refine AW_iand dJ6_bitCount_0f7a4_51 ?_
  exact AW_ireturn (ty := .int) dJ6_bitCount_0f7a4_52 rfl rfl h
set_option maxRecDepth 100000 in
theorem B_X5_house_0 {a1 : Int32} {μ : Mem} {P : RES → Mem → Prop}  (h : ∃ m1 : Mem, MetA M_X4_copyFrom [aR 0 1, aR 0 0] μ (rV m1) ∧ (∃ (r7 : Int32) (m4 : Mem), MetA M_X5_addHouse [aR 11 0, aI a1] m1 (rI r7 m4) ∧ ((∃ (r11 : Int32) (m8 : Mem), MetA M_X5_settle [aR 11 0, aI r7] m4 (rI r11 m8) ∧ (P (.inl (some (aI r11))) m8)) ∨ (∃ (E12 : String) (m13 : Mem), MetA M_X5_settle [aR 11 0, aI r7] m4 (rX E12 m13) ∧ P (.inr E12) m13)))) : AW M_X5_house 0 0 [some (aR 11 0), some (aI a1)] [] μ P := by
  refine AW_aload_n dX5_house_0 rfl ?_
  refine AW_getv (t := 11) (o := 0) (k := 1) (some (0, some 1)) (v := aR 0 1) dX5_house_1 ff_X5_16 rfl rfl rfl ?_
  refine AW_aload_n dX5_house_4 rfl ?_
  refine AW_getv (t := 11) (o := 0) (k := 0) (some (0, some 0)) (v := aR 0 0) dX5_house_5 ff_X5_12 rfl rfl rfl ?_
  obtain ⟨m1, h3, h2⟩ := h
  refine AW_callVV [aR 0 0] dX5_house_8 cv_X5_57 rfl rfl rfl (by decide) rfl (by decide) (Nat.le_of_ble_eq_true rfl) h3 ?_
  refine AW_aload_n dX5_house_11 rfl ?_
  refine AW_aload_n dX5_house_12 rfl ?_
  refine AW_iload_n dX5_house_13 rfl ?_
  obtain ⟨r7, m4, h6, h5⟩ := h2
  refine AW_callVI [aI a1] dX5_house_14 cv_X5_61 rfl rfl rfl (by decide) rfl (by decide) (Nat.le_of_ble_eq_true rfl) h6 ?_
  rcases h5 with h14 | h15
  · skip
    obtain ⟨r11, m8, h10, h9⟩ := h14
    refine AW_callVI [aI r7] dX5_house_17 cv_X5_65 rfl rfl rfl (by decide) rfl (by decide) (Nat.le_of_ble_eq_true rfl) h10 ?_
    exact AW_ireturn (ty := .int) dX5_house_20 rfl rfl h9
  · obtain ⟨E12, m13, h16, h17⟩ := h15
    exact AW_callVX [aI r7] dX5_house_17 cv_X5_65 rfl rfl rfl (by decide) (by decide) (Nat.le_of_ble_eq_true rfl) rfl h16 h17
set_option maxRecDepth 100000 in
theorem B_X5_sheet_0 {a1 : Int32} {a2 : Int32} {μ : Mem} {P : RES → Mem → Prop}  (h : ∃ m1 : Mem, MetA M_X4_copyFrom [aR 0 1, aR 0 0] μ (rV m1) ∧ (∃ (r7 : Int32) (m4 : Mem), MetA M_X5_addSheet [aR 11 0, aI a1, aI a2] m1 (rI r7 m4) ∧ ((∃ (r11 : Int32) (m8 : Mem), MetA M_X5_settle [aR 11 0, aI r7] m4 (rI r11 m8) ∧ (P (.inl (some (aI r11))) m8)) ∨ (∃ (E12 : String) (m13 : Mem), MetA M_X5_settle [aR 11 0, aI r7] m4 (rX E12 m13) ∧ P (.inr E12) m13)))) : AW M_X5_sheet 0 0 [some (aR 11 0), some (aI a1), some (aI a2)] [] μ P := by
  refine AW_aload_n dX5_sheet_0 rfl ?_
  refine AW_getv (t := 11) (o := 0) (k := 1) (some (0, some 1)) (v := aR 0 1) dX5_sheet_1 ff_X5_16 rfl rfl rfl ?_
  refine AW_aload_n dX5_sheet_4 rfl ?_
  refine AW_getv (t := 11) (o := 0) (k := 0) (some (0, some 0)) (v := aR 0 0) dX5_sheet_5 ff_X5_12 rfl rfl rfl ?_
  obtain ⟨m1, h3, h2⟩ := h
  refine AW_callVV [aR 0 0] dX5_sheet_8 cv_X5_57 rfl rfl rfl (by decide) rfl (by decide) (Nat.le_of_ble_eq_true rfl) h3 ?_
  refine AW_aload_n dX5_sheet_11 rfl ?_
  refine AW_aload_n dX5_sheet_12 rfl ?_
  refine AW_iload_n dX5_sheet_13 rfl ?_
  refine AW_iload_n dX5_sheet_14 rfl ?_
  obtain ⟨r7, m4, h6, h5⟩ := h2
  refine AW_callVI [aI a1, aI a2] dX5_sheet_15 cv_X5_68 rfl rfl rfl (by decide) rfl (by decide) (Nat.le_of_ble_eq_true rfl) h6 ?_
  rcases h5 with h14 | h15
  · skip
    obtain ⟨r11, m8, h10, h9⟩ := h14
    refine AW_callVI [aI r7] dX5_sheet_18 cv_X5_65 rfl rfl rfl (by decide) rfl (by decide) (Nat.le_of_ble_eq_true rfl) h10 ?_
    exact AW_ireturn (ty := .int) dX5_sheet_21 rfl rfl h9
  · obtain ⟨E12, m13, h16, h17⟩ := h15
    exact AW_callVX [aI r7] dX5_sheet_18 cv_X5_65 rfl rfl rfl (by decide) (by decide) (Nat.le_of_ble_eq_true rfl) rfl h16 h17
set_option maxRecDepth 100000 in
theorem B_X5_take_0 {a1 : Int32} {μ : Mem} {P : RES → Mem → Prop}  (h : ∃ m1 : Mem, MetA M_X4_copyFrom [aR 0 1, aR 0 0] μ (rV m1) ∧ (∃ (r7 : Int32) (m4 : Mem), MetA M_X5_takeSheet [aR 11 0, aI a1] m1 (rI r7 m4) ∧ ((∃ (r11 : Int32) (m8 : Mem), MetA M_X5_settle [aR 11 0, aI r7] m4 (rI r11 m8) ∧ (P (.inl (some (aI r11))) m8)) ∨ (∃ (E12 : String) (m13 : Mem), MetA M_X5_settle [aR 11 0, aI r7] m4 (rX E12 m13) ∧ P (.inr E12) m13)))) : AW M_X5_take 0 0 [some (aR 11 0), some (aI a1)] [] μ P := by
  refine AW_aload_n dX5_take_0 rfl ?_
  refine AW_getv (t := 11) (o := 0) (k := 1) (some (0, some 1)) (v := aR 0 1) dX5_take_1 ff_X5_16 rfl rfl rfl ?_
  refine AW_aload_n dX5_take_4 rfl ?_
  refine AW_getv (t := 11) (o := 0) (k := 0) (some (0, some 0)) (v := aR 0 0) dX5_take_5 ff_X5_12 rfl rfl rfl ?_
  obtain ⟨m1, h3, h2⟩ := h
  refine AW_callVV [aR 0 0] dX5_take_8 cv_X5_57 rfl rfl rfl (by decide) rfl (by decide) (Nat.le_of_ble_eq_true rfl) h3 ?_
  refine AW_aload_n dX5_take_11 rfl ?_
  refine AW_aload_n dX5_take_12 rfl ?_
  refine AW_iload_n dX5_take_13 rfl ?_
  obtain ⟨r7, m4, h6, h5⟩ := h2
  refine AW_callVI [aI a1] dX5_take_14 cv_X5_72 rfl rfl rfl (by decide) rfl (by decide) (Nat.le_of_ble_eq_true rfl) h6 ?_
  rcases h5 with h14 | h15
  · skip
    obtain ⟨r11, m8, h10, h9⟩ := h14
    refine AW_callVI [aI r7] dX5_take_17 cv_X5_65 rfl rfl rfl (by decide) rfl (by decide) (Nat.le_of_ble_eq_true rfl) h10 ?_
    exact AW_ireturn (ty := .int) dX5_take_20 rfl rfl h9
  · obtain ⟨E12, m13, h16, h17⟩ := h15
    exact AW_callVX [aI r7] dX5_take_17 cv_X5_65 rfl rfl rfl (by decide) (by decide) (Nat.le_of_ble_eq_true rfl) rfl h16 h17
set_option maxRecDepth 100000 in
theorem B_X5_set_0 {a1 : Int32} {a2 : Int32} {a3 : Int32} {μ : Mem} {P : RES → Mem → Prop}  (h : ∃ m1 : Mem, MetA M_X4_copyFrom [aR 0 1, aR 0 0] μ (rV m1) ∧ (∃ (r7 : Int32) (m4 : Mem), MetA M_X5_setLetter [aR 11 0, aI a1, aI a2, aI a3] m1 (rI r7 m4) ∧ ((∃ (r11 : Int32) (m8 : Mem), MetA M_X5_settle [aR 11 0, aI r7] m4 (rI r11 m8) ∧ (P (.inl (some (aI r11))) m8)) ∨ (∃ (E12 : String) (m13 : Mem), MetA M_X5_settle [aR 11 0, aI r7] m4 (rX E12 m13) ∧ P (.inr E12) m13)))) : AW M_X5_set 0 0 [some (aR 11 0), some (aI a1), some (aI a2), some (aI a3)] [] μ P := by
  refine AW_aload_n dX5_set_0 rfl ?_
  refine AW_getv (t := 11) (o := 0) (k := 1) (some (0, some 1)) (v := aR 0 1) dX5_set_1 ff_X5_16 rfl rfl rfl ?_
  refine AW_aload_n dX5_set_4 rfl ?_
  refine AW_getv (t := 11) (o := 0) (k := 0) (some (0, some 0)) (v := aR 0 0) dX5_set_5 ff_X5_12 rfl rfl rfl ?_
  obtain ⟨m1, h3, h2⟩ := h
  refine AW_callVV [aR 0 0] dX5_set_8 cv_X5_57 rfl rfl rfl (by decide) rfl (by decide) (Nat.le_of_ble_eq_true rfl) h3 ?_
  refine AW_aload_n dX5_set_11 rfl ?_
  refine AW_aload_n dX5_set_12 rfl ?_
  refine AW_iload_n dX5_set_13 rfl ?_
  refine AW_iload_n dX5_set_14 rfl ?_
  refine AW_iload_n dX5_set_15 rfl ?_
  obtain ⟨r7, m4, h6, h5⟩ := h2
  refine AW_callVI [aI a1, aI a2, aI a3] dX5_set_16 cv_X5_75 rfl rfl rfl (by decide) rfl (by decide) (Nat.le_of_ble_eq_true rfl) h6 ?_
  rcases h5 with h14 | h15
  · skip
    obtain ⟨r11, m8, h10, h9⟩ := h14
    refine AW_callVI [aI r7] dX5_set_19 cv_X5_65 rfl rfl rfl (by decide) rfl (by decide) (Nat.le_of_ble_eq_true rfl) h10 ?_
    exact AW_ireturn (ty := .int) dX5_set_22 rfl rfl h9
  · obtain ⟨E12, m13, h16, h17⟩ := h15
    exact AW_callVX [aI r7] dX5_set_19 cv_X5_65 rfl rfl rfl (by decide) (by decide) (Nat.le_of_ble_eq_true rfl) rfl h16 h17
set_option maxRecDepth 100000 in
theorem B_X5_license_0 {a1 : Int32} {a2 : Int32} {μ : Mem} {P : RES → Mem → Prop}  (h : ∃ m1 : Mem, MetA M_X4_copyFrom [aR 0 1, aR 0 0] μ (rV m1) ∧ (∃ (r7 : Int32) (m4 : Mem), MetA M_X5_sellLicence [aR 11 0, aI a1, aI a2] m1 (rI r7 m4) ∧ ((∃ (r11 : Int32) (m8 : Mem), MetA M_X5_settle [aR 11 0, aI r7] m4 (rI r11 m8) ∧ (P (.inl (some (aI r11))) m8)) ∨ (∃ (E12 : String) (m13 : Mem), MetA M_X5_settle [aR 11 0, aI r7] m4 (rX E12 m13) ∧ P (.inr E12) m13)))) : AW M_X5_license 0 0 [some (aR 11 0), some (aI a1), some (aI a2)] [] μ P := by
  refine AW_aload_n dX5_license_0 rfl ?_
  refine AW_getv (t := 11) (o := 0) (k := 1) (some (0, some 1)) (v := aR 0 1) dX5_license_1 ff_X5_16 rfl rfl rfl ?_
  refine AW_aload_n dX5_license_4 rfl ?_
  refine AW_getv (t := 11) (o := 0) (k := 0) (some (0, some 0)) (v := aR 0 0) dX5_license_5 ff_X5_12 rfl rfl rfl ?_
  obtain ⟨m1, h3, h2⟩ := h
  refine AW_callVV [aR 0 0] dX5_license_8 cv_X5_57 rfl rfl rfl (by decide) rfl (by decide) (Nat.le_of_ble_eq_true rfl) h3 ?_
  refine AW_aload_n dX5_license_11 rfl ?_
  refine AW_aload_n dX5_license_12 rfl ?_
  refine AW_iload_n dX5_license_13 rfl ?_
  refine AW_iload_n dX5_license_14 rfl ?_
  obtain ⟨r7, m4, h6, h5⟩ := h2
  refine AW_callVI [aI a1, aI a2] dX5_license_15 cv_X5_79 rfl rfl rfl (by decide) rfl (by decide) (Nat.le_of_ble_eq_true rfl) h6 ?_
  rcases h5 with h14 | h15
  · skip
    obtain ⟨r11, m8, h10, h9⟩ := h14
    refine AW_callVI [aI r7] dX5_license_18 cv_X5_65 rfl rfl rfl (by decide) rfl (by decide) (Nat.le_of_ble_eq_true rfl) h10 ?_
    exact AW_ireturn (ty := .int) dX5_license_21 rfl rfl h9
  · obtain ⟨E12, m13, h16, h17⟩ := h15
    exact AW_callVX [aI r7] dX5_license_18 cv_X5_65 rfl rfl rfl (by decide) (by decide) (Nat.le_of_ble_eq_true rfl) rfl h16 h17
set_option maxRecDepth 100000 in
theorem B_X5_correct_0 {a1 : Int32} {a2 : Int32} {μ : Mem} {P : RES → Mem → Prop}  (h : ∃ m1 : Mem, MetA M_X4_copyFrom [aR 0 1, aR 0 0] μ (rV m1) ∧ (∃ (r7 : Int32) (m4 : Mem), MetA M_X5_takeFine [aR 11 0, aI a1, aI a2] m1 (rI r7 m4) ∧ ((∃ (r11 : Int32) (m8 : Mem), MetA M_X5_settle [aR 11 0, aI r7] m4 (rI r11 m8) ∧ (P (.inl (some (aI r11))) m8)) ∨ (∃ (E12 : String) (m13 : Mem), MetA M_X5_settle [aR 11 0, aI r7] m4 (rX E12 m13) ∧ P (.inr E12) m13)))) : AW M_X5_correct 0 0 [some (aR 11 0), some (aI a1), some (aI a2)] [] μ P := by
  refine AW_aload_n dX5_correct_0 rfl ?_
  refine AW_getv (t := 11) (o := 0) (k := 1) (some (0, some 1)) (v := aR 0 1) dX5_correct_1 ff_X5_16 rfl rfl rfl ?_
  refine AW_aload_n dX5_correct_4 rfl ?_
  refine AW_getv (t := 11) (o := 0) (k := 0) (some (0, some 0)) (v := aR 0 0) dX5_correct_5 ff_X5_12 rfl rfl rfl ?_
  obtain ⟨m1, h3, h2⟩ := h
  refine AW_callVV [aR 0 0] dX5_correct_8 cv_X5_57 rfl rfl rfl (by decide) rfl (by decide) (Nat.le_of_ble_eq_true rfl) h3 ?_
  refine AW_aload_n dX5_correct_11 rfl ?_
  refine AW_aload_n dX5_correct_12 rfl ?_
  refine AW_iload_n dX5_correct_13 rfl ?_
  refine AW_iload_n dX5_correct_14 rfl ?_
  obtain ⟨r7, m4, h6, h5⟩ := h2
  refine AW_callVI [aI a1, aI a2] dX5_correct_15 cv_X5_82 rfl rfl rfl (by decide) rfl (by decide) (Nat.le_of_ble_eq_true rfl) h6 ?_
  rcases h5 with h14 | h15
  · skip
    obtain ⟨r11, m8, h10, h9⟩ := h14
    refine AW_callVI [aI r7] dX5_correct_18 cv_X5_65 rfl rfl rfl (by decide) rfl (by decide) (Nat.le_of_ble_eq_true rfl) h10 ?_
    exact AW_ireturn (ty := .int) dX5_correct_21 rfl rfl h9
  · obtain ⟨E12, m13, h16, h17⟩ := h15
    exact AW_callVX [aI r7] dX5_correct_18 cv_X5_65 rfl rfl rfl (by decide) (by decide) (Nat.le_of_ble_eq_true rfl) rfl h16 h17
set_option maxRecDepth 100000 in
theorem B_X5_reader_0 {a1 : Int32} {a2 : Int32} {μ : Mem} {P : RES → Mem → Prop}  (h : ∃ m1 : Mem, MetA M_X4_copyFrom [aR 0 1, aR 0 0] μ (rV m1) ∧ (∃ (r7 : Int32) (m4 : Mem), MetA M_X5_addReader [aR 11 0, aI a1, aI a2] m1 (rI r7 m4) ∧ ((∃ (r11 : Int32) (m8 : Mem), MetA M_X5_settle [aR 11 0, aI r7] m4 (rI r11 m8) ∧ (P (.inl (some (aI r11))) m8)) ∨ (∃ (E12 : String) (m13 : Mem), MetA M_X5_settle [aR 11 0, aI r7] m4 (rX E12 m13) ∧ P (.inr E12) m13)))) : AW M_X5_reader 0 0 [some (aR 11 0), some (aI a1), some (aI a2)] [] μ P := by
  refine AW_aload_n dX5_reader_0 rfl ?_
  refine AW_getv (t := 11) (o := 0) (k := 1) (some (0, some 1)) (v := aR 0 1) dX5_reader_1 ff_X5_16 rfl rfl rfl ?_
  refine AW_aload_n dX5_reader_4 rfl ?_
  refine AW_getv (t := 11) (o := 0) (k := 0) (some (0, some 0)) (v := aR 0 0) dX5_reader_5 ff_X5_12 rfl rfl rfl ?_
  obtain ⟨m1, h3, h2⟩ := h
  refine AW_callVV [aR 0 0] dX5_reader_8 cv_X5_57 rfl rfl rfl (by decide) rfl (by decide) (Nat.le_of_ble_eq_true rfl) h3 ?_
  refine AW_aload_n dX5_reader_11 rfl ?_
  refine AW_aload_n dX5_reader_12 rfl ?_
  refine AW_iload_n dX5_reader_13 rfl ?_
  refine AW_iload_n dX5_reader_14 rfl ?_
  obtain ⟨r7, m4, h6, h5⟩ := h2
  refine AW_callVI [aI a1, aI a2] dX5_reader_15 cv_X5_85 rfl rfl rfl (by decide) rfl (by decide) (Nat.le_of_ble_eq_true rfl) h6 ?_
  rcases h5 with h14 | h15
  · skip
    obtain ⟨r11, m8, h10, h9⟩ := h14
    refine AW_callVI [aI r7] dX5_reader_18 cv_X5_65 rfl rfl rfl (by decide) rfl (by decide) (Nat.le_of_ble_eq_true rfl) h10 ?_
    exact AW_ireturn (ty := .int) dX5_reader_21 rfl rfl h9
  · obtain ⟨E12, m13, h16, h17⟩ := h15
    exact AW_callVX [aI r7] dX5_reader_18 cv_X5_65 rfl rfl rfl (by decide) (by decide) (Nat.le_of_ble_eq_true rfl) rfl h16 h17
set_option maxRecDepth 100000 in
theorem B_X5_edition_0  {μ : Mem} {P : RES → Mem → Prop}  (h : ∃ m1 : Mem, MetA M_X4_copyFrom [aR 0 1, aR 0 0] μ (rV m1) ∧ (∃ (r7 : Int32) (m4 : Mem), MetA M_X5_printEdition [aR 11 0] m1 (rI r7 m4) ∧ ((∃ (r11 : Int32) (m8 : Mem), MetA M_X5_settle [aR 11 0, aI r7] m4 (rI r11 m8) ∧ (P (.inl (some (aI r11))) m8)) ∨ (∃ (E12 : String) (m13 : Mem), MetA M_X5_settle [aR 11 0, aI r7] m4 (rX E12 m13) ∧ P (.inr E12) m13)))) : AW M_X5_edition 0 0 [some (aR 11 0)] [] μ P := by
  refine AW_aload_n dX5_edition_0 rfl ?_
  refine AW_getv (t := 11) (o := 0) (k := 1) (some (0, some 1)) (v := aR 0 1) dX5_edition_1 ff_X5_16 rfl rfl rfl ?_
  refine AW_aload_n dX5_edition_4 rfl ?_
  refine AW_getv (t := 11) (o := 0) (k := 0) (some (0, some 0)) (v := aR 0 0) dX5_edition_5 ff_X5_12 rfl rfl rfl ?_
  obtain ⟨m1, h3, h2⟩ := h
  refine AW_callVV [aR 0 0] dX5_edition_8 cv_X5_57 rfl rfl rfl (by decide) rfl (by decide) (Nat.le_of_ble_eq_true rfl) h3 ?_
  refine AW_aload_n dX5_edition_11 rfl ?_
  refine AW_aload_n dX5_edition_12 rfl ?_
  obtain ⟨r7, m4, h6, h5⟩ := h2
  refine AW_callVI [] dX5_edition_13 cv_X5_88 rfl rfl rfl (by decide) rfl (by decide) (Nat.le_of_ble_eq_true rfl) h6 ?_
  rcases h5 with h14 | h15
  · skip
    obtain ⟨r11, m8, h10, h9⟩ := h14
    refine AW_callVI [aI r7] dX5_edition_16 cv_X5_65 rfl rfl rfl (by decide) rfl (by decide) (Nat.le_of_ble_eq_true rfl) h10 ?_
    exact AW_ireturn (ty := .int) dX5_edition_19 rfl rfl h9
  · obtain ⟨E12, m13, h16, h17⟩ := h15
    exact AW_callVX [aI r7] dX5_edition_16 cv_X5_65 rfl rfl rfl (by decide) (by decide) (Nat.le_of_ble_eq_true rfl) rfl h16 h17
set_option maxRecDepth 100000 in
theorem B_X5_day_0  {μ : Mem} {P : RES → Mem → Prop}  (h : ∃ m1 : Mem, MetA M_X4_copyFrom [aR 0 1, aR 0 0] μ (rV m1) ∧ (∃ (r7 : Int32) (m4 : Mem), MetA M_X4_passDay [aR 0 0] m1 (rI r7 m4) ∧ ((∃ (r11 : Int32) (m8 : Mem), MetA M_X5_settle [aR 11 0, aI r7] m4 (rI r11 m8) ∧ (P (.inl (some (aI r11))) m8)) ∨ (∃ (E12 : String) (m13 : Mem), MetA M_X5_settle [aR 11 0, aI r7] m4 (rX E12 m13) ∧ P (.inr E12) m13)))) : AW M_X5_day 0 0 [some (aR 11 0)] [] μ P := by
  refine AW_aload_n dX5_day_0 rfl ?_
  refine AW_getv (t := 11) (o := 0) (k := 1) (some (0, some 1)) (v := aR 0 1) dX5_day_1 ff_X5_16 rfl rfl rfl ?_
  refine AW_aload_n dX5_day_4 rfl ?_
  refine AW_getv (t := 11) (o := 0) (k := 0) (some (0, some 0)) (v := aR 0 0) dX5_day_5 ff_X5_12 rfl rfl rfl ?_
  obtain ⟨m1, h3, h2⟩ := h
  refine AW_callVV [aR 0 0] dX5_day_8 cv_X5_57 rfl rfl rfl (by decide) rfl (by decide) (Nat.le_of_ble_eq_true rfl) h3 ?_
  refine AW_aload_n dX5_day_11 rfl ?_
  refine AW_aload_n dX5_day_12 rfl ?_
  refine AW_getv (t := 11) (o := 0) (k := 0) (some (0, some 0)) (v := aR 0 0) dX5_day_13 ff_X5_12 rfl rfl rfl ?_
  obtain ⟨r7, m4, h6, h5⟩ := h2
  refine AW_callVI [] dX5_day_16 cv_X5_92 rfl rfl rfl (by decide) rfl (by decide) (Nat.le_of_ble_eq_true rfl) h6 ?_
  rcases h5 with h14 | h15
  · skip
    obtain ⟨r11, m8, h10, h9⟩ := h14
    refine AW_callVI [aI r7] dX5_day_19 cv_X5_65 rfl rfl rfl (by decide) rfl (by decide) (Nat.le_of_ble_eq_true rfl) h10 ?_
    exact AW_ireturn (ty := .int) dX5_day_22 rfl rfl h9
  · obtain ⟨E12, m13, h16, h17⟩ := h15
    exact AW_callVX [aI r7] dX5_day_19 cv_X5_65 rfl rfl rfl (by decide) (by decide) (Nat.le_of_ble_eq_true rfl) rfl h16 h17
set_option maxRecDepth 100000 in
theorem B_X5_houseOf_0 {a1 : Int32} {a2 : Int32} {μ : Mem} {P : RES → Mem → Prop}  (h : ∃ (r4 : Int32) (m1 : Mem), MetA M_X4_hasHouse [aR 0 0, aI a1] μ (rI r4 m1) ∧ ((¬ r4 = 0 → (a2 < 0 → P (.inr "java/lang/IllegalArgumentException") m1) ∧ (¬ a2 < 0 → (a2 ≤ 6 → ∃ (r17 : Int32) (m14 : Mem), MetA M_X4_numberOfHouse [aR 0 0, aI a1, aI a2] m1 (rI r17 m14) ∧ (P (.inl (some (aI r17))) m14)) ∧ (¬ a2 ≤ 6 → P (.inr "java/lang/IllegalArgumentException") m1))) ∧ (r4 = 0 → P (.inr "java/lang/IndexOutOfBoundsException") m1))) : AW M_X5_houseOf 0 0 [some (aR 11 0), some (aI a1), some (aI a2)] [] μ P := by
  refine AW_aload_n dX5_houseOf_0 rfl ?_
  refine AW_getv (t := 11) (o := 0) (k := 0) (some (0, some 0)) (v := aR 0 0) dX5_houseOf_1 ff_X5_12 rfl rfl rfl ?_
  refine AW_iload_n dX5_houseOf_4 rfl ?_
  obtain ⟨r4, m1, h3, h2⟩ := h
  refine AW_callVI [aI a1] dX5_houseOf_5 cv_X5_95 rfl rfl rfl (by decide) rfl (by decide) (Nat.le_of_ble_eq_true rfl) h3 ?_
  refine AW_if_ne (tgt := 21) dX5_houseOf_8 (by decide) (fun q7 => ?_) (fun q7 => ?_)
  · have h5 := h2.1 q7
    refine AW_iload_n dX5_houseOf_21 rfl ?_
    refine AW_if_lt (tgt := 31) dX5_houseOf_22 (by decide) (fun q10 => ?_) (fun q10 => ?_)
    · have h8 := h5.1 q10
      exact AW_throw tf_106_108_110 dX5_houseOf_31 dX5_houseOf_34 dX5_houseOf_35 dX5_houseOf_37 dX5_houseOf_40 (by decide) (by decide) rfl (Nat.le_of_ble_eq_true rfl) h8
    · have h9 := h5.2 q10
      refine AW_iload_n dX5_houseOf_25 rfl ?_
      refine AW_bipush (v := 6) dX5_houseOf_26 (by decide) ?_
      refine AW_icmp_le (tgt := 41) dX5_houseOf_28 (by decide) (fun q13 => ?_) (fun q13 => ?_)
      · have h11 := h9.1 q13
        refine AW_aload_n dX5_houseOf_41 rfl ?_
        refine AW_getv (t := 11) (o := 0) (k := 0) (some (0, some 0)) (v := aR 0 0) dX5_houseOf_42 ff_X5_12 rfl rfl rfl ?_
        refine AW_iload_n dX5_houseOf_45 rfl ?_
        refine AW_iload_n dX5_houseOf_46 rfl ?_
        obtain ⟨r17, m14, h16, h15⟩ := h11
        refine AW_callVI [aI a1, aI a2] dX5_houseOf_47 cv_X5_111 rfl rfl rfl (by decide) rfl (by decide) (Nat.le_of_ble_eq_true rfl) h16 ?_
        exact AW_ireturn (ty := .int) dX5_houseOf_50 rfl rfl h15
      · have h12 := h9.2 q13
        exact AW_throw tf_106_108_110 dX5_houseOf_31 dX5_houseOf_34 dX5_houseOf_35 dX5_houseOf_37 dX5_houseOf_40 (by decide) (by decide) rfl (Nat.le_of_ble_eq_true rfl) h12
  · have h6 := h2.2 q7
    exact AW_throw tf_99_101_103 dX5_houseOf_11 dX5_houseOf_14 dX5_houseOf_15 dX5_houseOf_17 dX5_houseOf_20 (by decide) (by decide) rfl (Nat.le_of_ble_eq_true rfl) h6
set_option maxRecDepth 100000 in
theorem B_X5_sheetOf_0 {a1 : Int32} {a2 : Int32} {μ : Mem} {P : RES → Mem → Prop}  (h : ∃ (r4 : Int32) (m1 : Mem), MetA M_X4_hasSheet [aR 0 0, aI a1] μ (rI r4 m1) ∧ ((¬ r4 = 0 → (a2 < 0 → P (.inr "java/lang/IllegalArgumentException") m1) ∧ (¬ a2 < 0 → (a2 ≤ 5 → ∃ (r17 : Int32) (m14 : Mem), MetA M_X4_numberOfSheet [aR 0 0, aI a1, aI a2] m1 (rI r17 m14) ∧ (P (.inl (some (aI r17))) m14)) ∧ (¬ a2 ≤ 5 → P (.inr "java/lang/IllegalArgumentException") m1))) ∧ (r4 = 0 → P (.inr "java/lang/IndexOutOfBoundsException") m1))) : AW M_X5_sheetOf 0 0 [some (aR 11 0), some (aI a1), some (aI a2)] [] μ P := by
  refine AW_aload_n dX5_sheetOf_0 rfl ?_
  refine AW_getv (t := 11) (o := 0) (k := 0) (some (0, some 0)) (v := aR 0 0) dX5_sheetOf_1 ff_X5_12 rfl rfl rfl ?_
  refine AW_iload_n dX5_sheetOf_4 rfl ?_
  obtain ⟨r4, m1, h3, h2⟩ := h
  refine AW_callVI [aI a1] dX5_sheetOf_5 cv_X5_114 rfl rfl rfl (by decide) rfl (by decide) (Nat.le_of_ble_eq_true rfl) h3 ?_
  refine AW_if_ne (tgt := 21) dX5_sheetOf_8 (by decide) (fun q7 => ?_) (fun q7 => ?_)
  · have h5 := h2.1 q7
    refine AW_iload_n dX5_sheetOf_21 rfl ?_
    refine AW_if_lt (tgt := 30) dX5_sheetOf_22 (by decide) (fun q10 => ?_) (fun q10 => ?_)
    · have h8 := h5.1 q10
      exact AW_throw tf_106_119_110 dX5_sheetOf_30 dX5_sheetOf_33 dX5_sheetOf_34 dX5_sheetOf_36 dX5_sheetOf_39 (by decide) (by decide) rfl (Nat.le_of_ble_eq_true rfl) h8
    · have h9 := h5.2 q10
      refine AW_iload_n dX5_sheetOf_25 rfl ?_
      refine AW_iconst (v := 5) dX5_sheetOf_26 (by decide) ?_
      refine AW_icmp_le (tgt := 40) dX5_sheetOf_27 (by decide) (fun q13 => ?_) (fun q13 => ?_)
      · have h11 := h9.1 q13
        refine AW_aload_n dX5_sheetOf_40 rfl ?_
        refine AW_getv (t := 11) (o := 0) (k := 0) (some (0, some 0)) (v := aR 0 0) dX5_sheetOf_41 ff_X5_12 rfl rfl rfl ?_
        refine AW_iload_n dX5_sheetOf_44 rfl ?_
        refine AW_iload_n dX5_sheetOf_45 rfl ?_
        obtain ⟨r17, m14, h16, h15⟩ := h11
        refine AW_callVI [aI a1, aI a2] dX5_sheetOf_46 cv_X5_121 rfl rfl rfl (by decide) rfl (by decide) (Nat.le_of_ble_eq_true rfl) h16 ?_
        exact AW_ireturn (ty := .int) dX5_sheetOf_49 rfl rfl h15
      · have h12 := h9.2 q13
        exact AW_throw tf_106_119_110 dX5_sheetOf_30 dX5_sheetOf_33 dX5_sheetOf_34 dX5_sheetOf_36 dX5_sheetOf_39 (by decide) (by decide) rfl (Nat.le_of_ble_eq_true rfl) h12
  · have h6 := h2.2 q7
    exact AW_throw tf_99_117_103 dX5_sheetOf_11 dX5_sheetOf_14 dX5_sheetOf_15 dX5_sheetOf_17 dX5_sheetOf_20 (by decide) (by decide) rfl (Nat.le_of_ble_eq_true rfl) h6
set_option maxRecDepth 100000 in
theorem B_X5_letterAt_0 {a1 : Int32} {a2 : Int32} {a3 : Int32} {μ : Mem} {P : RES → Mem → Prop}  (h : ∃ (r4 : Int32) (m1 : Mem), MetA M_X4_hasPlace [aR 0 0, aI a1, aI a2] μ (rI r4 m1) ∧ ((¬ r4 = 0 → (a3 = 0 → ∃ (r14 : Int32) (m11 : Mem), MetA M_X4_placedAt [aR 0 0, aI a1, aI a2] m1 (rI r14 m11) ∧ (∃ (r18 : Int32) (m15 : Mem), MetA M_X5_letterOf [aI r14] m11 (rI r18 m15) ∧ (narrow .char (.int r18) = .int r18 ∧ P (.inl (some (aI r18))) m15))) ∧ (¬ a3 = 0 → ∃ (r24 : Int32) (m21 : Mem), MetA M_X4_rightAt [aR 0 0, aI a1, aI a2] m1 (rI r24 m21) ∧ (∃ (r28 : Int32) (m25 : Mem), MetA M_X5_letterOf [aI r24] m21 (rI r28 m25) ∧ (narrow .char (.int r28) = .int r28 ∧ P (.inl (some (aI r28))) m25)))) ∧ (r4 = 0 → P (.inr "java/lang/IndexOutOfBoundsException") m1))) : AW M_X5_letterAt 0 0 [some (aR 11 0), some (aI a1), some (aI a2), some (aI a3)] [] μ P := by
  refine AW_aload_n dX5_letterAt_0 rfl ?_
  refine AW_getv (t := 11) (o := 0) (k := 0) (some (0, some 0)) (v := aR 0 0) dX5_letterAt_1 ff_X5_12 rfl rfl rfl ?_
  refine AW_iload_n dX5_letterAt_4 rfl ?_
  refine AW_iload_n dX5_letterAt_5 rfl ?_
  obtain ⟨r4, m1, h3, h2⟩ := h
  refine AW_callVI [aI a1, aI a2] dX5_letterAt_6 cv_X5_124 rfl rfl rfl (by decide) rfl (by decide) (Nat.le_of_ble_eq_true rfl) h3 ?_
  refine AW_if_ne (tgt := 22) dX5_letterAt_9 (by decide) (fun q7 => ?_) (fun q7 => ?_)
  · have h5 := h2.1 q7
    refine AW_iload_n dX5_letterAt_22 rfl ?_
    refine AW_if_eq (tgt := 38) dX5_letterAt_23 (by decide) (fun q10 => ?_) (fun q10 => ?_)
    · have h8 := h5.1 q10
      refine AW_aload_n dX5_letterAt_38 rfl ?_
      refine AW_getv (t := 11) (o := 0) (k := 0) (some (0, some 0)) (v := aR 0 0) dX5_letterAt_39 ff_X5_12 rfl rfl rfl ?_
      refine AW_iload_n dX5_letterAt_42 rfl ?_
      refine AW_iload_n dX5_letterAt_43 rfl ?_
      obtain ⟨r14, m11, h13, h12⟩ := h8
      refine AW_callVI [aI a1, aI a2] dX5_letterAt_44 cv_X5_133 rfl rfl rfl (by decide) rfl (by decide) (Nat.le_of_ble_eq_true rfl) h13 ?_
      obtain ⟨r18, m15, h17, h16⟩ := h12
      refine AW_callSI [aI r14] dX5_letterAt_47 cs_X5_136 rfl rfl (by decide) rfl (by decide) (Nat.le_of_ble_eq_true rfl) h17 ?_
      obtain ⟨h19, h20⟩ := h16
      exact AW_ireturn (ty := .char) dX5_letterAt_50 rfl h19 h20
    · have h9 := h5.2 q10
      refine AW_aload_n dX5_letterAt_26 rfl ?_
      refine AW_getv (t := 11) (o := 0) (k := 0) (some (0, some 0)) (v := aR 0 0) dX5_letterAt_27 ff_X5_12 rfl rfl rfl ?_
      refine AW_iload_n dX5_letterAt_30 rfl ?_
      refine AW_iload_n dX5_letterAt_31 rfl ?_
      obtain ⟨r24, m21, h23, h22⟩ := h9
      refine AW_callVI [aI a1, aI a2] dX5_letterAt_32 cv_X5_130 rfl rfl rfl (by decide) rfl (by decide) (Nat.le_of_ble_eq_true rfl) h23 ?_
      refine AW_goto (tgt := 47) dX5_letterAt_35 (by decide) ?_
      obtain ⟨r28, m25, h27, h26⟩ := h22
      refine AW_callSI [aI r24] dX5_letterAt_47 cs_X5_136 rfl rfl (by decide) rfl (by decide) (Nat.le_of_ble_eq_true rfl) h27 ?_
      obtain ⟨h29, h30⟩ := h26
      exact AW_ireturn (ty := .char) dX5_letterAt_50 rfl h29 h30
  · have h6 := h2.2 q7
    exact AW_throw tf_99_128_103 dX5_letterAt_12 dX5_letterAt_15 dX5_letterAt_16 dX5_letterAt_18 dX5_letterAt_21 (by decide) (by decide) rfl (Nat.le_of_ble_eq_true rfl) h6
set_option maxRecDepth 100000 in
theorem B_X5_markAt_0 {a1 : Int32} {a2 : Int32} {μ : Mem} {P : RES → Mem → Prop}  (h : ∃ (r4 : Int32) (m1 : Mem), MetA M_X4_hasPlace [aR 0 0, aI a1, aI a2] μ (rI r4 m1) ∧ ((¬ r4 = 0 → ∃ (r11 : Int32) (m8 : Mem), MetA M_X4_levelAt [aR 0 0, aI a1, aI a2] m1 (rI r11 m8) ∧ (P (.inl (some (aI r11))) m8)) ∧ (r4 = 0 → P (.inr "java/lang/IndexOutOfBoundsException") m1))) : AW M_X5_markAt 0 0 [some (aR 11 0), some (aI a1), some (aI a2)] [] μ P := by
  refine AW_aload_n dX5_markAt_0 rfl ?_
  refine AW_getv (t := 11) (o := 0) (k := 0) (some (0, some 0)) (v := aR 0 0) dX5_markAt_1 ff_X5_12 rfl rfl rfl ?_
  refine AW_iload_n dX5_markAt_4 rfl ?_
  refine AW_iload_n dX5_markAt_5 rfl ?_
  obtain ⟨r4, m1, h3, h2⟩ := h
  refine AW_callVI [aI a1, aI a2] dX5_markAt_6 cv_X5_124 rfl rfl rfl (by decide) rfl (by decide) (Nat.le_of_ble_eq_true rfl) h3 ?_
  refine AW_if_ne (tgt := 22) dX5_markAt_9 (by decide) (fun q7 => ?_) (fun q7 => ?_)
  · have h5 := h2.1 q7
    refine AW_aload_n dX5_markAt_22 rfl ?_
    refine AW_getv (t := 11) (o := 0) (k := 0) (some (0, some 0)) (v := aR 0 0) dX5_markAt_23 ff_X5_12 rfl rfl rfl ?_
    refine AW_iload_n dX5_markAt_26 rfl ?_
    refine AW_iload_n dX5_markAt_27 rfl ?_
    obtain ⟨r11, m8, h10, h9⟩ := h5
    refine AW_callVI [aI a1, aI a2] dX5_markAt_28 cv_X5_140 rfl rfl rfl (by decide) rfl (by decide) (Nat.le_of_ble_eq_true rfl) h10 ?_
    exact AW_ireturn (ty := .int) dX5_markAt_31 rfl rfl h9
  · have h6 := h2.2 q7
    exact AW_throw tf_99_128_103 dX5_markAt_12 dX5_markAt_15 dX5_markAt_16 dX5_markAt_18 dX5_markAt_21 (by decide) (by decide) rfl (Nat.le_of_ble_eq_true rfl) h6
set_option maxRecDepth 100000 in
theorem B_X5_fine_0 {a1 : Int32} {a2 : Int32} {a3 : Int32} {μ : Mem} {P : RES → Mem → Prop}  (h : ∃ (r4 : Int32) (m1 : Mem), MetA M_X4_hasPlace [aR 0 0, aI a1, aI a2] μ (rI r4 m1) ∧ ((¬ r4 = 0 → (a3 = 0 → ∃ (r14 : Int32) (m11 : Mem), MetA M_X4_fineByRules [aR 0 0, aI a1, aI a2] m1 (rI r14 m11) ∧ (P (.inl (some (aI r14))) m11)) ∧ (¬ a3 = 0 → ∃ (r18 : Int32) (m15 : Mem), MetA M_X4_fineAtOnce [aR 0 0, aI a1, aI a2] m1 (rI r18 m15) ∧ (P (.inl (some (aI r18))) m15))) ∧ (r4 = 0 → P (.inr "java/lang/IndexOutOfBoundsException") m1))) : AW M_X5_fine 0 0 [some (aR 11 0), some (aI a1), some (aI a2), some (aI a3)] [] μ P := by
  refine AW_aload_n dX5_fine_0 rfl ?_
  refine AW_getv (t := 11) (o := 0) (k := 0) (some (0, some 0)) (v := aR 0 0) dX5_fine_1 ff_X5_12 rfl rfl rfl ?_
  refine AW_iload_n dX5_fine_4 rfl ?_
  refine AW_iload_n dX5_fine_5 rfl ?_
  obtain ⟨r4, m1, h3, h2⟩ := h
  refine AW_callVI [aI a1, aI a2] dX5_fine_6 cv_X5_124 rfl rfl rfl (by decide) rfl (by decide) (Nat.le_of_ble_eq_true rfl) h3 ?_
  refine AW_if_ne (tgt := 22) dX5_fine_9 (by decide) (fun q7 => ?_) (fun q7 => ?_)
  · have h5 := h2.1 q7
    refine AW_iload_n dX5_fine_22 rfl ?_
    refine AW_if_eq (tgt := 38) dX5_fine_23 (by decide) (fun q10 => ?_) (fun q10 => ?_)
    · have h8 := h5.1 q10
      refine AW_aload_n dX5_fine_38 rfl ?_
      refine AW_getv (t := 11) (o := 0) (k := 0) (some (0, some 0)) (v := aR 0 0) dX5_fine_39 ff_X5_12 rfl rfl rfl ?_
      refine AW_iload_n dX5_fine_42 rfl ?_
      refine AW_iload_n dX5_fine_43 rfl ?_
      obtain ⟨r14, m11, h13, h12⟩ := h8
      refine AW_callVI [aI a1, aI a2] dX5_fine_44 cv_X5_146 rfl rfl rfl (by decide) rfl (by decide) (Nat.le_of_ble_eq_true rfl) h13 ?_
      exact AW_ireturn (ty := .int) dX5_fine_47 rfl rfl h12
    · have h9 := h5.2 q10
      refine AW_aload_n dX5_fine_26 rfl ?_
      refine AW_getv (t := 11) (o := 0) (k := 0) (some (0, some 0)) (v := aR 0 0) dX5_fine_27 ff_X5_12 rfl rfl rfl ?_
      refine AW_iload_n dX5_fine_30 rfl ?_
      refine AW_iload_n dX5_fine_31 rfl ?_
      obtain ⟨r18, m15, h17, h16⟩ := h9
      refine AW_callVI [aI a1, aI a2] dX5_fine_32 cv_X5_143 rfl rfl rfl (by decide) rfl (by decide) (Nat.le_of_ble_eq_true rfl) h17 ?_
      refine AW_goto (tgt := 47) dX5_fine_35 (by decide) ?_
      exact AW_ireturn (ty := .int) dX5_fine_47 rfl rfl h16
  · have h6 := h2.2 q7
    exact AW_throw tf_99_128_103 dX5_fine_12 dX5_fine_15 dX5_fine_16 dX5_fine_18 dX5_fine_21 (by decide) (by decide) rfl (Nat.le_of_ble_eq_true rfl) h6
set_option maxRecDepth 100000 in
theorem B_X5_fines_0 {a1 : Int32} {a2 : Int32} {μ : Mem} {P : RES → Mem → Prop}  (h : ∃ (r4 : Int32) (m1 : Mem), MetA M_X4_hasSheet [aR 0 0, aI a1] μ (rI r4 m1) ∧ ((¬ r4 = 0 → (a2 = 0 → ∃ (r14 : Int32) (m11 : Mem), MetA M_X4_finesByPlace [aR 0 0, aI a1] m1 (rI r14 m11) ∧ (P (.inl (some (aI r14))) m11)) ∧ (¬ a2 = 0 → ∃ (r18 : Int32) (m15 : Mem), MetA M_X5_finesInThought [aR 11 0, aI a1] m1 (rI r18 m15) ∧ (P (.inl (some (aI r18))) m15))) ∧ (r4 = 0 → P (.inr "java/lang/IndexOutOfBoundsException") m1))) : AW M_X5_fines 0 0 [some (aR 11 0), some (aI a1), some (aI a2)] [] μ P := by
  refine AW_aload_n dX5_fines_0 rfl ?_
  refine AW_getv (t := 11) (o := 0) (k := 0) (some (0, some 0)) (v := aR 0 0) dX5_fines_1 ff_X5_12 rfl rfl rfl ?_
  refine AW_iload_n dX5_fines_4 rfl ?_
  obtain ⟨r4, m1, h3, h2⟩ := h
  refine AW_callVI [aI a1] dX5_fines_5 cv_X5_114 rfl rfl rfl (by decide) rfl (by decide) (Nat.le_of_ble_eq_true rfl) h3 ?_
  refine AW_if_ne (tgt := 21) dX5_fines_8 (by decide) (fun q7 => ?_) (fun q7 => ?_)
  · have h5 := h2.1 q7
    refine AW_iload_n dX5_fines_21 rfl ?_
    refine AW_if_eq (tgt := 33) dX5_fines_22 (by decide) (fun q10 => ?_) (fun q10 => ?_)
    · have h8 := h5.1 q10
      refine AW_aload_n dX5_fines_33 rfl ?_
      refine AW_getv (t := 11) (o := 0) (k := 0) (some (0, some 0)) (v := aR 0 0) dX5_fines_34 ff_X5_12 rfl rfl rfl ?_
      refine AW_iload_n dX5_fines_37 rfl ?_
      obtain ⟨r14, m11, h13, h12⟩ := h8
      refine AW_callVI [aI a1] dX5_fines_38 cv_X5_152 rfl rfl rfl (by decide) rfl (by decide) (Nat.le_of_ble_eq_true rfl) h13 ?_
      exact AW_ireturn (ty := .int) dX5_fines_41 rfl rfl h12
    · have h9 := h5.2 q10
      refine AW_aload_n dX5_fines_25 rfl ?_
      refine AW_iload_n dX5_fines_26 rfl ?_
      obtain ⟨r18, m15, h17, h16⟩ := h9
      refine AW_callVI [aI a1] dX5_fines_27 cv_X5_149 rfl rfl rfl (by decide) rfl (by decide) (Nat.le_of_ble_eq_true rfl) h17 ?_
      refine AW_goto (tgt := 41) dX5_fines_30 (by decide) ?_
      exact AW_ireturn (ty := .int) dX5_fines_41 rfl rfl h16
  · have h6 := h2.2 q7
    exact AW_throw tf_99_117_103 dX5_fines_11 dX5_fines_14 dX5_fines_15 dX5_fines_17 dX5_fines_20 (by decide) (by decide) rfl (Nat.le_of_ble_eq_true rfl) h6
set_option maxRecDepth 100000 in
theorem B_X5_canMend_0 {a1 : Int32} {μ : Mem} {P : RES → Mem → Prop}  (h : ∃ (r4 : Int32) (m1 : Mem), MetA M_X4_hasSheet [aR 0 0, aI a1] μ (rI r4 m1) ∧ ((¬ r4 = 0 → ∃ (r11 : Int32) (m8 : Mem), MetA M_X4_finesByPlace [aR 0 0, aI a1] m1 (rI r11 m8) ∧ (vp_in a1 8 ∧ (vp_in (m8 4 0 a1.toNatClampNeg) 4 ∧ (((m8 1 0 (m8 4 0 a1.toNatClampNeg).toNatClampNeg) < r11 → P (.inl (some (aI 0))) m8) ∧ (¬ (m8 1 0 (m8 4 0 a1.toNatClampNeg).toNatClampNeg) < r11 → P (.inl (some (aI 1))) m8))))) ∧ (r4 = 0 → P (.inr "java/lang/IndexOutOfBoundsException") m1))) : AW M_X5_canMend 0 0 [some (aR 11 0), some (aI a1)] [] μ P := by
  refine AW_aload_n dX5_canMend_0 rfl ?_
  refine AW_getv (t := 11) (o := 0) (k := 0) (some (0, some 0)) (v := aR 0 0) dX5_canMend_1 ff_X5_12 rfl rfl rfl ?_
  refine AW_iload_n dX5_canMend_4 rfl ?_
  obtain ⟨r4, m1, h3, h2⟩ := h
  refine AW_callVI [aI a1] dX5_canMend_5 cv_X5_114 rfl rfl rfl (by decide) rfl (by decide) (Nat.le_of_ble_eq_true rfl) h3 ?_
  refine AW_if_ne (tgt := 21) dX5_canMend_8 (by decide) (fun q7 => ?_) (fun q7 => ?_)
  · have h5 := h2.1 q7
    refine AW_aload_n dX5_canMend_21 rfl ?_
    refine AW_getv (t := 11) (o := 0) (k := 0) (some (0, some 0)) (v := aR 0 0) dX5_canMend_22 ff_X5_12 rfl rfl rfl ?_
    refine AW_iload_n dX5_canMend_25 rfl ?_
    obtain ⟨r11, m8, h10, h9⟩ := h5
    refine AW_callVI [aI a1] dX5_canMend_26 cv_X5_152 rfl rfl rfl (by decide) rfl (by decide) (Nat.le_of_ble_eq_true rfl) h10 ?_
    refine AW_aload_n dX5_canMend_29 rfl ?_
    refine AW_getv (t := 11) (o := 0) (k := 0) (some (0, some 0)) (v := aR 0 0) dX5_canMend_30 ff_X5_12 rfl rfl rfl ?_
    refine AW_getv (t := 0) (o := 0) (k := 8) (some (1, none)) (v := aR 1 0) dX5_canMend_33 ff_X5_155 rfl rfl rfl ?_
    refine AW_aload_n dX5_canMend_36 rfl ?_
    refine AW_getv (t := 11) (o := 0) (k := 0) (some (0, some 0)) (v := aR 0 0) dX5_canMend_37 ff_X5_12 rfl rfl rfl ?_
    refine AW_getv (t := 0) (o := 0) (k := 11) (some (4, none)) (v := aR 4 0) dX5_canMend_40 ff_X5_159 rfl rfl rfl ?_
    refine AW_iload_n dX5_canMend_43 rfl ?_
    obtain ⟨h12, h13⟩ := h9
    refine AW_iaload dX5_canMend_44 rfl rfl h12 ?_
    obtain ⟨h14, h15⟩ := h13
    refine AW_iaload dX5_canMend_45 rfl rfl h14 ?_
    refine AW_icmp_gt (tgt := 53) dX5_canMend_46 (by decide) (fun q18 => ?_) (fun q18 => ?_)
    · have h16 := h15.1 q18
      refine AW_iconst (v := 0) dX5_canMend_53 (by decide) ?_
      exact AW_ireturn (ty := .boolean) dX5_canMend_54 rfl rfl h16
    · have h17 := h15.2 q18
      refine AW_iconst (v := 1) dX5_canMend_49 (by decide) ?_
      refine AW_goto (tgt := 54) dX5_canMend_50 (by decide) ?_
      exact AW_ireturn (ty := .boolean) dX5_canMend_54 rfl rfl h17
  · have h6 := h2.2 q7
    exact AW_throw tf_99_117_103 dX5_canMend_11 dX5_canMend_14 dX5_canMend_15 dX5_canMend_17 dX5_canMend_20 (by decide) (by decide) rfl (Nat.le_of_ble_eq_true rfl) h6
set_option maxRecDepth 100000 in
theorem B_X5_laughing_0 {a1 : Int32} {a2 : Int32} {μ : Mem} {P : RES → Mem → Prop}  (h : ∃ (r4 : Int32) (m1 : Mem), MetA M_X4_hasPlace [aR 0 0, aI a1, aI a2] μ (rI r4 m1) ∧ ((¬ r4 = 0 → ∃ (r11 : Int32) (m8 : Mem), MetA M_X4_laughersAt [aR 0 0, aI a1, aI a2] m1 (rI r11 m8) ∧ (P (.inl (some (aI r11))) m8)) ∧ (r4 = 0 → P (.inr "java/lang/IndexOutOfBoundsException") m1))) : AW M_X5_laughing 0 0 [some (aR 11 0), some (aI a1), some (aI a2)] [] μ P := by
  refine AW_aload_n dX5_laughing_0 rfl ?_
  refine AW_getv (t := 11) (o := 0) (k := 0) (some (0, some 0)) (v := aR 0 0) dX5_laughing_1 ff_X5_12 rfl rfl rfl ?_
  refine AW_iload_n dX5_laughing_4 rfl ?_
  refine AW_iload_n dX5_laughing_5 rfl ?_
  obtain ⟨r4, m1, h3, h2⟩ := h
  refine AW_callVI [aI a1, aI a2] dX5_laughing_6 cv_X5_124 rfl rfl rfl (by decide) rfl (by decide) (Nat.le_of_ble_eq_true rfl) h3 ?_
  refine AW_if_ne (tgt := 22) dX5_laughing_9 (by decide) (fun q7 => ?_) (fun q7 => ?_)
  · have h5 := h2.1 q7
    refine AW_aload_n dX5_laughing_22 rfl ?_
    refine AW_getv (t := 11) (o := 0) (k := 0) (some (0, some 0)) (v := aR 0 0) dX5_laughing_23 ff_X5_12 rfl rfl rfl ?_
    refine AW_iload_n dX5_laughing_26 rfl ?_
    refine AW_iload_n dX5_laughing_27 rfl ?_
    obtain ⟨r11, m8, h10, h9⟩ := h5
    refine AW_callVI [aI a1, aI a2] dX5_laughing_28 cv_X5_162 rfl rfl rfl (by decide) rfl (by decide) (Nat.le_of_ble_eq_true rfl) h10 ?_
    exact AW_ireturn (ty := .int) dX5_laughing_31 rfl rfl h9
  · have h6 := h2.2 q7
    exact AW_throw tf_99_128_103 dX5_laughing_12 dX5_laughing_15 dX5_laughing_16 dX5_laughing_18 dX5_laughing_21 (by decide) (by decide) rfl (Nat.le_of_ble_eq_true rfl) h6
set_option maxRecDepth 100000 in
theorem B_X5_bargain_0 {a1 : Int32} {μ : Mem} {P : RES → Mem → Prop}  (h : ∃ (r4 : Int32) (m1 : Mem), MetA M_X5_bestBargain [aR 11 0] μ (rI r4 m1) ∧ ((¬ r4 = (-1) → (a1 = 0 → P (.inl (some (aI (r4 / 8)))) m1) ∧ (¬ a1 = 0 → P (.inl (some (aI (r4 - r4 / 8 * 8)))) m1)) ∧ (r4 = (-1) → P (.inr "java/util/NoSuchElementException") m1))) : AW M_X5_bargain 0 0 [some (aR 11 0), some (aI a1), none] [] μ P := by
  refine AW_aload_n dX5_bargain_0 rfl ?_
  obtain ⟨r4, m1, h3, h2⟩ := h
  refine AW_callVI [] dX5_bargain_1 cv_X5_165 rfl rfl rfl (by decide) rfl (by decide) (Nat.le_of_ble_eq_true rfl) h3 ?_
  refine AW_istore_n (loc' := [some (aR 11 0), some (aI a1), some (aI r4)]) dX5_bargain_4 (Nat.le_of_ble_eq_true rfl) rfl rfl ?_
  refine AW_iload_n dX5_bargain_5 rfl ?_
  refine AW_iconst (v := (-1)) dX5_bargain_6 (by decide) ?_
  refine AW_icmp_ne (tgt := 20) dX5_bargain_7 (by decide) (fun q7 => ?_) (fun q7 => ?_)
  · have h5 := h2.1 q7
    refine AW_iload_n dX5_bargain_20 rfl ?_
    refine AW_if_eq (tgt := 31) dX5_bargain_21 (by decide) (fun q10 => ?_) (fun q10 => ?_)
    · have h8 := h5.1 q10
      refine AW_iload_n dX5_bargain_31 rfl ?_
      refine AW_bipush (v := 8) dX5_bargain_32 (by decide) ?_
      refine AW_idiv dX5_bargain_34 (by decide) ?_
      exact AW_ireturn (ty := .int) dX5_bargain_35 rfl rfl h8
    · have h9 := h5.2 q10
      refine AW_iload_n dX5_bargain_24 rfl ?_
      refine AW_bipush (v := 8) dX5_bargain_25 (by decide) ?_
      refine AW_irem dX5_bargain_27 (by decide) ?_
      refine AW_goto (tgt := 35) dX5_bargain_28 (by decide) ?_
      exact AW_ireturn (ty := .int) dX5_bargain_35 rfl rfl h9
  · have h6 := h2.2 q7
    exact AW_throwN tf_168_170_172 dX5_bargain_10 dX5_bargain_13 dX5_bargain_14 dX5_bargain_16 dX5_bargain_19 (by decide) (by decide) rfl (Nat.le_of_ble_eq_true rfl) h6
set_option maxRecDepth 100000 in
theorem B_X5_wouldShame_0 {a1 : Int32} {μ : Mem} {P : RES → Mem → Prop}  (h : ∃ (r4 : Int32) (m1 : Mem), MetA M_X4_hasHouse [aR 0 0, aI a1] μ (rI r4 m1) ∧ ((¬ r4 = 0 → vp_in a1 4 ∧ (∃ (r13 : Int32) (m10 : Mem), MetA M_X4_shameToCome [aR 0 0, aI a1] m1 (rI r13 m10) ∧ (∃ (r17 : Int32) (m14 : Mem), MetA M_X5_atMostKept [aI ((m1 2 0 a1.toNatClampNeg) + r13)] m10 (rI r17 m14) ∧ (P (.inl (some (aI r17))) m14)))) ∧ (r4 = 0 → P (.inr "java/lang/IndexOutOfBoundsException") m1))) : AW M_X5_wouldShame 0 0 [some (aR 11 0), some (aI a1)] [] μ P := by
  refine AW_aload_n dX5_wouldShame_0 rfl ?_
  refine AW_getv (t := 11) (o := 0) (k := 0) (some (0, some 0)) (v := aR 0 0) dX5_wouldShame_1 ff_X5_12 rfl rfl rfl ?_
  refine AW_iload_n dX5_wouldShame_4 rfl ?_
  obtain ⟨r4, m1, h3, h2⟩ := h
  refine AW_callVI [aI a1] dX5_wouldShame_5 cv_X5_95 rfl rfl rfl (by decide) rfl (by decide) (Nat.le_of_ble_eq_true rfl) h3 ?_
  refine AW_if_ne (tgt := 21) dX5_wouldShame_8 (by decide) (fun q7 => ?_) (fun q7 => ?_)
  · have h5 := h2.1 q7
    refine AW_aload_n dX5_wouldShame_21 rfl ?_
    refine AW_getv (t := 11) (o := 0) (k := 0) (some (0, some 0)) (v := aR 0 0) dX5_wouldShame_22 ff_X5_12 rfl rfl rfl ?_
    refine AW_getv (t := 0) (o := 0) (k := 9) (some (2, none)) (v := aR 2 0) dX5_wouldShame_25 ff_X5_173 rfl rfl rfl ?_
    refine AW_iload_n dX5_wouldShame_28 rfl ?_
    obtain ⟨h8, h9⟩ := h5
    refine AW_iaload dX5_wouldShame_29 rfl rfl h8 ?_
    refine AW_aload_n dX5_wouldShame_30 rfl ?_
    refine AW_getv (t := 11) (o := 0) (k := 0) (some (0, some 0)) (v := aR 0 0) dX5_wouldShame_31 ff_X5_12 rfl rfl rfl ?_
    refine AW_iload_n dX5_wouldShame_34 rfl ?_
    obtain ⟨r13, m10, h12, h11⟩ := h9
    refine AW_callVI [aI a1] dX5_wouldShame_35 cv_X5_176 rfl rfl rfl (by decide) rfl (by decide) (Nat.le_of_ble_eq_true rfl) h12 ?_
    refine AW_iadd dX5_wouldShame_38 ?_
    obtain ⟨r17, m14, h16, h15⟩ := h11
    refine AW_callSI [aI ((m1 2 0 a1.toNatClampNeg) + r13)] dX5_wouldShame_39 cs_X5_179 rfl rfl (by decide) rfl (by decide) (Nat.le_of_ble_eq_true rfl) h16 ?_
    exact AW_ireturn (ty := .int) dX5_wouldShame_42 rfl rfl h15
  · have h6 := h2.2 q7
    exact AW_throw tf_99_101_103 dX5_wouldShame_11 dX5_wouldShame_14 dX5_wouldShame_15 dX5_wouldShame_17 dX5_wouldShame_20 (by decide) (by decide) rfl (Nat.le_of_ble_eq_true rfl) h6
set_option maxRecDepth 100000 in
theorem B_X5_wouldLaugh_0 {a1 : Int32} {μ : Mem} {P : RES → Mem → Prop}  (h : (a1 = 0 → ∃ (r7 : Int32) (m4 : Mem), MetA M_X4_laughsByMisprint [aR 0 0] μ (rI r7 m4) ∧ (P (.inl (some (aI r7))) m4)) ∧ (¬ a1 = 0 → ∃ (r11 : Int32) (m8 : Mem), MetA M_X4_laughsByReader [aR 0 0] μ (rI r11 m8) ∧ (P (.inl (some (aI r11))) m8))) : AW M_X5_wouldLaugh 0 0 [some (aR 11 0), some (aI a1)] [] μ P := by
  refine AW_iload_n dX5_wouldLaugh_0 rfl ?_
  refine AW_if_eq (tgt := 14) dX5_wouldLaugh_1 (by decide) (fun q3 => ?_) (fun q3 => ?_)
  · have h1 := h.1 q3
    refine AW_aload_n dX5_wouldLaugh_14 rfl ?_
    refine AW_getv (t := 11) (o := 0) (k := 0) (some (0, some 0)) (v := aR 0 0) dX5_wouldLaugh_15 ff_X5_12 rfl rfl rfl ?_
    obtain ⟨r7, m4, h6, h5⟩ := h1
    refine AW_callVI [] dX5_wouldLaugh_18 cv_X5_185 rfl rfl rfl (by decide) rfl (by decide) (Nat.le_of_ble_eq_true rfl) h6 ?_
    exact AW_ireturn (ty := .int) dX5_wouldLaugh_21 rfl rfl h5
  · have h2 := h.2 q3
    refine AW_aload_n dX5_wouldLaugh_4 rfl ?_
    refine AW_getv (t := 11) (o := 0) (k := 0) (some (0, some 0)) (v := aR 0 0) dX5_wouldLaugh_5 ff_X5_12 rfl rfl rfl ?_
    obtain ⟨r11, m8, h10, h9⟩ := h2
    refine AW_callVI [] dX5_wouldLaugh_8 cv_X5_182 rfl rfl rfl (by decide) rfl (by decide) (Nat.le_of_ble_eq_true rfl) h10 ?_
    refine AW_goto (tgt := 21) dX5_wouldLaugh_11 (by decide) ?_
    exact AW_ireturn (ty := .int) dX5_wouldLaugh_21 rfl rfl h9
set_option maxRecDepth 100000 in
theorem B_X5_nearest_0 {a1 : Int32} {μ : Mem} {P : RES → Mem → Prop}  (h : ∃ (r4 : Int32) (m1 : Mem), MetA M_X4_hasSheet [aR 0 0, aI a1] μ (rI r4 m1) ∧ ((¬ r4 = 0 → AW M_X5_nearest 0 25 [some (aR 11 0), some (aI a1), some (aI 0), some (aI 1)] [] m1 P) ∧ (r4 = 0 → P (.inr "java/lang/IndexOutOfBoundsException") m1))) : AW M_X5_nearest 0 0 [some (aR 11 0), some (aI a1), none, none] [] μ P := by
  refine AW_aload_n dX5_nearest_0 rfl ?_
  refine AW_getv (t := 11) (o := 0) (k := 0) (some (0, some 0)) (v := aR 0 0) dX5_nearest_1 ff_X5_12 rfl rfl rfl ?_
  refine AW_iload_n dX5_nearest_4 rfl ?_
  obtain ⟨r4, m1, h3, h2⟩ := h
  refine AW_callVI [aI a1] dX5_nearest_5 cv_X5_114 rfl rfl rfl (by decide) rfl (by decide) (Nat.le_of_ble_eq_true rfl) h3 ?_
  refine AW_if_ne (tgt := 21) dX5_nearest_8 (by decide) (fun q7 => ?_) (fun q7 => ?_)
  · have h5 := h2.1 q7
    refine AW_iconst (v := 0) dX5_nearest_21 (by decide) ?_
    refine AW_istore_n (loc' := [some (aR 11 0), some (aI a1), some (aI 0), none]) dX5_nearest_22 (Nat.le_of_ble_eq_true rfl) rfl rfl ?_
    refine AW_iconst (v := 1) dX5_nearest_23 (by decide) ?_
    refine AW_istore_n (loc' := [some (aR 11 0), some (aI a1), some (aI 0), some (aI 1)]) dX5_nearest_24 (Nat.le_of_ble_eq_true rfl) rfl rfl ?_
    exact h5
  · have h6 := h2.2 q7
    exact AW_throw tf_99_117_103 dX5_nearest_11 dX5_nearest_14 dX5_nearest_15 dX5_nearest_17 dX5_nearest_20 (by decide) (by decide) rfl (Nat.le_of_ble_eq_true rfl) h6
set_option maxRecDepth 100000 in
theorem B_X5_nearest_25 {a1 : Int32} {a2 : Int32} {a3 : Int32} {μ : Mem} {P : RES → Mem → Prop}  (h : ((μ 0 0 1) ≤ a3 → P (.inl (some (aI a2))) μ) ∧ (¬ (μ 0 0 1) ≤ a3 → ∃ (r7 : Int32) (m4 : Mem), MetA M_X4_unlike [aR 0 0, aI a1, aI a3] μ (rI r7 m4) ∧ (∃ (r11 : Int32) (m8 : Mem), MetA M_X4_unlike [aR 0 0, aI a1, aI a2] m4 (rI r11 m8) ∧ ((r11 ≤ r7 → AW M_X5_nearest 0 25 [some (aR 11 0), some (aI a1), some (aI a2), some (aI (a3 + 1))] [] m8 P) ∧ (¬ r11 ≤ r7 → AW M_X5_nearest 0 25 [some (aR 11 0), some (aI a1), some (aI a3), some (aI (a3 + 1))] [] m8 P))))) : AW M_X5_nearest 0 25 [some (aR 11 0), some (aI a1), some (aI a2), some (aI a3)] [] μ P := by
  refine AW_iload_n dX5_nearest_25 rfl ?_
  refine AW_aload_n dX5_nearest_26 rfl ?_
  refine AW_getv (t := 11) (o := 0) (k := 0) (some (0, some 0)) (v := aR 0 0) dX5_nearest_27 ff_X5_12 rfl rfl rfl ?_
  refine AW_getv (t := 0) (o := 0) (k := 1) none (v := aI (μ 0 0 1)) dX5_nearest_30 ff_X5_188 rfl rfl rfl ?_
  refine AW_icmp_ge (tgt := 65) dX5_nearest_33 (by decide) (fun q3 => ?_) (fun q3 => ?_)
  · have h1 := h.1 q3
    refine AW_iload_n dX5_nearest_65 rfl ?_
    exact AW_ireturn (ty := .int) dX5_nearest_66 rfl rfl h1
  · have h2 := h.2 q3
    refine AW_aload_n dX5_nearest_36 rfl ?_
    refine AW_getv (t := 11) (o := 0) (k := 0) (some (0, some 0)) (v := aR 0 0) dX5_nearest_37 ff_X5_12 rfl rfl rfl ?_
    refine AW_iload_n dX5_nearest_40 rfl ?_
    refine AW_iload_n dX5_nearest_41 rfl ?_
    obtain ⟨r7, m4, h6, h5⟩ := h2
    refine AW_callVI [aI a1, aI a3] dX5_nearest_42 cv_X5_191 rfl rfl rfl (by decide) rfl (by decide) (Nat.le_of_ble_eq_true rfl) h6 ?_
    refine AW_aload_n dX5_nearest_45 rfl ?_
    refine AW_getv (t := 11) (o := 0) (k := 0) (some (0, some 0)) (v := aR 0 0) dX5_nearest_46 ff_X5_12 rfl rfl rfl ?_
    refine AW_iload_n dX5_nearest_49 rfl ?_
    refine AW_iload_n dX5_nearest_50 rfl ?_
    obtain ⟨r11, m8, h10, h9⟩ := h5
    refine AW_callVI [aI a1, aI a2] dX5_nearest_51 cv_X5_191 rfl rfl rfl (by decide) rfl (by decide) (Nat.le_of_ble_eq_true rfl) h10 ?_
    refine AW_icmp_ge (tgt := 59) dX5_nearest_54 (by decide) (fun q14 => ?_) (fun q14 => ?_)
    · have h12 := h9.1 q14
      refine AW_iinc (v := a3 + 1) (loc' := [some (aR 11 0), some (aI a1), some (aI a2), some (aI (a3 + 1))]) dX5_nearest_59 rfl rfl (Nat.le_of_ble_eq_true rfl) rfl rfl ?_
      refine AW_goto (tgt := 25) dX5_nearest_62 (by decide) ?_
      exact h12
    · have h13 := h9.2 q14
      refine AW_iload_n dX5_nearest_57 rfl ?_
      refine AW_istore_n (loc' := [some (aR 11 0), some (aI a1), some (aI a3), some (aI a3)]) dX5_nearest_58 (Nat.le_of_ble_eq_true rfl) rfl rfl ?_
      refine AW_iinc (v := a3 + 1) (loc' := [some (aR 11 0), some (aI a1), some (aI a3), some (aI (a3 + 1))]) dX5_nearest_59 rfl rfl (Nat.le_of_ble_eq_true rfl) rfl rfl ?_
      refine AW_goto (tgt := 25) dX5_nearest_62 (by decide) ?_
      exact h13
set_option maxRecDepth 100000 in
theorem B_X5_calmIn_0 {a1 : Int32} {μ : Mem} {P : RES → Mem → Prop}  (h : ∃ (r4 : Int32) (m1 : Mem), MetA M_X4_hasHouse [aR 0 0, aI a1] μ (rI r4 m1) ∧ ((¬ r4 = 0 → vp_in a1 4 ∧ (∀ r10 : Int32, r10 = (if 0 < ((m1 2 0 a1.toNatClampNeg) - 20) then ((m1 2 0 a1.toNatClampNeg) - 20) else 0) → P (.inl (some (aI r10))) m1)) ∧ (r4 = 0 → P (.inr "java/lang/IndexOutOfBoundsException") m1))) : AW M_X5_calmIn 0 0 [some (aR 11 0), some (aI a1)] [] μ P := by
  refine AW_aload_n dX5_calmIn_0 rfl ?_
  refine AW_getv (t := 11) (o := 0) (k := 0) (some (0, some 0)) (v := aR 0 0) dX5_calmIn_1 ff_X5_12 rfl rfl rfl ?_
  refine AW_iload_n dX5_calmIn_4 rfl ?_
  obtain ⟨r4, m1, h3, h2⟩ := h
  refine AW_callVI [aI a1] dX5_calmIn_5 cv_X5_95 rfl rfl rfl (by decide) rfl (by decide) (Nat.le_of_ble_eq_true rfl) h3 ?_
  refine AW_if_ne (tgt := 21) dX5_calmIn_8 (by decide) (fun q7 => ?_) (fun q7 => ?_)
  · have h5 := h2.1 q7
    refine AW_iconst (v := 0) dX5_calmIn_21 (by decide) ?_
    refine AW_aload_n dX5_calmIn_22 rfl ?_
    refine AW_getv (t := 11) (o := 0) (k := 0) (some (0, some 0)) (v := aR 0 0) dX5_calmIn_23 ff_X5_12 rfl rfl rfl ?_
    refine AW_getv (t := 0) (o := 0) (k := 9) (some (2, none)) (v := aR 2 0) dX5_calmIn_26 ff_X5_173 rfl rfl rfl ?_
    refine AW_iload_n dX5_calmIn_29 rfl ?_
    obtain ⟨h8, h9⟩ := h5
    refine AW_iaload dX5_calmIn_30 rfl rfl h8 ?_
    refine AW_bipush (v := 20) dX5_calmIn_31 (by decide) ?_
    refine AW_isub dX5_calmIn_33 ?_
    obtain ⟨r10, er10⟩ : ∃ z : Int32, z = (if 0 < ((m1 2 0 a1.toNatClampNeg) - 20) then ((m1 2 0 a1.toNatClampNeg) - 20) else 0) := ⟨_, rfl⟩
    have h11 := h9 r10 er10
    refine AW_mmax dX5_calmIn_34 w_788 (by decide) (Nat.le_of_ble_eq_true rfl) er10.symm ?_
    exact AW_ireturn (ty := .int) dX5_calmIn_37 rfl rfl h11
  · have h6 := h2.2 q7
    exact AW_throw tf_99_101_103 dX5_calmIn_11 dX5_calmIn_14 dX5_calmIn_15 dX5_calmIn_17 dX5_calmIn_20 (by decide) (by decide) rfl (Nat.le_of_ble_eq_true rfl) h6
set_option maxRecDepth 100000 in
theorem B_X5_ashamed_0 {a1 : Int32} {μ : Mem} {P : RES → Mem → Prop}  (h : AW M_X5_ashamed 0 2 [some (aR 11 0), some (aI a1), some (aI 0)] [] μ P) : AW M_X5_ashamed 0 0 [some (aR 11 0), some (aI a1), none] [] μ P := by
  refine AW_iconst (v := 0) dX5_ashamed_0 (by decide) ?_
  refine AW_istore_n (loc' := [some (aR 11 0), some (aI a1), some (aI 0)]) dX5_ashamed_1 (Nat.le_of_ble_eq_true rfl) rfl rfl ?_
  exact h
set_option maxRecDepth 100000 in
theorem B_X5_ashamed_2 {a1 : Int32} {a2 : Int32} {μ : Mem} {P : RES → Mem → Prop}  (h : ((μ 0 0 0) ≤ a2 → P (.inr "java/util/NoSuchElementException") μ) ∧ (¬ (μ 0 0 0) ≤ a2 → ∃ (r7 : Int32) (m4 : Mem), MetA M_X4_rankOfHouse [aR 0 0, aI a2] μ (rI r7 m4) ∧ ((¬ r7 = a1 → AW M_X5_ashamed 0 2 [some (aR 11 0), some (aI a1), some (aI (a2 + 1))] [] m4 P) ∧ (r7 = a1 → P (.inl (some (aI a2))) m4)))) : AW M_X5_ashamed 0 2 [some (aR 11 0), some (aI a1), some (aI a2)] [] μ P := by
  refine AW_iload_n dX5_ashamed_2 rfl ?_
  refine AW_aload_n dX5_ashamed_3 rfl ?_
  refine AW_getv (t := 11) (o := 0) (k := 0) (some (0, some 0)) (v := aR 0 0) dX5_ashamed_4 ff_X5_12 rfl rfl rfl ?_
  refine AW_getv (t := 0) (o := 0) (k := 0) none (v := aI (μ 0 0 0)) dX5_ashamed_7 ff_X5_199 rfl rfl rfl ?_
  refine AW_icmp_ge (tgt := 33) dX5_ashamed_10 (by decide) (fun q3 => ?_) (fun q3 => ?_)
  · have h1 := h.1 q3
    exact AW_throwN tf_168_128_172 dX5_ashamed_33 dX5_ashamed_36 dX5_ashamed_37 dX5_ashamed_39 dX5_ashamed_42 (by decide) (by decide) rfl (Nat.le_of_ble_eq_true rfl) h1
  · have h2 := h.2 q3
    refine AW_aload_n dX5_ashamed_13 rfl ?_
    refine AW_getv (t := 11) (o := 0) (k := 0) (some (0, some 0)) (v := aR 0 0) dX5_ashamed_14 ff_X5_12 rfl rfl rfl ?_
    refine AW_iload_n dX5_ashamed_17 rfl ?_
    obtain ⟨r7, m4, h6, h5⟩ := h2
    refine AW_callVI [aI a2] dX5_ashamed_18 cv_X5_202 rfl rfl rfl (by decide) rfl (by decide) (Nat.le_of_ble_eq_true rfl) h6 ?_
    refine AW_iload_n dX5_ashamed_21 rfl ?_
    refine AW_icmp_ne (tgt := 27) dX5_ashamed_22 (by decide) (fun q10 => ?_) (fun q10 => ?_)
    · have h8 := h5.1 q10
      refine AW_iinc (v := a2 + 1) (loc' := [some (aR 11 0), some (aI a1), some (aI (a2 + 1))]) dX5_ashamed_27 rfl rfl (Nat.le_of_ble_eq_true rfl) rfl rfl ?_
      refine AW_goto (tgt := 2) dX5_ashamed_30 (by decide) ?_
      exact h8
    · have h9 := h5.2 q10
      refine AW_iload_n dX5_ashamed_25 rfl ?_
      exact AW_ireturn (ty := .int) dX5_ashamed_26 rfl rfl h9
set_option maxRecDepth 100000 in
theorem B_X5_worst_0 {a1 : Int32} {μ : Mem} {P : RES → Mem → Prop}  (h : AW M_X5_worst 0 2 [some (aR 11 0), some (aI a1), some (aI 0)] [] μ P) : AW M_X5_worst 0 0 [some (aR 11 0), some (aI a1), none] [] μ P := by
  refine AW_iconst (v := 0) dX5_worst_0 (by decide) ?_
  refine AW_istore_n (loc' := [some (aR 11 0), some (aI a1), some (aI 0)]) dX5_worst_1 (Nat.le_of_ble_eq_true rfl) rfl rfl ?_
  exact h
set_option maxRecDepth 100000 in
theorem B_X5_worst_2 {a1 : Int32} {a2 : Int32} {μ : Mem} {P : RES → Mem → Prop}  (h : ((μ 0 0 1) ≤ a2 → P (.inr "java/util/NoSuchElementException") μ) ∧ (¬ (μ 0 0 1) ≤ a2 → ∃ (r7 : Int32) (m4 : Mem), MetA M_X4_rankOfSheet [aR 0 0, aI a2] μ (rI r7 m4) ∧ ((¬ r7 = a1 → AW M_X5_worst 0 2 [some (aR 11 0), some (aI a1), some (aI (a2 + 1))] [] m4 P) ∧ (r7 = a1 → P (.inl (some (aI a2))) m4)))) : AW M_X5_worst 0 2 [some (aR 11 0), some (aI a1), some (aI a2)] [] μ P := by
  refine AW_iload_n dX5_worst_2 rfl ?_
  refine AW_aload_n dX5_worst_3 rfl ?_
  refine AW_getv (t := 11) (o := 0) (k := 0) (some (0, some 0)) (v := aR 0 0) dX5_worst_4 ff_X5_12 rfl rfl rfl ?_
  refine AW_getv (t := 0) (o := 0) (k := 1) none (v := aI (μ 0 0 1)) dX5_worst_7 ff_X5_188 rfl rfl rfl ?_
  refine AW_icmp_ge (tgt := 33) dX5_worst_10 (by decide) (fun q3 => ?_) (fun q3 => ?_)
  · have h1 := h.1 q3
    exact AW_throwN tf_168_128_172 dX5_worst_33 dX5_worst_36 dX5_worst_37 dX5_worst_39 dX5_worst_42 (by decide) (by decide) rfl (Nat.le_of_ble_eq_true rfl) h1
  · have h2 := h.2 q3
    refine AW_aload_n dX5_worst_13 rfl ?_
    refine AW_getv (t := 11) (o := 0) (k := 0) (some (0, some 0)) (v := aR 0 0) dX5_worst_14 ff_X5_12 rfl rfl rfl ?_
    refine AW_iload_n dX5_worst_17 rfl ?_
    obtain ⟨r7, m4, h6, h5⟩ := h2
    refine AW_callVI [aI a2] dX5_worst_18 cv_X5_205 rfl rfl rfl (by decide) rfl (by decide) (Nat.le_of_ble_eq_true rfl) h6 ?_
    refine AW_iload_n dX5_worst_21 rfl ?_
    refine AW_icmp_ne (tgt := 27) dX5_worst_22 (by decide) (fun q10 => ?_) (fun q10 => ?_)
    · have h8 := h5.1 q10
      refine AW_iinc (v := a2 + 1) (loc' := [some (aR 11 0), some (aI a1), some (aI (a2 + 1))]) dX5_worst_27 rfl rfl (Nat.le_of_ble_eq_true rfl) rfl rfl ?_
      refine AW_goto (tgt := 2) dX5_worst_30 (by decide) ?_
      exact h8
    · have h9 := h5.2 q10
      refine AW_iload_n dX5_worst_25 rfl ?_
      exact AW_ireturn (ty := .int) dX5_worst_26 rfl rfl h9
set_option maxRecDepth 100000 in
theorem B_X5_line_0 {a1 : Int32} {μ : Mem} {P : RES → Mem → Prop}  (h : ∃ (r4 : Int32) (m1 : Mem), MetA M_X4_hasSheet [aR 0 0, aI a1] μ (rI r4 m1) ∧ ((¬ r4 = 0 → ∀ m8 : Mem, m8 = mset m1 17 0 (upd (m1 17 0) 1 0) → vp_in a1 8 ∧ (∃ m13 : Mem, MetA M_X1_putNumber [aR 17 0, aI (m8 4 0 a1.toNatClampNeg)] m8 (rV m13) ∧ (∃ m16 : Mem, MetA M_X1_put [aR 17 0, aI 58] m13 (rV m16) ∧ (AW M_X5_line 0 56 [some (aR 11 0), some (aI a1), some (aI 0)] [] m16 P)))) ∧ (r4 = 0 → P (.inr "java/lang/IndexOutOfBoundsException") m1))) : AW M_X5_line 0 0 [some (aR 11 0), some (aI a1), none] [] μ P := by
  refine AW_aload_n dX5_line_0 rfl ?_
  refine AW_getv (t := 11) (o := 0) (k := 0) (some (0, some 0)) (v := aR 0 0) dX5_line_1 ff_X5_12 rfl rfl rfl ?_
  refine AW_iload_n dX5_line_4 rfl ?_
  obtain ⟨r4, m1, h3, h2⟩ := h
  refine AW_callVI [aI a1] dX5_line_5 cv_X5_114 rfl rfl rfl (by decide) rfl (by decide) (Nat.le_of_ble_eq_true rfl) h3 ?_
  refine AW_if_ne (tgt := 21) dX5_line_8 (by decide) (fun q7 => ?_) (fun q7 => ?_)
  · have h5 := h2.1 q7
    refine AW_aload_n dX5_line_21 rfl ?_
    refine AW_getv (t := 11) (o := 0) (k := 7) (some (17, none)) (v := aR 17 0) dX5_line_22 ff_X5_49 rfl rfl rfl ?_
    refine AW_iconst (v := 0) dX5_line_25 (by decide) ?_
    obtain ⟨m8, em8⟩ : ∃ z : Mem, z = mset m1 17 0 (upd (m1 17 0) 1 0) := ⟨_, rfl⟩
    have h9 := h5 m8 em8
    refine AW_putf (t := 17) (o := 0) (k := 1) dX5_line_26 fp_X5_208 rfl rfl rfl rfl em8.symm ?_
    refine AW_aload_n dX5_line_29 rfl ?_
    refine AW_getv (t := 11) (o := 0) (k := 7) (some (17, none)) (v := aR 17 0) dX5_line_30 ff_X5_49 rfl rfl rfl ?_
    refine AW_aload_n dX5_line_33 rfl ?_
    refine AW_getv (t := 11) (o := 0) (k := 0) (some (0, some 0)) (v := aR 0 0) dX5_line_34 ff_X5_12 rfl rfl rfl ?_
    refine AW_getv (t := 0) (o := 0) (k := 11) (some (4, none)) (v := aR 4 0) dX5_line_37 ff_X5_159 rfl rfl rfl ?_
    refine AW_iload_n dX5_line_40 rfl ?_
    obtain ⟨h11, h12⟩ := h9
    refine AW_iaload dX5_line_41 rfl rfl h11 ?_
    obtain ⟨m13, h15, h14⟩ := h12
    refine AW_callVV [aI (m8 4 0 a1.toNatClampNeg)] dX5_line_42 cv_X5_211 rfl rfl rfl (by decide) rfl (by decide) (Nat.le_of_ble_eq_true rfl) h15 ?_
    refine AW_aload_n dX5_line_45 rfl ?_
    refine AW_getv (t := 11) (o := 0) (k := 7) (some (17, none)) (v := aR 17 0) dX5_line_46 ff_X5_49 rfl rfl rfl ?_
    refine AW_bipush (v := 58) dX5_line_49 (by decide) ?_
    obtain ⟨m16, h18, h17⟩ := h14
    refine AW_callVV [aI 58] dX5_line_51 cv_X5_215 rfl rfl rfl (by decide) rfl (by decide) (Nat.le_of_ble_eq_true rfl) h18 ?_
    refine AW_iconst (v := 0) dX5_line_54 (by decide) ?_
    refine AW_istore_n (loc' := [some (aR 11 0), some (aI a1), some (aI 0)]) dX5_line_55 (Nat.le_of_ble_eq_true rfl) rfl rfl ?_
    exact h17
  · have h6 := h2.2 q7
    exact AW_throw tf_99_117_103 dX5_line_11 dX5_line_14 dX5_line_15 dX5_line_17 dX5_line_20 (by decide) (by decide) rfl (Nat.le_of_ble_eq_true rfl) h6
set_option maxRecDepth 100000 in
theorem B_X5_line_56 {a1 : Int32} {a2 : Int32} {μ : Mem} {P : RES → Mem → Prop}  (h : vp_in a1 8 ∧ (((μ 5 0 a1.toNatClampNeg) ≤ a2 → P (.inl (some (aI (μ 17 0 1)))) μ) ∧ (¬ (μ 5 0 a1.toNatClampNeg) ≤ a2 → ∃ m6 : Mem, MetA M_X5_writePlace [aR 11 0, aI a1, aI a2] μ (rV m6) ∧ (AW M_X5_line 0 56 [some (aR 11 0), some (aI a1), some (aI (a2 + 1))] [] m6 P)))) : AW M_X5_line 0 56 [some (aR 11 0), some (aI a1), some (aI a2)] [] μ P := by
  refine AW_iload_n dX5_line_56 rfl ?_
  refine AW_aload_n dX5_line_57 rfl ?_
  refine AW_getv (t := 11) (o := 0) (k := 0) (some (0, some 0)) (v := aR 0 0) dX5_line_58 ff_X5_12 rfl rfl rfl ?_
  refine AW_getv (t := 0) (o := 0) (k := 12) (some (5, none)) (v := aR 5 0) dX5_line_61 ff_X5_219 rfl rfl rfl ?_
  refine AW_iload_n dX5_line_64 rfl ?_
  obtain ⟨h1, h2⟩ := h
  refine AW_iaload dX5_line_65 rfl rfl h1 ?_
  refine AW_icmp_ge (tgt := 81) dX5_line_66 (by decide) (fun q5 => ?_) (fun q5 => ?_)
  · have h3 := h2.1 q5
    refine AW_aload_n dX5_line_81 rfl ?_
    refine AW_getv (t := 11) (o := 0) (k := 7) (some (17, none)) (v := aR 17 0) dX5_line_82 ff_X5_49 rfl rfl rfl ?_
    refine AW_getv (t := 17) (o := 0) (k := 1) none (v := aI (μ 17 0 1)) dX5_line_85 ff_X5_208 rfl rfl rfl ?_
    exact AW_ireturn (ty := .int) dX5_line_88 rfl rfl h3
  · have h4 := h2.2 q5
    refine AW_aload_n dX5_line_69 rfl ?_
    refine AW_iload_n dX5_line_70 rfl ?_
    refine AW_iload_n dX5_line_71 rfl ?_
    obtain ⟨m6, h8, h7⟩ := h4
    refine AW_callVV [aI a1, aI a2] dX5_line_72 cv_X5_222 rfl rfl rfl (by decide) rfl (by decide) (Nat.le_of_ble_eq_true rfl) h8 ?_
    refine AW_iinc (v := a2 + 1) (loc' := [some (aR 11 0), some (aI a1), some (aI (a2 + 1))]) dX5_line_75 rfl rfl (Nat.le_of_ble_eq_true rfl) rfl rfl ?_
    refine AW_goto (tgt := 56) dX5_line_78 (by decide) ?_
    exact h7
set_option maxRecDepth 100000 in
theorem B_X5_houseLine_0 {a1 : Int32} {μ : Mem} {P : RES → Mem → Prop}  (h : ∃ (r4 : Int32) (m1 : Mem), MetA M_X4_hasHouse [aR 0 0, aI a1] μ (rI r4 m1) ∧ ((¬ r4 = 0 → ∀ m8 : Mem, m8 = mset m1 17 0 (upd (m1 17 0) 1 0) → ∃ m11 : Mem, MetA M_X1_putNumber [aR 17 0, aI a1] m8 (rV m11) ∧ (∃ m14 : Mem, MetA M_X1_put [aR 17 0, aI 36] m11 (rV m14) ∧ (vp_in a1 4 ∧ (∃ m19 : Mem, MetA M_X1_putNumber [aR 17 0, aI (m14 1 0 a1.toNatClampNeg)] m14 (rV m19) ∧ (∃ m22 : Mem, MetA M_X1_put [aR 17 0, aI 126] m19 (rV m22) ∧ (vp_in a1 4 ∧ (∃ m27 : Mem, MetA M_X1_putNumber [aR 17 0, aI (m22 2 0 a1.toNatClampNeg)] m22 (rV m27) ∧ (∃ (r33 : Int32) (m30 : Mem), MetA M_X4_isAshamed [aR 0 0, aI a1] m27 (rI r33 m30) ∧ ((r33 = 0 → P (.inl (some (aI (m30 17 0 1)))) m30) ∧ (¬ r33 = 0 → ∃ m37 : Mem, MetA M_X1_put [aR 17 0, aI 42] m30 (rV m37) ∧ (P (.inl (some (aI (m37 17 0 1)))) m37))))))))))) ∧ (r4 = 0 → P (.inr "java/lang/IndexOutOfBoundsException") m1))) : AW M_X5_houseLine 0 0 [some (aR 11 0), some (aI a1)] [] μ P := by
  refine AW_aload_n dX5_houseLine_0 rfl ?_
  refine AW_getv (t := 11) (o := 0) (k := 0) (some (0, some 0)) (v := aR 0 0) dX5_houseLine_1 ff_X5_12 rfl rfl rfl ?_
  refine AW_iload_n dX5_houseLine_4 rfl ?_
  obtain ⟨r4, m1, h3, h2⟩ := h
  refine AW_callVI [aI a1] dX5_houseLine_5 cv_X5_95 rfl rfl rfl (by decide) rfl (by decide) (Nat.le_of_ble_eq_true rfl) h3 ?_
  refine AW_if_ne (tgt := 21) dX5_houseLine_8 (by decide) (fun q7 => ?_) (fun q7 => ?_)
  · have h5 := h2.1 q7
    refine AW_aload_n dX5_houseLine_21 rfl ?_
    refine AW_getv (t := 11) (o := 0) (k := 7) (some (17, none)) (v := aR 17 0) dX5_houseLine_22 ff_X5_49 rfl rfl rfl ?_
    refine AW_iconst (v := 0) dX5_houseLine_25 (by decide) ?_
    obtain ⟨m8, em8⟩ : ∃ z : Mem, z = mset m1 17 0 (upd (m1 17 0) 1 0) := ⟨_, rfl⟩
    have h9 := h5 m8 em8
    refine AW_putf (t := 17) (o := 0) (k := 1) dX5_houseLine_26 fp_X5_208 rfl rfl rfl rfl em8.symm ?_
    refine AW_aload_n dX5_houseLine_29 rfl ?_
    refine AW_getv (t := 11) (o := 0) (k := 7) (some (17, none)) (v := aR 17 0) dX5_houseLine_30 ff_X5_49 rfl rfl rfl ?_
    refine AW_iload_n dX5_houseLine_33 rfl ?_
    obtain ⟨m11, h13, h12⟩ := h9
    refine AW_callVV [aI a1] dX5_houseLine_34 cv_X5_211 rfl rfl rfl (by decide) rfl (by decide) (Nat.le_of_ble_eq_true rfl) h13 ?_
    refine AW_aload_n dX5_houseLine_37 rfl ?_
    refine AW_getv (t := 11) (o := 0) (k := 7) (some (17, none)) (v := aR 17 0) dX5_houseLine_38 ff_X5_49 rfl rfl rfl ?_
    refine AW_bipush (v := 36) dX5_houseLine_41 (by decide) ?_
    obtain ⟨m14, h16, h15⟩ := h12
    refine AW_callVV [aI 36] dX5_houseLine_43 cv_X5_215 rfl rfl rfl (by decide) rfl (by decide) (Nat.le_of_ble_eq_true rfl) h16 ?_
    refine AW_aload_n dX5_houseLine_46 rfl ?_
    refine AW_getv (t := 11) (o := 0) (k := 7) (some (17, none)) (v := aR 17 0) dX5_houseLine_47 ff_X5_49 rfl rfl rfl ?_
    refine AW_aload_n dX5_houseLine_50 rfl ?_
    refine AW_getv (t := 11) (o := 0) (k := 0) (some (0, some 0)) (v := aR 0 0) dX5_houseLine_51 ff_X5_12 rfl rfl rfl ?_
    refine AW_getv (t := 0) (o := 0) (k := 8) (some (1, none)) (v := aR 1 0) dX5_houseLine_54 ff_X5_155 rfl rfl rfl ?_
    refine AW_iload_n dX5_houseLine_57 rfl ?_
    obtain ⟨h17, h18⟩ := h15
    refine AW_iaload dX5_houseLine_58 rfl rfl h17 ?_
    obtain ⟨m19, h21, h20⟩ := h18
    refine AW_callVV [aI (m14 1 0 a1.toNatClampNeg)] dX5_houseLine_59 cv_X5_211 rfl rfl rfl (by decide) rfl (by decide) (Nat.le_of_ble_eq_true rfl) h21 ?_
    refine AW_aload_n dX5_houseLine_62 rfl ?_
    refine AW_getv (t := 11) (o := 0) (k := 7) (some (17, none)) (v := aR 17 0) dX5_houseLine_63 ff_X5_49 rfl rfl rfl ?_
    refine AW_bipush (v := 126) dX5_houseLine_66 (by decide) ?_
    obtain ⟨m22, h24, h23⟩ := h20
    refine AW_callVV [aI 126] dX5_houseLine_68 cv_X5_215 rfl rfl rfl (by decide) rfl (by decide) (Nat.le_of_ble_eq_true rfl) h24 ?_
    refine AW_aload_n dX5_houseLine_71 rfl ?_
    refine AW_getv (t := 11) (o := 0) (k := 7) (some (17, none)) (v := aR 17 0) dX5_houseLine_72 ff_X5_49 rfl rfl rfl ?_
    refine AW_aload_n dX5_houseLine_75 rfl ?_
    refine AW_getv (t := 11) (o := 0) (k := 0) (some (0, some 0)) (v := aR 0 0) dX5_houseLine_76 ff_X5_12 rfl rfl rfl ?_
    refine AW_getv (t := 0) (o := 0) (k := 9) (some (2, none)) (v := aR 2 0) dX5_houseLine_79 ff_X5_173 rfl rfl rfl ?_
    refine AW_iload_n dX5_houseLine_82 rfl ?_
    obtain ⟨h25, h26⟩ := h23
    refine AW_iaload dX5_houseLine_83 rfl rfl h25 ?_
    obtain ⟨m27, h29, h28⟩ := h26
    refine AW_callVV [aI (m22 2 0 a1.toNatClampNeg)] dX5_houseLine_84 cv_X5_211 rfl rfl rfl (by decide) rfl (by decide) (Nat.le_of_ble_eq_true rfl) h29 ?_
    refine AW_aload_n dX5_houseLine_87 rfl ?_
    refine AW_getv (t := 11) (o := 0) (k := 0) (some (0, some 0)) (v := aR 0 0) dX5_houseLine_88 ff_X5_12 rfl rfl rfl ?_
    refine AW_iload_n dX5_houseLine_91 rfl ?_
    obtain ⟨r33, m30, h32, h31⟩ := h28
    refine AW_callVI [aI a1] dX5_houseLine_92 cv_X5_226 rfl rfl rfl (by decide) rfl (by decide) (Nat.le_of_ble_eq_true rfl) h32 ?_
    refine AW_if_eq (tgt := 107) dX5_houseLine_95 (by decide) (fun q36 => ?_) (fun q36 => ?_)
    · have h34 := h31.1 q36
      refine AW_aload_n dX5_houseLine_107 rfl ?_
      refine AW_getv (t := 11) (o := 0) (k := 7) (some (17, none)) (v := aR 17 0) dX5_houseLine_108 ff_X5_49 rfl rfl rfl ?_
      refine AW_getv (t := 17) (o := 0) (k := 1) none (v := aI (m30 17 0 1)) dX5_houseLine_111 ff_X5_208 rfl rfl rfl ?_
      exact AW_ireturn (ty := .int) dX5_houseLine_114 rfl rfl h34
    · have h35 := h31.2 q36
      refine AW_aload_n dX5_houseLine_98 rfl ?_
      refine AW_getv (t := 11) (o := 0) (k := 7) (some (17, none)) (v := aR 17 0) dX5_houseLine_99 ff_X5_49 rfl rfl rfl ?_
      refine AW_bipush (v := 42) dX5_houseLine_102 (by decide) ?_
      obtain ⟨m37, h39, h38⟩ := h35
      refine AW_callVV [aI 42] dX5_houseLine_104 cv_X5_215 rfl rfl rfl (by decide) rfl (by decide) (Nat.le_of_ble_eq_true rfl) h39 ?_
      refine AW_aload_n dX5_houseLine_107 rfl ?_
      refine AW_getv (t := 11) (o := 0) (k := 7) (some (17, none)) (v := aR 17 0) dX5_houseLine_108 ff_X5_49 rfl rfl rfl ?_
      refine AW_getv (t := 17) (o := 0) (k := 1) none (v := aI (m37 17 0 1)) dX5_houseLine_111 ff_X5_208 rfl rfl rfl ?_
      exact AW_ireturn (ty := .int) dX5_houseLine_114 rfl rfl h38
  · have h6 := h2.2 q7
    exact AW_throw tf_99_101_103 dX5_houseLine_11 dX5_houseLine_14 dX5_houseLine_15 dX5_houseLine_17 dX5_houseLine_20 (by decide) (by decide) rfl (Nat.le_of_ble_eq_true rfl) h6
set_option maxRecDepth 100000 in
theorem B_X5_character_0 {a1 : Int32} {μ : Mem} {P : RES → Mem → Prop}  (h : (a1 < 0 → P (.inr "java/lang/IndexOutOfBoundsException") μ) ∧ (¬ a1 < 0 → (a1 < (μ 17 0 1) → vp_in a1 18 ∧ (narrow .char (.int (μ 18 0 a1.toNatClampNeg)) = .int (μ 18 0 a1.toNatClampNeg) ∧ P (.inl (some (aI (μ 18 0 a1.toNatClampNeg)))) μ)) ∧ (¬ a1 < (μ 17 0 1) → P (.inr "java/lang/IndexOutOfBoundsException") μ))) : AW M_X5_character 0 0 [some (aR 11 0), some (aI a1)] [] μ P := by
  refine AW_iload_n dX5_character_0 rfl ?_
  refine AW_if_lt (tgt := 15) dX5_character_1 (by decide) (fun q3 => ?_) (fun q3 => ?_)
  · have h1 := h.1 q3
    exact AW_throw tf_99_229_103 dX5_character_15 dX5_character_18 dX5_character_19 dX5_character_21 dX5_character_24 (by decide) (by decide) rfl (Nat.le_of_ble_eq_true rfl) h1
  · have h2 := h.2 q3
    refine AW_iload_n dX5_character_4 rfl ?_
    refine AW_aload_n dX5_character_5 rfl ?_
    refine AW_getv (t := 11) (o := 0) (k := 7) (some (17, none)) (v := aR 17 0) dX5_character_6 ff_X5_49 rfl rfl rfl ?_
    refine AW_getv (t := 17) (o := 0) (k := 1) none (v := aI (μ 17 0 1)) dX5_character_9 ff_X5_208 rfl rfl rfl ?_
    refine AW_icmp_lt (tgt := 25) dX5_character_12 (by decide) (fun q6 => ?_) (fun q6 => ?_)
    · have h4 := h2.1 q6
      refine AW_aload_n dX5_character_25 rfl ?_
      refine AW_getv (t := 11) (o := 0) (k := 7) (some (17, none)) (v := aR 17 0) dX5_character_26 ff_X5_49 rfl rfl rfl ?_
      refine AW_getv (t := 17) (o := 0) (k := 0) (some (18, none)) (v := aR 18 0) dX5_character_29 ff_X5_231 rfl rfl rfl ?_
      refine AW_iload_n dX5_character_32 rfl ?_
      obtain ⟨h7, h8⟩ := h4
      refine AW_caload dX5_character_33 rfl rfl h7 ?_
      obtain ⟨h9, h10⟩ := h8
      exact AW_ireturn (ty := .char) dX5_character_34 rfl h9 h10
    · have h5 := h2.2 q6
      exact AW_throw tf_99_229_103 dX5_character_15 dX5_character_18 dX5_character_19 dX5_character_21 dX5_character_24 (by decide) (by decide) rfl (Nat.le_of_ble_eq_true rfl) h5
set_option maxRecDepth 100000 in
theorem B_X5_append_0 {a1 : Int32} {μ : Mem} {P : RES → Mem → Prop}  (h : ((μ 15 0 1) < 60 → vp_in (μ 15 0 1) 60 ∧ (∀ m4 : Mem, m4 = mset μ 16 0 (upd (μ 16 0) (μ 15 0 1).toNatClampNeg (vp_nar .char a1)) → ∀ m8 : Mem, m8 = mset m4 15 0 (upd (m4 15 0) 1 ((m4 15 0 1) + 1)) → P (.inl (some (aI (m8 15 0 1)))) m8)) ∧ (¬ (μ 15 0 1) < 60 → P (.inr "java/lang/IllegalStateException") μ)) : AW M_X5_append 0 0 [some (aR 11 0), some (aI a1)] [] μ P := by
  refine AW_aload_n dX5_append_0 rfl ?_
  refine AW_getv (t := 11) (o := 0) (k := 6) (some (15, none)) (v := aR 15 0) dX5_append_1 ff_X5_42 rfl rfl rfl ?_
  refine AW_getv (t := 15) (o := 0) (k := 1) none (v := aI (μ 15 0 1)) dX5_append_4 ff_X5_235 rfl rfl rfl ?_
  refine AW_bipush (v := 60) dX5_append_7 (by decide) ?_
  refine AW_icmp_lt (tgt := 22) dX5_append_9 (by decide) (fun q3 => ?_) (fun q3 => ?_)
  · have h1 := h.1 q3
    refine AW_aload_n dX5_append_22 rfl ?_
    refine AW_getv (t := 11) (o := 0) (k := 6) (some (15, none)) (v := aR 15 0) dX5_append_23 ff_X5_42 rfl rfl rfl ?_
    refine AW_getv (t := 15) (o := 0) (k := 0) (some (16, none)) (v := aR 16 0) dX5_append_26 ff_X5_241 rfl rfl rfl ?_
    refine AW_aload_n dX5_append_29 rfl ?_
    refine AW_getv (t := 11) (o := 0) (k := 6) (some (15, none)) (v := aR 15 0) dX5_append_30 ff_X5_42 rfl rfl rfl ?_
    refine AW_getv (t := 15) (o := 0) (k := 1) none (v := aI (μ 15 0 1)) dX5_append_33 ff_X5_235 rfl rfl rfl ?_
    refine AW_iload_n dX5_append_36 rfl ?_
    obtain ⟨h5, h7⟩ := h1
    obtain ⟨m4, em4⟩ : ∃ z : Mem, z = mset μ 16 0 (upd (μ 16 0) (μ 15 0 1).toNatClampNeg (vp_nar .char a1)) := ⟨_, rfl⟩
    have h6 := h7 m4 em4
    refine AW_castore dX5_append_37 rfl rfl h5 rfl em4.symm ?_
    refine AW_aload_n dX5_append_38 rfl ?_
    refine AW_getv (t := 11) (o := 0) (k := 6) (some (15, none)) (v := aR 15 0) dX5_append_39 ff_X5_42 rfl rfl rfl ?_
    refine AW_dup dX5_append_42 rfl ?_
    refine AW_getv (t := 15) (o := 0) (k := 1) none (v := aI (m4 15 0 1)) dX5_append_43 ff_X5_235 rfl rfl rfl ?_
    refine AW_iconst (v := 1) dX5_append_46 (by decide) ?_
    refine AW_iadd dX5_append_47 ?_
    obtain ⟨m8, em8⟩ : ∃ z : Mem, z = mset m4 15 0 (upd (m4 15 0) 1 ((m4 15 0 1) + 1)) := ⟨_, rfl⟩
    have h9 := h6 m8 em8
    refine AW_putf (t := 15) (o := 0) (k := 1) dX5_append_48 fp_X5_235 rfl rfl rfl rfl em8.symm ?_
    refine AW_aload_n dX5_append_51 rfl ?_
    refine AW_getv (t := 11) (o := 0) (k := 6) (some (15, none)) (v := aR 15 0) dX5_append_52 ff_X5_42 rfl rfl rfl ?_
    refine AW_getv (t := 15) (o := 0) (k := 1) none (v := aI (m8 15 0 1)) dX5_append_55 ff_X5_235 rfl rfl rfl ?_
    exact AW_ireturn (ty := .int) dX5_append_58 rfl rfl h9
  · have h2 := h.2 q3
    exact AW_throw tf_236_238_240 dX5_append_12 dX5_append_15 dX5_append_16 dX5_append_18 dX5_append_21 (by decide) (by decide) rfl (Nat.le_of_ble_eq_true rfl) h2
set_option maxRecDepth 100000 in
theorem B_X5_run_0  {μ : Mem} {P : RES → Mem → Prop}  (h : ∃ (r4 : Int32) (m1 : Mem), MetA M_X2_findError [aR 15 0] μ (rI r4 m1) ∧ (∀ m5 : Mem, m5 = mset m1 11 0 (upd (m1 11 0) 9 r4) → ∃ m8 : Mem, MetA M_X4_copyFrom [aR 0 1, aR 0 0] m5 (rV m8) ∧ ((¬ (m8 11 0 9) = (-1) → AW M_X5_run 0 39 [some (aR 11 0), none] [aI (-2)] m8 P) ∧ ((m8 11 0 9) = (-1) → ∃ (r17 : Int32) (m14 : Mem), MetA M_X5_carryOutAll [aR 11 0] m8 (rI r17 m14) ∧ (AW M_X5_run 0 39 [some (aR 11 0), none] [aI r17] m14 P))))) : AW M_X5_run 0 0 [some (aR 11 0), none] [] μ P := by
  refine AW_aload_n dX5_run_0 rfl ?_
  refine AW_aload_n dX5_run_1 rfl ?_
  refine AW_getv (t := 11) (o := 0) (k := 6) (some (15, none)) (v := aR 15 0) dX5_run_2 ff_X5_42 rfl rfl rfl ?_
  obtain ⟨r4, m1, h3, h2⟩ := h
  refine AW_callVI [] dX5_run_5 cv_X5_242 rfl rfl rfl (by decide) rfl (by decide) (Nat.le_of_ble_eq_true rfl) h3 ?_
  obtain ⟨m5, em5⟩ : ∃ z : Mem, z = mset m1 11 0 (upd (m1 11 0) 9 r4) := ⟨_, rfl⟩
  have h6 := h2 m5 em5
  refine AW_putf (t := 11) (o := 0) (k := 9) dX5_run_8 fp_X5_53 rfl rfl rfl rfl em5.symm ?_
  refine AW_aload_n dX5_run_11 rfl ?_
  refine AW_getv (t := 11) (o := 0) (k := 1) (some (0, some 1)) (v := aR 0 1) dX5_run_12 ff_X5_16 rfl rfl rfl ?_
  refine AW_aload_n dX5_run_15 rfl ?_
  refine AW_getv (t := 11) (o := 0) (k := 0) (some (0, some 0)) (v := aR 0 0) dX5_run_16 ff_X5_12 rfl rfl rfl ?_
  obtain ⟨m8, h10, h9⟩ := h6
  refine AW_callVV [aR 0 0] dX5_run_19 cv_X5_57 rfl rfl rfl (by decide) rfl (by decide) (Nat.le_of_ble_eq_true rfl) h10 ?_
  refine AW_aload_n dX5_run_22 rfl ?_
  refine AW_getv (t := 11) (o := 0) (k := 9) none (v := aI (m8 11 0 9)) dX5_run_23 ff_X5_53 rfl rfl rfl ?_
  refine AW_iconst (v := (-1)) dX5_run_26 (by decide) ?_
  refine AW_icmp_ne (tgt := 37) dX5_run_27 (by decide) (fun q13 => ?_) (fun q13 => ?_)
  · have h11 := h9.1 q13
    refine AW_bipush (v := (-2)) dX5_run_37 (by decide) ?_
    exact h11
  · have h12 := h9.2 q13
    refine AW_aload_n dX5_run_30 rfl ?_
    obtain ⟨r17, m14, h16, h15⟩ := h12
    refine AW_callVI [] dX5_run_31 cv_X5_245 rfl rfl rfl (by decide) rfl (by decide) (Nat.le_of_ble_eq_true rfl) h16 ?_
    refine AW_goto (tgt := 39) dX5_run_34 (by decide) ?_
    exact h15
set_option maxRecDepth 100000 in
theorem B_X5_run_39 {s0 : Int32} {μ : Mem} {P : RES → Mem → Prop}  (h : ∀ m1 : Mem, m1 = mset μ 15 0 (upd (μ 15 0) 1 0) → (0 ≤ s0 → (¬ s0 = (-3) → (0 ≤ s0 → ∃ m13 : Mem, MetA M_X0_keep [aR 12 0, aR 0 1] m1 (rV m13) ∧ (P (.inl (some (aI s0))) m13)) ∧ (¬ 0 ≤ s0 → P (.inr "java/lang/IllegalArgumentException") m1)) ∧ (s0 = (-3) → P (.inr "java/lang/UnsupportedOperationException") m1)) ∧ (¬ 0 ≤ s0 → ∃ m16 : Mem, MetA M_X4_copyFrom [aR 0 0, aR 0 1] m1 (rV m16) ∧ ((¬ s0 = (-3) → (0 ≤ s0 → ∃ m25 : Mem, MetA M_X0_keep [aR 12 0, aR 0 1] m16 (rV m25) ∧ (P (.inl (some (aI s0))) m25)) ∧ (¬ 0 ≤ s0 → P (.inr "java/lang/IllegalArgumentException") m16)) ∧ (s0 = (-3) → P (.inr "java/lang/UnsupportedOperationException") m16)))) : AW M_X5_run 0 39 [some (aR 11 0), none] [aI s0] μ P := by
  refine AW_istore_n (loc' := [some (aR 11 0), some (aI s0)]) dX5_run_39 (Nat.le_of_ble_eq_true rfl) rfl rfl ?_
  refine AW_aload_n dX5_run_40 rfl ?_
  refine AW_getv (t := 11) (o := 0) (k := 6) (some (15, none)) (v := aR 15 0) dX5_run_41 ff_X5_42 rfl rfl rfl ?_
  refine AW_iconst (v := 0) dX5_run_44 (by decide) ?_
  obtain ⟨m1, em1⟩ : ∃ z : Mem, z = mset μ 15 0 (upd (μ 15 0) 1 0) := ⟨_, rfl⟩
  have h2 := h m1 em1
  refine AW_putf (t := 15) (o := 0) (k := 1) dX5_run_45 fp_X5_235 rfl rfl rfl rfl em1.symm ?_
  refine AW_iload_n dX5_run_48 rfl ?_
  refine AW_if_ge (tgt := 63) dX5_run_49 (by decide) (fun q6 => ?_) (fun q6 => ?_)
  · have h4 := h2.1 q6
    refine AW_iload_n dX5_run_63 rfl ?_
    refine AW_bipush (v := (-3)) dX5_run_64 (by decide) ?_
    refine AW_icmp_ne (tgt := 79) dX5_run_66 (by decide) (fun q9 => ?_) (fun q9 => ?_)
    · have h7 := h4.1 q9
      refine AW_iload_n dX5_run_79 rfl ?_
      refine AW_if_ge (tgt := 93) dX5_run_80 (by decide) (fun q12 => ?_) (fun q12 => ?_)
      · have h10 := h7.1 q12
        refine AW_aload_n dX5_run_93 rfl ?_
        refine AW_getv (t := 11) (o := 0) (k := 4) (some (12, none)) (v := aR 12 0) dX5_run_94 ff_X5_28 rfl rfl rfl ?_
        refine AW_aload_n dX5_run_97 rfl ?_
        refine AW_getv (t := 11) (o := 0) (k := 1) (some (0, some 1)) (v := aR 0 1) dX5_run_98 ff_X5_16 rfl rfl rfl ?_
        obtain ⟨m13, h15, h14⟩ := h10
        refine AW_callVV [aR 0 1] dX5_run_101 cv_X5_255 rfl rfl rfl (by decide) rfl (by decide) (Nat.le_of_ble_eq_true rfl) h15 ?_
        refine AW_iload_n dX5_run_104 rfl ?_
        exact AW_ireturn (ty := .int) dX5_run_105 rfl rfl h14
      · have h11 := h7.2 q12
        exact AW_throw tf_106_253_110 dX5_run_83 dX5_run_86 dX5_run_87 dX5_run_89 dX5_run_92 (by decide) (by decide) rfl (Nat.le_of_ble_eq_true rfl) h11
    · have h8 := h4.2 q9
      exact AW_throw tf_248_250_252 dX5_run_69 dX5_run_72 dX5_run_73 dX5_run_75 dX5_run_78 (by decide) (by decide) rfl (Nat.le_of_ble_eq_true rfl) h8
  · have h5 := h2.2 q6
    refine AW_aload_n dX5_run_52 rfl ?_
    refine AW_getv (t := 11) (o := 0) (k := 0) (some (0, some 0)) (v := aR 0 0) dX5_run_53 ff_X5_12 rfl rfl rfl ?_
    refine AW_aload_n dX5_run_56 rfl ?_
    refine AW_getv (t := 11) (o := 0) (k := 1) (some (0, some 1)) (v := aR 0 1) dX5_run_57 ff_X5_16 rfl rfl rfl ?_
    obtain ⟨m16, h18, h17⟩ := h5
    refine AW_callVV [aR 0 1] dX5_run_60 cv_X5_57 rfl rfl rfl (by decide) rfl (by decide) (Nat.le_of_ble_eq_true rfl) h18 ?_
    refine AW_iload_n dX5_run_63 rfl ?_
    refine AW_bipush (v := (-3)) dX5_run_64 (by decide) ?_
    refine AW_icmp_ne (tgt := 79) dX5_run_66 (by decide) (fun q21 => ?_) (fun q21 => ?_)
    · have h19 := h17.1 q21
      refine AW_iload_n dX5_run_79 rfl ?_
      refine AW_if_ge (tgt := 93) dX5_run_80 (by decide) (fun q24 => ?_) (fun q24 => ?_)
      · have h22 := h19.1 q24
        refine AW_aload_n dX5_run_93 rfl ?_
        refine AW_getv (t := 11) (o := 0) (k := 4) (some (12, none)) (v := aR 12 0) dX5_run_94 ff_X5_28 rfl rfl rfl ?_
        refine AW_aload_n dX5_run_97 rfl ?_
        refine AW_getv (t := 11) (o := 0) (k := 1) (some (0, some 1)) (v := aR 0 1) dX5_run_98 ff_X5_16 rfl rfl rfl ?_
        obtain ⟨m25, h27, h26⟩ := h22
        refine AW_callVV [aR 0 1] dX5_run_101 cv_X5_255 rfl rfl rfl (by decide) rfl (by decide) (Nat.le_of_ble_eq_true rfl) h27 ?_
        refine AW_iload_n dX5_run_104 rfl ?_
        exact AW_ireturn (ty := .int) dX5_run_105 rfl rfl h26
      · have h23 := h19.2 q24
        exact AW_throw tf_106_253_110 dX5_run_83 dX5_run_86 dX5_run_87 dX5_run_89 dX5_run_92 (by decide) (by decide) rfl (Nat.le_of_ble_eq_true rfl) h23
    · have h20 := h17.2 q21
      exact AW_throw tf_248_250_252 dX5_run_69 dX5_run_72 dX5_run_73 dX5_run_75 dX5_run_78 (by decide) (by decide) rfl (Nat.le_of_ble_eq_true rfl) h20
set_option maxRecDepth 100000 in
theorem B_X5_errorPosition_0  {μ : Mem} {P : RES → Mem → Prop}  (h : P (.inl (some (aI (μ 11 0 9)))) μ) : AW M_X5_errorPosition 0 0 [some (aR 11 0)] [] μ P := by
  refine AW_aload_n dX5_errorPosition_0 rfl ?_
  refine AW_getv (t := 11) (o := 0) (k := 9) none (v := aI (μ 11 0 9)) dX5_errorPosition_1 ff_X5_53 rfl rfl rfl ?_
  exact AW_ireturn (ty := .int) dX5_errorPosition_4 rfl rfl h
set_option maxRecDepth 100000 in
theorem B_X5_refusal_0 {a1 : Int32} {a2 : Int32} {μ : Mem} {P : RES → Mem → Prop}  (h : (a1 = 0 → (¬ (μ 14 0 0) = 0 → (¬ a2 = 0 → (a1 = 0 → P (.inl (some (aI (μ 14 0 1)))) μ) ∧ (¬ a1 = 0 → P (.inl (some (aI (μ 14 0 3)))) μ)) ∧ (a2 = 0 → P (.inl (some (aI (μ 14 0 0)))) μ)) ∧ ((μ 14 0 0) = 0 → P (.inr "java/util/NoSuchElementException") μ)) ∧ (¬ a1 = 0 → (¬ (μ 14 0 2) = 0 → (¬ a2 = 0 → (a1 = 0 → P (.inl (some (aI (μ 14 0 1)))) μ) ∧ (¬ a1 = 0 → P (.inl (some (aI (μ 14 0 3)))) μ)) ∧ (a2 = 0 → P (.inl (some (aI (μ 14 0 2)))) μ)) ∧ ((μ 14 0 2) = 0 → P (.inr "java/util/NoSuchElementException") μ))) : AW M_X5_refusal 0 0 [some (aR 11 0), some (aI a1), some (aI a2), none] [] μ P := by
  refine AW_iload_n dX5_refusal_0 rfl ?_
  refine AW_if_eq (tgt := 14) dX5_refusal_1 (by decide) (fun q3 => ?_) (fun q3 => ?_)
  · have h1 := h.1 q3
    refine AW_aload_n dX5_refusal_14 rfl ?_
    refine AW_getv (t := 11) (o := 0) (k := 5) (some (14, none)) (v := aR 14 0) dX5_refusal_15 ff_X5_35 rfl rfl rfl ?_
    refine AW_getv (t := 14) (o := 0) (k := 0) none (v := aI (μ 14 0 0)) dX5_refusal_18 ff_X5_261 rfl rfl rfl ?_
    refine AW_istore_n (loc' := [some (aR 11 0), some (aI a1), some (aI a2), some (aI (μ 14 0 0))]) dX5_refusal_21 (Nat.le_of_ble_eq_true rfl) rfl rfl ?_
    refine AW_iload_n dX5_refusal_22 rfl ?_
    refine AW_if_ne (tgt := 37) dX5_refusal_23 (by decide) (fun q6 => ?_) (fun q6 => ?_)
    · have h4 := h1.1 q6
      refine AW_iload_n dX5_refusal_37 rfl ?_
      refine AW_if_ne (tgt := 43) dX5_refusal_38 (by decide) (fun q9 => ?_) (fun q9 => ?_)
      · have h7 := h4.1 q9
        refine AW_iload_n dX5_refusal_43 rfl ?_
        refine AW_if_eq (tgt := 57) dX5_refusal_44 (by decide) (fun q12 => ?_) (fun q12 => ?_)
        · have h10 := h7.1 q12
          refine AW_aload_n dX5_refusal_57 rfl ?_
          refine AW_getv (t := 11) (o := 0) (k := 5) (some (14, none)) (v := aR 14 0) dX5_refusal_58 ff_X5_35 rfl rfl rfl ?_
          refine AW_getv (t := 14) (o := 0) (k := 1) none (v := aI (μ 14 0 1)) dX5_refusal_61 ff_X5_269 rfl rfl rfl ?_
          exact AW_ireturn (ty := .int) dX5_refusal_64 rfl rfl h10
        · have h11 := h7.2 q12
          refine AW_aload_n dX5_refusal_47 rfl ?_
          refine AW_getv (t := 11) (o := 0) (k := 5) (some (14, none)) (v := aR 14 0) dX5_refusal_48 ff_X5_35 rfl rfl rfl ?_
          refine AW_getv (t := 14) (o := 0) (k := 3) none (v := aI (μ 14 0 3)) dX5_refusal_51 ff_X5_266 rfl rfl rfl ?_
          refine AW_goto (tgt := 64) dX5_refusal_54 (by decide) ?_
          exact AW_ireturn (ty := .int) dX5_refusal_64 rfl rfl h11
      · have h8 := h4.2 q9
        refine AW_iload_n dX5_refusal_41 rfl ?_
        exact AW_ireturn (ty := .int) dX5_refusal_42 rfl rfl h8
    · have h5 := h1.2 q6
      exact AW_throwWN tf_168_264_172 dX5_refusal_26 dX5_refusal_29 dX5_refusal_30 dX5_refusal_33 dX5_refusal_36 (by decide) (by decide) rfl (Nat.le_of_ble_eq_true rfl) h5
  · have h2 := h.2 q3
    refine AW_aload_n dX5_refusal_4 rfl ?_
    refine AW_getv (t := 11) (o := 0) (k := 5) (some (14, none)) (v := aR 14 0) dX5_refusal_5 ff_X5_35 rfl rfl rfl ?_
    refine AW_getv (t := 14) (o := 0) (k := 2) none (v := aI (μ 14 0 2)) dX5_refusal_8 ff_X5_258 rfl rfl rfl ?_
    refine AW_goto (tgt := 21) dX5_refusal_11 (by decide) ?_
    refine AW_istore_n (loc' := [some (aR 11 0), some (aI a1), some (aI a2), some (aI (μ 14 0 2))]) dX5_refusal_21 (Nat.le_of_ble_eq_true rfl) rfl rfl ?_
    refine AW_iload_n dX5_refusal_22 rfl ?_
    refine AW_if_ne (tgt := 37) dX5_refusal_23 (by decide) (fun q15 => ?_) (fun q15 => ?_)
    · have h13 := h2.1 q15
      refine AW_iload_n dX5_refusal_37 rfl ?_
      refine AW_if_ne (tgt := 43) dX5_refusal_38 (by decide) (fun q18 => ?_) (fun q18 => ?_)
      · have h16 := h13.1 q18
        refine AW_iload_n dX5_refusal_43 rfl ?_
        refine AW_if_eq (tgt := 57) dX5_refusal_44 (by decide) (fun q21 => ?_) (fun q21 => ?_)
        · have h19 := h16.1 q21
          refine AW_aload_n dX5_refusal_57 rfl ?_
          refine AW_getv (t := 11) (o := 0) (k := 5) (some (14, none)) (v := aR 14 0) dX5_refusal_58 ff_X5_35 rfl rfl rfl ?_
          refine AW_getv (t := 14) (o := 0) (k := 1) none (v := aI (μ 14 0 1)) dX5_refusal_61 ff_X5_269 rfl rfl rfl ?_
          exact AW_ireturn (ty := .int) dX5_refusal_64 rfl rfl h19
        · have h20 := h16.2 q21
          refine AW_aload_n dX5_refusal_47 rfl ?_
          refine AW_getv (t := 11) (o := 0) (k := 5) (some (14, none)) (v := aR 14 0) dX5_refusal_48 ff_X5_35 rfl rfl rfl ?_
          refine AW_getv (t := 14) (o := 0) (k := 3) none (v := aI (μ 14 0 3)) dX5_refusal_51 ff_X5_266 rfl rfl rfl ?_
          refine AW_goto (tgt := 64) dX5_refusal_54 (by decide) ?_
          exact AW_ireturn (ty := .int) dX5_refusal_64 rfl rfl h20
      · have h17 := h13.2 q18
        refine AW_iload_n dX5_refusal_41 rfl ?_
        exact AW_ireturn (ty := .int) dX5_refusal_42 rfl rfl h17
    · have h14 := h2.2 q15
      exact AW_throwWN tf_168_264_172 dX5_refusal_26 dX5_refusal_29 dX5_refusal_30 dX5_refusal_33 dX5_refusal_36 (by decide) (by decide) rfl (Nat.le_of_ble_eq_true rfl) h14
set_option maxRecDepth 100000 in
theorem B_X5_account_0 {a1 : Int32} {μ : Mem} {P : RES → Mem → Prop}  (h : (a1 < 0 → P (.inr "java/lang/IllegalArgumentException") μ) ∧ (¬ a1 < 0 → (a1 ≤ 14 → (¬ a1 = 13 → (¬ a1 = 14 → ∃ (r16 : Int32) (m13 : Mem), MetA M_X4_sumUp [aR 0 0, aI a1] μ (rI r16 m13) ∧ (P (.inl (some (aI r16))) m13)) ∧ (a1 = 14 → P (.inl (some (aI (μ 12 0 2)))) μ)) ∧ (a1 = 13 → P (.inl (some (aI (μ 15 0 1)))) μ)) ∧ (¬ a1 ≤ 14 → P (.inr "java/lang/IllegalArgumentException") μ))) : AW M_X5_account 0 0 [some (aR 11 0), some (aI a1)] [] μ P := by
  refine AW_iload_n dX5_account_0 rfl ?_
  refine AW_if_lt (tgt := 10) dX5_account_1 (by decide) (fun q3 => ?_) (fun q3 => ?_)
  · have h1 := h.1 q3
    exact AW_throwW tf_106_272_110 dX5_account_10 dX5_account_13 dX5_account_14 dX5_account_17 dX5_account_20 (by decide) (by decide) rfl (Nat.le_of_ble_eq_true rfl) h1
  · have h2 := h.2 q3
    refine AW_iload_n dX5_account_4 rfl ?_
    refine AW_bipush (v := 14) dX5_account_5 (by decide) ?_
    refine AW_icmp_le (tgt := 21) dX5_account_7 (by decide) (fun q6 => ?_) (fun q6 => ?_)
    · have h4 := h2.1 q6
      refine AW_iload_n dX5_account_21 rfl ?_
      refine AW_bipush (v := 13) dX5_account_22 (by decide) ?_
      refine AW_icmp_ne (tgt := 35) dX5_account_24 (by decide) (fun q9 => ?_) (fun q9 => ?_)
      · have h7 := h4.1 q9
        refine AW_iload_n dX5_account_35 rfl ?_
        refine AW_bipush (v := 14) dX5_account_36 (by decide) ?_
        refine AW_icmp_ne (tgt := 49) dX5_account_38 (by decide) (fun q12 => ?_) (fun q12 => ?_)
        · have h10 := h7.1 q12
          refine AW_aload_n dX5_account_49 rfl ?_
          refine AW_getv (t := 11) (o := 0) (k := 0) (some (0, some 0)) (v := aR 0 0) dX5_account_50 ff_X5_12 rfl rfl rfl ?_
          refine AW_iload_n dX5_account_53 rfl ?_
          obtain ⟨r16, m13, h15, h14⟩ := h10
          refine AW_callVI [aI a1] dX5_account_54 cv_X5_277 rfl rfl rfl (by decide) rfl (by decide) (Nat.le_of_ble_eq_true rfl) h15 ?_
          exact AW_ireturn (ty := .int) dX5_account_57 rfl rfl h14
        · have h11 := h7.2 q12
          refine AW_aload_n dX5_account_41 rfl ?_
          refine AW_getv (t := 11) (o := 0) (k := 4) (some (12, none)) (v := aR 12 0) dX5_account_42 ff_X5_28 rfl rfl rfl ?_
          refine AW_getv (t := 12) (o := 0) (k := 2) none (v := aI (μ 12 0 2)) dX5_account_45 ff_X5_274 rfl rfl rfl ?_
          exact AW_ireturn (ty := .int) dX5_account_48 rfl rfl h11
      · have h8 := h4.2 q9
        refine AW_aload_n dX5_account_27 rfl ?_
        refine AW_getv (t := 11) (o := 0) (k := 6) (some (15, none)) (v := aR 15 0) dX5_account_28 ff_X5_42 rfl rfl rfl ?_
        refine AW_getv (t := 15) (o := 0) (k := 1) none (v := aI (μ 15 0 1)) dX5_account_31 ff_X5_235 rfl rfl rfl ?_
        exact AW_ireturn (ty := .int) dX5_account_34 rfl rfl h8
    · have h5 := h2.2 q6
      exact AW_throwW tf_106_272_110 dX5_account_10 dX5_account_13 dX5_account_14 dX5_account_17 dX5_account_20 (by decide) (by decide) rfl (Nat.le_of_ble_eq_true rfl) h5
set_option maxRecDepth 100000 in
theorem B_X5_isWell_0  {μ : Mem} {P : RES → Mem → Prop}  (h : ∃ (r4 : Int32) (m1 : Mem), MetA M_X4_laughsByMisprint [aR 0 0] μ (rI r4 m1) ∧ (∃ (r8 : Int32) (m5 : Mem), MetA M_X4_laughsByReader [aR 0 0] m1 (rI r8 m5) ∧ ((r4 = r8 → AW M_X5_isWell 0 21 [some (aR 11 0), some (aI 0)] [] m5 P) ∧ (¬ r4 = r8 → P (.inl (some (aI 0))) m5)))) : AW M_X5_isWell 0 0 [some (aR 11 0), none] [] μ P := by
  refine AW_aload_n dX5_isWell_0 rfl ?_
  refine AW_getv (t := 11) (o := 0) (k := 0) (some (0, some 0)) (v := aR 0 0) dX5_isWell_1 ff_X5_12 rfl rfl rfl ?_
  obtain ⟨r4, m1, h3, h2⟩ := h
  refine AW_callVI [] dX5_isWell_4 cv_X5_185 rfl rfl rfl (by decide) rfl (by decide) (Nat.le_of_ble_eq_true rfl) h3 ?_
  refine AW_aload_n dX5_isWell_7 rfl ?_
  refine AW_getv (t := 11) (o := 0) (k := 0) (some (0, some 0)) (v := aR 0 0) dX5_isWell_8 ff_X5_12 rfl rfl rfl ?_
  obtain ⟨r8, m5, h7, h6⟩ := h2
  refine AW_callVI [] dX5_isWell_11 cv_X5_182 rfl rfl rfl (by decide) rfl (by decide) (Nat.le_of_ble_eq_true rfl) h7 ?_
  refine AW_icmp_eq (tgt := 19) dX5_isWell_14 (by decide) (fun q11 => ?_) (fun q11 => ?_)
  · have h9 := h6.1 q11
    refine AW_iconst (v := 0) dX5_isWell_19 (by decide) ?_
    refine AW_istore_n (loc' := [some (aR 11 0), some (aI 0)]) dX5_isWell_20 (Nat.le_of_ble_eq_true rfl) rfl rfl ?_
    exact h9
  · have h10 := h6.2 q11
    refine AW_iconst (v := 0) dX5_isWell_17 (by decide) ?_
    exact AW_ireturn (ty := .boolean) dX5_isWell_18 rfl rfl h10
set_option maxRecDepth 100000 in
theorem B_X5_isWell_21 {a1 : Int32} {μ : Mem} {P : RES → Mem → Prop}  (h : ((μ 0 0 1) ≤ a1 → P (.inl (some (aI 1))) μ) ∧ (¬ (μ 0 0 1) ≤ a1 → ∃ (r7 : Int32) (m4 : Mem), MetA M_X4_finesByPlace [aR 0 0, aI a1] μ (rI r7 m4) ∧ (∃ (r11 : Int32) (m8 : Mem), MetA M_X5_finesInThought [aR 11 0, aI a1] m4 (rI r11 m8) ∧ ((¬ r7 = r11 → P (.inl (some (aI 0))) m8) ∧ (r7 = r11 → ∃ (r18 : Int32) (m15 : Mem), MetA M_X5_isSheetWell [aR 11 0, aI a1] m8 (rI r18 m15) ∧ ((¬ r18 = 0 → AW M_X5_isWell 0 21 [some (aR 11 0), some (aI (a1 + 1))] [] m15 P) ∧ (r18 = 0 → P (.inl (some (aI 0))) m15))))))) : AW M_X5_isWell 0 21 [some (aR 11 0), some (aI a1)] [] μ P := by
  refine AW_iload_n dX5_isWell_21 rfl ?_
  refine AW_aload_n dX5_isWell_22 rfl ?_
  refine AW_getv (t := 11) (o := 0) (k := 0) (some (0, some 0)) (v := aR 0 0) dX5_isWell_23 ff_X5_12 rfl rfl rfl ?_
  refine AW_getv (t := 0) (o := 0) (k := 1) none (v := aI (μ 0 0 1)) dX5_isWell_26 ff_X5_188 rfl rfl rfl ?_
  refine AW_icmp_ge (tgt := 64) dX5_isWell_29 (by decide) (fun q3 => ?_) (fun q3 => ?_)
  · have h1 := h.1 q3
    refine AW_iconst (v := 1) dX5_isWell_64 (by decide) ?_
    exact AW_ireturn (ty := .boolean) dX5_isWell_65 rfl rfl h1
  · have h2 := h.2 q3
    refine AW_aload_n dX5_isWell_32 rfl ?_
    refine AW_getv (t := 11) (o := 0) (k := 0) (some (0, some 0)) (v := aR 0 0) dX5_isWell_33 ff_X5_12 rfl rfl rfl ?_
    refine AW_iload_n dX5_isWell_36 rfl ?_
    obtain ⟨r7, m4, h6, h5⟩ := h2
    refine AW_callVI [aI a1] dX5_isWell_37 cv_X5_152 rfl rfl rfl (by decide) rfl (by decide) (Nat.le_of_ble_eq_true rfl) h6 ?_
    refine AW_aload_n dX5_isWell_40 rfl ?_
    refine AW_iload_n dX5_isWell_41 rfl ?_
    obtain ⟨r11, m8, h10, h9⟩ := h5
    refine AW_callVI [aI a1] dX5_isWell_42 cv_X5_149 rfl rfl rfl (by decide) rfl (by decide) (Nat.le_of_ble_eq_true rfl) h10 ?_
    refine AW_icmp_ne (tgt := 56) dX5_isWell_45 (by decide) (fun q14 => ?_) (fun q14 => ?_)
    · have h12 := h9.1 q14
      refine AW_iconst (v := 0) dX5_isWell_56 (by decide) ?_
      exact AW_ireturn (ty := .boolean) dX5_isWell_57 rfl rfl h12
    · have h13 := h9.2 q14
      refine AW_aload_n dX5_isWell_48 rfl ?_
      refine AW_iload_n dX5_isWell_49 rfl ?_
      obtain ⟨r18, m15, h17, h16⟩ := h13
      refine AW_callVI [aI a1] dX5_isWell_50 cv_X5_280 rfl rfl rfl (by decide) rfl (by decide) (Nat.le_of_ble_eq_true rfl) h17 ?_
      refine AW_if_ne (tgt := 58) dX5_isWell_53 (by decide) (fun q21 => ?_) (fun q21 => ?_)
      · have h19 := h16.1 q21
        refine AW_iinc (v := a1 + 1) (loc' := [some (aR 11 0), some (aI (a1 + 1))]) dX5_isWell_58 rfl rfl (Nat.le_of_ble_eq_true rfl) rfl rfl ?_
        refine AW_goto (tgt := 21) dX5_isWell_61 (by decide) ?_
        exact h19
      · have h20 := h16.2 q21
        refine AW_iconst (v := 0) dX5_isWell_56 (by decide) ?_
        exact AW_ireturn (ty := .boolean) dX5_isWell_57 rfl rfl h20
set_option maxRecDepth 100000 in
theorem B_X5_meanShame_0  {μ : Mem} {P : RES → Mem → Prop}  (h : (¬ (μ 0 0 0) = 0 → AW M_X5_meanShame 0 25 [some (aR 11 0), some (aI 0), some (aI 0)] [] μ P) ∧ ((μ 0 0 0) = 0 → P (.inr "java/lang/ArithmeticException") μ)) : AW M_X5_meanShame 0 0 [some (aR 11 0), none, none] [] μ P := by
  refine AW_aload_n dX5_meanShame_0 rfl ?_
  refine AW_getv (t := 11) (o := 0) (k := 0) (some (0, some 0)) (v := aR 0 0) dX5_meanShame_1 ff_X5_12 rfl rfl rfl ?_
  refine AW_getv (t := 0) (o := 0) (k := 0) none (v := aI (μ 0 0 0)) dX5_meanShame_4 ff_X5_199 rfl rfl rfl ?_
  refine AW_if_ne (tgt := 21) dX5_meanShame_7 (by decide) (fun q3 => ?_) (fun q3 => ?_)
  · have h1 := h.1 q3
    refine AW_iconst (v := 0) dX5_meanShame_21 (by decide) ?_
    refine AW_istore_n (loc' := [some (aR 11 0), some (aI 0), none]) dX5_meanShame_22 (Nat.le_of_ble_eq_true rfl) rfl rfl ?_
    refine AW_iconst (v := 0) dX5_meanShame_23 (by decide) ?_
    refine AW_istore_n (loc' := [some (aR 11 0), some (aI 0), some (aI 0)]) dX5_meanShame_24 (Nat.le_of_ble_eq_true rfl) rfl rfl ?_
    exact h1
  · have h2 := h.2 q3
    exact AW_throwW tf_283_285_287 dX5_meanShame_10 dX5_meanShame_13 dX5_meanShame_14 dX5_meanShame_17 dX5_meanShame_20 (by decide) (by decide) rfl (Nat.le_of_ble_eq_true rfl) h2
set_option maxRecDepth 100000 in
theorem B_X5_meanShame_25 {a1 : Int32} {a2 : Int32} {μ : Mem} {P : RES → Mem → Prop}  (h : ((μ 0 0 0) ≤ a2 → vf_n64 (FP.ddiv (FP.i2d a1) (FP.i2d (μ 0 0 0))) ∧ (P (.inl (some (aD (FP.ddiv (FP.i2d a1) (FP.i2d (μ 0 0 0)))))) μ)) ∧ (¬ (μ 0 0 0) ≤ a2 → vp_in a2 4 ∧ (AW M_X5_meanShame 0 25 [some (aR 11 0), some (aI (a1 + (μ 2 0 a2.toNatClampNeg))), some (aI (a2 + 1))] [] μ P))) : AW M_X5_meanShame 0 25 [some (aR 11 0), some (aI a1), some (aI a2)] [] μ P := by
  refine AW_iload_n dX5_meanShame_25 rfl ?_
  refine AW_aload_n dX5_meanShame_26 rfl ?_
  refine AW_getv (t := 11) (o := 0) (k := 0) (some (0, some 0)) (v := aR 0 0) dX5_meanShame_27 ff_X5_12 rfl rfl rfl ?_
  refine AW_getv (t := 0) (o := 0) (k := 0) none (v := aI (μ 0 0 0)) dX5_meanShame_30 ff_X5_199 rfl rfl rfl ?_
  refine AW_icmp_ge (tgt := 54) dX5_meanShame_33 (by decide) (fun q3 => ?_) (fun q3 => ?_)
  · have h1 := h.1 q3
    refine AW_iload_n dX5_meanShame_54 rfl ?_
    refine AW_i2d dX5_meanShame_55 ?_
    refine AW_aload_n dX5_meanShame_56 rfl ?_
    refine AW_getv (t := 11) (o := 0) (k := 0) (some (0, some 0)) (v := aR 0 0) dX5_meanShame_57 ff_X5_12 rfl rfl rfl ?_
    refine AW_getv (t := 0) (o := 0) (k := 0) none (v := aI (μ 0 0 0)) dX5_meanShame_60 ff_X5_199 rfl rfl rfl ?_
    refine AW_i2d dX5_meanShame_63 ?_
    obtain ⟨h5, h4⟩ := h1
    refine AW_ddiv dX5_meanShame_64 h5 ?_
    exact AW_dreturn dX5_meanShame_65 rfl h4
  · have h2 := h.2 q3
    refine AW_iload_n dX5_meanShame_36 rfl ?_
    refine AW_aload_n dX5_meanShame_37 rfl ?_
    refine AW_getv (t := 11) (o := 0) (k := 0) (some (0, some 0)) (v := aR 0 0) dX5_meanShame_38 ff_X5_12 rfl rfl rfl ?_
    refine AW_getv (t := 0) (o := 0) (k := 9) (some (2, none)) (v := aR 2 0) dX5_meanShame_41 ff_X5_173 rfl rfl rfl ?_
    refine AW_iload_n dX5_meanShame_44 rfl ?_
    obtain ⟨h6, h7⟩ := h2
    refine AW_iaload dX5_meanShame_45 rfl rfl h6 ?_
    refine AW_iadd dX5_meanShame_46 ?_
    refine AW_istore_n (loc' := [some (aR 11 0), some (aI (a1 + (μ 2 0 a2.toNatClampNeg))), some (aI a2)]) dX5_meanShame_47 (Nat.le_of_ble_eq_true rfl) rfl rfl ?_
    refine AW_iinc (v := a2 + 1) (loc' := [some (aR 11 0), some (aI (a1 + (μ 2 0 a2.toNatClampNeg))), some (aI (a2 + 1))]) dX5_meanShame_48 rfl rfl (Nat.le_of_ble_eq_true rfl) rfl rfl ?_
    refine AW_goto (tgt := 25) dX5_meanShame_51 (by decide) ?_
    exact h7
set_option maxRecDepth 100000 in
theorem B_X5_errorShare_0  {μ : Mem} {P : RES → Mem → Prop}  (h : AW M_X5_errorShare 0 4 [some (aR 11 0), some (aI 0), some (aI 0)] [] μ P) : AW M_X5_errorShare 0 0 [some (aR 11 0), none, none] [] μ P := by
  refine AW_iconst (v := 0) dX5_errorShare_0 (by decide) ?_
  refine AW_istore_n (loc' := [some (aR 11 0), some (aI 0), none]) dX5_errorShare_1 (Nat.le_of_ble_eq_true rfl) rfl rfl ?_
  refine AW_iconst (v := 0) dX5_errorShare_2 (by decide) ?_
  refine AW_istore_n (loc' := [some (aR 11 0), some (aI 0), some (aI 0)]) dX5_errorShare_3 (Nat.le_of_ble_eq_true rfl) rfl rfl ?_
  exact h
set_option maxRecDepth 100000 in
theorem B_X5_errorShare_4 {a1 : Int32} {a2 : Int32} {μ : Mem} {P : RES → Mem → Prop}  (h : ((μ 0 0 1) ≤ a2 → (¬ a1 = 0 → ∃ (r10 : Int32) (m7 : Mem), MetA M_X4_countInAll [aR 0 0, aI 1] μ (rI r10 m7) ∧ (vf_n32 (FP.fdiv (FP.i2f r10) (FP.i2f a1)) ∧ (P (.inl (some (aF (FP.fdiv (FP.i2f r10) (FP.i2f a1))))) m7))) ∧ (a1 = 0 → P (.inr "java/lang/ArithmeticException") μ)) ∧ (¬ (μ 0 0 1) ≤ a2 → vp_in a2 8 ∧ (AW M_X5_errorShare 0 4 [some (aR 11 0), some (aI (a1 + (μ 5 0 a2.toNatClampNeg))), some (aI (a2 + 1))] [] μ P))) : AW M_X5_errorShare 0 4 [some (aR 11 0), some (aI a1), some (aI a2)] [] μ P := by
  refine AW_iload_n dX5_errorShare_4 rfl ?_
  refine AW_aload_n dX5_errorShare_5 rfl ?_
  refine AW_getv (t := 11) (o := 0) (k := 0) (some (0, some 0)) (v := aR 0 0) dX5_errorShare_6 ff_X5_12 rfl rfl rfl ?_
  refine AW_getv (t := 0) (o := 0) (k := 1) none (v := aI (μ 0 0 1)) dX5_errorShare_9 ff_X5_188 rfl rfl rfl ?_
  refine AW_icmp_ge (tgt := 33) dX5_errorShare_12 (by decide) (fun q3 => ?_) (fun q3 => ?_)
  · have h1 := h.1 q3
    refine AW_iload_n dX5_errorShare_33 rfl ?_
    refine AW_if_ne (tgt := 48) dX5_errorShare_34 (by decide) (fun q6 => ?_) (fun q6 => ?_)
    · have h4 := h1.1 q6
      refine AW_aload_n dX5_errorShare_48 rfl ?_
      refine AW_getv (t := 11) (o := 0) (k := 0) (some (0, some 0)) (v := aR 0 0) dX5_errorShare_49 ff_X5_12 rfl rfl rfl ?_
      refine AW_iconst (v := 1) dX5_errorShare_52 (by decide) ?_
      obtain ⟨r10, m7, h9, h8⟩ := h4
      refine AW_callVI [aI 1] dX5_errorShare_53 cv_X5_290 rfl rfl rfl (by decide) rfl (by decide) (Nat.le_of_ble_eq_true rfl) h9 ?_
      refine AW_i2f dX5_errorShare_56 ?_
      refine AW_iload_n dX5_errorShare_57 rfl ?_
      refine AW_i2f dX5_errorShare_58 ?_
      obtain ⟨h12, h11⟩ := h8
      refine AW_fdiv dX5_errorShare_59 h12 ?_
      exact AW_freturn dX5_errorShare_60 rfl h11
    · have h5 := h1.2 q6
      exact AW_throwW tf_283_288_287 dX5_errorShare_37 dX5_errorShare_40 dX5_errorShare_41 dX5_errorShare_44 dX5_errorShare_47 (by decide) (by decide) rfl (Nat.le_of_ble_eq_true rfl) h5
  · have h2 := h.2 q3
    refine AW_iload_n dX5_errorShare_15 rfl ?_
    refine AW_aload_n dX5_errorShare_16 rfl ?_
    refine AW_getv (t := 11) (o := 0) (k := 0) (some (0, some 0)) (v := aR 0 0) dX5_errorShare_17 ff_X5_12 rfl rfl rfl ?_
    refine AW_getv (t := 0) (o := 0) (k := 12) (some (5, none)) (v := aR 5 0) dX5_errorShare_20 ff_X5_219 rfl rfl rfl ?_
    refine AW_iload_n dX5_errorShare_23 rfl ?_
    obtain ⟨h13, h14⟩ := h2
    refine AW_iaload dX5_errorShare_24 rfl rfl h13 ?_
    refine AW_iadd dX5_errorShare_25 ?_
    refine AW_istore_n (loc' := [some (aR 11 0), some (aI (a1 + (μ 5 0 a2.toNatClampNeg))), some (aI a2)]) dX5_errorShare_26 (Nat.le_of_ble_eq_true rfl) rfl rfl ?_
    refine AW_iinc (v := a2 + 1) (loc' := [some (aR 11 0), some (aI (a1 + (μ 5 0 a2.toNatClampNeg))), some (aI (a2 + 1))]) dX5_errorShare_27 rfl rfl (Nat.le_of_ble_eq_true rfl) rfl rfl ?_
    refine AW_goto (tgt := 4) dX5_errorShare_30 (by decide) ?_
    exact h14
set_option maxRecDepth 100000 in
theorem B_X5_undo_0  {μ : Mem} {P : RES → Mem → Prop}  (h : (¬ (μ 12 0 2) = 0 → ∃ m4 : Mem, MetA M_X0_takeBack [aR 12 0, aR 0 0] μ (rV m4) ∧ (P (.inl (some (aI (m4 12 0 2)))) m4)) ∧ ((μ 12 0 2) = 0 → P (.inr "java/lang/IllegalStateException") μ)) : AW M_X5_undo 0 0 [some (aR 11 0)] [] μ P := by
  refine AW_aload_n dX5_undo_0 rfl ?_
  refine AW_getv (t := 11) (o := 0) (k := 4) (some (12, none)) (v := aR 12 0) dX5_undo_1 ff_X5_28 rfl rfl rfl ?_
  refine AW_getv (t := 12) (o := 0) (k := 2) none (v := aI (μ 12 0 2)) dX5_undo_4 ff_X5_274 rfl rfl rfl ?_
  refine AW_if_ne (tgt := 21) dX5_undo_7 (by decide) (fun q3 => ?_) (fun q3 => ?_)
  · have h1 := h.1 q3
    refine AW_aload_n dX5_undo_21 rfl ?_
    refine AW_getv (t := 11) (o := 0) (k := 4) (some (12, none)) (v := aR 12 0) dX5_undo_22 ff_X5_28 rfl rfl rfl ?_
    refine AW_aload_n dX5_undo_25 rfl ?_
    refine AW_getv (t := 11) (o := 0) (k := 0) (some (0, some 0)) (v := aR 0 0) dX5_undo_26 ff_X5_12 rfl rfl rfl ?_
    obtain ⟨m4, h6, h5⟩ := h1
    refine AW_callVV [aR 0 0] dX5_undo_29 cv_X5_295 rfl rfl rfl (by decide) rfl (by decide) (Nat.le_of_ble_eq_true rfl) h6 ?_
    refine AW_aload_n dX5_undo_32 rfl ?_
    refine AW_getv (t := 11) (o := 0) (k := 4) (some (12, none)) (v := aR 12 0) dX5_undo_33 ff_X5_28 rfl rfl rfl ?_
    refine AW_getv (t := 12) (o := 0) (k := 2) none (v := aI (m4 12 0 2)) dX5_undo_36 ff_X5_274 rfl rfl rfl ?_
    exact AW_ireturn (ty := .int) dX5_undo_39 rfl rfl h5
  · have h2 := h.2 q3
    exact AW_throwW tf_236_293_240 dX5_undo_10 dX5_undo_13 dX5_undo_14 dX5_undo_17 dX5_undo_20 (by decide) (by decide) rfl (Nat.le_of_ble_eq_true rfl) h2
set_option maxRecDepth 100000 in
theorem B_X5_save_0  {μ : Mem} {P : RES → Mem → Prop}  (h : ∃ m1 : Mem, MetA M_X4_copyFrom [aR 0 3, aR 0 0] μ (rV m1) ∧ (∀ m4 : Mem, m4 = mset m1 11 0 (upd (m1 11 0) 8 1) → P (.inl (some (aI (m4 0 0 1)))) m4)) : AW M_X5_save 0 0 [some (aR 11 0)] [] μ P := by
  refine AW_aload_n dX5_save_0 rfl ?_
  refine AW_getv (t := 11) (o := 0) (k := 3) (some (0, some 3)) (v := aR 0 3) dX5_save_1 ff_X5_22 rfl rfl rfl ?_
  refine AW_aload_n dX5_save_4 rfl ?_
  refine AW_getv (t := 11) (o := 0) (k := 0) (some (0, some 0)) (v := aR 0 0) dX5_save_5 ff_X5_12 rfl rfl rfl ?_
  obtain ⟨m1, h3, h2⟩ := h
  refine AW_callVV [aR 0 0] dX5_save_8 cv_X5_57 rfl rfl rfl (by decide) rfl (by decide) (Nat.le_of_ble_eq_true rfl) h3 ?_
  refine AW_aload_n dX5_save_11 rfl ?_
  refine AW_iconst (v := 1) dX5_save_12 (by decide) ?_
  obtain ⟨m4, em4⟩ : ∃ z : Mem, z = mset m1 11 0 (upd (m1 11 0) 8 1) := ⟨_, rfl⟩
  have h5 := h2 m4 em4
  refine AW_putf (t := 11) (o := 0) (k := 8) dX5_save_13 fp_X5_298 rfl rfl rfl rfl em4.symm ?_
  refine AW_aload_n dX5_save_16 rfl ?_
  refine AW_getv (t := 11) (o := 0) (k := 0) (some (0, some 0)) (v := aR 0 0) dX5_save_17 ff_X5_12 rfl rfl rfl ?_
  refine AW_getv (t := 0) (o := 0) (k := 1) none (v := aI (m4 0 0 1)) dX5_save_20 ff_X5_188 rfl rfl rfl ?_
  exact AW_ireturn (ty := .int) dX5_save_23 rfl rfl h5
set_option maxRecDepth 100000 in
theorem B_X5_restore_0  {μ : Mem} {P : RES → Mem → Prop}  (h : (¬ (μ 11 0 8) = 0 → ∃ m4 : Mem, MetA M_X4_copyFrom [aR 0 0, aR 0 3] μ (rV m4) ∧ (∀ m7 : Mem, m7 = mset m4 12 0 (upd (m4 12 0) 2 0) → P (.inl (some (aI (m7 0 0 1)))) m7)) ∧ ((μ 11 0 8) = 0 → P (.inr "java/lang/IllegalStateException") μ)) : AW M_X5_restore 0 0 [some (aR 11 0)] [] μ P := by
  refine AW_aload_n dX5_restore_0 rfl ?_
  refine AW_getv (t := 11) (o := 0) (k := 8) none (v := aI (μ 11 0 8)) dX5_restore_1 ff_X5_298 rfl rfl rfl ?_
  refine AW_if_ne (tgt := 18) dX5_restore_4 (by decide) (fun q3 => ?_) (fun q3 => ?_)
  · have h1 := h.1 q3
    refine AW_aload_n dX5_restore_18 rfl ?_
    refine AW_getv (t := 11) (o := 0) (k := 0) (some (0, some 0)) (v := aR 0 0) dX5_restore_19 ff_X5_12 rfl rfl rfl ?_
    refine AW_aload_n dX5_restore_22 rfl ?_
    refine AW_getv (t := 11) (o := 0) (k := 3) (some (0, some 3)) (v := aR 0 3) dX5_restore_23 ff_X5_22 rfl rfl rfl ?_
    obtain ⟨m4, h6, h5⟩ := h1
    refine AW_callVV [aR 0 3] dX5_restore_26 cv_X5_57 rfl rfl rfl (by decide) rfl (by decide) (Nat.le_of_ble_eq_true rfl) h6 ?_
    refine AW_aload_n dX5_restore_29 rfl ?_
    refine AW_getv (t := 11) (o := 0) (k := 4) (some (12, none)) (v := aR 12 0) dX5_restore_30 ff_X5_28 rfl rfl rfl ?_
    refine AW_iconst (v := 0) dX5_restore_33 (by decide) ?_
    obtain ⟨m7, em7⟩ : ∃ z : Mem, z = mset m4 12 0 (upd (m4 12 0) 2 0) := ⟨_, rfl⟩
    have h8 := h5 m7 em7
    refine AW_putf (t := 12) (o := 0) (k := 2) dX5_restore_34 fp_X5_274 rfl rfl rfl rfl em7.symm ?_
    refine AW_aload_n dX5_restore_37 rfl ?_
    refine AW_getv (t := 11) (o := 0) (k := 0) (some (0, some 0)) (v := aR 0 0) dX5_restore_38 ff_X5_12 rfl rfl rfl ?_
    refine AW_getv (t := 0) (o := 0) (k := 1) none (v := aI (m7 0 0 1)) dX5_restore_41 ff_X5_188 rfl rfl rfl ?_
    exact AW_ireturn (ty := .int) dX5_restore_44 rfl rfl h8
  · have h2 := h.2 q3
    exact AW_throwW tf_236_302_240 dX5_restore_7 dX5_restore_10 dX5_restore_11 dX5_restore_14 dX5_restore_17 (by decide) (by decide) rfl (Nat.le_of_ble_eq_true rfl) h2
set_option maxRecDepth 100000 in
theorem B_X5_settle_0 {a1 : Int32} {μ : Mem} {P : RES → Mem → Prop}  (h : (¬ a1 = (-1) → (¬ a1 = (-2) → (¬ a1 = (-3) → ∃ m10 : Mem, MetA M_X0_keep [aR 12 0, aR 0 1] μ (rV m10) ∧ (P (.inl (some (aI a1))) m10)) ∧ (a1 = (-3) → P (.inr "java/lang/UnsupportedOperationException") μ)) ∧ (a1 = (-2) → P (.inr "java/lang/IllegalArgumentException") μ)) ∧ (a1 = (-1) → P (.inr "java/lang/IndexOutOfBoundsException") μ)) : AW M_X5_settle 0 0 [some (aR 11 0), some (aI a1)] [] μ P := by
  refine AW_iload_n dX5_settle_0 rfl ?_
  refine AW_iconst (v := (-1)) dX5_settle_1 (by decide) ?_
  refine AW_icmp_ne (tgt := 16) dX5_settle_2 (by decide) (fun q3 => ?_) (fun q3 => ?_)
  · have h1 := h.1 q3
    refine AW_iload_n dX5_settle_16 rfl ?_
    refine AW_bipush (v := (-2)) dX5_settle_17 (by decide) ?_
    refine AW_icmp_ne (tgt := 33) dX5_settle_19 (by decide) (fun q6 => ?_) (fun q6 => ?_)
    · have h4 := h1.1 q6
      refine AW_iload_n dX5_settle_33 rfl ?_
      refine AW_bipush (v := (-3)) dX5_settle_34 (by decide) ?_
      refine AW_icmp_ne (tgt := 50) dX5_settle_36 (by decide) (fun q9 => ?_) (fun q9 => ?_)
      · have h7 := h4.1 q9
        refine AW_aload_n dX5_settle_50 rfl ?_
        refine AW_getv (t := 11) (o := 0) (k := 4) (some (12, none)) (v := aR 12 0) dX5_settle_51 ff_X5_28 rfl rfl rfl ?_
        refine AW_aload_n dX5_settle_54 rfl ?_
        refine AW_getv (t := 11) (o := 0) (k := 1) (some (0, some 1)) (v := aR 0 1) dX5_settle_55 ff_X5_16 rfl rfl rfl ?_
        obtain ⟨m10, h12, h11⟩ := h7
        refine AW_callVV [aR 0 1] dX5_settle_58 cv_X5_255 rfl rfl rfl (by decide) rfl (by decide) (Nat.le_of_ble_eq_true rfl) h12 ?_
        refine AW_iload_n dX5_settle_61 rfl ?_
        exact AW_ireturn (ty := .int) dX5_settle_62 rfl rfl h11
      · have h8 := h4.2 q9
        exact AW_throwW tf_248_308_252 dX5_settle_39 dX5_settle_42 dX5_settle_43 dX5_settle_46 dX5_settle_49 (by decide) (by decide) rfl (Nat.le_of_ble_eq_true rfl) h8
    · have h5 := h1.2 q6
      exact AW_throwW tf_106_306_110 dX5_settle_22 dX5_settle_25 dX5_settle_26 dX5_settle_29 dX5_settle_32 (by decide) (by decide) rfl (Nat.le_of_ble_eq_true rfl) h5
  · have h2 := h.2 q3
    exact AW_throwW tf_99_304_103 dX5_settle_5 dX5_settle_8 dX5_settle_9 dX5_settle_12 dX5_settle_15 (by decide) (by decide) rfl (Nat.le_of_ble_eq_true rfl) h2
set_option maxRecDepth 100000 in
theorem B_X5_refuse_0 {a1 : Int32} {a2 : Int32} {μ : Mem} {P : RES → Mem → Prop}  (h : ∃ m1 : Mem, MetA M_X3_become [aR 14 0, aI a1, aI a2] μ (rV m1) ∧ (P (.inl (some (aI (-3)))) m1)) : AW M_X5_refuse 0 0 [some (aR 11 0), some (aI a1), some (aI a2)] [] μ P := by
  refine AW_aload_n dX5_refuse_0 rfl ?_
  refine AW_getv (t := 11) (o := 0) (k := 5) (some (14, none)) (v := aR 14 0) dX5_refuse_1 ff_X5_35 rfl rfl rfl ?_
  refine AW_iload_n dX5_refuse_4 rfl ?_
  refine AW_iload_n dX5_refuse_5 rfl ?_
  obtain ⟨m1, h3, h2⟩ := h
  refine AW_callVV [aI a1, aI a2] dX5_refuse_6 cv_X5_310 rfl rfl rfl (by decide) rfl (by decide) (Nat.le_of_ble_eq_true rfl) h3 ?_
  refine AW_bipush (v := (-3)) dX5_refuse_9 (by decide) ?_
  exact AW_ireturn (ty := .int) dX5_refuse_11 rfl rfl h2
set_option maxRecDepth 100000 in
theorem B_X5_addHouse_0 {a1 : Int32} {μ : Mem} {P : RES → Mem → Prop}  (h : (a1 < 0 → P (.inl (some (aI (-2)))) μ) ∧ (¬ a1 < 0 → (a1 ≤ 99 → ((μ 0 0 0) < 4 → ∃ (r13 : Int32) (m10 : Mem), MetA M_X4_appendHouse [aR 0 0, aI a1] μ (rI r13 m10) ∧ (P (.inl (some (aI r13))) m10)) ∧ (¬ (μ 0 0 0) < 4 → ∃ (r17 : Int32) (m14 : Mem), MetA M_X5_refuse [aR 11 0, aI 1, aI 4] μ (rI r17 m14) ∧ (P (.inl (some (aI r17))) m14))) ∧ (¬ a1 ≤ 99 → P (.inl (some (aI (-2)))) μ))) : AW M_X5_addHouse 0 0 [some (aR 11 0), some (aI a1)] [] μ P := by
  refine AW_iload_n dX5_addHouse_0 rfl ?_
  refine AW_if_lt (tgt := 10) dX5_addHouse_1 (by decide) (fun q3 => ?_) (fun q3 => ?_)
  · have h1 := h.1 q3
    refine AW_bipush (v := (-2)) dX5_addHouse_10 (by decide) ?_
    exact AW_ireturn (ty := .int) dX5_addHouse_12 rfl rfl h1
  · have h2 := h.2 q3
    refine AW_iload_n dX5_addHouse_4 rfl ?_
    refine AW_bipush (v := 99) dX5_addHouse_5 (by decide) ?_
    refine AW_icmp_le (tgt := 13) dX5_addHouse_7 (by decide) (fun q6 => ?_) (fun q6 => ?_)
    · have h4 := h2.1 q6
      refine AW_aload_n dX5_addHouse_13 rfl ?_
      refine AW_getv (t := 11) (o := 0) (k := 0) (some (0, some 0)) (v := aR 0 0) dX5_addHouse_14 ff_X5_12 rfl rfl rfl ?_
      refine AW_getv (t := 0) (o := 0) (k := 0) none (v := aI (μ 0 0 0)) dX5_addHouse_17 ff_X5_199 rfl rfl rfl ?_
      refine AW_iconst (v := 4) dX5_addHouse_20 (by decide) ?_
      refine AW_icmp_lt (tgt := 31) dX5_addHouse_21 (by decide) (fun q9 => ?_) (fun q9 => ?_)
      · have h7 := h4.1 q9
        refine AW_aload_n dX5_addHouse_31 rfl ?_
        refine AW_getv (t := 11) (o := 0) (k := 0) (some (0, some 0)) (v := aR 0 0) dX5_addHouse_32 ff_X5_12 rfl rfl rfl ?_
        refine AW_iload_n dX5_addHouse_35 rfl ?_
        obtain ⟨r13, m10, h12, h11⟩ := h7
        refine AW_callVI [aI a1] dX5_addHouse_36 cv_X5_316 rfl rfl rfl (by decide) rfl (by decide) (Nat.le_of_ble_eq_true rfl) h12 ?_
        exact AW_ireturn (ty := .int) dX5_addHouse_39 rfl rfl h11
      · have h8 := h4.2 q9
        refine AW_aload_n dX5_addHouse_24 rfl ?_
        refine AW_iconst (v := 1) dX5_addHouse_25 (by decide) ?_
        refine AW_iconst (v := 4) dX5_addHouse_26 (by decide) ?_
        obtain ⟨r17, m14, h16, h15⟩ := h8
        refine AW_callVI [aI 1, aI 4] dX5_addHouse_27 cv_X5_313 rfl rfl rfl (by decide) rfl (by decide) (Nat.le_of_ble_eq_true rfl) h16 ?_
        exact AW_ireturn (ty := .int) dX5_addHouse_30 rfl rfl h15
    · have h5 := h2.2 q6
      refine AW_bipush (v := (-2)) dX5_addHouse_10 (by decide) ?_
      exact AW_ireturn (ty := .int) dX5_addHouse_12 rfl rfl h5
set_option maxRecDepth 100000 in
theorem B_X5_addSheet_0 {a1 : Int32} {a2 : Int32} {μ : Mem} {P : RES → Mem → Prop}  (h : ∃ (r4 : Int32) (m1 : Mem), MetA M_X4_hasHouse [aR 0 0, aI a1] μ (rI r4 m1) ∧ ((¬ r4 = 0 → ∃ (r11 : Int32) (m8 : Mem), MetA M_X5_lettersIn [aI a2] m1 (rI r11 m8) ∧ ((¬ r11 = 0 → ((m8 0 0 1) < 8 → ∃ (r21 : Int32) (m18 : Mem), MetA M_X4_appendSheet [aR 0 0, aI a1, aI a2, aI r11] m8 (rI r21 m18) ∧ (P (.inl (some (aI r21))) m18)) ∧ (¬ (m8 0 0 1) < 8 → ∃ (r25 : Int32) (m22 : Mem), MetA M_X5_refuse [aR 11 0, aI 1, aI 8] m8 (rI r25 m22) ∧ (P (.inl (some (aI r25))) m22))) ∧ (r11 = 0 → P (.inl (some (aI (-2)))) m8))) ∧ (r4 = 0 → P (.inl (some (aI (-1)))) m1))) : AW M_X5_addSheet 0 0 [some (aR 11 0), some (aI a1), some (aI a2), none] [] μ P := by
  refine AW_aload_n dX5_addSheet_0 rfl ?_
  refine AW_getv (t := 11) (o := 0) (k := 0) (some (0, some 0)) (v := aR 0 0) dX5_addSheet_1 ff_X5_12 rfl rfl rfl ?_
  refine AW_iload_n dX5_addSheet_4 rfl ?_
  obtain ⟨r4, m1, h3, h2⟩ := h
  refine AW_callVI [aI a1] dX5_addSheet_5 cv_X5_95 rfl rfl rfl (by decide) rfl (by decide) (Nat.le_of_ble_eq_true rfl) h3 ?_
  refine AW_if_ne (tgt := 13) dX5_addSheet_8 (by decide) (fun q7 => ?_) (fun q7 => ?_)
  · have h5 := h2.1 q7
    refine AW_iload_n dX5_addSheet_13 rfl ?_
    obtain ⟨r11, m8, h10, h9⟩ := h5
    refine AW_callSI [aI a2] dX5_addSheet_14 cs_X5_319 rfl rfl (by decide) rfl (by decide) (Nat.le_of_ble_eq_true rfl) h10 ?_
    refine AW_istore_n (loc' := [some (aR 11 0), some (aI a1), some (aI a2), some (aI r11)]) dX5_addSheet_17 (Nat.le_of_ble_eq_true rfl) rfl rfl ?_
    refine AW_iload_n dX5_addSheet_18 rfl ?_
    refine AW_if_ne (tgt := 25) dX5_addSheet_19 (by decide) (fun q14 => ?_) (fun q14 => ?_)
    · have h12 := h9.1 q14
      refine AW_aload_n dX5_addSheet_25 rfl ?_
      refine AW_getv (t := 11) (o := 0) (k := 0) (some (0, some 0)) (v := aR 0 0) dX5_addSheet_26 ff_X5_12 rfl rfl rfl ?_
      refine AW_getv (t := 0) (o := 0) (k := 1) none (v := aI (m8 0 0 1)) dX5_addSheet_29 ff_X5_188 rfl rfl rfl ?_
      refine AW_bipush (v := 8) dX5_addSheet_32 (by decide) ?_
      refine AW_icmp_lt (tgt := 45) dX5_addSheet_34 (by decide) (fun q17 => ?_) (fun q17 => ?_)
      · have h15 := h12.1 q17
        refine AW_aload_n dX5_addSheet_45 rfl ?_
        refine AW_getv (t := 11) (o := 0) (k := 0) (some (0, some 0)) (v := aR 0 0) dX5_addSheet_46 ff_X5_12 rfl rfl rfl ?_
        refine AW_iload_n dX5_addSheet_49 rfl ?_
        refine AW_iload_n dX5_addSheet_50 rfl ?_
        refine AW_iload_n dX5_addSheet_51 rfl ?_
        obtain ⟨r21, m18, h20, h19⟩ := h15
        refine AW_callVI [aI a1, aI a2, aI r11] dX5_addSheet_52 cv_X5_322 rfl rfl rfl (by decide) rfl (by decide) (Nat.le_of_ble_eq_true rfl) h20 ?_
        exact AW_ireturn (ty := .int) dX5_addSheet_55 rfl rfl h19
      · have h16 := h12.2 q17
        refine AW_aload_n dX5_addSheet_37 rfl ?_
        refine AW_iconst (v := 1) dX5_addSheet_38 (by decide) ?_
        refine AW_bipush (v := 8) dX5_addSheet_39 (by decide) ?_
        obtain ⟨r25, m22, h24, h23⟩ := h16
        refine AW_callVI [aI 1, aI 8] dX5_addSheet_41 cv_X5_313 rfl rfl rfl (by decide) rfl (by decide) (Nat.le_of_ble_eq_true rfl) h24 ?_
        exact AW_ireturn (ty := .int) dX5_addSheet_44 rfl rfl h23
    · have h13 := h9.2 q14
      refine AW_bipush (v := (-2)) dX5_addSheet_22 (by decide) ?_
      exact AW_ireturn (ty := .int) dX5_addSheet_24 rfl rfl h13
  · have h6 := h2.2 q7
    refine AW_iconst (v := (-1)) dX5_addSheet_11 (by decide) ?_
    exact AW_ireturn (ty := .int) dX5_addSheet_12 rfl rfl h6
set_option maxRecDepth 100000 in
theorem B_X5_takeSheet_0 {a1 : Int32} {μ : Mem} {P : RES → Mem → Prop}  (h : ∃ (r4 : Int32) (m1 : Mem), MetA M_X4_hasSheet [aR 0 0, aI a1] μ (rI r4 m1) ∧ ((¬ r4 = 0 → ∃ m8 : Mem, MetA M_X4_removeSheet [aR 0 0, aI a1] m1 (rV m8) ∧ (P (.inl (some (aI (m8 0 0 1)))) m8)) ∧ (r4 = 0 → P (.inl (some (aI (-1)))) m1))) : AW M_X5_takeSheet 0 0 [some (aR 11 0), some (aI a1)] [] μ P := by
  refine AW_aload_n dX5_takeSheet_0 rfl ?_
  refine AW_getv (t := 11) (o := 0) (k := 0) (some (0, some 0)) (v := aR 0 0) dX5_takeSheet_1 ff_X5_12 rfl rfl rfl ?_
  refine AW_iload_n dX5_takeSheet_4 rfl ?_
  obtain ⟨r4, m1, h3, h2⟩ := h
  refine AW_callVI [aI a1] dX5_takeSheet_5 cv_X5_114 rfl rfl rfl (by decide) rfl (by decide) (Nat.le_of_ble_eq_true rfl) h3 ?_
  refine AW_if_ne (tgt := 13) dX5_takeSheet_8 (by decide) (fun q7 => ?_) (fun q7 => ?_)
  · have h5 := h2.1 q7
    refine AW_aload_n dX5_takeSheet_13 rfl ?_
    refine AW_getv (t := 11) (o := 0) (k := 0) (some (0, some 0)) (v := aR 0 0) dX5_takeSheet_14 ff_X5_12 rfl rfl rfl ?_
    refine AW_iload_n dX5_takeSheet_17 rfl ?_
    obtain ⟨m8, h10, h9⟩ := h5
    refine AW_callVV [aI a1] dX5_takeSheet_18 cv_X5_326 rfl rfl rfl (by decide) rfl (by decide) (Nat.le_of_ble_eq_true rfl) h10 ?_
    refine AW_aload_n dX5_takeSheet_21 rfl ?_
    refine AW_getv (t := 11) (o := 0) (k := 0) (some (0, some 0)) (v := aR 0 0) dX5_takeSheet_22 ff_X5_12 rfl rfl rfl ?_
    refine AW_getv (t := 0) (o := 0) (k := 1) none (v := aI (m8 0 0 1)) dX5_takeSheet_25 ff_X5_188 rfl rfl rfl ?_
    exact AW_ireturn (ty := .int) dX5_takeSheet_28 rfl rfl h9
  · have h6 := h2.2 q7
    refine AW_iconst (v := (-1)) dX5_takeSheet_11 (by decide) ?_
    exact AW_ireturn (ty := .int) dX5_takeSheet_12 rfl rfl h6
set_option maxRecDepth 100000 in
theorem B_X5_setLetter_0 {a1 : Int32} {a2 : Int32} {a3 : Int32} {μ : Mem} {P : RES → Mem → Prop}  (h : ∃ (r4 : Int32) (m1 : Mem), MetA M_X4_hasPlace [aR 0 0, aI a1, aI a2] μ (rI r4 m1) ∧ ((¬ r4 = 0 → (a3 < 97 → P (.inl (some (aI (-2)))) m1) ∧ (¬ a3 < 97 → (a3 ≤ 102 → ∃ (r17 : Int32) (m14 : Mem), MetA M_X4_placedAt [aR 0 0, aI a1, aI a2] m1 (rI r17 m14) ∧ ((¬ ((a3 - 97) + 1) = r17 → ∃ (r24 : Int32) (m21 : Mem), MetA M_X4_rightAt [aR 0 0, aI a1, aI a2] m14 (rI r24 m21) ∧ ((¬ ((a3 - 97) + 1) = r24 → ∃ m28 : Mem, MetA M_X4_putLetter [aR 0 0, aI a1, aI a2, aI ((a3 - 97) + 1)] m21 (rV m28) ∧ (∃ (r34 : Int32) (m31 : Mem), MetA M_X4_countOnSheet [aR 0 0, aI a1, aI 1] m28 (rI r34 m31) ∧ (P (.inl (some (aI r34))) m31))) ∧ (((a3 - 97) + 1) = r24 → ∃ (r38 : Int32) (m35 : Mem), MetA M_X5_refuse [aR 11 0, aI 3, aI a2] m21 (rI r38 m35) ∧ (P (.inl (some (aI r38))) m35)))) ∧ (((a3 - 97) + 1) = r17 → ∃ (r42 : Int32) (m39 : Mem), MetA M_X5_refuse [aR 11 0, aI 2, aI a2] m14 (rI r42 m39) ∧ (P (.inl (some (aI r42))) m39)))) ∧ (¬ a3 ≤ 102 → P (.inl (some (aI (-2)))) m1))) ∧ (r4 = 0 → P (.inl (some (aI (-1)))) m1))) : AW M_X5_setLetter 0 0 [some (aR 11 0), some (aI a1), some (aI a2), some (aI a3), none] [] μ P := by
  refine AW_aload_n dX5_setLetter_0 rfl ?_
  refine AW_getv (t := 11) (o := 0) (k := 0) (some (0, some 0)) (v := aR 0 0) dX5_setLetter_1 ff_X5_12 rfl rfl rfl ?_
  refine AW_iload_n dX5_setLetter_4 rfl ?_
  refine AW_iload_n dX5_setLetter_5 rfl ?_
  obtain ⟨r4, m1, h3, h2⟩ := h
  refine AW_callVI [aI a1, aI a2] dX5_setLetter_6 cv_X5_124 rfl rfl rfl (by decide) rfl (by decide) (Nat.le_of_ble_eq_true rfl) h3 ?_
  refine AW_if_ne (tgt := 14) dX5_setLetter_9 (by decide) (fun q7 => ?_) (fun q7 => ?_)
  · have h5 := h2.1 q7
    refine AW_iload_n dX5_setLetter_14 rfl ?_
    refine AW_bipush (v := 97) dX5_setLetter_15 (by decide) ?_
    refine AW_icmp_lt (tgt := 26) dX5_setLetter_17 (by decide) (fun q10 => ?_) (fun q10 => ?_)
    · have h8 := h5.1 q10
      refine AW_bipush (v := (-2)) dX5_setLetter_26 (by decide) ?_
      exact AW_ireturn (ty := .int) dX5_setLetter_28 rfl rfl h8
    · have h9 := h5.2 q10
      refine AW_iload_n dX5_setLetter_20 rfl ?_
      refine AW_bipush (v := 102) dX5_setLetter_21 (by decide) ?_
      refine AW_icmp_le (tgt := 29) dX5_setLetter_23 (by decide) (fun q13 => ?_) (fun q13 => ?_)
      · have h11 := h9.1 q13
        refine AW_iload_n dX5_setLetter_29 rfl ?_
        refine AW_bipush (v := 97) dX5_setLetter_30 (by decide) ?_
        refine AW_isub dX5_setLetter_32 ?_
        refine AW_iconst (v := 1) dX5_setLetter_33 (by decide) ?_
        refine AW_iadd dX5_setLetter_34 ?_
        refine AW_istore (loc' := [some (aR 11 0), some (aI a1), some (aI a2), some (aI a3), some (aI ((a3 - 97) + 1))]) dX5_setLetter_35 (Nat.le_of_ble_eq_true rfl) rfl rfl ?_
        refine AW_iload dX5_setLetter_37 rfl ?_
        refine AW_aload_n dX5_setLetter_39 rfl ?_
        refine AW_getv (t := 11) (o := 0) (k := 0) (some (0, some 0)) (v := aR 0 0) dX5_setLetter_40 ff_X5_12 rfl rfl rfl ?_
        refine AW_iload_n dX5_setLetter_43 rfl ?_
        refine AW_iload_n dX5_setLetter_44 rfl ?_
        obtain ⟨r17, m14, h16, h15⟩ := h11
        refine AW_callVI [aI a1, aI a2] dX5_setLetter_45 cv_X5_133 rfl rfl rfl (by decide) rfl (by decide) (Nat.le_of_ble_eq_true rfl) h16 ?_
        refine AW_icmp_ne (tgt := 58) dX5_setLetter_48 (by decide) (fun q20 => ?_) (fun q20 => ?_)
        · have h18 := h15.1 q20
          refine AW_iload dX5_setLetter_58 rfl ?_
          refine AW_aload_n dX5_setLetter_60 rfl ?_
          refine AW_getv (t := 11) (o := 0) (k := 0) (some (0, some 0)) (v := aR 0 0) dX5_setLetter_61 ff_X5_12 rfl rfl rfl ?_
          refine AW_iload_n dX5_setLetter_64 rfl ?_
          refine AW_iload_n dX5_setLetter_65 rfl ?_
          obtain ⟨r24, m21, h23, h22⟩ := h18
          refine AW_callVI [aI a1, aI a2] dX5_setLetter_66 cv_X5_130 rfl rfl rfl (by decide) rfl (by decide) (Nat.le_of_ble_eq_true rfl) h23 ?_
          refine AW_icmp_ne (tgt := 79) dX5_setLetter_69 (by decide) (fun q27 => ?_) (fun q27 => ?_)
          · have h25 := h22.1 q27
            refine AW_aload_n dX5_setLetter_79 rfl ?_
            refine AW_getv (t := 11) (o := 0) (k := 0) (some (0, some 0)) (v := aR 0 0) dX5_setLetter_80 ff_X5_12 rfl rfl rfl ?_
            refine AW_iload_n dX5_setLetter_83 rfl ?_
            refine AW_iload_n dX5_setLetter_84 rfl ?_
            refine AW_iload dX5_setLetter_85 rfl ?_
            obtain ⟨m28, h30, h29⟩ := h25
            refine AW_callVV [aI a1, aI a2, aI ((a3 - 97) + 1)] dX5_setLetter_87 cv_X5_329 rfl rfl rfl (by decide) rfl (by decide) (Nat.le_of_ble_eq_true rfl) h30 ?_
            refine AW_aload_n dX5_setLetter_90 rfl ?_
            refine AW_getv (t := 11) (o := 0) (k := 0) (some (0, some 0)) (v := aR 0 0) dX5_setLetter_91 ff_X5_12 rfl rfl rfl ?_
            refine AW_iload_n dX5_setLetter_94 rfl ?_
            refine AW_iconst (v := 1) dX5_setLetter_95 (by decide) ?_
            obtain ⟨r34, m31, h33, h32⟩ := h29
            refine AW_callVI [aI a1, aI 1] dX5_setLetter_96 cv_X5_333 rfl rfl rfl (by decide) rfl (by decide) (Nat.le_of_ble_eq_true rfl) h33 ?_
            exact AW_ireturn (ty := .int) dX5_setLetter_99 rfl rfl h32
          · have h26 := h22.2 q27
            refine AW_aload_n dX5_setLetter_72 rfl ?_
            refine AW_iconst (v := 3) dX5_setLetter_73 (by decide) ?_
            refine AW_iload_n dX5_setLetter_74 rfl ?_
            obtain ⟨r38, m35, h37, h36⟩ := h26
            refine AW_callVI [aI 3, aI a2] dX5_setLetter_75 cv_X5_313 rfl rfl rfl (by decide) rfl (by decide) (Nat.le_of_ble_eq_true rfl) h37 ?_
            exact AW_ireturn (ty := .int) dX5_setLetter_78 rfl rfl h36
        · have h19 := h15.2 q20
          refine AW_aload_n dX5_setLetter_51 rfl ?_
          refine AW_iconst (v := 2) dX5_setLetter_52 (by decide) ?_
          refine AW_iload_n dX5_setLetter_53 rfl ?_
          obtain ⟨r42, m39, h41, h40⟩ := h19
          refine AW_callVI [aI 2, aI a2] dX5_setLetter_54 cv_X5_313 rfl rfl rfl (by decide) rfl (by decide) (Nat.le_of_ble_eq_true rfl) h41 ?_
          exact AW_ireturn (ty := .int) dX5_setLetter_57 rfl rfl h40
      · have h12 := h9.2 q13
        refine AW_bipush (v := (-2)) dX5_setLetter_26 (by decide) ?_
        exact AW_ireturn (ty := .int) dX5_setLetter_28 rfl rfl h12
  · have h6 := h2.2 q7
    refine AW_iconst (v := (-1)) dX5_setLetter_12 (by decide) ?_
    exact AW_ireturn (ty := .int) dX5_setLetter_13 rfl rfl h6
set_option maxRecDepth 100000 in
theorem B_X5_sellLicence_0 {a1 : Int32} {a2 : Int32} {μ : Mem} {P : RES → Mem → Prop}  (h : ∃ (r4 : Int32) (m1 : Mem), MetA M_X4_hasPlace [aR 0 0, aI a1, aI a2] μ (rI r4 m1) ∧ ((¬ r4 = 0 → ∃ (r11 : Int32) (m8 : Mem), MetA M_X4_levelAt [aR 0 0, aI a1, aI a2] m1 (rI r11 m8) ∧ (vp_in a1 8 ∧ (∃ (r17 : Int32) (m14 : Mem), MetA M_X4_licenceCost [aR 0 0, aI (m8 4 0 a1.toNatClampNeg)] m8 (rI r17 m14) ∧ ((¬ r11 = 0 → (r11 < 2 → ∃ (r27 : Int32) (m24 : Mem), MetA M_X4_isAshamed [aR 0 0, aI (m8 4 0 a1.toNatClampNeg)] m14 (rI r27 m24) ∧ ((r27 = 0 → vp_in (m8 4 0 a1.toNatClampNeg) 4 ∧ ((r17 ≤ (m24 1 0 (m8 4 0 a1.toNatClampNeg).toNatClampNeg) → vp_in (m8 4 0 a1.toNatClampNeg) 4 ∧ (vp_in (m8 4 0 a1.toNatClampNeg) 4 ∧ (∀ m38 : Mem, m38 = mset m24 1 0 (upd (m24 1 0) (m8 4 0 a1.toNatClampNeg).toNatClampNeg ((m24 1 0 (m8 4 0 a1.toNatClampNeg).toNatClampNeg) - r17)) → ∀ m42 : Mem, m42 = mset m38 0 0 (upd (m38 0 0) 7 ((m38 0 0 7) + r17)) → vp_in ((a1 * 8) + a2) 64 ∧ (∀ m45 : Mem, m45 = mset m42 8 0 (upd (m42 8 0) ((a1 * 8) + a2).toNatClampNeg 2) → P (.inl (some (aI r17))) m45)))) ∧ (¬ r17 ≤ (m24 1 0 (m8 4 0 a1.toNatClampNeg).toNatClampNeg) → vp_in (m8 4 0 a1.toNatClampNeg) 4 ∧ (∃ (r54 : Int32) (m51 : Mem), MetA M_X5_refuse [aR 11 0, aI 7, aI (m24 1 0 (m8 4 0 a1.toNatClampNeg).toNatClampNeg)] m24 (rI r54 m51) ∧ (P (.inl (some (aI r54))) m51))))) ∧ (¬ r27 = 0 → vp_in (m8 4 0 a1.toNatClampNeg) 4 ∧ (∃ (r60 : Int32) (m57 : Mem), MetA M_X5_refuse [aR 11 0, aI 6, aI (m24 2 0 (m8 4 0 a1.toNatClampNeg).toNatClampNeg)] m24 (rI r60 m57) ∧ (P (.inl (some (aI r60))) m57))))) ∧ (¬ r11 < 2 → ∃ (r64 : Int32) (m61 : Mem), MetA M_X5_refuse [aR 11 0, aI 5, aI a2] m14 (rI r64 m61) ∧ (P (.inl (some (aI r64))) m61))) ∧ (r11 = 0 → ∃ (r68 : Int32) (m65 : Mem), MetA M_X5_refuse [aR 11 0, aI 4, aI a2] m14 (rI r68 m65) ∧ (P (.inl (some (aI r68))) m65)))))) ∧ (r4 = 0 → P (.inl (some (aI (-1)))) m1))) : AW M_X5_sellLicence 0 0 [some (aR 11 0), some (aI a1), some (aI a2), none, none, none] [] μ P := by
  refine AW_aload_n dX5_sellLicence_0 rfl ?_
  refine AW_getv (t := 11) (o := 0) (k := 0) (some (0, some 0)) (v := aR 0 0) dX5_sellLicence_1 ff_X5_12 rfl rfl rfl ?_
  refine AW_iload_n dX5_sellLicence_4 rfl ?_
  refine AW_iload_n dX5_sellLicence_5 rfl ?_
  obtain ⟨r4, m1, h3, h2⟩ := h
  refine AW_callVI [aI a1, aI a2] dX5_sellLicence_6 cv_X5_124 rfl rfl rfl (by decide) rfl (by decide) (Nat.le_of_ble_eq_true rfl) h3 ?_
  refine AW_if_ne (tgt := 14) dX5_sellLicence_9 (by decide) (fun q7 => ?_) (fun q7 => ?_)
  · have h5 := h2.1 q7
    refine AW_aload_n dX5_sellLicence_14 rfl ?_
    refine AW_getv (t := 11) (o := 0) (k := 0) (some (0, some 0)) (v := aR 0 0) dX5_sellLicence_15 ff_X5_12 rfl rfl rfl ?_
    refine AW_iload_n dX5_sellLicence_18 rfl ?_
    refine AW_iload_n dX5_sellLicence_19 rfl ?_
    obtain ⟨r11, m8, h10, h9⟩ := h5
    refine AW_callVI [aI a1, aI a2] dX5_sellLicence_20 cv_X5_140 rfl rfl rfl (by decide) rfl (by decide) (Nat.le_of_ble_eq_true rfl) h10 ?_
    refine AW_istore_n (loc' := [some (aR 11 0), some (aI a1), some (aI a2), some (aI r11), none, none]) dX5_sellLicence_23 (Nat.le_of_ble_eq_true rfl) rfl rfl ?_
    refine AW_aload_n dX5_sellLicence_24 rfl ?_
    refine AW_getv (t := 11) (o := 0) (k := 0) (some (0, some 0)) (v := aR 0 0) dX5_sellLicence_25 ff_X5_12 rfl rfl rfl ?_
    refine AW_getv (t := 0) (o := 0) (k := 11) (some (4, none)) (v := aR 4 0) dX5_sellLicence_28 ff_X5_159 rfl rfl rfl ?_
    refine AW_iload_n dX5_sellLicence_31 rfl ?_
    obtain ⟨h12, h13⟩ := h9
    refine AW_iaload dX5_sellLicence_32 rfl rfl h12 ?_
    refine AW_istore (loc' := [some (aR 11 0), some (aI a1), some (aI a2), some (aI r11), some (aI (m8 4 0 a1.toNatClampNeg)), none]) dX5_sellLicence_33 (Nat.le_of_ble_eq_true rfl) rfl rfl ?_
    refine AW_aload_n dX5_sellLicence_35 rfl ?_
    refine AW_getv (t := 11) (o := 0) (k := 0) (some (0, some 0)) (v := aR 0 0) dX5_sellLicence_36 ff_X5_12 rfl rfl rfl ?_
    refine AW_iload dX5_sellLicence_39 rfl ?_
    obtain ⟨r17, m14, h16, h15⟩ := h13
    refine AW_callVI [aI (m8 4 0 a1.toNatClampNeg)] dX5_sellLicence_41 cv_X5_336 rfl rfl rfl (by decide) rfl (by decide) (Nat.le_of_ble_eq_true rfl) h16 ?_
    refine AW_istore (loc' := [some (aR 11 0), some (aI a1), some (aI a2), some (aI r11), some (aI (m8 4 0 a1.toNatClampNeg)), some (aI r17)]) dX5_sellLicence_44 (Nat.le_of_ble_eq_true rfl) rfl rfl ?_
    refine AW_iload_n dX5_sellLicence_46 rfl ?_
    refine AW_if_ne (tgt := 57) dX5_sellLicence_47 (by decide) (fun q20 => ?_) (fun q20 => ?_)
    · have h18 := h15.1 q20
      refine AW_iload_n dX5_sellLicence_57 rfl ?_
      refine AW_iconst (v := 2) dX5_sellLicence_58 (by decide) ?_
      refine AW_icmp_lt (tgt := 69) dX5_sellLicence_59 (by decide) (fun q23 => ?_) (fun q23 => ?_)
      · have h21 := h18.1 q23
        refine AW_aload_n dX5_sellLicence_69 rfl ?_
        refine AW_getv (t := 11) (o := 0) (k := 0) (some (0, some 0)) (v := aR 0 0) dX5_sellLicence_70 ff_X5_12 rfl rfl rfl ?_
        refine AW_iload dX5_sellLicence_73 rfl ?_
        obtain ⟨r27, m24, h26, h25⟩ := h21
        refine AW_callVI [aI (m8 4 0 a1.toNatClampNeg)] dX5_sellLicence_75 cv_X5_226 rfl rfl rfl (by decide) rfl (by decide) (Nat.le_of_ble_eq_true rfl) h26 ?_
        refine AW_if_eq (tgt := 98) dX5_sellLicence_78 (by decide) (fun q30 => ?_) (fun q30 => ?_)
        · have h28 := h25.1 q30
          refine AW_iload dX5_sellLicence_98 rfl ?_
          refine AW_aload_n dX5_sellLicence_100 rfl ?_
          refine AW_getv (t := 11) (o := 0) (k := 0) (some (0, some 0)) (v := aR 0 0) dX5_sellLicence_101 ff_X5_12 rfl rfl rfl ?_
          refine AW_getv (t := 0) (o := 0) (k := 8) (some (1, none)) (v := aR 1 0) dX5_sellLicence_104 ff_X5_155 rfl rfl rfl ?_
          refine AW_iload dX5_sellLicence_107 rfl ?_
          obtain ⟨h31, h32⟩ := h28
          refine AW_iaload dX5_sellLicence_109 rfl rfl h31 ?_
          refine AW_icmp_le (tgt := 130) dX5_sellLicence_110 (by decide) (fun q35 => ?_) (fun q35 => ?_)
          · have h33 := h32.1 q35
            refine AW_aload_n dX5_sellLicence_130 rfl ?_
            refine AW_getv (t := 11) (o := 0) (k := 0) (some (0, some 0)) (v := aR 0 0) dX5_sellLicence_131 ff_X5_12 rfl rfl rfl ?_
            refine AW_getv (t := 0) (o := 0) (k := 8) (some (1, none)) (v := aR 1 0) dX5_sellLicence_134 ff_X5_155 rfl rfl rfl ?_
            refine AW_iload dX5_sellLicence_137 rfl ?_
            refine AW_dup2 dX5_sellLicence_139 rfl rfl ?_
            obtain ⟨h36, h37⟩ := h33
            refine AW_iaload dX5_sellLicence_140 rfl rfl h36 ?_
            refine AW_iload dX5_sellLicence_141 rfl ?_
            refine AW_isub dX5_sellLicence_143 ?_
            obtain ⟨h39, h41⟩ := h37
            obtain ⟨m38, em38⟩ : ∃ z : Mem, z = mset m24 1 0 (upd (m24 1 0) (m8 4 0 a1.toNatClampNeg).toNatClampNeg ((m24 1 0 (m8 4 0 a1.toNatClampNeg).toNatClampNeg) - r17)) := ⟨_, rfl⟩
            have h40 := h41 m38 em38
            refine AW_iastore dX5_sellLicence_144 rfl rfl h39 em38.symm ?_
            refine AW_aload_n dX5_sellLicence_145 rfl ?_
            refine AW_getv (t := 11) (o := 0) (k := 0) (some (0, some 0)) (v := aR 0 0) dX5_sellLicence_146 ff_X5_12 rfl rfl rfl ?_
            refine AW_dup dX5_sellLicence_149 rfl ?_
            refine AW_getv (t := 0) (o := 0) (k := 7) none (v := aI (m38 0 0 7)) dX5_sellLicence_150 ff_X5_339 rfl rfl rfl ?_
            refine AW_iload dX5_sellLicence_153 rfl ?_
            refine AW_iadd dX5_sellLicence_155 ?_
            obtain ⟨m42, em42⟩ : ∃ z : Mem, z = mset m38 0 0 (upd (m38 0 0) 7 ((m38 0 0 7) + r17)) := ⟨_, rfl⟩
            have h43 := h40 m42 em42
            refine AW_putf (t := 0) (o := 0) (k := 7) dX5_sellLicence_156 fp_X5_339 rfl rfl rfl rfl em42.symm ?_
            refine AW_aload_n dX5_sellLicence_159 rfl ?_
            refine AW_getv (t := 11) (o := 0) (k := 0) (some (0, some 0)) (v := aR 0 0) dX5_sellLicence_160 ff_X5_12 rfl rfl rfl ?_
            refine AW_getv (t := 0) (o := 0) (k := 15) (some (8, none)) (v := aR 8 0) dX5_sellLicence_163 ff_X5_342 rfl rfl rfl ?_
            refine AW_iload_n dX5_sellLicence_166 rfl ?_
            refine AW_bipush (v := 8) dX5_sellLicence_167 (by decide) ?_
            refine AW_imul dX5_sellLicence_169 ?_
            refine AW_iload_n dX5_sellLicence_170 rfl ?_
            refine AW_iadd dX5_sellLicence_171 ?_
            refine AW_iconst (v := 2) dX5_sellLicence_172 (by decide) ?_
            obtain ⟨h46, h48⟩ := h43
            obtain ⟨m45, em45⟩ : ∃ z : Mem, z = mset m42 8 0 (upd (m42 8 0) ((a1 * 8) + a2).toNatClampNeg 2) := ⟨_, rfl⟩
            have h47 := h48 m45 em45
            refine AW_iastore dX5_sellLicence_173 rfl rfl h46 em45.symm ?_
            refine AW_iload dX5_sellLicence_174 rfl ?_
            exact AW_ireturn (ty := .int) dX5_sellLicence_176 rfl rfl h47
          · have h34 := h32.2 q35
            refine AW_aload_n dX5_sellLicence_113 rfl ?_
            refine AW_bipush (v := 7) dX5_sellLicence_114 (by decide) ?_
            refine AW_aload_n dX5_sellLicence_116 rfl ?_
            refine AW_getv (t := 11) (o := 0) (k := 0) (some (0, some 0)) (v := aR 0 0) dX5_sellLicence_117 ff_X5_12 rfl rfl rfl ?_
            refine AW_getv (t := 0) (o := 0) (k := 8) (some (1, none)) (v := aR 1 0) dX5_sellLicence_120 ff_X5_155 rfl rfl rfl ?_
            refine AW_iload dX5_sellLicence_123 rfl ?_
            obtain ⟨h49, h50⟩ := h34
            refine AW_iaload dX5_sellLicence_125 rfl rfl h49 ?_
            obtain ⟨r54, m51, h53, h52⟩ := h50
            refine AW_callVI [aI 7, aI (m24 1 0 (m8 4 0 a1.toNatClampNeg).toNatClampNeg)] dX5_sellLicence_126 cv_X5_313 rfl rfl rfl (by decide) rfl (by decide) (Nat.le_of_ble_eq_true rfl) h53 ?_
            exact AW_ireturn (ty := .int) dX5_sellLicence_129 rfl rfl h52
        · have h29 := h25.2 q30
          refine AW_aload_n dX5_sellLicence_81 rfl ?_
          refine AW_bipush (v := 6) dX5_sellLicence_82 (by decide) ?_
          refine AW_aload_n dX5_sellLicence_84 rfl ?_
          refine AW_getv (t := 11) (o := 0) (k := 0) (some (0, some 0)) (v := aR 0 0) dX5_sellLicence_85 ff_X5_12 rfl rfl rfl ?_
          refine AW_getv (t := 0) (o := 0) (k := 9) (some (2, none)) (v := aR 2 0) dX5_sellLicence_88 ff_X5_173 rfl rfl rfl ?_
          refine AW_iload dX5_sellLicence_91 rfl ?_
          obtain ⟨h55, h56⟩ := h29
          refine AW_iaload dX5_sellLicence_93 rfl rfl h55 ?_
          obtain ⟨r60, m57, h59, h58⟩ := h56
          refine AW_callVI [aI 6, aI (m24 2 0 (m8 4 0 a1.toNatClampNeg).toNatClampNeg)] dX5_sellLicence_94 cv_X5_313 rfl rfl rfl (by decide) rfl (by decide) (Nat.le_of_ble_eq_true rfl) h59 ?_
          exact AW_ireturn (ty := .int) dX5_sellLicence_97 rfl rfl h58
      · have h22 := h18.2 q23
        refine AW_aload_n dX5_sellLicence_62 rfl ?_
        refine AW_iconst (v := 5) dX5_sellLicence_63 (by decide) ?_
        refine AW_iload_n dX5_sellLicence_64 rfl ?_
        obtain ⟨r64, m61, h63, h62⟩ := h22
        refine AW_callVI [aI 5, aI a2] dX5_sellLicence_65 cv_X5_313 rfl rfl rfl (by decide) rfl (by decide) (Nat.le_of_ble_eq_true rfl) h63 ?_
        exact AW_ireturn (ty := .int) dX5_sellLicence_68 rfl rfl h62
    · have h19 := h15.2 q20
      refine AW_aload_n dX5_sellLicence_50 rfl ?_
      refine AW_iconst (v := 4) dX5_sellLicence_51 (by decide) ?_
      refine AW_iload_n dX5_sellLicence_52 rfl ?_
      obtain ⟨r68, m65, h67, h66⟩ := h19
      refine AW_callVI [aI 4, aI a2] dX5_sellLicence_53 cv_X5_313 rfl rfl rfl (by decide) rfl (by decide) (Nat.le_of_ble_eq_true rfl) h67 ?_
      exact AW_ireturn (ty := .int) dX5_sellLicence_56 rfl rfl h66
  · have h6 := h2.2 q7
    refine AW_iconst (v := (-1)) dX5_sellLicence_12 (by decide) ?_
    exact AW_ireturn (ty := .int) dX5_sellLicence_13 rfl rfl h6
set_option maxRecDepth 100000 in
theorem B_X5_takeFine_0 {a1 : Int32} {a2 : Int32} {μ : Mem} {P : RES → Mem → Prop}  (h : ∃ (r4 : Int32) (m1 : Mem), MetA M_X4_hasPlace [aR 0 0, aI a1, aI a2] μ (rI r4 m1) ∧ ((¬ r4 = 0 → vp_in a1 8 ∧ (∃ (r13 : Int32) (m10 : Mem), MetA M_X4_fineByRules [aR 0 0, aI a1, aI a2] m1 (rI r13 m10) ∧ (∃ (r17 : Int32) (m14 : Mem), MetA M_X4_levelAt [aR 0 0, aI a1, aI a2] m10 (rI r17 m14) ∧ ((¬ r17 = 0 → vp_in (m1 4 0 a1.toNatClampNeg) 4 ∧ ((r13 ≤ (m14 1 0 (m1 4 0 a1.toNatClampNeg).toNatClampNeg) → vp_in (m1 4 0 a1.toNatClampNeg) 4 ∧ (vp_in (m1 4 0 a1.toNatClampNeg) 4 ∧ (∀ m28 : Mem, m28 = mset m14 1 0 (upd (m14 1 0) (m1 4 0 a1.toNatClampNeg).toNatClampNeg ((m14 1 0 (m1 4 0 a1.toNatClampNeg).toNatClampNeg) - r13)) → vp_in (m1 4 0 a1.toNatClampNeg) 4 ∧ (vp_in (m1 4 0 a1.toNatClampNeg) 4 ∧ (∀ m34 : Mem, m34 = mset m28 3 0 (upd (m28 3 0) (m1 4 0 a1.toNatClampNeg).toNatClampNeg ((m28 3 0 (m1 4 0 a1.toNatClampNeg).toNatClampNeg) + r13)) → ∃ (r41 : Int32) (m38 : Mem), MetA M_X4_rightAt [aR 0 0, aI a1, aI a2] m34 (rI r41 m38) ∧ (∃ m42 : Mem, MetA M_X4_putLetter [aR 0 0, aI a1, aI a2, aI r41] m38 (rV m42) ∧ (P (.inl (some (aI r13))) m42))))))) ∧ (¬ r13 ≤ (m14 1 0 (m1 4 0 a1.toNatClampNeg).toNatClampNeg) → vp_in (m1 4 0 a1.toNatClampNeg) 4 ∧ (∃ (r50 : Int32) (m47 : Mem), MetA M_X5_refuse [aR 11 0, aI 7, aI (m14 1 0 (m1 4 0 a1.toNatClampNeg).toNatClampNeg)] m14 (rI r50 m47) ∧ (P (.inl (some (aI r50))) m47))))) ∧ (r17 = 0 → ∃ (r54 : Int32) (m51 : Mem), MetA M_X5_refuse [aR 11 0, aI 4, aI a2] m14 (rI r54 m51) ∧ (P (.inl (some (aI r54))) m51)))))) ∧ (r4 = 0 → P (.inl (some (aI (-1)))) m1))) : AW M_X5_takeFine 0 0 [some (aR 11 0), some (aI a1), some (aI a2), none, none] [] μ P := by
  refine AW_aload_n dX5_takeFine_0 rfl ?_
  refine AW_getv (t := 11) (o := 0) (k := 0) (some (0, some 0)) (v := aR 0 0) dX5_takeFine_1 ff_X5_12 rfl rfl rfl ?_
  refine AW_iload_n dX5_takeFine_4 rfl ?_
  refine AW_iload_n dX5_takeFine_5 rfl ?_
  obtain ⟨r4, m1, h3, h2⟩ := h
  refine AW_callVI [aI a1, aI a2] dX5_takeFine_6 cv_X5_124 rfl rfl rfl (by decide) rfl (by decide) (Nat.le_of_ble_eq_true rfl) h3 ?_
  refine AW_if_ne (tgt := 14) dX5_takeFine_9 (by decide) (fun q7 => ?_) (fun q7 => ?_)
  · have h5 := h2.1 q7
    refine AW_aload_n dX5_takeFine_14 rfl ?_
    refine AW_getv (t := 11) (o := 0) (k := 0) (some (0, some 0)) (v := aR 0 0) dX5_takeFine_15 ff_X5_12 rfl rfl rfl ?_
    refine AW_getv (t := 0) (o := 0) (k := 11) (some (4, none)) (v := aR 4 0) dX5_takeFine_18 ff_X5_159 rfl rfl rfl ?_
    refine AW_iload_n dX5_takeFine_21 rfl ?_
    obtain ⟨h8, h9⟩ := h5
    refine AW_iaload dX5_takeFine_22 rfl rfl h8 ?_
    refine AW_istore_n (loc' := [some (aR 11 0), some (aI a1), some (aI a2), some (aI (m1 4 0 a1.toNatClampNeg)), none]) dX5_takeFine_23 (Nat.le_of_ble_eq_true rfl) rfl rfl ?_
    refine AW_aload_n dX5_takeFine_24 rfl ?_
    refine AW_getv (t := 11) (o := 0) (k := 0) (some (0, some 0)) (v := aR 0 0) dX5_takeFine_25 ff_X5_12 rfl rfl rfl ?_
    refine AW_iload_n dX5_takeFine_28 rfl ?_
    refine AW_iload_n dX5_takeFine_29 rfl ?_
    obtain ⟨r13, m10, h12, h11⟩ := h9
    refine AW_callVI [aI a1, aI a2] dX5_takeFine_30 cv_X5_146 rfl rfl rfl (by decide) rfl (by decide) (Nat.le_of_ble_eq_true rfl) h12 ?_
    refine AW_istore (loc' := [some (aR 11 0), some (aI a1), some (aI a2), some (aI (m1 4 0 a1.toNatClampNeg)), some (aI r13)]) dX5_takeFine_33 (Nat.le_of_ble_eq_true rfl) rfl rfl ?_
    refine AW_aload_n dX5_takeFine_35 rfl ?_
    refine AW_getv (t := 11) (o := 0) (k := 0) (some (0, some 0)) (v := aR 0 0) dX5_takeFine_36 ff_X5_12 rfl rfl rfl ?_
    refine AW_iload_n dX5_takeFine_39 rfl ?_
    refine AW_iload_n dX5_takeFine_40 rfl ?_
    obtain ⟨r17, m14, h16, h15⟩ := h11
    refine AW_callVI [aI a1, aI a2] dX5_takeFine_41 cv_X5_140 rfl rfl rfl (by decide) rfl (by decide) (Nat.le_of_ble_eq_true rfl) h16 ?_
    refine AW_if_ne (tgt := 54) dX5_takeFine_44 (by decide) (fun q20 => ?_) (fun q20 => ?_)
    · have h18 := h15.1 q20
      refine AW_iload dX5_takeFine_54 rfl ?_
      refine AW_aload_n dX5_takeFine_56 rfl ?_
      refine AW_getv (t := 11) (o := 0) (k := 0) (some (0, some 0)) (v := aR 0 0) dX5_takeFine_57 ff_X5_12 rfl rfl rfl ?_
      refine AW_getv (t := 0) (o := 0) (k := 8) (some (1, none)) (v := aR 1 0) dX5_takeFine_60 ff_X5_155 rfl rfl rfl ?_
      refine AW_iload_n dX5_takeFine_63 rfl ?_
      obtain ⟨h21, h22⟩ := h18
      refine AW_iaload dX5_takeFine_64 rfl rfl h21 ?_
      refine AW_icmp_le (tgt := 84) dX5_takeFine_65 (by decide) (fun q25 => ?_) (fun q25 => ?_)
      · have h23 := h22.1 q25
        refine AW_aload_n dX5_takeFine_84 rfl ?_
        refine AW_getv (t := 11) (o := 0) (k := 0) (some (0, some 0)) (v := aR 0 0) dX5_takeFine_85 ff_X5_12 rfl rfl rfl ?_
        refine AW_getv (t := 0) (o := 0) (k := 8) (some (1, none)) (v := aR 1 0) dX5_takeFine_88 ff_X5_155 rfl rfl rfl ?_
        refine AW_iload_n dX5_takeFine_91 rfl ?_
        refine AW_dup2 dX5_takeFine_92 rfl rfl ?_
        obtain ⟨h26, h27⟩ := h23
        refine AW_iaload dX5_takeFine_93 rfl rfl h26 ?_
        refine AW_iload dX5_takeFine_94 rfl ?_
        refine AW_isub dX5_takeFine_96 ?_
        obtain ⟨h29, h31⟩ := h27
        obtain ⟨m28, em28⟩ : ∃ z : Mem, z = mset m14 1 0 (upd (m14 1 0) (m1 4 0 a1.toNatClampNeg).toNatClampNeg ((m14 1 0 (m1 4 0 a1.toNatClampNeg).toNatClampNeg) - r13)) := ⟨_, rfl⟩
        have h30 := h31 m28 em28
        refine AW_iastore dX5_takeFine_97 rfl rfl h29 em28.symm ?_
        refine AW_aload_n dX5_takeFine_98 rfl ?_
        refine AW_getv (t := 11) (o := 0) (k := 0) (some (0, some 0)) (v := aR 0 0) dX5_takeFine_99 ff_X5_12 rfl rfl rfl ?_
        refine AW_getv (t := 0) (o := 0) (k := 10) (some (3, none)) (v := aR 3 0) dX5_takeFine_102 ff_X5_345 rfl rfl rfl ?_
        refine AW_iload_n dX5_takeFine_105 rfl ?_
        refine AW_dup2 dX5_takeFine_106 rfl rfl ?_
        obtain ⟨h32, h33⟩ := h30
        refine AW_iaload dX5_takeFine_107 rfl rfl h32 ?_
        refine AW_iload dX5_takeFine_108 rfl ?_
        refine AW_iadd dX5_takeFine_110 ?_
        obtain ⟨h35, h37⟩ := h33
        obtain ⟨m34, em34⟩ : ∃ z : Mem, z = mset m28 3 0 (upd (m28 3 0) (m1 4 0 a1.toNatClampNeg).toNatClampNeg ((m28 3 0 (m1 4 0 a1.toNatClampNeg).toNatClampNeg) + r13)) := ⟨_, rfl⟩
        have h36 := h37 m34 em34
        refine AW_iastore dX5_takeFine_111 rfl rfl h35 em34.symm ?_
        refine AW_aload_n dX5_takeFine_112 rfl ?_
        refine AW_getv (t := 11) (o := 0) (k := 0) (some (0, some 0)) (v := aR 0 0) dX5_takeFine_113 ff_X5_12 rfl rfl rfl ?_
        refine AW_iload_n dX5_takeFine_116 rfl ?_
        refine AW_iload_n dX5_takeFine_117 rfl ?_
        refine AW_aload_n dX5_takeFine_118 rfl ?_
        refine AW_getv (t := 11) (o := 0) (k := 0) (some (0, some 0)) (v := aR 0 0) dX5_takeFine_119 ff_X5_12 rfl rfl rfl ?_
        refine AW_iload_n dX5_takeFine_122 rfl ?_
        refine AW_iload_n dX5_takeFine_123 rfl ?_
        obtain ⟨r41, m38, h40, h39⟩ := h36
        refine AW_callVI [aI a1, aI a2] dX5_takeFine_124 cv_X5_130 rfl rfl rfl (by decide) rfl (by decide) (Nat.le_of_ble_eq_true rfl) h40 ?_
        obtain ⟨m42, h44, h43⟩ := h39
        refine AW_callVV [aI a1, aI a2, aI r41] dX5_takeFine_127 cv_X5_329 rfl rfl rfl (by decide) rfl (by decide) (Nat.le_of_ble_eq_true rfl) h44 ?_
        refine AW_iload dX5_takeFine_130 rfl ?_
        exact AW_ireturn (ty := .int) dX5_takeFine_132 rfl rfl h43
      · have h24 := h22.2 q25
        refine AW_aload_n dX5_takeFine_68 rfl ?_
        refine AW_bipush (v := 7) dX5_takeFine_69 (by decide) ?_
        refine AW_aload_n dX5_takeFine_71 rfl ?_
        refine AW_getv (t := 11) (o := 0) (k := 0) (some (0, some 0)) (v := aR 0 0) dX5_takeFine_72 ff_X5_12 rfl rfl rfl ?_
        refine AW_getv (t := 0) (o := 0) (k := 8) (some (1, none)) (v := aR 1 0) dX5_takeFine_75 ff_X5_155 rfl rfl rfl ?_
        refine AW_iload_n dX5_takeFine_78 rfl ?_
        obtain ⟨h45, h46⟩ := h24
        refine AW_iaload dX5_takeFine_79 rfl rfl h45 ?_
        obtain ⟨r50, m47, h49, h48⟩ := h46
        refine AW_callVI [aI 7, aI (m14 1 0 (m1 4 0 a1.toNatClampNeg).toNatClampNeg)] dX5_takeFine_80 cv_X5_313 rfl rfl rfl (by decide) rfl (by decide) (Nat.le_of_ble_eq_true rfl) h49 ?_
        exact AW_ireturn (ty := .int) dX5_takeFine_83 rfl rfl h48
    · have h19 := h15.2 q20
      refine AW_aload_n dX5_takeFine_47 rfl ?_
      refine AW_iconst (v := 4) dX5_takeFine_48 (by decide) ?_
      refine AW_iload_n dX5_takeFine_49 rfl ?_
      obtain ⟨r54, m51, h53, h52⟩ := h19
      refine AW_callVI [aI 4, aI a2] dX5_takeFine_50 cv_X5_313 rfl rfl rfl (by decide) rfl (by decide) (Nat.le_of_ble_eq_true rfl) h53 ?_
      exact AW_ireturn (ty := .int) dX5_takeFine_53 rfl rfl h52
  · have h6 := h2.2 q7
    refine AW_iconst (v := (-1)) dX5_takeFine_12 (by decide) ?_
    exact AW_ireturn (ty := .int) dX5_takeFine_13 rfl rfl h6
set_option maxRecDepth 100000 in
theorem B_X5_addReader_0 {a1 : Int32} {a2 : Int32} {μ : Mem} {P : RES → Mem → Prop}  (h : (a1 < 0 → P (.inl (some (aI (-2)))) μ) ∧ (¬ a1 < 0 → (1 < a1 → P (.inl (some (aI (-2)))) μ) ∧ (¬ 1 < a1 → (a2 < 1 → P (.inl (some (aI (-2)))) μ) ∧ (¬ a2 < 1 → (a2 ≤ 6 → ((μ 0 0 2) < 5 → ∃ (r19 : Int32) (m16 : Mem), MetA M_X4_appendReader [aR 0 0, aI a1, aI a2] μ (rI r19 m16) ∧ (P (.inl (some (aI r19))) m16)) ∧ (¬ (μ 0 0 2) < 5 → ∃ (r23 : Int32) (m20 : Mem), MetA M_X5_refuse [aR 11 0, aI 1, aI 5] μ (rI r23 m20) ∧ (P (.inl (some (aI r23))) m20))) ∧ (¬ a2 ≤ 6 → P (.inl (some (aI (-2)))) μ))))) : AW M_X5_addReader 0 0 [some (aR 11 0), some (aI a1), some (aI a2)] [] μ P := by
  refine AW_iload_n dX5_addReader_0 rfl ?_
  refine AW_if_lt (tgt := 20) dX5_addReader_1 (by decide) (fun q3 => ?_) (fun q3 => ?_)
  · have h1 := h.1 q3
    refine AW_bipush (v := (-2)) dX5_addReader_20 (by decide) ?_
    exact AW_ireturn (ty := .int) dX5_addReader_22 rfl rfl h1
  · have h2 := h.2 q3
    refine AW_iload_n dX5_addReader_4 rfl ?_
    refine AW_iconst (v := 1) dX5_addReader_5 (by decide) ?_
    refine AW_icmp_gt (tgt := 20) dX5_addReader_6 (by decide) (fun q6 => ?_) (fun q6 => ?_)
    · have h4 := h2.1 q6
      refine AW_bipush (v := (-2)) dX5_addReader_20 (by decide) ?_
      exact AW_ireturn (ty := .int) dX5_addReader_22 rfl rfl h4
    · have h5 := h2.2 q6
      refine AW_iload_n dX5_addReader_9 rfl ?_
      refine AW_iconst (v := 1) dX5_addReader_10 (by decide) ?_
      refine AW_icmp_lt (tgt := 20) dX5_addReader_11 (by decide) (fun q9 => ?_) (fun q9 => ?_)
      · have h7 := h5.1 q9
        refine AW_bipush (v := (-2)) dX5_addReader_20 (by decide) ?_
        exact AW_ireturn (ty := .int) dX5_addReader_22 rfl rfl h7
      · have h8 := h5.2 q9
        refine AW_iload_n dX5_addReader_14 rfl ?_
        refine AW_bipush (v := 6) dX5_addReader_15 (by decide) ?_
        refine AW_icmp_le (tgt := 23) dX5_addReader_17 (by decide) (fun q12 => ?_) (fun q12 => ?_)
        · have h10 := h8.1 q12
          refine AW_aload_n dX5_addReader_23 rfl ?_
          refine AW_getv (t := 11) (o := 0) (k := 0) (some (0, some 0)) (v := aR 0 0) dX5_addReader_24 ff_X5_12 rfl rfl rfl ?_
          refine AW_getv (t := 0) (o := 0) (k := 2) none (v := aI (μ 0 0 2)) dX5_addReader_27 ff_X5_348 rfl rfl rfl ?_
          refine AW_iconst (v := 5) dX5_addReader_30 (by decide) ?_
          refine AW_icmp_lt (tgt := 41) dX5_addReader_31 (by decide) (fun q15 => ?_) (fun q15 => ?_)
          · have h13 := h10.1 q15
            refine AW_aload_n dX5_addReader_41 rfl ?_
            refine AW_getv (t := 11) (o := 0) (k := 0) (some (0, some 0)) (v := aR 0 0) dX5_addReader_42 ff_X5_12 rfl rfl rfl ?_
            refine AW_iload_n dX5_addReader_45 rfl ?_
            refine AW_iload_n dX5_addReader_46 rfl ?_
            obtain ⟨r19, m16, h18, h17⟩ := h13
            refine AW_callVI [aI a1, aI a2] dX5_addReader_47 cv_X5_351 rfl rfl rfl (by decide) rfl (by decide) (Nat.le_of_ble_eq_true rfl) h18 ?_
            exact AW_ireturn (ty := .int) dX5_addReader_50 rfl rfl h17
          · have h14 := h10.2 q15
            refine AW_aload_n dX5_addReader_34 rfl ?_
            refine AW_iconst (v := 1) dX5_addReader_35 (by decide) ?_
            refine AW_iconst (v := 5) dX5_addReader_36 (by decide) ?_
            obtain ⟨r23, m20, h22, h21⟩ := h14
            refine AW_callVI [aI 1, aI 5] dX5_addReader_37 cv_X5_313 rfl rfl rfl (by decide) rfl (by decide) (Nat.le_of_ble_eq_true rfl) h22 ?_
            exact AW_ireturn (ty := .int) dX5_addReader_40 rfl rfl h21
        · have h11 := h8.2 q12
          refine AW_bipush (v := (-2)) dX5_addReader_20 (by decide) ?_
          exact AW_ireturn (ty := .int) dX5_addReader_22 rfl rfl h11
set_option maxRecDepth 100000 in
theorem B_X5_printEdition_0  {μ : Mem} {P : RES → Mem → Prop}  (h : ∃ (r4 : Int32) (m1 : Mem), MetA M_X4_countInAll [aR 0 0, aI 2] μ (rI r4 m1) ∧ (∃ (r8 : Int32) (m5 : Mem), MetA M_X4_countInAll [aR 0 0, aI 3] m1 (rI r8 m5) ∧ ((¬ r4 = r8 → AW M_X5_printEdition 0 37 [some (aR 11 0), some (aI 0), some (aI 0), none] [] m5 P) ∧ (r4 = r8 → ∃ (r15 : Int32) (m12 : Mem), MetA M_X5_refuse [aR 11 0, aI 8, aI (m5 0 0 4)] m5 (rI r15 m12) ∧ (P (.inl (some (aI r15))) m12))))) : AW M_X5_printEdition 0 0 [some (aR 11 0), none, none, none] [] μ P := by
  refine AW_aload_n dX5_printEdition_0 rfl ?_
  refine AW_getv (t := 11) (o := 0) (k := 0) (some (0, some 0)) (v := aR 0 0) dX5_printEdition_1 ff_X5_12 rfl rfl rfl ?_
  refine AW_iconst (v := 2) dX5_printEdition_4 (by decide) ?_
  obtain ⟨r4, m1, h3, h2⟩ := h
  refine AW_callVI [aI 2] dX5_printEdition_5 cv_X5_290 rfl rfl rfl (by decide) rfl (by decide) (Nat.le_of_ble_eq_true rfl) h3 ?_
  refine AW_aload_n dX5_printEdition_8 rfl ?_
  refine AW_getv (t := 11) (o := 0) (k := 0) (some (0, some 0)) (v := aR 0 0) dX5_printEdition_9 ff_X5_12 rfl rfl rfl ?_
  refine AW_iconst (v := 3) dX5_printEdition_12 (by decide) ?_
  obtain ⟨r8, m5, h7, h6⟩ := h2
  refine AW_callVI [aI 3] dX5_printEdition_13 cv_X5_290 rfl rfl rfl (by decide) rfl (by decide) (Nat.le_of_ble_eq_true rfl) h7 ?_
  refine AW_icmp_ne (tgt := 33) dX5_printEdition_16 (by decide) (fun q11 => ?_) (fun q11 => ?_)
  · have h9 := h6.1 q11
    refine AW_iconst (v := 0) dX5_printEdition_33 (by decide) ?_
    refine AW_istore_n (loc' := [some (aR 11 0), some (aI 0), none, none]) dX5_printEdition_34 (Nat.le_of_ble_eq_true rfl) rfl rfl ?_
    refine AW_iconst (v := 0) dX5_printEdition_35 (by decide) ?_
    refine AW_istore_n (loc' := [some (aR 11 0), some (aI 0), some (aI 0), none]) dX5_printEdition_36 (Nat.le_of_ble_eq_true rfl) rfl rfl ?_
    exact h9
  · have h10 := h6.2 q11
    refine AW_aload_n dX5_printEdition_19 rfl ?_
    refine AW_bipush (v := 8) dX5_printEdition_20 (by decide) ?_
    refine AW_aload_n dX5_printEdition_22 rfl ?_
    refine AW_getv (t := 11) (o := 0) (k := 0) (some (0, some 0)) (v := aR 0 0) dX5_printEdition_23 ff_X5_12 rfl rfl rfl ?_
    refine AW_getv (t := 0) (o := 0) (k := 4) none (v := aI (m5 0 0 4)) dX5_printEdition_26 ff_X5_354 rfl rfl rfl ?_
    obtain ⟨r15, m12, h14, h13⟩ := h10
    refine AW_callVI [aI 8, aI (m5 0 0 4)] dX5_printEdition_29 cv_X5_313 rfl rfl rfl (by decide) rfl (by decide) (Nat.le_of_ble_eq_true rfl) h14 ?_
    exact AW_ireturn (ty := .int) dX5_printEdition_32 rfl rfl h13
set_option maxRecDepth 100000 in
theorem B_X5_printEdition_37 {a1 : Int32} {a2 : Int32} {μ : Mem} {P : RES → Mem → Prop}  (h : ((μ 0 0 1) ≤ a2 → ∀ m4 : Mem, m4 = mset μ 0 0 (upd (μ 0 0) 4 ((μ 0 0 4) + 1)) → ∀ m7 : Mem, m7 = mset m4 0 0 (upd (m4 0 0) 6 ((m4 0 0 6) + a1)) → P (.inl (some (aI a1))) m7) ∧ (¬ (μ 0 0 1) ≤ a2 → AW M_X5_printEdition 0 50 [some (aR 11 0), some (aI a1), some (aI a2), some (aI 0)] [] μ P)) : AW M_X5_printEdition 0 37 [some (aR 11 0), some (aI a1), some (aI a2), none] [] μ P := by
  refine AW_iload_n dX5_printEdition_37 rfl ?_
  refine AW_aload_n dX5_printEdition_38 rfl ?_
  refine AW_getv (t := 11) (o := 0) (k := 0) (some (0, some 0)) (v := aR 0 0) dX5_printEdition_39 ff_X5_12 rfl rfl rfl ?_
  refine AW_getv (t := 0) (o := 0) (k := 1) none (v := aI (μ 0 0 1)) dX5_printEdition_42 ff_X5_188 rfl rfl rfl ?_
  refine AW_icmp_ge (tgt := 100) dX5_printEdition_45 (by decide) (fun q3 => ?_) (fun q3 => ?_)
  · have h1 := h.1 q3
    refine AW_aload_n dX5_printEdition_100 rfl ?_
    refine AW_getv (t := 11) (o := 0) (k := 0) (some (0, some 0)) (v := aR 0 0) dX5_printEdition_101 ff_X5_12 rfl rfl rfl ?_
    refine AW_dup dX5_printEdition_104 rfl ?_
    refine AW_getv (t := 0) (o := 0) (k := 4) none (v := aI (μ 0 0 4)) dX5_printEdition_105 ff_X5_354 rfl rfl rfl ?_
    refine AW_iconst (v := 1) dX5_printEdition_108 (by decide) ?_
    refine AW_iadd dX5_printEdition_109 ?_
    obtain ⟨m4, em4⟩ : ∃ z : Mem, z = mset μ 0 0 (upd (μ 0 0) 4 ((μ 0 0 4) + 1)) := ⟨_, rfl⟩
    have h5 := h1 m4 em4
    refine AW_putf (t := 0) (o := 0) (k := 4) dX5_printEdition_110 fp_X5_354 rfl rfl rfl rfl em4.symm ?_
    refine AW_aload_n dX5_printEdition_113 rfl ?_
    refine AW_getv (t := 11) (o := 0) (k := 0) (some (0, some 0)) (v := aR 0 0) dX5_printEdition_114 ff_X5_12 rfl rfl rfl ?_
    refine AW_dup dX5_printEdition_117 rfl ?_
    refine AW_getv (t := 0) (o := 0) (k := 6) none (v := aI (m4 0 0 6)) dX5_printEdition_118 ff_X5_360 rfl rfl rfl ?_
    refine AW_iload_n dX5_printEdition_121 rfl ?_
    refine AW_iadd dX5_printEdition_122 ?_
    obtain ⟨m7, em7⟩ : ∃ z : Mem, z = mset m4 0 0 (upd (m4 0 0) 6 ((m4 0 0 6) + a1)) := ⟨_, rfl⟩
    have h8 := h5 m7 em7
    refine AW_putf (t := 0) (o := 0) (k := 6) dX5_printEdition_123 fp_X5_360 rfl rfl rfl rfl em7.symm ?_
    refine AW_iload_n dX5_printEdition_126 rfl ?_
    exact AW_ireturn (ty := .int) dX5_printEdition_127 rfl rfl h8
  · have h2 := h.2 q3
    refine AW_iconst (v := 0) dX5_printEdition_48 (by decide) ?_
    refine AW_istore_n (loc' := [some (aR 11 0), some (aI a1), some (aI a2), some (aI 0)]) dX5_printEdition_49 (Nat.le_of_ble_eq_true rfl) rfl rfl ?_
    exact h2
set_option maxRecDepth 100000 in
theorem B_X5_printEdition_50 {a1 : Int32} {a2 : Int32} {a3 : Int32} {μ : Mem} {P : RES → Mem → Prop}  (h : vp_in a2 8 ∧ (((μ 5 0 a2.toNatClampNeg) ≤ a3 → AW M_X5_printEdition 0 37 [some (aR 11 0), some (aI a1), some (aI (a2 + 1)), none] [] μ P) ∧ (¬ (μ 5 0 a2.toNatClampNeg) ≤ a3 → ∃ (r9 : Int32) (m6 : Mem), MetA M_X4_levelAt [aR 0 0, aI a2, aI a3] μ (rI r9 m6) ∧ ((¬ r9 = 2 → AW M_X5_printEdition 0 50 [some (aR 11 0), some (aI a1), some (aI a2), some (aI (a3 + 1))] [] m6 P) ∧ (r9 = 2 → ∃ (r16 : Int32) (m13 : Mem), MetA M_X4_printOne [aR 0 0, aI a2, aI a3] m6 (rI r16 m13) ∧ (AW M_X5_printEdition 0 50 [some (aR 11 0), some (aI (a1 + r16)), some (aI a2), some (aI (a3 + 1))] [] m13 P)))))) : AW M_X5_printEdition 0 50 [some (aR 11 0), some (aI a1), some (aI a2), some (aI a3)] [] μ P := by
  refine AW_iload_n dX5_printEdition_50 rfl ?_
  refine AW_aload_n dX5_printEdition_51 rfl ?_
  refine AW_getv (t := 11) (o := 0) (k := 0) (some (0, some 0)) (v := aR 0 0) dX5_printEdition_52 ff_X5_12 rfl rfl rfl ?_
  refine AW_getv (t := 0) (o := 0) (k := 12) (some (5, none)) (v := aR 5 0) dX5_printEdition_55 ff_X5_219 rfl rfl rfl ?_
  refine AW_iload_n dX5_printEdition_58 rfl ?_
  obtain ⟨h1, h2⟩ := h
  refine AW_iaload dX5_printEdition_59 rfl rfl h1 ?_
  refine AW_icmp_ge (tgt := 94) dX5_printEdition_60 (by decide) (fun q5 => ?_) (fun q5 => ?_)
  · have h3 := h2.1 q5
    refine AW_iinc (v := a2 + 1) (loc' := [some (aR 11 0), some (aI a1), some (aI (a2 + 1)), some (aI a3)]) dX5_printEdition_94 rfl rfl (Nat.le_of_ble_eq_true rfl) rfl rfl ?_
    refine AW_goto (tgt := 37) dX5_printEdition_97 (by decide) ?_
    exact AW_mask [true, true, true, false] h3
  · have h4 := h2.2 q5
    refine AW_aload_n dX5_printEdition_63 rfl ?_
    refine AW_getv (t := 11) (o := 0) (k := 0) (some (0, some 0)) (v := aR 0 0) dX5_printEdition_64 ff_X5_12 rfl rfl rfl ?_
    refine AW_iload_n dX5_printEdition_67 rfl ?_
    refine AW_iload_n dX5_printEdition_68 rfl ?_
    obtain ⟨r9, m6, h8, h7⟩ := h4
    refine AW_callVI [aI a2, aI a3] dX5_printEdition_69 cv_X5_140 rfl rfl rfl (by decide) rfl (by decide) (Nat.le_of_ble_eq_true rfl) h8 ?_
    refine AW_iconst (v := 2) dX5_printEdition_72 (by decide) ?_
    refine AW_icmp_ne (tgt := 88) dX5_printEdition_73 (by decide) (fun q12 => ?_) (fun q12 => ?_)
    · have h10 := h7.1 q12
      refine AW_iinc (v := a3 + 1) (loc' := [some (aR 11 0), some (aI a1), some (aI a2), some (aI (a3 + 1))]) dX5_printEdition_88 rfl rfl (Nat.le_of_ble_eq_true rfl) rfl rfl ?_
      refine AW_goto (tgt := 50) dX5_printEdition_91 (by decide) ?_
      exact h10
    · have h11 := h7.2 q12
      refine AW_iload_n dX5_printEdition_76 rfl ?_
      refine AW_aload_n dX5_printEdition_77 rfl ?_
      refine AW_getv (t := 11) (o := 0) (k := 0) (some (0, some 0)) (v := aR 0 0) dX5_printEdition_78 ff_X5_12 rfl rfl rfl ?_
      refine AW_iload_n dX5_printEdition_81 rfl ?_
      refine AW_iload_n dX5_printEdition_82 rfl ?_
      obtain ⟨r16, m13, h15, h14⟩ := h11
      refine AW_callVI [aI a2, aI a3] dX5_printEdition_83 cv_X5_357 rfl rfl rfl (by decide) rfl (by decide) (Nat.le_of_ble_eq_true rfl) h15 ?_
      refine AW_iadd dX5_printEdition_86 ?_
      refine AW_istore_n (loc' := [some (aR 11 0), some (aI (a1 + r16)), some (aI a2), some (aI a3)]) dX5_printEdition_87 (Nat.le_of_ble_eq_true rfl) rfl rfl ?_
      refine AW_iinc (v := a3 + 1) (loc' := [some (aR 11 0), some (aI (a1 + r16)), some (aI a2), some (aI (a3 + 1))]) dX5_printEdition_88 rfl rfl (Nat.le_of_ble_eq_true rfl) rfl rfl ?_
      refine AW_goto (tgt := 50) dX5_printEdition_91 (by decide) ?_
      exact h14
set_option maxRecDepth 100000 in
theorem B_X5_carryOutAll_0  {μ : Mem} {P : RES → Mem → Prop}  (h : ∀ m1 : Mem, m1 = mset μ 15 0 (upd (μ 15 0) 2 0) → AW M_X5_carryOutAll 0 12 [some (aR 11 0), some (aI 0), some (aI 0), none] [] m1 P) : AW M_X5_carryOutAll 0 0 [some (aR 11 0), none, none, none] [] μ P := by
  refine AW_iconst (v := 0) dX5_carryOutAll_0 (by decide) ?_
  refine AW_istore_n (loc' := [some (aR 11 0), some (aI 0), none, none]) dX5_carryOutAll_1 (Nat.le_of_ble_eq_true rfl) rfl rfl ?_
  refine AW_aload_n dX5_carryOutAll_2 rfl ?_
  refine AW_getv (t := 11) (o := 0) (k := 6) (some (15, none)) (v := aR 15 0) dX5_carryOutAll_3 ff_X5_42 rfl rfl rfl ?_
  refine AW_iconst (v := 0) dX5_carryOutAll_6 (by decide) ?_
  obtain ⟨m1, em1⟩ : ∃ z : Mem, z = mset μ 15 0 (upd (μ 15 0) 2 0) := ⟨_, rfl⟩
  have h2 := h m1 em1
  refine AW_putf (t := 15) (o := 0) (k := 2) dX5_carryOutAll_7 fp_X5_363 rfl rfl rfl rfl em1.symm ?_
  refine AW_iconst (v := 0) dX5_carryOutAll_10 (by decide) ?_
  refine AW_istore_n (loc' := [some (aR 11 0), some (aI 0), some (aI 0), none]) dX5_carryOutAll_11 (Nat.le_of_ble_eq_true rfl) rfl rfl ?_
  exact h2
set_option maxRecDepth 100000 in
theorem B_X5_carryOutAll_12 {a1 : Int32} {a2 : Int32} {μ : Mem} {P : RES → Mem → Prop}  (h : (60 ≤ a2 → P (.inl (some (aI a1))) μ) ∧ (¬ 60 ≤ a2 → ((μ 15 0 1) ≤ (μ 15 0 2) → P (.inl (some (aI a1))) μ) ∧ (¬ (μ 15 0 1) ≤ (μ 15 0 2) → ∃ (r10 : Int32) (m7 : Mem), MetA M_X2_readNext [aR 15 0] μ (rI r10 m7) ∧ ((r10 = 0 → P (.inl (some (aI a1))) m7) ∧ (¬ r10 = 0 → ∃ (r17 : Int32) (m14 : Mem), MetA M_X5_carryOutOrder [aR 11 0] m7 (rI r17 m14) ∧ ((¬ r17 = (-3) → (0 ≤ r17 → AW M_X5_carryOutAll 0 12 [some (aR 11 0), some (aI (a1 + 1)), some (aI (a2 + 1)), none] [] m14 P) ∧ (¬ 0 ≤ r17 → P (.inl (some (aI r17))) m14)) ∧ (r17 = (-3) → ∃ m24 : Mem, MetA M_X3_standBehind [aR 14 0, aI 9, aI a1] m14 (rV m24) ∧ ((0 ≤ r17 → AW M_X5_carryOutAll 0 12 [some (aR 11 0), some (aI (a1 + 1)), some (aI (a2 + 1)), none] [] m24 P) ∧ (¬ 0 ≤ r17 → P (.inl (some (aI r17))) m24))))))))) : AW M_X5_carryOutAll 0 12 [some (aR 11 0), some (aI a1), some (aI a2), none] [] μ P := by
  refine AW_iload_n dX5_carryOutAll_12 rfl ?_
  refine AW_bipush (v := 60) dX5_carryOutAll_13 (by decide) ?_
  refine AW_icmp_ge (tgt := 81) dX5_carryOutAll_15 (by decide) (fun q3 => ?_) (fun q3 => ?_)
  · have h1 := h.1 q3
    refine AW_iload_n dX5_carryOutAll_81 rfl ?_
    exact AW_ireturn (ty := .int) dX5_carryOutAll_82 rfl rfl h1
  · have h2 := h.2 q3
    refine AW_aload_n dX5_carryOutAll_18 rfl ?_
    refine AW_getv (t := 11) (o := 0) (k := 6) (some (15, none)) (v := aR 15 0) dX5_carryOutAll_19 ff_X5_42 rfl rfl rfl ?_
    refine AW_getv (t := 15) (o := 0) (k := 2) none (v := aI (μ 15 0 2)) dX5_carryOutAll_22 ff_X5_363 rfl rfl rfl ?_
    refine AW_aload_n dX5_carryOutAll_25 rfl ?_
    refine AW_getv (t := 11) (o := 0) (k := 6) (some (15, none)) (v := aR 15 0) dX5_carryOutAll_26 ff_X5_42 rfl rfl rfl ?_
    refine AW_getv (t := 15) (o := 0) (k := 1) none (v := aI (μ 15 0 1)) dX5_carryOutAll_29 ff_X5_235 rfl rfl rfl ?_
    refine AW_icmp_ge (tgt := 81) dX5_carryOutAll_32 (by decide) (fun q6 => ?_) (fun q6 => ?_)
    · have h4 := h2.1 q6
      refine AW_iload_n dX5_carryOutAll_81 rfl ?_
      exact AW_ireturn (ty := .int) dX5_carryOutAll_82 rfl rfl h4
    · have h5 := h2.2 q6
      refine AW_aload_n dX5_carryOutAll_35 rfl ?_
      refine AW_getv (t := 11) (o := 0) (k := 6) (some (15, none)) (v := aR 15 0) dX5_carryOutAll_36 ff_X5_42 rfl rfl rfl ?_
      obtain ⟨r10, m7, h9, h8⟩ := h5
      refine AW_callVI [] dX5_carryOutAll_39 cv_X5_366 rfl rfl rfl (by decide) rfl (by decide) (Nat.le_of_ble_eq_true rfl) h9 ?_
      refine AW_if_eq (tgt := 81) dX5_carryOutAll_42 (by decide) (fun q13 => ?_) (fun q13 => ?_)
      · have h11 := h8.1 q13
        refine AW_iload_n dX5_carryOutAll_81 rfl ?_
        exact AW_ireturn (ty := .int) dX5_carryOutAll_82 rfl rfl h11
      · have h12 := h8.2 q13
        refine AW_aload_n dX5_carryOutAll_45 rfl ?_
        obtain ⟨r17, m14, h16, h15⟩ := h12
        refine AW_callVI [] dX5_carryOutAll_46 cv_X5_370 rfl rfl rfl (by decide) rfl (by decide) (Nat.le_of_ble_eq_true rfl) h16 ?_
        refine AW_istore_n (loc' := [some (aR 11 0), some (aI a1), some (aI a2), some (aI r17)]) dX5_carryOutAll_49 (Nat.le_of_ble_eq_true rfl) rfl rfl ?_
        refine AW_iload_n dX5_carryOutAll_50 rfl ?_
        refine AW_bipush (v := (-3)) dX5_carryOutAll_51 (by decide) ?_
        refine AW_icmp_ne (tgt := 66) dX5_carryOutAll_53 (by decide) (fun q20 => ?_) (fun q20 => ?_)
        · have h18 := h15.1 q20
          refine AW_iload_n dX5_carryOutAll_66 rfl ?_
          refine AW_if_ge (tgt := 72) dX5_carryOutAll_67 (by decide) (fun q23 => ?_) (fun q23 => ?_)
          · have h21 := h18.1 q23
            refine AW_iinc (v := a1 + 1) (loc' := [some (aR 11 0), some (aI (a1 + 1)), some (aI a2), some (aI r17)]) dX5_carryOutAll_72 rfl rfl (Nat.le_of_ble_eq_true rfl) rfl rfl ?_
            refine AW_iinc (v := a2 + 1) (loc' := [some (aR 11 0), some (aI (a1 + 1)), some (aI (a2 + 1)), some (aI r17)]) dX5_carryOutAll_75 rfl rfl (Nat.le_of_ble_eq_true rfl) rfl rfl ?_
            refine AW_goto (tgt := 12) dX5_carryOutAll_78 (by decide) ?_
            exact AW_mask [true, true, true, false] h21
          · have h22 := h18.2 q23
            refine AW_iload_n dX5_carryOutAll_70 rfl ?_
            exact AW_ireturn (ty := .int) dX5_carryOutAll_71 rfl rfl h22
        · have h19 := h15.2 q20
          refine AW_aload_n dX5_carryOutAll_56 rfl ?_
          refine AW_getv (t := 11) (o := 0) (k := 5) (some (14, none)) (v := aR 14 0) dX5_carryOutAll_57 ff_X5_35 rfl rfl rfl ?_
          refine AW_bipush (v := 9) dX5_carryOutAll_60 (by decide) ?_
          refine AW_iload_n dX5_carryOutAll_62 rfl ?_
          obtain ⟨m24, h26, h25⟩ := h19
          refine AW_callVV [aI 9, aI a1] dX5_carryOutAll_63 cv_X5_373 rfl rfl rfl (by decide) rfl (by decide) (Nat.le_of_ble_eq_true rfl) h26 ?_
          refine AW_iload_n dX5_carryOutAll_66 rfl ?_
          refine AW_if_ge (tgt := 72) dX5_carryOutAll_67 (by decide) (fun q29 => ?_) (fun q29 => ?_)
          · have h27 := h25.1 q29
            refine AW_iinc (v := a1 + 1) (loc' := [some (aR 11 0), some (aI (a1 + 1)), some (aI a2), some (aI r17)]) dX5_carryOutAll_72 rfl rfl (Nat.le_of_ble_eq_true rfl) rfl rfl ?_
            refine AW_iinc (v := a2 + 1) (loc' := [some (aR 11 0), some (aI (a1 + 1)), some (aI (a2 + 1)), some (aI r17)]) dX5_carryOutAll_75 rfl rfl (Nat.le_of_ble_eq_true rfl) rfl rfl ?_
            refine AW_goto (tgt := 12) dX5_carryOutAll_78 (by decide) ?_
            exact AW_mask [true, true, true, false] h27
          · have h28 := h25.2 q29
            refine AW_iload_n dX5_carryOutAll_70 rfl ?_
            exact AW_ireturn (ty := .int) dX5_carryOutAll_71 rfl rfl h28
set_option maxRecDepth 100000 in
theorem B_X5_carryOutOrder_0  {μ : Mem} {P : RES → Mem → Prop}  (h : ((μ 15 0 3).toInt = 99 → ∃ (r6 : Int32) (m3 : Mem), MetA M_X5_takeFine [aR 11 0, aI (μ 15 0 4), aI (μ 15 0 5)] μ (rI r6 m3) ∧ (P (.inl (some (aI r6))) m3)) ∧ ((μ 15 0 3).toInt = 101 → ∃ (r11 : Int32) (m8 : Mem), MetA M_X5_printEdition [aR 11 0] μ (rI r11 m8) ∧ (P (.inl (some (aI r11))) m8)) ∧ ((μ 15 0 3).toInt = 104 → ∃ (r16 : Int32) (m13 : Mem), MetA M_X5_addHouse [aR 11 0, aI (μ 15 0 4)] μ (rI r16 m13) ∧ (P (.inl (some (aI r16))) m13)) ∧ ((μ 15 0 3).toInt = 108 → ∃ (r21 : Int32) (m18 : Mem), MetA M_X5_sellLicence [aR 11 0, aI (μ 15 0 4), aI (μ 15 0 5)] μ (rI r21 m18) ∧ (P (.inl (some (aI r21))) m18)) ∧ ((μ 15 0 3).toInt = 109 → ∃ (r26 : Int32) (m23 : Mem), MetA M_X5_setLetter [aR 11 0, aI (μ 15 0 4), aI (μ 15 0 5), aI (μ 15 0 6)] μ (rI r26 m23) ∧ (P (.inl (some (aI r26))) m23)) ∧ ((μ 15 0 3).toInt = 114 → ∃ (r31 : Int32) (m28 : Mem), MetA M_X5_addReader [aR 11 0, aI (μ 15 0 4), aI (μ 15 0 5)] μ (rI r31 m28) ∧ (P (.inl (some (aI r31))) m28)) ∧ ((μ 15 0 3).toInt = 115 → ∃ (r36 : Int32) (m33 : Mem), MetA M_X5_addSheet [aR 11 0, aI (μ 15 0 4), aI (μ 15 0 5)] μ (rI r36 m33) ∧ (P (.inl (some (aI r36))) m33)) ∧ ((μ 15 0 3).toInt = 120 → ∃ (r41 : Int32) (m38 : Mem), MetA M_X5_takeSheet [aR 11 0, aI (μ 15 0 4)] μ (rI r41 m38) ∧ (P (.inl (some (aI r41))) m38)) ∧ (¬ (μ 15 0 3).toInt = 99 → ¬ (μ 15 0 3).toInt = 101 → ¬ (μ 15 0 3).toInt = 104 → ¬ (μ 15 0 3).toInt = 108 → ¬ (μ 15 0 3).toInt = 109 → ¬ (μ 15 0 3).toInt = 114 → ¬ (μ 15 0 3).toInt = 115 → ¬ (μ 15 0 3).toInt = 120 → ∃ (r46 : Int32) (m43 : Mem), MetA M_X4_passDay [aR 0 0] μ (rI r46 m43) ∧ (P (.inl (some (aI r46))) m43))) : AW M_X5_carryOutOrder 0 0 [some (aR 11 0)] [] μ P := by
  refine AW_aload_n dX5_carryOutOrder_0 rfl ?_
  refine AW_getv (t := 11) (o := 0) (k := 6) (some (15, none)) (v := aR 15 0) dX5_carryOutOrder_1 ff_X5_42 rfl rfl rfl ?_
  refine AW_getv (t := 15) (o := 0) (k := 3) none (v := aI (μ 15 0 3)) dX5_carryOutOrder_4 ff_X5_376 rfl rfl rfl ?_
  obtain ⟨g47, g48, g49, g50, g51, g52, g53, g54, g55⟩ := h
  have hdf : (¬ (μ 15 0 3).toInt = 99 → ¬ (μ 15 0 3).toInt = 101 → ¬ (μ 15 0 3).toInt = 104 → ¬ (μ 15 0 3).toInt = 108 → ¬ (μ 15 0 3).toInt = 109 → ¬ (μ 15 0 3).toInt = 114 → ¬ (μ 15 0 3).toInt = 115 → ¬ (μ 15 0 3).toInt = 120 → AW M_X5_carryOutOrder 0 239 [some (aR 11 0)] [] μ P) := by
    intro z0 z1 z2 z3 z4 z5 z6 z7
    have h42 := g55 z0 z1 z2 z3 z4 z5 z6 z7
    refine AW_aload_n dX5_carryOutOrder_239 rfl ?_
    refine AW_getv (t := 11) (o := 0) (k := 0) (some (0, some 0)) (v := aR 0 0) dX5_carryOutOrder_240 ff_X5_12 rfl rfl rfl ?_
    obtain ⟨r46, m43, h45, h44⟩ := h42
    refine AW_callVI [] dX5_carryOutOrder_243 cv_X5_92 rfl rfl rfl (by decide) rfl (by decide) (Nat.le_of_ble_eq_true rfl) h45 ?_
    exact AW_ireturn (ty := .int) dX5_carryOutOrder_246 rfl rfl h44
  have ho177 : ((μ 15 0 3).toInt = 99 → AW M_X5_carryOutOrder 0 184 [some (aR 11 0)] [] μ P) := by
    intro z
    have h2 := g47 z
    refine AW_aload_n dX5_carryOutOrder_184 rfl ?_
    refine AW_aload_n dX5_carryOutOrder_185 rfl ?_
    refine AW_getv (t := 11) (o := 0) (k := 6) (some (15, none)) (v := aR 15 0) dX5_carryOutOrder_186 ff_X5_42 rfl rfl rfl ?_
    refine AW_getv (t := 15) (o := 0) (k := 4) none (v := aI (μ 15 0 4)) dX5_carryOutOrder_189 ff_X5_380 rfl rfl rfl ?_
    refine AW_aload_n dX5_carryOutOrder_192 rfl ?_
    refine AW_getv (t := 11) (o := 0) (k := 6) (some (15, none)) (v := aR 15 0) dX5_carryOutOrder_193 ff_X5_42 rfl rfl rfl ?_
    refine AW_getv (t := 15) (o := 0) (k := 5) none (v := aI (μ 15 0 5)) dX5_carryOutOrder_196 ff_X5_383 rfl rfl rfl ?_
    obtain ⟨r6, m3, h5, h4⟩ := h2
    refine AW_callVI [aI (μ 15 0 4), aI (μ 15 0 5)] dX5_carryOutOrder_199 cv_X5_82 rfl rfl rfl (by decide) rfl (by decide) (Nat.le_of_ble_eq_true rfl) h5 ?_
    exact AW_ireturn (ty := .int) dX5_carryOutOrder_202 rfl rfl h4
  have ho227 : ((μ 15 0 3).toInt = 101 → AW M_X5_carryOutOrder 0 234 [some (aR 11 0)] [] μ P) := by
    intro z
    have h7 := g48 z
    refine AW_aload_n dX5_carryOutOrder_234 rfl ?_
    obtain ⟨r11, m8, h10, h9⟩ := h7
    refine AW_callVI [] dX5_carryOutOrder_235 cv_X5_88 rfl rfl rfl (by decide) rfl (by decide) (Nat.le_of_ble_eq_true rfl) h10 ?_
    exact AW_ireturn (ty := .int) dX5_carryOutOrder_238 rfl rfl h9
  have ho101 : ((μ 15 0 3).toInt = 104 → AW M_X5_carryOutOrder 0 108 [some (aR 11 0)] [] μ P) := by
    intro z
    have h12 := g49 z
    refine AW_aload_n dX5_carryOutOrder_108 rfl ?_
    refine AW_aload_n dX5_carryOutOrder_109 rfl ?_
    refine AW_getv (t := 11) (o := 0) (k := 6) (some (15, none)) (v := aR 15 0) dX5_carryOutOrder_110 ff_X5_42 rfl rfl rfl ?_
    refine AW_getv (t := 15) (o := 0) (k := 4) none (v := aI (μ 15 0 4)) dX5_carryOutOrder_113 ff_X5_380 rfl rfl rfl ?_
    obtain ⟨r16, m13, h15, h14⟩ := h12
    refine AW_callVI [aI (μ 15 0 4)] dX5_carryOutOrder_116 cv_X5_61 rfl rfl rfl (by decide) rfl (by decide) (Nat.le_of_ble_eq_true rfl) h15 ?_
    exact AW_ireturn (ty := .int) dX5_carryOutOrder_119 rfl rfl h14
  have ho158 : ((μ 15 0 3).toInt = 108 → AW M_X5_carryOutOrder 0 165 [some (aR 11 0)] [] μ P) := by
    intro z
    have h17 := g50 z
    refine AW_aload_n dX5_carryOutOrder_165 rfl ?_
    refine AW_aload_n dX5_carryOutOrder_166 rfl ?_
    refine AW_getv (t := 11) (o := 0) (k := 6) (some (15, none)) (v := aR 15 0) dX5_carryOutOrder_167 ff_X5_42 rfl rfl rfl ?_
    refine AW_getv (t := 15) (o := 0) (k := 4) none (v := aI (μ 15 0 4)) dX5_carryOutOrder_170 ff_X5_380 rfl rfl rfl ?_
    refine AW_aload_n dX5_carryOutOrder_173 rfl ?_
    refine AW_getv (t := 11) (o := 0) (k := 6) (some (15, none)) (v := aR 15 0) dX5_carryOutOrder_174 ff_X5_42 rfl rfl rfl ?_
    refine AW_getv (t := 15) (o := 0) (k := 5) none (v := aI (μ 15 0 5)) dX5_carryOutOrder_177 ff_X5_383 rfl rfl rfl ?_
    obtain ⟨r21, m18, h20, h19⟩ := h17
    refine AW_callVI [aI (μ 15 0 4), aI (μ 15 0 5)] dX5_carryOutOrder_180 cv_X5_79 rfl rfl rfl (by decide) rfl (by decide) (Nat.le_of_ble_eq_true rfl) h20 ?_
    exact AW_ireturn (ty := .int) dX5_carryOutOrder_183 rfl rfl h19
  have ho132 : ((μ 15 0 3).toInt = 109 → AW M_X5_carryOutOrder 0 139 [some (aR 11 0)] [] μ P) := by
    intro z
    have h22 := g51 z
    refine AW_aload_n dX5_carryOutOrder_139 rfl ?_
    refine AW_aload_n dX5_carryOutOrder_140 rfl ?_
    refine AW_getv (t := 11) (o := 0) (k := 6) (some (15, none)) (v := aR 15 0) dX5_carryOutOrder_141 ff_X5_42 rfl rfl rfl ?_
    refine AW_getv (t := 15) (o := 0) (k := 4) none (v := aI (μ 15 0 4)) dX5_carryOutOrder_144 ff_X5_380 rfl rfl rfl ?_
    refine AW_aload_n dX5_carryOutOrder_147 rfl ?_
    refine AW_getv (t := 11) (o := 0) (k := 6) (some (15, none)) (v := aR 15 0) dX5_carryOutOrder_148 ff_X5_42 rfl rfl rfl ?_
    refine AW_getv (t := 15) (o := 0) (k := 5) none (v := aI (μ 15 0 5)) dX5_carryOutOrder_151 ff_X5_383 rfl rfl rfl ?_
    refine AW_aload_n dX5_carryOutOrder_154 rfl ?_
    refine AW_getv (t := 11) (o := 0) (k := 6) (some (15, none)) (v := aR 15 0) dX5_carryOutOrder_155 ff_X5_42 rfl rfl rfl ?_
    refine AW_getv (t := 15) (o := 0) (k := 6) none (v := aI (μ 15 0 6)) dX5_carryOutOrder_158 ff_X5_386 rfl rfl rfl ?_
    obtain ⟨r26, m23, h25, h24⟩ := h22
    refine AW_callVI [aI (μ 15 0 4), aI (μ 15 0 5), aI (μ 15 0 6)] dX5_carryOutOrder_161 cv_X5_75 rfl rfl rfl (by decide) rfl (by decide) (Nat.le_of_ble_eq_true rfl) h25 ?_
    exact AW_ireturn (ty := .int) dX5_carryOutOrder_164 rfl rfl h24
  have ho196 : ((μ 15 0 3).toInt = 114 → AW M_X5_carryOutOrder 0 203 [some (aR 11 0)] [] μ P) := by
    intro z
    have h27 := g52 z
    refine AW_aload_n dX5_carryOutOrder_203 rfl ?_
    refine AW_aload_n dX5_carryOutOrder_204 rfl ?_
    refine AW_getv (t := 11) (o := 0) (k := 6) (some (15, none)) (v := aR 15 0) dX5_carryOutOrder_205 ff_X5_42 rfl rfl rfl ?_
    refine AW_getv (t := 15) (o := 0) (k := 4) none (v := aI (μ 15 0 4)) dX5_carryOutOrder_208 ff_X5_380 rfl rfl rfl ?_
    refine AW_aload_n dX5_carryOutOrder_211 rfl ?_
    refine AW_getv (t := 11) (o := 0) (k := 6) (some (15, none)) (v := aR 15 0) dX5_carryOutOrder_212 ff_X5_42 rfl rfl rfl ?_
    refine AW_getv (t := 15) (o := 0) (k := 5) none (v := aI (μ 15 0 5)) dX5_carryOutOrder_215 ff_X5_383 rfl rfl rfl ?_
    obtain ⟨r31, m28, h30, h29⟩ := h27
    refine AW_callVI [aI (μ 15 0 4), aI (μ 15 0 5)] dX5_carryOutOrder_218 cv_X5_85 rfl rfl rfl (by decide) rfl (by decide) (Nat.le_of_ble_eq_true rfl) h30 ?_
    exact AW_ireturn (ty := .int) dX5_carryOutOrder_221 rfl rfl h29
  have ho113 : ((μ 15 0 3).toInt = 115 → AW M_X5_carryOutOrder 0 120 [some (aR 11 0)] [] μ P) := by
    intro z
    have h32 := g53 z
    refine AW_aload_n dX5_carryOutOrder_120 rfl ?_
    refine AW_aload_n dX5_carryOutOrder_121 rfl ?_
    refine AW_getv (t := 11) (o := 0) (k := 6) (some (15, none)) (v := aR 15 0) dX5_carryOutOrder_122 ff_X5_42 rfl rfl rfl ?_
    refine AW_getv (t := 15) (o := 0) (k := 4) none (v := aI (μ 15 0 4)) dX5_carryOutOrder_125 ff_X5_380 rfl rfl rfl ?_
    refine AW_aload_n dX5_carryOutOrder_128 rfl ?_
    refine AW_getv (t := 11) (o := 0) (k := 6) (some (15, none)) (v := aR 15 0) dX5_carryOutOrder_129 ff_X5_42 rfl rfl rfl ?_
    refine AW_getv (t := 15) (o := 0) (k := 5) none (v := aI (μ 15 0 5)) dX5_carryOutOrder_132 ff_X5_383 rfl rfl rfl ?_
    obtain ⟨r36, m33, h35, h34⟩ := h32
    refine AW_callVI [aI (μ 15 0 4), aI (μ 15 0 5)] dX5_carryOutOrder_135 cv_X5_68 rfl rfl rfl (by decide) rfl (by decide) (Nat.le_of_ble_eq_true rfl) h35 ?_
    exact AW_ireturn (ty := .int) dX5_carryOutOrder_138 rfl rfl h34
  have ho215 : ((μ 15 0 3).toInt = 120 → AW M_X5_carryOutOrder 0 222 [some (aR 11 0)] [] μ P) := by
    intro z
    have h37 := g54 z
    refine AW_aload_n dX5_carryOutOrder_222 rfl ?_
    refine AW_aload_n dX5_carryOutOrder_223 rfl ?_
    refine AW_getv (t := 11) (o := 0) (k := 6) (some (15, none)) (v := aR 15 0) dX5_carryOutOrder_224 ff_X5_42 rfl rfl rfl ?_
    refine AW_getv (t := 15) (o := 0) (k := 4) none (v := aI (μ 15 0 4)) dX5_carryOutOrder_227 ff_X5_380 rfl rfl rfl ?_
    obtain ⟨r41, m38, h40, h39⟩ := h37
    refine AW_callVI [aI (μ 15 0 4)] dX5_carryOutOrder_230 cv_X5_72 rfl rfl rfl (by decide) rfl (by decide) (Nat.le_of_ble_eq_true rfl) h40 ?_
    exact AW_ireturn (ty := .int) dX5_carryOutOrder_233 rfl rfl h39
  exact AW_tsw dX5_carryOutOrder_7 (by decide) (fun q56 => ⟨239, by decide, hdf (by omega) (by omega) (by omega) (by omega) (by omega) (by omega) (by omega) (by omega)⟩) ⟨fun q56 => ⟨184, by decide, ho177 (by omega)⟩, fun q56 => ⟨239, by decide, hdf (by omega) (by omega) (by omega) (by omega) (by omega) (by omega) (by omega) (by omega)⟩, fun q56 => ⟨234, by decide, ho227 (by omega)⟩, fun q56 => ⟨239, by decide, hdf (by omega) (by omega) (by omega) (by omega) (by omega) (by omega) (by omega) (by omega)⟩, fun q56 => ⟨239, by decide, hdf (by omega) (by omega) (by omega) (by omega) (by omega) (by omega) (by omega) (by omega)⟩, fun q56 => ⟨108, by decide, ho101 (by omega)⟩, fun q56 => ⟨239, by decide, hdf (by omega) (by omega) (by omega) (by omega) (by omega) (by omega) (by omega) (by omega)⟩, fun q56 => ⟨239, by decide, hdf (by omega) (by omega) (by omega) (by omega) (by omega) (by omega) (by omega) (by omega)⟩, fun q56 => ⟨239, by decide, hdf (by omega) (by omega) (by omega) (by omega) (by omega) (by omega) (by omega) (by omega)⟩, fun q56 => ⟨165, by decide, ho158 (by omega)⟩, fun q56 => ⟨139, by decide, ho132 (by omega)⟩, fun q56 => ⟨239, by decide, hdf (by omega) (by omega) (by omega) (by omega) (by omega) (by omega) (by omega) (by omega)⟩, fun q56 => ⟨239, by decide, hdf (by omega) (by omega) (by omega) (by omega) (by omega) (by omega) (by omega) (by omega)⟩, fun q56 => ⟨239, by decide, hdf (by omega) (by omega) (by omega) (by omega) (by omega) (by omega) (by omega) (by omega)⟩, fun q56 => ⟨239, by decide, hdf (by omega) (by omega) (by omega) (by omega) (by omega) (by omega) (by omega) (by omega)⟩, fun q56 => ⟨203, by decide, ho196 (by omega)⟩, fun q56 => ⟨120, by decide, ho113 (by omega)⟩, fun q56 => ⟨239, by decide, hdf (by omega) (by omega) (by omega) (by omega) (by omega) (by omega) (by omega) (by omega)⟩, fun q56 => ⟨239, by decide, hdf (by omega) (by omega) (by omega) (by omega) (by omega) (by omega) (by omega) (by omega)⟩, fun q56 => ⟨239, by decide, hdf (by omega) (by omega) (by omega) (by omega) (by omega) (by omega) (by omega) (by omega)⟩, fun q56 => ⟨239, by decide, hdf (by omega) (by omega) (by omega) (by omega) (by omega) (by omega) (by omega) (by omega)⟩, fun q56 => ⟨222, by decide, ho215 (by omega)⟩, trivial⟩
set_option maxRecDepth 100000 in
theorem B_X5_finesInThought_0 {a1 : Int32} {μ : Mem} {P : RES → Mem → Prop}  (h : ∃ m1 : Mem, MetA M_X4_copyFrom [aR 0 2, aR 0 0] μ (rV m1) ∧ (AW M_X5_finesInThought 0 15 [some (aR 11 0), some (aI a1), some (aI 0), some (aI 0)] [] m1 P)) : AW M_X5_finesInThought 0 0 [some (aR 11 0), some (aI a1), none, none] [] μ P := by
  refine AW_aload_n dX5_finesInThought_0 rfl ?_
  refine AW_getv (t := 11) (o := 0) (k := 2) (some (0, some 2)) (v := aR 0 2) dX5_finesInThought_1 ff_X5_19 rfl rfl rfl ?_
  refine AW_aload_n dX5_finesInThought_4 rfl ?_
  refine AW_getv (t := 11) (o := 0) (k := 0) (some (0, some 0)) (v := aR 0 0) dX5_finesInThought_5 ff_X5_12 rfl rfl rfl ?_
  obtain ⟨m1, h3, h2⟩ := h
  refine AW_callVV [aR 0 0] dX5_finesInThought_8 cv_X5_57 rfl rfl rfl (by decide) rfl (by decide) (Nat.le_of_ble_eq_true rfl) h3 ?_
  refine AW_iconst (v := 0) dX5_finesInThought_11 (by decide) ?_
  refine AW_istore_n (loc' := [some (aR 11 0), some (aI a1), some (aI 0), none]) dX5_finesInThought_12 (Nat.le_of_ble_eq_true rfl) rfl rfl ?_
  refine AW_iconst (v := 0) dX5_finesInThought_13 (by decide) ?_
  refine AW_istore_n (loc' := [some (aR 11 0), some (aI a1), some (aI 0), some (aI 0)]) dX5_finesInThought_14 (Nat.le_of_ble_eq_true rfl) rfl rfl ?_
  exact h2
set_option maxRecDepth 100000 in
theorem B_X5_finesInThought_15 {a1 : Int32} {a2 : Int32} {a3 : Int32} {μ : Mem} {P : RES → Mem → Prop}  (h : vp_in a1 8 ∧ (((μ 5 2 a1.toNatClampNeg) ≤ a3 → P (.inl (some (aI a2))) μ) ∧ (¬ (μ 5 2 a1.toNatClampNeg) ≤ a3 → ∃ (r9 : Int32) (m6 : Mem), MetA M_X4_fineByRules [aR 0 2, aI a1, aI a3] μ (rI r9 m6) ∧ (∃ (r13 : Int32) (m10 : Mem), MetA M_X4_rightAt [aR 0 2, aI a1, aI a3] m6 (rI r13 m10) ∧ (∃ m14 : Mem, MetA M_X4_putLetter [aR 0 2, aI a1, aI a3, aI r13] m10 (rV m14) ∧ (AW M_X5_finesInThought 0 15 [some (aR 11 0), some (aI a1), some (aI (a2 + r9)), some (aI (a3 + 1))] [] m14 P)))))) : AW M_X5_finesInThought 0 15 [some (aR 11 0), some (aI a1), some (aI a2), some (aI a3)] [] μ P := by
  refine AW_iload_n dX5_finesInThought_15 rfl ?_
  refine AW_aload_n dX5_finesInThought_16 rfl ?_
  refine AW_getv (t := 11) (o := 0) (k := 2) (some (0, some 2)) (v := aR 0 2) dX5_finesInThought_17 ff_X5_19 rfl rfl rfl ?_
  refine AW_getv (t := 0) (o := 2) (k := 12) (some (5, none)) (v := aR 5 2) dX5_finesInThought_20 ff_X5_219 rfl rfl rfl ?_
  refine AW_iload_n dX5_finesInThought_23 rfl ?_
  obtain ⟨h1, h2⟩ := h
  refine AW_iaload dX5_finesInThought_24 rfl rfl h1 ?_
  refine AW_icmp_ge (tgt := 64) dX5_finesInThought_25 (by decide) (fun q5 => ?_) (fun q5 => ?_)
  · have h3 := h2.1 q5
    refine AW_iload_n dX5_finesInThought_64 rfl ?_
    exact AW_ireturn (ty := .int) dX5_finesInThought_65 rfl rfl h3
  · have h4 := h2.2 q5
    refine AW_iload_n dX5_finesInThought_28 rfl ?_
    refine AW_aload_n dX5_finesInThought_29 rfl ?_
    refine AW_getv (t := 11) (o := 0) (k := 2) (some (0, some 2)) (v := aR 0 2) dX5_finesInThought_30 ff_X5_19 rfl rfl rfl ?_
    refine AW_iload_n dX5_finesInThought_33 rfl ?_
    refine AW_iload_n dX5_finesInThought_34 rfl ?_
    obtain ⟨r9, m6, h8, h7⟩ := h4
    refine AW_callVI [aI a1, aI a3] dX5_finesInThought_35 cv_X5_146 rfl rfl rfl (by decide) rfl (by decide) (Nat.le_of_ble_eq_true rfl) h8 ?_
    refine AW_iadd dX5_finesInThought_38 ?_
    refine AW_istore_n (loc' := [some (aR 11 0), some (aI a1), some (aI (a2 + r9)), some (aI a3)]) dX5_finesInThought_39 (Nat.le_of_ble_eq_true rfl) rfl rfl ?_
    refine AW_aload_n dX5_finesInThought_40 rfl ?_
    refine AW_getv (t := 11) (o := 0) (k := 2) (some (0, some 2)) (v := aR 0 2) dX5_finesInThought_41 ff_X5_19 rfl rfl rfl ?_
    refine AW_iload_n dX5_finesInThought_44 rfl ?_
    refine AW_iload_n dX5_finesInThought_45 rfl ?_
    refine AW_aload_n dX5_finesInThought_46 rfl ?_
    refine AW_getv (t := 11) (o := 0) (k := 2) (some (0, some 2)) (v := aR 0 2) dX5_finesInThought_47 ff_X5_19 rfl rfl rfl ?_
    refine AW_iload_n dX5_finesInThought_50 rfl ?_
    refine AW_iload_n dX5_finesInThought_51 rfl ?_
    obtain ⟨r13, m10, h12, h11⟩ := h7
    refine AW_callVI [aI a1, aI a3] dX5_finesInThought_52 cv_X5_130 rfl rfl rfl (by decide) rfl (by decide) (Nat.le_of_ble_eq_true rfl) h12 ?_
    obtain ⟨m14, h16, h15⟩ := h11
    refine AW_callVV [aI a1, aI a3, aI r13] dX5_finesInThought_55 cv_X5_329 rfl rfl rfl (by decide) rfl (by decide) (Nat.le_of_ble_eq_true rfl) h16 ?_
    refine AW_iinc (v := a3 + 1) (loc' := [some (aR 11 0), some (aI a1), some (aI (a2 + r9)), some (aI (a3 + 1))]) dX5_finesInThought_58 rfl rfl (Nat.le_of_ble_eq_true rfl) rfl rfl ?_
    refine AW_goto (tgt := 15) dX5_finesInThought_61 (by decide) ?_
    exact h15
set_option maxRecDepth 100000 in
theorem B_X5_isSheetWell_0 {a1 : Int32} {μ : Mem} {P : RES → Mem → Prop}  (h : AW M_X5_isSheetWell 0 2 [some (aR 11 0), some (aI a1), some (aI 0)] [] μ P) : AW M_X5_isSheetWell 0 0 [some (aR 11 0), some (aI a1), none] [] μ P := by
  refine AW_iconst (v := 0) dX5_isSheetWell_0 (by decide) ?_
  refine AW_istore_n (loc' := [some (aR 11 0), some (aI a1), some (aI 0)]) dX5_isSheetWell_1 (Nat.le_of_ble_eq_true rfl) rfl rfl ?_
  exact h
set_option maxRecDepth 100000 in
theorem B_X5_isSheetWell_2 {a1 : Int32} {a2 : Int32} {μ : Mem} {P : RES → Mem → Prop}  (h : vp_in a1 8 ∧ (((μ 5 0 a1.toNatClampNeg) ≤ a2 → P (.inl (some (aI 1))) μ) ∧ (¬ (μ 5 0 a1.toNatClampNeg) ≤ a2 → ∃ (r9 : Int32) (m6 : Mem), MetA M_X4_fineByRules [aR 0 0, aI a1, aI a2] μ (rI r9 m6) ∧ (∃ (r13 : Int32) (m10 : Mem), MetA M_X4_fineAtOnce [aR 0 0, aI a1, aI a2] m6 (rI r13 m10) ∧ ((r9 = r13 → ∃ (r20 : Int32) (m17 : Mem), MetA M_X4_levelAt [aR 0 0, aI a1, aI a2] m10 (rI r20 m17) ∧ ((r20 < 2 → AW M_X5_isSheetWell 0 2 [some (aR 11 0), some (aI a1), some (aI (a2 + 1))] [] m17 P) ∧ (¬ r20 < 2 → ∃ (r27 : Int32) (m24 : Mem), MetA M_X4_isMisprint [aR 0 0, aI a1, aI a2] m17 (rI r27 m24) ∧ ((¬ r27 = 0 → AW M_X5_isSheetWell 0 2 [some (aR 11 0), some (aI a1), some (aI (a2 + 1))] [] m24 P) ∧ (r27 = 0 → P (.inl (some (aI 0))) m24))))) ∧ (¬ r9 = r13 → P (.inl (some (aI 0))) m10)))))) : AW M_X5_isSheetWell 0 2 [some (aR 11 0), some (aI a1), some (aI a2)] [] μ P := by
  refine AW_iload_n dX5_isSheetWell_2 rfl ?_
  refine AW_aload_n dX5_isSheetWell_3 rfl ?_
  refine AW_getv (t := 11) (o := 0) (k := 0) (some (0, some 0)) (v := aR 0 0) dX5_isSheetWell_4 ff_X5_12 rfl rfl rfl ?_
  refine AW_getv (t := 0) (o := 0) (k := 12) (some (5, none)) (v := aR 5 0) dX5_isSheetWell_7 ff_X5_219 rfl rfl rfl ?_
  refine AW_iload_n dX5_isSheetWell_10 rfl ?_
  obtain ⟨h1, h2⟩ := h
  refine AW_iaload dX5_isSheetWell_11 rfl rfl h1 ?_
  refine AW_icmp_ge (tgt := 71) dX5_isSheetWell_12 (by decide) (fun q5 => ?_) (fun q5 => ?_)
  · have h3 := h2.1 q5
    refine AW_iconst (v := 1) dX5_isSheetWell_71 (by decide) ?_
    exact AW_ireturn (ty := .boolean) dX5_isSheetWell_72 rfl rfl h3
  · have h4 := h2.2 q5
    refine AW_aload_n dX5_isSheetWell_15 rfl ?_
    refine AW_getv (t := 11) (o := 0) (k := 0) (some (0, some 0)) (v := aR 0 0) dX5_isSheetWell_16 ff_X5_12 rfl rfl rfl ?_
    refine AW_iload_n dX5_isSheetWell_19 rfl ?_
    refine AW_iload_n dX5_isSheetWell_20 rfl ?_
    obtain ⟨r9, m6, h8, h7⟩ := h4
    refine AW_callVI [aI a1, aI a2] dX5_isSheetWell_21 cv_X5_146 rfl rfl rfl (by decide) rfl (by decide) (Nat.le_of_ble_eq_true rfl) h8 ?_
    refine AW_aload_n dX5_isSheetWell_24 rfl ?_
    refine AW_getv (t := 11) (o := 0) (k := 0) (some (0, some 0)) (v := aR 0 0) dX5_isSheetWell_25 ff_X5_12 rfl rfl rfl ?_
    refine AW_iload_n dX5_isSheetWell_28 rfl ?_
    refine AW_iload_n dX5_isSheetWell_29 rfl ?_
    obtain ⟨r13, m10, h12, h11⟩ := h7
    refine AW_callVI [aI a1, aI a2] dX5_isSheetWell_30 cv_X5_143 rfl rfl rfl (by decide) rfl (by decide) (Nat.le_of_ble_eq_true rfl) h12 ?_
    refine AW_icmp_eq (tgt := 38) dX5_isSheetWell_33 (by decide) (fun q16 => ?_) (fun q16 => ?_)
    · have h14 := h11.1 q16
      refine AW_aload_n dX5_isSheetWell_38 rfl ?_
      refine AW_getv (t := 11) (o := 0) (k := 0) (some (0, some 0)) (v := aR 0 0) dX5_isSheetWell_39 ff_X5_12 rfl rfl rfl ?_
      refine AW_iload_n dX5_isSheetWell_42 rfl ?_
      refine AW_iload_n dX5_isSheetWell_43 rfl ?_
      obtain ⟨r20, m17, h19, h18⟩ := h14
      refine AW_callVI [aI a1, aI a2] dX5_isSheetWell_44 cv_X5_140 rfl rfl rfl (by decide) rfl (by decide) (Nat.le_of_ble_eq_true rfl) h19 ?_
      refine AW_iconst (v := 2) dX5_isSheetWell_47 (by decide) ?_
      refine AW_icmp_lt (tgt := 65) dX5_isSheetWell_48 (by decide) (fun q23 => ?_) (fun q23 => ?_)
      · have h21 := h18.1 q23
        refine AW_iinc (v := a2 + 1) (loc' := [some (aR 11 0), some (aI a1), some (aI (a2 + 1))]) dX5_isSheetWell_65 rfl rfl (Nat.le_of_ble_eq_true rfl) rfl rfl ?_
        refine AW_goto (tgt := 2) dX5_isSheetWell_68 (by decide) ?_
        exact h21
      · have h22 := h18.2 q23
        refine AW_aload_n dX5_isSheetWell_51 rfl ?_
        refine AW_getv (t := 11) (o := 0) (k := 0) (some (0, some 0)) (v := aR 0 0) dX5_isSheetWell_52 ff_X5_12 rfl rfl rfl ?_
        refine AW_iload_n dX5_isSheetWell_55 rfl ?_
        refine AW_iload_n dX5_isSheetWell_56 rfl ?_
        obtain ⟨r27, m24, h26, h25⟩ := h22
        refine AW_callVI [aI a1, aI a2] dX5_isSheetWell_57 cv_X5_389 rfl rfl rfl (by decide) rfl (by decide) (Nat.le_of_ble_eq_true rfl) h26 ?_
        refine AW_if_ne (tgt := 65) dX5_isSheetWell_60 (by decide) (fun q30 => ?_) (fun q30 => ?_)
        · have h28 := h25.1 q30
          refine AW_iinc (v := a2 + 1) (loc' := [some (aR 11 0), some (aI a1), some (aI (a2 + 1))]) dX5_isSheetWell_65 rfl rfl (Nat.le_of_ble_eq_true rfl) rfl rfl ?_
          refine AW_goto (tgt := 2) dX5_isSheetWell_68 (by decide) ?_
          exact h28
        · have h29 := h25.2 q30
          refine AW_iconst (v := 0) dX5_isSheetWell_63 (by decide) ?_
          exact AW_ireturn (ty := .boolean) dX5_isSheetWell_64 rfl rfl h29
    · have h15 := h11.2 q16
      refine AW_iconst (v := 0) dX5_isSheetWell_36 (by decide) ?_
      exact AW_ireturn (ty := .boolean) dX5_isSheetWell_37 rfl rfl h15
set_option maxRecDepth 100000 in
theorem B_X5_bestBargain_0  {μ : Mem} {P : RES → Mem → Prop}  (h : AW M_X5_bestBargain 0 6 [some (aR 11 0), some (aI (-1)), some (aI 0), some (aI 0), none, none, none, none] [] μ P) : AW M_X5_bestBargain 0 0 [some (aR 11 0), none, none, none, none, none, none, none] [] μ P := by
  refine AW_iconst (v := (-1)) dX5_bestBargain_0 (by decide) ?_
  refine AW_istore_n (loc' := [some (aR 11 0), some (aI (-1)), none, none, none, none, none, none]) dX5_bestBargain_1 (Nat.le_of_ble_eq_true rfl) rfl rfl ?_
  refine AW_iconst (v := 0) dX5_bestBargain_2 (by decide) ?_
  refine AW_istore_n (loc' := [some (aR 11 0), some (aI (-1)), some (aI 0), none, none, none, none, none]) dX5_bestBargain_3 (Nat.le_of_ble_eq_true rfl) rfl rfl ?_
  refine AW_iconst (v := 0) dX5_bestBargain_4 (by decide) ?_
  refine AW_istore_n (loc' := [some (aR 11 0), some (aI (-1)), some (aI 0), some (aI 0), none, none, none, none]) dX5_bestBargain_5 (Nat.le_of_ble_eq_true rfl) rfl rfl ?_
  exact h
set_option maxRecDepth 100000 in
theorem B_X5_bestBargain_6 {a1 : Int32} {a2 : Int32} {a3 : Int32} {μ : Mem} {P : RES → Mem → Prop}  (h : ((μ 0 0 1) ≤ a3 → P (.inl (some (aI a1))) μ) ∧ (¬ (μ 0 0 1) ≤ a3 → vp_in a3 8 ∧ (∃ (r9 : Int32) (m6 : Mem), MetA M_X4_licenceCost [aR 0 0, aI (μ 4 0 a3.toNatClampNeg)] μ (rI r9 m6) ∧ (vp_in a3 8 ∧ (∃ (r15 : Int32) (m12 : Mem), MetA M_X4_canPayLicence [aR 0 0, aI (m6 4 0 a3.toNatClampNeg)] m6 (rI r15 m12) ∧ (AW M_X5_bestBargain 0 56 [some (aR 11 0), some (aI a1), some (aI a2), some (aI a3), some (aI r9), some (aI r15), some (aI 0), none] [] m12 P)))))) : AW M_X5_bestBargain 0 6 [some (aR 11 0), some (aI a1), some (aI a2), some (aI a3), none, none, none, none] [] μ P := by
  refine AW_iload_n dX5_bestBargain_6 rfl ?_
  refine AW_aload_n dX5_bestBargain_7 rfl ?_
  refine AW_getv (t := 11) (o := 0) (k := 0) (some (0, some 0)) (v := aR 0 0) dX5_bestBargain_8 ff_X5_12 rfl rfl rfl ?_
  refine AW_getv (t := 0) (o := 0) (k := 1) none (v := aI (μ 0 0 1)) dX5_bestBargain_11 ff_X5_188 rfl rfl rfl ?_
  refine AW_icmp_ge (tgt := 141) dX5_bestBargain_14 (by decide) (fun q3 => ?_) (fun q3 => ?_)
  · have h1 := h.1 q3
    refine AW_iload_n dX5_bestBargain_141 rfl ?_
    exact AW_ireturn (ty := .int) dX5_bestBargain_142 rfl rfl h1
  · have h2 := h.2 q3
    refine AW_aload_n dX5_bestBargain_17 rfl ?_
    refine AW_getv (t := 11) (o := 0) (k := 0) (some (0, some 0)) (v := aR 0 0) dX5_bestBargain_18 ff_X5_12 rfl rfl rfl ?_
    refine AW_aload_n dX5_bestBargain_21 rfl ?_
    refine AW_getv (t := 11) (o := 0) (k := 0) (some (0, some 0)) (v := aR 0 0) dX5_bestBargain_22 ff_X5_12 rfl rfl rfl ?_
    refine AW_getv (t := 0) (o := 0) (k := 11) (some (4, none)) (v := aR 4 0) dX5_bestBargain_25 ff_X5_159 rfl rfl rfl ?_
    refine AW_iload_n dX5_bestBargain_28 rfl ?_
    obtain ⟨h4, h5⟩ := h2
    refine AW_iaload dX5_bestBargain_29 rfl rfl h4 ?_
    obtain ⟨r9, m6, h8, h7⟩ := h5
    refine AW_callVI [aI (μ 4 0 a3.toNatClampNeg)] dX5_bestBargain_30 cv_X5_336 rfl rfl rfl (by decide) rfl (by decide) (Nat.le_of_ble_eq_true rfl) h8 ?_
    refine AW_istore (loc' := [some (aR 11 0), some (aI a1), some (aI a2), some (aI a3), some (aI r9), none, none, none]) dX5_bestBargain_33 (Nat.le_of_ble_eq_true rfl) rfl rfl ?_
    refine AW_aload_n dX5_bestBargain_35 rfl ?_
    refine AW_getv (t := 11) (o := 0) (k := 0) (some (0, some 0)) (v := aR 0 0) dX5_bestBargain_36 ff_X5_12 rfl rfl rfl ?_
    refine AW_aload_n dX5_bestBargain_39 rfl ?_
    refine AW_getv (t := 11) (o := 0) (k := 0) (some (0, some 0)) (v := aR 0 0) dX5_bestBargain_40 ff_X5_12 rfl rfl rfl ?_
    refine AW_getv (t := 0) (o := 0) (k := 11) (some (4, none)) (v := aR 4 0) dX5_bestBargain_43 ff_X5_159 rfl rfl rfl ?_
    refine AW_iload_n dX5_bestBargain_46 rfl ?_
    obtain ⟨h10, h11⟩ := h7
    refine AW_iaload dX5_bestBargain_47 rfl rfl h10 ?_
    obtain ⟨r15, m12, h14, h13⟩ := h11
    refine AW_callVI [aI (m6 4 0 a3.toNatClampNeg)] dX5_bestBargain_48 cv_X5_392 rfl rfl rfl (by decide) rfl (by decide) (Nat.le_of_ble_eq_true rfl) h14 ?_
    refine AW_istore (loc' := [some (aR 11 0), some (aI a1), some (aI a2), some (aI a3), some (aI r9), some (aI r15), none, none]) dX5_bestBargain_51 (Nat.le_of_ble_eq_true rfl) rfl rfl ?_
    refine AW_iconst (v := 0) dX5_bestBargain_53 (by decide) ?_
    refine AW_istore (loc' := [some (aR 11 0), some (aI a1), some (aI a2), some (aI a3), some (aI r9), some (aI r15), some (aI 0), none]) dX5_bestBargain_54 (Nat.le_of_ble_eq_true rfl) rfl rfl ?_
    exact h13
set_option maxRecDepth 100000 in
theorem B_X5_bestBargain_56 {a1 : Int32} {a2 : Int32} {a3 : Int32} {a4 : Int32} {a5 : Int32} {a6 : Int32} {μ : Mem} {P : RES → Mem → Prop}  (h : (a5 = 0 → AW M_X5_bestBargain 0 6 [some (aR 11 0), some (aI a1), some (aI a2), some (aI (a3 + 1)), none, none, none, none] [] μ P) ∧ (¬ a5 = 0 → vp_in a3 8 ∧ (((μ 5 0 a3.toNatClampNeg) ≤ a6 → AW M_X5_bestBargain 0 6 [some (aR 11 0), some (aI a1), some (aI a2), some (aI (a3 + 1)), none, none, none, none] [] μ P) ∧ (¬ (μ 5 0 a3.toNatClampNeg) ≤ a6 → ∃ (r12 : Int32) (m9 : Mem), MetA M_X4_laughersAt [aR 0 0, aI a3, aI a6] μ (rI r12 m9) ∧ (∃ (r16 : Int32) (m13 : Mem), MetA M_J6_bitCount_0f7a4 [aI r12] m9 (rI r16 m13) ∧ (∃ (r20 : Int32) (m17 : Mem), MetA M_X4_levelAt [aR 0 0, aI a3, aI a6] m13 (rI r20 m17) ∧ ((¬ r20 = 1 → AW M_X5_bestBargain 0 56 [some (aR 11 0), some (aI a1), some (aI a2), some (aI a3), some (aI a4), some (aI a5), some (aI (a6 + 1)), none] [] m17 P) ∧ (r20 = 1 → (a1 = (-1) → AW M_X5_bestBargain 0 56 [some (aR 11 0), some (aI ((a3 * 8) + a6)), some (aI (r16 - a4)), some (aI a3), some (aI a4), some (aI a5), some (aI (a6 + 1)), none] [] m17 P) ∧ (¬ a1 = (-1) → ((r16 - a4) ≤ a2 → AW M_X5_bestBargain 0 56 [some (aR 11 0), some (aI a1), some (aI a2), some (aI a3), some (aI a4), some (aI a5), some (aI (a6 + 1)), none] [] m17 P) ∧ (¬ (r16 - a4) ≤ a2 → AW M_X5_bestBargain 0 56 [some (aR 11 0), some (aI ((a3 * 8) + a6)), some (aI (r16 - a4)), some (aI a3), some (aI a4), some (aI a5), some (aI (a6 + 1)), none] [] m17 P)))))))))) : AW M_X5_bestBargain 0 56 [some (aR 11 0), some (aI a1), some (aI a2), some (aI a3), some (aI a4), some (aI a5), some (aI a6), none] [] μ P := by
  refine AW_iload dX5_bestBargain_56 rfl ?_
  refine AW_if_eq (tgt := 135) dX5_bestBargain_58 (by decide) (fun q3 => ?_) (fun q3 => ?_)
  · have h1 := h.1 q3
    refine AW_iinc (v := a3 + 1) (loc' := [some (aR 11 0), some (aI a1), some (aI a2), some (aI (a3 + 1)), some (aI a4), some (aI a5), some (aI a6), none]) dX5_bestBargain_135 rfl rfl (Nat.le_of_ble_eq_true rfl) rfl rfl ?_
    refine AW_goto (tgt := 6) dX5_bestBargain_138 (by decide) ?_
    exact AW_mask [true, true, true, true, false, false, false, true] h1
  · have h2 := h.2 q3
    refine AW_iload dX5_bestBargain_61 rfl ?_
    refine AW_aload_n dX5_bestBargain_63 rfl ?_
    refine AW_getv (t := 11) (o := 0) (k := 0) (some (0, some 0)) (v := aR 0 0) dX5_bestBargain_64 ff_X5_12 rfl rfl rfl ?_
    refine AW_getv (t := 0) (o := 0) (k := 12) (some (5, none)) (v := aR 5 0) dX5_bestBargain_67 ff_X5_219 rfl rfl rfl ?_
    refine AW_iload_n dX5_bestBargain_70 rfl ?_
    obtain ⟨h4, h5⟩ := h2
    refine AW_iaload dX5_bestBargain_71 rfl rfl h4 ?_
    refine AW_icmp_ge (tgt := 135) dX5_bestBargain_72 (by decide) (fun q8 => ?_) (fun q8 => ?_)
    · have h6 := h5.1 q8
      refine AW_iinc (v := a3 + 1) (loc' := [some (aR 11 0), some (aI a1), some (aI a2), some (aI (a3 + 1)), some (aI a4), some (aI a5), some (aI a6), none]) dX5_bestBargain_135 rfl rfl (Nat.le_of_ble_eq_true rfl) rfl rfl ?_
      refine AW_goto (tgt := 6) dX5_bestBargain_138 (by decide) ?_
      exact AW_mask [true, true, true, true, false, false, false, true] h6
    · have h7 := h5.2 q8
      refine AW_aload_n dX5_bestBargain_75 rfl ?_
      refine AW_getv (t := 11) (o := 0) (k := 0) (some (0, some 0)) (v := aR 0 0) dX5_bestBargain_76 ff_X5_12 rfl rfl rfl ?_
      refine AW_iload_n dX5_bestBargain_79 rfl ?_
      refine AW_iload dX5_bestBargain_80 rfl ?_
      obtain ⟨r12, m9, h11, h10⟩ := h7
      refine AW_callVI [aI a3, aI a6] dX5_bestBargain_82 cv_X5_162 rfl rfl rfl (by decide) rfl (by decide) (Nat.le_of_ble_eq_true rfl) h11 ?_
      obtain ⟨r16, m13, h15, h14⟩ := h10
      refine AW_callSI [aI r12] dX5_bestBargain_85 cs_X5_395 rfl rfl (by decide) rfl (by decide) (Nat.le_of_ble_eq_true rfl) h15 ?_
      refine AW_iload dX5_bestBargain_88 rfl ?_
      refine AW_isub dX5_bestBargain_90 ?_
      refine AW_istore (loc' := [some (aR 11 0), some (aI a1), some (aI a2), some (aI a3), some (aI a4), some (aI a5), some (aI a6), some (aI (r16 - a4))]) dX5_bestBargain_91 (Nat.le_of_ble_eq_true rfl) rfl rfl ?_
      refine AW_aload_n dX5_bestBargain_93 rfl ?_
      refine AW_getv (t := 11) (o := 0) (k := 0) (some (0, some 0)) (v := aR 0 0) dX5_bestBargain_94 ff_X5_12 rfl rfl rfl ?_
      refine AW_iload_n dX5_bestBargain_97 rfl ?_
      refine AW_iload dX5_bestBargain_98 rfl ?_
      obtain ⟨r20, m17, h19, h18⟩ := h14
      refine AW_callVI [aI a3, aI a6] dX5_bestBargain_100 cv_X5_140 rfl rfl rfl (by decide) rfl (by decide) (Nat.le_of_ble_eq_true rfl) h19 ?_
      refine AW_iconst (v := 1) dX5_bestBargain_103 (by decide) ?_
      refine AW_icmp_ne (tgt := 129) dX5_bestBargain_104 (by decide) (fun q23 => ?_) (fun q23 => ?_)
      · have h21 := h18.1 q23
        refine AW_iinc (v := a6 + 1) (loc' := [some (aR 11 0), some (aI a1), some (aI a2), some (aI a3), some (aI a4), some (aI a5), some (aI (a6 + 1)), some (aI (r16 - a4))]) dX5_bestBargain_129 rfl rfl (Nat.le_of_ble_eq_true rfl) rfl rfl ?_
        refine AW_goto (tgt := 56) dX5_bestBargain_132 (by decide) ?_
        exact AW_mask [true, true, true, true, true, true, true, false] h21
      · have h22 := h18.2 q23
        refine AW_iload_n dX5_bestBargain_107 rfl ?_
        refine AW_iconst (v := (-1)) dX5_bestBargain_108 (by decide) ?_
        refine AW_icmp_eq (tgt := 118) dX5_bestBargain_109 (by decide) (fun q26 => ?_) (fun q26 => ?_)
        · have h24 := h22.1 q26
          refine AW_iload_n dX5_bestBargain_118 rfl ?_
          refine AW_bipush (v := 8) dX5_bestBargain_119 (by decide) ?_
          refine AW_imul dX5_bestBargain_121 ?_
          refine AW_iload dX5_bestBargain_122 rfl ?_
          refine AW_iadd dX5_bestBargain_124 ?_
          refine AW_istore_n (loc' := [some (aR 11 0), some (aI ((a3 * 8) + a6)), some (aI a2), some (aI a3), some (aI a4), some (aI a5), some (aI a6), some (aI (r16 - a4))]) dX5_bestBargain_125 (Nat.le_of_ble_eq_true rfl) rfl rfl ?_
          refine AW_iload dX5_bestBargain_126 rfl ?_
          refine AW_istore_n (loc' := [some (aR 11 0), some (aI ((a3 * 8) + a6)), some (aI (r16 - a4)), some (aI a3), some (aI a4), some (aI a5), some (aI a6), some (aI (r16 - a4))]) dX5_bestBargain_128 (Nat.le_of_ble_eq_true rfl) rfl rfl ?_
          refine AW_iinc (v := a6 + 1) (loc' := [some (aR 11 0), some (aI ((a3 * 8) + a6)), some (aI (r16 - a4)), some (aI a3), some (aI a4), some (aI a5), some (aI (a6 + 1)), some (aI (r16 - a4))]) dX5_bestBargain_129 rfl rfl (Nat.le_of_ble_eq_true rfl) rfl rfl ?_
          refine AW_goto (tgt := 56) dX5_bestBargain_132 (by decide) ?_
          exact AW_mask [true, true, true, true, true, true, true, false] h24
        · have h25 := h22.2 q26
          refine AW_iload dX5_bestBargain_112 rfl ?_
          refine AW_iload_n dX5_bestBargain_114 rfl ?_
          refine AW_icmp_le (tgt := 129) dX5_bestBargain_115 (by decide) (fun q29 => ?_) (fun q29 => ?_)
          · have h27 := h25.1 q29
            refine AW_iinc (v := a6 + 1) (loc' := [some (aR 11 0), some (aI a1), some (aI a2), some (aI a3), some (aI a4), some (aI a5), some (aI (a6 + 1)), some (aI (r16 - a4))]) dX5_bestBargain_129 rfl rfl (Nat.le_of_ble_eq_true rfl) rfl rfl ?_
            refine AW_goto (tgt := 56) dX5_bestBargain_132 (by decide) ?_
            exact AW_mask [true, true, true, true, true, true, true, false] h27
          · have h28 := h25.2 q29
            refine AW_iload_n dX5_bestBargain_118 rfl ?_
            refine AW_bipush (v := 8) dX5_bestBargain_119 (by decide) ?_
            refine AW_imul dX5_bestBargain_121 ?_
            refine AW_iload dX5_bestBargain_122 rfl ?_
            refine AW_iadd dX5_bestBargain_124 ?_
            refine AW_istore_n (loc' := [some (aR 11 0), some (aI ((a3 * 8) + a6)), some (aI a2), some (aI a3), some (aI a4), some (aI a5), some (aI a6), some (aI (r16 - a4))]) dX5_bestBargain_125 (Nat.le_of_ble_eq_true rfl) rfl rfl ?_
            refine AW_iload dX5_bestBargain_126 rfl ?_
            refine AW_istore_n (loc' := [some (aR 11 0), some (aI ((a3 * 8) + a6)), some (aI (r16 - a4)), some (aI a3), some (aI a4), some (aI a5), some (aI a6), some (aI (r16 - a4))]) dX5_bestBargain_128 (Nat.le_of_ble_eq_true rfl) rfl rfl ?_
            refine AW_iinc (v := a6 + 1) (loc' := [some (aR 11 0), some (aI ((a3 * 8) + a6)), some (aI (r16 - a4)), some (aI a3), some (aI a4), some (aI a5), some (aI (a6 + 1)), some (aI (r16 - a4))]) dX5_bestBargain_129 rfl rfl (Nat.le_of_ble_eq_true rfl) rfl rfl ?_
            refine AW_goto (tgt := 56) dX5_bestBargain_132 (by decide) ?_
            exact AW_mask [true, true, true, true, true, true, true, false] h28
set_option maxRecDepth 100000 in
theorem B_X5_writePlace_0 {a1 : Int32} {a2 : Int32} {μ : Mem} {P : RES → Mem → Prop}  (h : ∃ (r4 : Int32) (m1 : Mem), MetA M_X4_levelAt [aR 0 0, aI a1, aI a2] μ (rI r4 m1) ∧ (∃ (r8 : Int32) (m5 : Mem), MetA M_X4_placedAt [aR 0 0, aI a1, aI a2] m1 (rI r8 m5) ∧ (∃ (r12 : Int32) (m9 : Mem), MetA M_X5_letterOf [aI r8] m5 (rI r12 m9) ∧ ((¬ r4 = 0 → ∃ m16 : Mem, MetA M_X1_put [aR 17 0, aI ((((r12 - 97) + 65).toUInt32 % 65536).toInt32)] m9 (rV m16) ∧ ((¬ r4 = 2 → (¬ r4 = 3 → P (.inl none) m16) ∧ (r4 = 3 → ∃ m25 : Mem, MetA M_X1_put [aR 17 0, aI 33] m16 (rV m25) ∧ (P (.inl none) m25))) ∧ (r4 = 2 → ∃ m28 : Mem, MetA M_X1_put [aR 17 0, aI 39] m16 (rV m28) ∧ ((¬ r4 = 3 → P (.inl none) m28) ∧ (r4 = 3 → ∃ m34 : Mem, MetA M_X1_put [aR 17 0, aI 33] m28 (rV m34) ∧ (P (.inl none) m34)))))) ∧ (r4 = 0 → ∃ m37 : Mem, MetA M_X1_put [aR 17 0, aI r12] m9 (rV m37) ∧ ((¬ r4 = 2 → (¬ r4 = 3 → P (.inl none) m37) ∧ (r4 = 3 → ∃ m46 : Mem, MetA M_X1_put [aR 17 0, aI 33] m37 (rV m46) ∧ (P (.inl none) m46))) ∧ (r4 = 2 → ∃ m49 : Mem, MetA M_X1_put [aR 17 0, aI 39] m37 (rV m49) ∧ ((¬ r4 = 3 → P (.inl none) m49) ∧ (r4 = 3 → ∃ m55 : Mem, MetA M_X1_put [aR 17 0, aI 33] m49 (rV m55) ∧ (P (.inl none) m55)))))))))) : AW M_X5_writePlace 0 0 [some (aR 11 0), some (aI a1), some (aI a2), none, none] [] μ P := by
  refine AW_aload_n dX5_writePlace_0 rfl ?_
  refine AW_getv (t := 11) (o := 0) (k := 0) (some (0, some 0)) (v := aR 0 0) dX5_writePlace_1 ff_X5_12 rfl rfl rfl ?_
  refine AW_iload_n dX5_writePlace_4 rfl ?_
  refine AW_iload_n dX5_writePlace_5 rfl ?_
  obtain ⟨r4, m1, h3, h2⟩ := h
  refine AW_callVI [aI a1, aI a2] dX5_writePlace_6 cv_X5_140 rfl rfl rfl (by decide) rfl (by decide) (Nat.le_of_ble_eq_true rfl) h3 ?_
  refine AW_istore_n (loc' := [some (aR 11 0), some (aI a1), some (aI a2), some (aI r4), none]) dX5_writePlace_9 (Nat.le_of_ble_eq_true rfl) rfl rfl ?_
  refine AW_aload_n dX5_writePlace_10 rfl ?_
  refine AW_getv (t := 11) (o := 0) (k := 0) (some (0, some 0)) (v := aR 0 0) dX5_writePlace_11 ff_X5_12 rfl rfl rfl ?_
  refine AW_iload_n dX5_writePlace_14 rfl ?_
  refine AW_iload_n dX5_writePlace_15 rfl ?_
  obtain ⟨r8, m5, h7, h6⟩ := h2
  refine AW_callVI [aI a1, aI a2] dX5_writePlace_16 cv_X5_133 rfl rfl rfl (by decide) rfl (by decide) (Nat.le_of_ble_eq_true rfl) h7 ?_
  obtain ⟨r12, m9, h11, h10⟩ := h6
  refine AW_callSI [aI r8] dX5_writePlace_19 cs_X5_136 rfl rfl (by decide) rfl (by decide) (Nat.le_of_ble_eq_true rfl) h11 ?_
  refine AW_istore (loc' := [some (aR 11 0), some (aI a1), some (aI a2), some (aI r4), some (aI r12)]) dX5_writePlace_22 (Nat.le_of_ble_eq_true rfl) rfl rfl ?_
  refine AW_aload_n dX5_writePlace_24 rfl ?_
  refine AW_getv (t := 11) (o := 0) (k := 7) (some (17, none)) (v := aR 17 0) dX5_writePlace_25 ff_X5_49 rfl rfl rfl ?_
  refine AW_iload_n dX5_writePlace_28 rfl ?_
  refine AW_if_ne (tgt := 37) dX5_writePlace_29 (by decide) (fun q15 => ?_) (fun q15 => ?_)
  · have h13 := h10.1 q15
    refine AW_iload dX5_writePlace_37 rfl ?_
    refine AW_bipush (v := 97) dX5_writePlace_39 (by decide) ?_
    refine AW_isub dX5_writePlace_41 ?_
    refine AW_bipush (v := 65) dX5_writePlace_42 (by decide) ?_
    refine AW_iadd dX5_writePlace_44 ?_
    refine AW_i2c (v := (((r12 - 97) + 65).toUInt32 % 65536).toInt32) dX5_writePlace_45 rfl ?_
    obtain ⟨m16, h18, h17⟩ := h13
    refine AW_callVV [aI ((((r12 - 97) + 65).toUInt32 % 65536).toInt32)] dX5_writePlace_46 cv_X5_215 rfl rfl rfl (by decide) rfl (by decide) (Nat.le_of_ble_eq_true rfl) h18 ?_
    refine AW_iload_n dX5_writePlace_49 rfl ?_
    refine AW_iconst (v := 2) dX5_writePlace_50 (by decide) ?_
    refine AW_icmp_ne (tgt := 63) dX5_writePlace_51 (by decide) (fun q21 => ?_) (fun q21 => ?_)
    · have h19 := h17.1 q21
      refine AW_iload_n dX5_writePlace_63 rfl ?_
      refine AW_iconst (v := 3) dX5_writePlace_64 (by decide) ?_
      refine AW_icmp_ne (tgt := 77) dX5_writePlace_65 (by decide) (fun q24 => ?_) (fun q24 => ?_)
      · have h22 := h19.1 q24
        exact AW_return dX5_writePlace_77 rfl h22
      · have h23 := h19.2 q24
        refine AW_aload_n dX5_writePlace_68 rfl ?_
        refine AW_getv (t := 11) (o := 0) (k := 7) (some (17, none)) (v := aR 17 0) dX5_writePlace_69 ff_X5_49 rfl rfl rfl ?_
        refine AW_bipush (v := 33) dX5_writePlace_72 (by decide) ?_
        obtain ⟨m25, h27, h26⟩ := h23
        refine AW_callVV [aI 33] dX5_writePlace_74 cv_X5_215 rfl rfl rfl (by decide) rfl (by decide) (Nat.le_of_ble_eq_true rfl) h27 ?_
        exact AW_return dX5_writePlace_77 rfl h26
    · have h20 := h17.2 q21
      refine AW_aload_n dX5_writePlace_54 rfl ?_
      refine AW_getv (t := 11) (o := 0) (k := 7) (some (17, none)) (v := aR 17 0) dX5_writePlace_55 ff_X5_49 rfl rfl rfl ?_
      refine AW_bipush (v := 39) dX5_writePlace_58 (by decide) ?_
      obtain ⟨m28, h30, h29⟩ := h20
      refine AW_callVV [aI 39] dX5_writePlace_60 cv_X5_215 rfl rfl rfl (by decide) rfl (by decide) (Nat.le_of_ble_eq_true rfl) h30 ?_
      refine AW_iload_n dX5_writePlace_63 rfl ?_
      refine AW_iconst (v := 3) dX5_writePlace_64 (by decide) ?_
      refine AW_icmp_ne (tgt := 77) dX5_writePlace_65 (by decide) (fun q33 => ?_) (fun q33 => ?_)
      · have h31 := h29.1 q33
        exact AW_return dX5_writePlace_77 rfl h31
      · have h32 := h29.2 q33
        refine AW_aload_n dX5_writePlace_68 rfl ?_
        refine AW_getv (t := 11) (o := 0) (k := 7) (some (17, none)) (v := aR 17 0) dX5_writePlace_69 ff_X5_49 rfl rfl rfl ?_
        refine AW_bipush (v := 33) dX5_writePlace_72 (by decide) ?_
        obtain ⟨m34, h36, h35⟩ := h32
        refine AW_callVV [aI 33] dX5_writePlace_74 cv_X5_215 rfl rfl rfl (by decide) rfl (by decide) (Nat.le_of_ble_eq_true rfl) h36 ?_
        exact AW_return dX5_writePlace_77 rfl h35
  · have h14 := h10.2 q15
    refine AW_iload dX5_writePlace_32 rfl ?_
    refine AW_goto (tgt := 46) dX5_writePlace_34 (by decide) ?_
    obtain ⟨m37, h39, h38⟩ := h14
    refine AW_callVV [aI r12] dX5_writePlace_46 cv_X5_215 rfl rfl rfl (by decide) rfl (by decide) (Nat.le_of_ble_eq_true rfl) h39 ?_
    refine AW_iload_n dX5_writePlace_49 rfl ?_
    refine AW_iconst (v := 2) dX5_writePlace_50 (by decide) ?_
    refine AW_icmp_ne (tgt := 63) dX5_writePlace_51 (by decide) (fun q42 => ?_) (fun q42 => ?_)
    · have h40 := h38.1 q42
      refine AW_iload_n dX5_writePlace_63 rfl ?_
      refine AW_iconst (v := 3) dX5_writePlace_64 (by decide) ?_
      refine AW_icmp_ne (tgt := 77) dX5_writePlace_65 (by decide) (fun q45 => ?_) (fun q45 => ?_)
      · have h43 := h40.1 q45
        exact AW_return dX5_writePlace_77 rfl h43
      · have h44 := h40.2 q45
        refine AW_aload_n dX5_writePlace_68 rfl ?_
        refine AW_getv (t := 11) (o := 0) (k := 7) (some (17, none)) (v := aR 17 0) dX5_writePlace_69 ff_X5_49 rfl rfl rfl ?_
        refine AW_bipush (v := 33) dX5_writePlace_72 (by decide) ?_
        obtain ⟨m46, h48, h47⟩ := h44
        refine AW_callVV [aI 33] dX5_writePlace_74 cv_X5_215 rfl rfl rfl (by decide) rfl (by decide) (Nat.le_of_ble_eq_true rfl) h48 ?_
        exact AW_return dX5_writePlace_77 rfl h47
    · have h41 := h38.2 q42
      refine AW_aload_n dX5_writePlace_54 rfl ?_
      refine AW_getv (t := 11) (o := 0) (k := 7) (some (17, none)) (v := aR 17 0) dX5_writePlace_55 ff_X5_49 rfl rfl rfl ?_
      refine AW_bipush (v := 39) dX5_writePlace_58 (by decide) ?_
      obtain ⟨m49, h51, h50⟩ := h41
      refine AW_callVV [aI 39] dX5_writePlace_60 cv_X5_215 rfl rfl rfl (by decide) rfl (by decide) (Nat.le_of_ble_eq_true rfl) h51 ?_
      refine AW_iload_n dX5_writePlace_63 rfl ?_
      refine AW_iconst (v := 3) dX5_writePlace_64 (by decide) ?_
      refine AW_icmp_ne (tgt := 77) dX5_writePlace_65 (by decide) (fun q54 => ?_) (fun q54 => ?_)
      · have h52 := h50.1 q54
        exact AW_return dX5_writePlace_77 rfl h52
      · have h53 := h50.2 q54
        refine AW_aload_n dX5_writePlace_68 rfl ?_
        refine AW_getv (t := 11) (o := 0) (k := 7) (some (17, none)) (v := aR 17 0) dX5_writePlace_69 ff_X5_49 rfl rfl rfl ?_
        refine AW_bipush (v := 33) dX5_writePlace_72 (by decide) ?_
        obtain ⟨m55, h57, h56⟩ := h53
        refine AW_callVV [aI 33] dX5_writePlace_74 cv_X5_215 rfl rfl rfl (by decide) rfl (by decide) (Nat.le_of_ble_eq_true rfl) h57 ?_
        exact AW_return dX5_writePlace_77 rfl h56
set_option maxRecDepth 100000 in
theorem B_X5_lettersIn_0 {a0 : Int32} {μ : Mem} {P : RES → Mem → Prop}  (h : AW M_X5_lettersIn 0 4 [some (aI a0), some (aI a0), some (aI 0)] [] μ P) : AW M_X5_lettersIn 0 0 [some (aI a0), none, none] [] μ P := by
  refine AW_iload_n dX5_lettersIn_0 rfl ?_
  refine AW_istore_n (loc' := [some (aI a0), some (aI a0), none]) dX5_lettersIn_1 (Nat.le_of_ble_eq_true rfl) rfl rfl ?_
  refine AW_iconst (v := 0) dX5_lettersIn_2 (by decide) ?_
  refine AW_istore_n (loc' := [some (aI a0), some (aI a0), some (aI 0)]) dX5_lettersIn_3 (Nat.le_of_ble_eq_true rfl) rfl rfl ?_
  exact h
set_option maxRecDepth 100000 in
theorem B_X5_lettersIn_4 {a0 : Int32} {a1 : Int32} {a2 : Int32} {μ : Mem} {P : RES → Mem → Prop}  (h : (8 ≤ a2 → (¬ a1 = 0 → P (.inl (some (aI 0))) μ) ∧ (a1 = 0 → (a2 < 3 → P (.inl (some (aI 0))) μ) ∧ (¬ a2 < 3 → P (.inl (some (aI a2))) μ))) ∧ (¬ 8 ≤ a2 → ((a1 - a1 / 10 * 10) < 1 → (¬ a1 = 0 → P (.inl (some (aI 0))) μ) ∧ (a1 = 0 → (a2 < 3 → P (.inl (some (aI 0))) μ) ∧ (¬ a2 < 3 → P (.inl (some (aI a2))) μ))) ∧ (¬ (a1 - a1 / 10 * 10) < 1 → (6 < (a1 - a1 / 10 * 10) → (¬ a1 = 0 → P (.inl (some (aI 0))) μ) ∧ (a1 = 0 → (a2 < 3 → P (.inl (some (aI 0))) μ) ∧ (¬ a2 < 3 → P (.inl (some (aI a2))) μ))) ∧ (¬ 6 < (a1 - a1 / 10 * 10) → AW M_X5_lettersIn 0 4 [some (aI a0), some (aI (a1 / 10)), some (aI (a2 + 1))] [] μ P)))) : AW M_X5_lettersIn 0 4 [some (aI a0), some (aI a1), some (aI a2)] [] μ P := by
  refine AW_iload_n dX5_lettersIn_4 rfl ?_
  refine AW_bipush (v := 8) dX5_lettersIn_5 (by decide) ?_
  refine AW_icmp_ge (tgt := 38) dX5_lettersIn_7 (by decide) (fun q3 => ?_) (fun q3 => ?_)
  · have h1 := h.1 q3
    refine AW_iload_n dX5_lettersIn_38 rfl ?_
    refine AW_if_ne (tgt := 51) dX5_lettersIn_39 (by decide) (fun q6 => ?_) (fun q6 => ?_)
    · have h4 := h1.1 q6
      refine AW_iconst (v := 0) dX5_lettersIn_51 (by decide) ?_
      exact AW_ireturn (ty := .int) dX5_lettersIn_52 rfl rfl h4
    · have h5 := h1.2 q6
      refine AW_iload_n dX5_lettersIn_42 rfl ?_
      refine AW_iconst (v := 3) dX5_lettersIn_43 (by decide) ?_
      refine AW_icmp_lt (tgt := 51) dX5_lettersIn_44 (by decide) (fun q9 => ?_) (fun q9 => ?_)
      · have h7 := h5.1 q9
        refine AW_iconst (v := 0) dX5_lettersIn_51 (by decide) ?_
        exact AW_ireturn (ty := .int) dX5_lettersIn_52 rfl rfl h7
      · have h8 := h5.2 q9
        refine AW_iload_n dX5_lettersIn_47 rfl ?_
        refine AW_goto (tgt := 52) dX5_lettersIn_48 (by decide) ?_
        exact AW_ireturn (ty := .int) dX5_lettersIn_52 rfl rfl h8
  · have h2 := h.2 q3
    refine AW_iload_n dX5_lettersIn_10 rfl ?_
    refine AW_bipush (v := 10) dX5_lettersIn_11 (by decide) ?_
    refine AW_irem dX5_lettersIn_13 (by decide) ?_
    refine AW_iconst (v := 1) dX5_lettersIn_14 (by decide) ?_
    refine AW_icmp_lt (tgt := 38) dX5_lettersIn_15 (by decide) (fun q12 => ?_) (fun q12 => ?_)
    · have h10 := h2.1 q12
      refine AW_iload_n dX5_lettersIn_38 rfl ?_
      refine AW_if_ne (tgt := 51) dX5_lettersIn_39 (by decide) (fun q15 => ?_) (fun q15 => ?_)
      · have h13 := h10.1 q15
        refine AW_iconst (v := 0) dX5_lettersIn_51 (by decide) ?_
        exact AW_ireturn (ty := .int) dX5_lettersIn_52 rfl rfl h13
      · have h14 := h10.2 q15
        refine AW_iload_n dX5_lettersIn_42 rfl ?_
        refine AW_iconst (v := 3) dX5_lettersIn_43 (by decide) ?_
        refine AW_icmp_lt (tgt := 51) dX5_lettersIn_44 (by decide) (fun q18 => ?_) (fun q18 => ?_)
        · have h16 := h14.1 q18
          refine AW_iconst (v := 0) dX5_lettersIn_51 (by decide) ?_
          exact AW_ireturn (ty := .int) dX5_lettersIn_52 rfl rfl h16
        · have h17 := h14.2 q18
          refine AW_iload_n dX5_lettersIn_47 rfl ?_
          refine AW_goto (tgt := 52) dX5_lettersIn_48 (by decide) ?_
          exact AW_ireturn (ty := .int) dX5_lettersIn_52 rfl rfl h17
    · have h11 := h2.2 q12
      refine AW_iload_n dX5_lettersIn_18 rfl ?_
      refine AW_bipush (v := 10) dX5_lettersIn_19 (by decide) ?_
      refine AW_irem dX5_lettersIn_21 (by decide) ?_
      refine AW_bipush (v := 6) dX5_lettersIn_22 (by decide) ?_
      refine AW_icmp_gt (tgt := 38) dX5_lettersIn_24 (by decide) (fun q21 => ?_) (fun q21 => ?_)
      · have h19 := h11.1 q21
        refine AW_iload_n dX5_lettersIn_38 rfl ?_
        refine AW_if_ne (tgt := 51) dX5_lettersIn_39 (by decide) (fun q24 => ?_) (fun q24 => ?_)
        · have h22 := h19.1 q24
          refine AW_iconst (v := 0) dX5_lettersIn_51 (by decide) ?_
          exact AW_ireturn (ty := .int) dX5_lettersIn_52 rfl rfl h22
        · have h23 := h19.2 q24
          refine AW_iload_n dX5_lettersIn_42 rfl ?_
          refine AW_iconst (v := 3) dX5_lettersIn_43 (by decide) ?_
          refine AW_icmp_lt (tgt := 51) dX5_lettersIn_44 (by decide) (fun q27 => ?_) (fun q27 => ?_)
          · have h25 := h23.1 q27
            refine AW_iconst (v := 0) dX5_lettersIn_51 (by decide) ?_
            exact AW_ireturn (ty := .int) dX5_lettersIn_52 rfl rfl h25
          · have h26 := h23.2 q27
            refine AW_iload_n dX5_lettersIn_47 rfl ?_
            refine AW_goto (tgt := 52) dX5_lettersIn_48 (by decide) ?_
            exact AW_ireturn (ty := .int) dX5_lettersIn_52 rfl rfl h26
      · have h20 := h11.2 q21
        refine AW_iload_n dX5_lettersIn_27 rfl ?_
        refine AW_bipush (v := 10) dX5_lettersIn_28 (by decide) ?_
        refine AW_idiv dX5_lettersIn_30 (by decide) ?_
        refine AW_istore_n (loc' := [some (aI a0), some (aI (a1 / 10)), some (aI a2)]) dX5_lettersIn_31 (Nat.le_of_ble_eq_true rfl) rfl rfl ?_
        refine AW_iinc (v := a2 + 1) (loc' := [some (aI a0), some (aI (a1 / 10)), some (aI (a2 + 1))]) dX5_lettersIn_32 rfl rfl (Nat.le_of_ble_eq_true rfl) rfl rfl ?_
        refine AW_goto (tgt := 4) dX5_lettersIn_35 (by decide) ?_
        exact h20
set_option maxRecDepth 100000 in
theorem B_X5_letterOf_0 {a0 : Int32} {μ : Mem} {P : RES → Mem → Prop}  (h : narrow .char (.int ((((97 + a0) - 1).toUInt32 % 65536).toInt32)) = .int ((((97 + a0) - 1).toUInt32 % 65536).toInt32) ∧ P (.inl (some (aI ((((97 + a0) - 1).toUInt32 % 65536).toInt32)))) μ) : AW M_X5_letterOf 0 0 [some (aI a0)] [] μ P := by
  refine AW_bipush (v := 97) dX5_letterOf_0 (by decide) ?_
  refine AW_iload_n dX5_letterOf_2 rfl ?_
  refine AW_iadd dX5_letterOf_3 ?_
  refine AW_iconst (v := 1) dX5_letterOf_4 (by decide) ?_
  refine AW_isub dX5_letterOf_5 ?_
  refine AW_i2c (v := (((97 + a0) - 1).toUInt32 % 65536).toInt32) dX5_letterOf_6 rfl ?_
  obtain ⟨h1, h2⟩ := h
  exact AW_ireturn (ty := .char) dX5_letterOf_7 rfl h1 h2
set_option maxRecDepth 100000 in
theorem B_X5_atMostKept_0 {a0 : Int32} {μ : Mem} {P : RES → Mem → Prop}  (h : ∀ r1 : Int32, r1 = (if a0 < 99 then a0 else 99) → P (.inl (some (aI r1))) μ) : AW M_X5_atMostKept 0 0 [some (aI a0)] [] μ P := by
  refine AW_bipush (v := 99) dX5_atMostKept_0 (by decide) ?_
  refine AW_iload_n dX5_atMostKept_2 rfl ?_
  obtain ⟨r1, er1⟩ : ∃ z : Int32, z = (if a0 < 99 then a0 else 99) := ⟨_, rfl⟩
  have h2 := h r1 er1
  refine AW_mmin dX5_atMostKept_3 w_250 (by decide) (Nat.le_of_ble_eq_true rfl) er1.symm ?_
  exact AW_ireturn (ty := .int) dX5_atMostKept_6 rfl rfl h2
