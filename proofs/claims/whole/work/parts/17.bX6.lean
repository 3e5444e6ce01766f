set_option maxRecDepth 100000 in
theorem B_X6_thrown_0  {μ : Mem} {P : RES → Mem → Prop}  (h : P (.inl (some (aI (μ 19 0 8)))) μ) : AW M_X6_thrown 0 0 [some (aR 19 0)] [] μ P := by
  refine AW_aload_n dX6_thrown_0 rfl ?_
  refine AW_getv (t := 19) (o := 0) (k := 8) none (v := aI (μ 19 0 8)) dX6_thrown_1 ff_X6_36 rfl rfl rfl ?_
  exact AW_ireturn (ty := .int) dX6_thrown_4 rfl rfl h
set_option maxRecDepth 100000 in
theorem B_X6_fails_0 {a1 : Int32} {μ : Mem} {P : RES → Mem → Prop}  (h : ∀ m1 : Mem, m1 = mset μ 19 0 (upd (μ 19 0) 8 a1) → ∀ m4 : Mem, m4 = mset m1 19 0 (upd (m1 19 0) 7 0) → (a1 ≤ 0 → P (.inl (some (aI 0))) m4) ∧ (¬ a1 ≤ 0 → P (.inl (some (aI 1))) m4)) : AW M_X6_fails 0 0 [some (aR 19 0), some (aI a1)] [] μ P := by
  refine AW_aload_n dX6_fails_0 rfl ?_
  refine AW_iload_n dX6_fails_1 rfl ?_
  obtain ⟨m1, em1⟩ : ∃ z : Mem, z = mset μ 19 0 (upd (μ 19 0) 8 a1) := ⟨_, rfl⟩
  have h2 := h m1 em1
  refine AW_putf (t := 19) (o := 0) (k := 8) dX6_fails_2 fp_X6_36 rfl rfl rfl rfl em1.symm ?_
  refine AW_aload_n dX6_fails_5 rfl ?_
  refine AW_iconst (v := 0) dX6_fails_6 (by decide) ?_
  obtain ⟨m4, em4⟩ : ∃ z : Mem, z = mset m1 19 0 (upd (m1 19 0) 7 0) := ⟨_, rfl⟩
  have h5 := h2 m4 em4
  refine AW_putf (t := 19) (o := 0) (k := 7) dX6_fails_7 fp_X6_39 rfl rfl rfl rfl em4.symm ?_
  refine AW_iload_n dX6_fails_10 rfl ?_
  refine AW_if_le (tgt := 18) dX6_fails_11 (by decide) (fun q9 => ?_) (fun q9 => ?_)
  · have h7 := h5.1 q9
    refine AW_iconst (v := 0) dX6_fails_18 (by decide) ?_
    exact AW_ireturn (ty := .boolean) dX6_fails_19 rfl rfl h7
  · have h8 := h5.2 q9
    refine AW_iconst (v := 1) dX6_fails_14 (by decide) ?_
    refine AW_goto (tgt := 19) dX6_fails_15 (by decide) ?_
    exact AW_ireturn (ty := .boolean) dX6_fails_19 rfl rfl h8
set_option maxRecDepth 100000 in
theorem B_X6_refuses_0 {a1 : Int32} {a2 : Int32} {a3 : Int32} {μ : Mem} {P : RES → Mem → Prop}  (h : ∀ m1 : Mem, m1 = mset μ 19 0 (upd (μ 19 0) 8 a1) → ∀ m4 : Mem, m4 = mset m1 19 0 (upd (m1 19 0) 7 1) → ∀ m7 : Mem, m7 = mset m4 19 0 (upd (m4 19 0) 9 a2) → ∀ m10 : Mem, m10 = mset m7 19 0 (upd (m7 19 0) 10 a3) → ∀ m13 : Mem, m13 = mset m10 19 0 (upd (m10 19 0) 11 0) → ∀ m16 : Mem, m16 = mset m13 19 0 (upd (m13 19 0) 12 0) → P (.inl (some (aI 0))) m16) : AW M_X6_refuses 0 0 [some (aR 19 0), some (aI a1), some (aI a2), some (aI a3)] [] μ P := by
  refine AW_aload_n dX6_refuses_0 rfl ?_
  refine AW_iload_n dX6_refuses_1 rfl ?_
  obtain ⟨m1, em1⟩ : ∃ z : Mem, z = mset μ 19 0 (upd (μ 19 0) 8 a1) := ⟨_, rfl⟩
  have h2 := h m1 em1
  refine AW_putf (t := 19) (o := 0) (k := 8) dX6_refuses_2 fp_X6_36 rfl rfl rfl rfl em1.symm ?_
  refine AW_aload_n dX6_refuses_5 rfl ?_
  refine AW_iconst (v := 1) dX6_refuses_6 (by decide) ?_
  obtain ⟨m4, em4⟩ : ∃ z : Mem, z = mset m1 19 0 (upd (m1 19 0) 7 1) := ⟨_, rfl⟩
  have h5 := h2 m4 em4
  refine AW_putf (t := 19) (o := 0) (k := 7) dX6_refuses_7 fp_X6_39 rfl rfl rfl rfl em4.symm ?_
  refine AW_aload_n dX6_refuses_10 rfl ?_
  refine AW_iload_n dX6_refuses_11 rfl ?_
  obtain ⟨m7, em7⟩ : ∃ z : Mem, z = mset m4 19 0 (upd (m4 19 0) 9 a2) := ⟨_, rfl⟩
  have h8 := h5 m7 em7
  refine AW_putf (t := 19) (o := 0) (k := 9) dX6_refuses_12 fp_X6_43 rfl rfl rfl rfl em7.symm ?_
  refine AW_aload_n dX6_refuses_15 rfl ?_
  refine AW_iload_n dX6_refuses_16 rfl ?_
  obtain ⟨m10, em10⟩ : ∃ z : Mem, z = mset m7 19 0 (upd (m7 19 0) 10 a3) := ⟨_, rfl⟩
  have h11 := h8 m10 em10
  refine AW_putf (t := 19) (o := 0) (k := 10) dX6_refuses_17 fp_X6_46 rfl rfl rfl rfl em10.symm ?_
  refine AW_aload_n dX6_refuses_20 rfl ?_
  refine AW_iconst (v := 0) dX6_refuses_21 (by decide) ?_
  obtain ⟨m13, em13⟩ : ∃ z : Mem, z = mset m10 19 0 (upd (m10 19 0) 11 0) := ⟨_, rfl⟩
  have h14 := h11 m13 em13
  refine AW_putf (t := 19) (o := 0) (k := 11) dX6_refuses_22 fp_X6_49 rfl rfl rfl rfl em13.symm ?_
  refine AW_aload_n dX6_refuses_25 rfl ?_
  refine AW_iconst (v := 0) dX6_refuses_26 (by decide) ?_
  obtain ⟨m16, em16⟩ : ∃ z : Mem, z = mset m13 19 0 (upd (m13 19 0) 12 0) := ⟨_, rfl⟩
  have h17 := h14 m16 em16
  refine AW_putf (t := 19) (o := 0) (k := 12) dX6_refuses_27 fp_X6_52 rfl rfl rfl rfl em16.symm ?_
  refine AW_iconst (v := 0) dX6_refuses_30 (by decide) ?_
  exact AW_ireturn (ty := .int) dX6_refuses_31 rfl rfl h17
set_option maxRecDepth 100000 in
theorem B_X6_in_0 {a0 : Int32} {a1 : Int32} {a2 : Int32} {μ : Mem} {P : RES → Mem → Prop}  (h : (a0 < a1 → P (.inl (some (aI 0))) μ) ∧ (¬ a0 < a1 → (a2 < a0 → P (.inl (some (aI 0))) μ) ∧ (¬ a2 < a0 → P (.inl (some (aI 1))) μ))) : AW M_X6_in 0 0 [some (aI a0), some (aI a1), some (aI a2)] [] μ P := by
  refine AW_iload_n dX6_in_0 rfl ?_
  refine AW_iload_n dX6_in_1 rfl ?_
  refine AW_icmp_lt (tgt := 14) dX6_in_2 (by decide) (fun q3 => ?_) (fun q3 => ?_)
  · have h1 := h.1 q3
    refine AW_iconst (v := 0) dX6_in_14 (by decide) ?_
    exact AW_ireturn (ty := .boolean) dX6_in_15 rfl rfl h1
  · have h2 := h.2 q3
    refine AW_iload_n dX6_in_5 rfl ?_
    refine AW_iload_n dX6_in_6 rfl ?_
    refine AW_icmp_gt (tgt := 14) dX6_in_7 (by decide) (fun q6 => ?_) (fun q6 => ?_)
    · have h4 := h2.1 q6
      refine AW_iconst (v := 0) dX6_in_14 (by decide) ?_
      exact AW_ireturn (ty := .boolean) dX6_in_15 rfl rfl h4
    · have h5 := h2.2 q6
      refine AW_iconst (v := 1) dX6_in_10 (by decide) ?_
      refine AW_goto (tgt := 15) dX6_in_11 (by decide) ?_
      exact AW_ireturn (ty := .boolean) dX6_in_15 rfl rfl h5
set_option maxRecDepth 100000 in
theorem B_X6_atMost_0 {a0 : Int32} {a1 : Int32} {μ : Mem} {P : RES → Mem → Prop}  (h : (a1 ≤ a0 → P (.inl (some (aI a1))) μ) ∧ (¬ a1 ≤ a0 → P (.inl (some (aI a0))) μ)) : AW M_X6_atMost 0 0 [some (aI a0), some (aI a1)] [] μ P := by
  refine AW_iload_n dX6_atMost_0 rfl ?_
  refine AW_iload_n dX6_atMost_1 rfl ?_
  refine AW_icmp_ge (tgt := 9) dX6_atMost_2 (by decide) (fun q3 => ?_) (fun q3 => ?_)
  · have h1 := h.1 q3
    refine AW_iload_n dX6_atMost_9 rfl ?_
    exact AW_ireturn (ty := .int) dX6_atMost_10 rfl rfl h1
  · have h2 := h.2 q3
    refine AW_iload_n dX6_atMost_5 rfl ?_
    refine AW_goto (tgt := 10) dX6_atMost_6 (by decide) ?_
    exact AW_ireturn (ty := .int) dX6_atMost_10 rfl rfl h2
set_option maxRecDepth 100000 in
theorem B_X6_apart_0 {a0 : Int32} {a1 : Int32} {μ : Mem} {P : RES → Mem → Prop}  (h : (a1 ≤ a0 → P (.inl (some (aI (a0 - a1)))) μ) ∧ (¬ a1 ≤ a0 → P (.inl (some (aI (a1 - a0)))) μ)) : AW M_X6_apart 0 0 [some (aI a0), some (aI a1)] [] μ P := by
  refine AW_iload_n dX6_apart_0 rfl ?_
  refine AW_iload_n dX6_apart_1 rfl ?_
  refine AW_icmp_ge (tgt := 11) dX6_apart_2 (by decide) (fun q3 => ?_) (fun q3 => ?_)
  · have h1 := h.1 q3
    refine AW_iload_n dX6_apart_11 rfl ?_
    refine AW_iload_n dX6_apart_12 rfl ?_
    refine AW_isub dX6_apart_13 ?_
    exact AW_ireturn (ty := .int) dX6_apart_14 rfl rfl h1
  · have h2 := h.2 q3
    refine AW_iload_n dX6_apart_5 rfl ?_
    refine AW_iload_n dX6_apart_6 rfl ?_
    refine AW_isub dX6_apart_7 ?_
    refine AW_goto (tgt := 14) dX6_apart_8 (by decide) ?_
    exact AW_ireturn (ty := .int) dX6_apart_14 rfl rfl h2
set_option maxRecDepth 100000 in
theorem B_X6_copies_0 {t0 o0 : Nat} {a1 : Int32} {t2 o2 : Nat} {a3 : Int32} {μ : Mem} {P : RES → Mem → Prop} (hk0 : kd t0 = 1) (hc0 : hasC t0 o0 = true) (hk2 : kd t2 = 1) (hc2 : hasC t2 o2 = true) (h : AW M_X6_copies 0 3 [some (aR t0 o0), some (aI a1), some (aR t2 o2), some (aI a3), some (aI 0)] [] μ P) : AW M_X6_copies 0 0 [some (aR t0 o0), some (aI a1), some (aR t2 o2), some (aI a3), none] [] μ P := by
  refine AW_iconst (v := 0) dX6_copies_0 (by decide) ?_
  refine AW_istore (loc' := [some (aR t0 o0), some (aI a1), some (aR t2 o2), some (aI a3), some (aI 0)]) dX6_copies_1 (Nat.le_of_ble_eq_true rfl) rfl rfl ?_
  exact h
set_option maxRecDepth 100000 in
theorem B_X6_copies_3 {t0 o0 : Nat} {t2 o2 : Nat} {a1 : Int32} {a3 : Int32} {a4 : Int32} {μ : Mem} {P : RES → Mem → Prop} (hk0 : kd t0 = 1) (hc0 : hasC t0 o0 = true) (hk2 : kd t2 = 1) (hc2 : hasC t2 o2 = true) (h : (240 ≤ a4 → P (.inl none) μ) ∧ (¬ 240 ≤ a4 → vp_in (a1 + a4) (ln t0) ∧ (vp_in (a3 + a4) (ln t2) ∧ (∀ m6 : Mem, m6 = mset μ t2 o2 (upd (μ t2 o2) (a3 + a4).toNatClampNeg (μ t0 o0 (a1 + a4).toNatClampNeg)) → AW M_X6_copies 0 3 [some (aR t0 o0), some (aI a1), some (aR t2 o2), some (aI a3), some (aI (a4 + 1))] [] m6 P)))) : AW M_X6_copies 0 3 [some (aR t0 o0), some (aI a1), some (aR t2 o2), some (aI a3), some (aI a4)] [] μ P := by
  refine AW_iload dX6_copies_3 rfl ?_
  refine AW_sipush (v := 240) dX6_copies_5 (by decide) ?_
  refine AW_icmp_ge (tgt := 29) dX6_copies_8 (by decide) (fun q3 => ?_) (fun q3 => ?_)
  · have h1 := h.1 q3
    exact AW_return dX6_copies_29 rfl h1
  · have h2 := h.2 q3
    refine AW_aload_n dX6_copies_11 rfl ?_
    refine AW_iload_n dX6_copies_12 rfl ?_
    refine AW_iload dX6_copies_13 rfl ?_
    refine AW_iadd dX6_copies_15 ?_
    refine AW_aload_n dX6_copies_16 rfl ?_
    refine AW_iload_n dX6_copies_17 rfl ?_
    refine AW_iload dX6_copies_18 rfl ?_
    refine AW_iadd dX6_copies_20 ?_
    obtain ⟨h4, h5⟩ := h2
    refine AW_iaload dX6_copies_21 hk0 hc0 h4 ?_
    obtain ⟨h7, h9⟩ := h5
    obtain ⟨m6, em6⟩ : ∃ z : Mem, z = mset μ t2 o2 (upd (μ t2 o2) (a3 + a4).toNatClampNeg (μ t0 o0 (a1 + a4).toNatClampNeg)) := ⟨_, rfl⟩
    have h8 := h9 m6 em6
    refine AW_iastore dX6_copies_22 hk2 hc2 h7 em6.symm ?_
    refine AW_iinc (v := a4 + 1) (loc' := [some (aR t0 o0), some (aI a1), some (aR t2 o2), some (aI a3), some (aI (a4 + 1))]) dX6_copies_23 rfl rfl (Nat.le_of_ble_eq_true rfl) rfl rfl ?_
    refine AW_goto (tgt := 3) dX6_copies_26 (by decide) ?_
    exact h8
set_option maxRecDepth 100000 in
theorem B_X6_keeps_0 {t1 o1 : Nat} {μ : Mem} {P : RES → Mem → Prop} (hk1 : kd t1 = 1) (hc1 : hasC t1 o1 = true) (h : ∀ m1 : Mem, m1 = mset μ 19 0 (upd (μ 19 0) 8 0) → ((m1 19 0 6) = 0 → (¬ (m1 19 0 5) = 8 → ∃ m10 : Mem, MetA M_X6_copies [aR t1 o1, aI 0, aR 21 0, aI (240 * (m1 19 0 5))] m1 (rV m10) ∧ (∀ m13 : Mem, m13 = mset m10 19 0 (upd (m10 19 0) 5 ((m10 19 0 5) + 1)) → P (.inl none) m13)) ∧ ((m1 19 0 5) = 8 → AW M_X6_keeps 0 24 [some (aR 19 0), some (aR t1 o1), some (aI 0)] [] m1 P)) ∧ (¬ (m1 19 0 6) = 0 → P (.inl none) m1)) : AW M_X6_keeps 0 0 [some (aR 19 0), some (aR t1 o1), none] [] μ P := by
  refine AW_aload_n dX6_keeps_0 rfl ?_
  refine AW_iconst (v := 0) dX6_keeps_1 (by decide) ?_
  obtain ⟨m1, em1⟩ : ∃ z : Mem, z = mset μ 19 0 (upd (μ 19 0) 8 0) := ⟨_, rfl⟩
  have h2 := h m1 em1
  refine AW_putf (t := 19) (o := 0) (k := 8) dX6_keeps_2 fp_X6_36 rfl rfl rfl rfl em1.symm ?_
  refine AW_aload_n dX6_keeps_5 rfl ?_
  refine AW_getv (t := 19) (o := 0) (k := 6) none (v := aI (m1 19 0 6)) dX6_keeps_6 ff_X6_55 rfl rfl rfl ?_
  refine AW_if_eq (tgt := 13) dX6_keeps_9 (by decide) (fun q6 => ?_) (fun q6 => ?_)
  · have h4 := h2.1 q6
    refine AW_aload_n dX6_keeps_13 rfl ?_
    refine AW_getv (t := 19) (o := 0) (k := 5) none (v := aI (m1 19 0 5)) dX6_keeps_14 ff_X6_58 rfl rfl rfl ?_
    refine AW_bipush (v := 8) dX6_keeps_17 (by decide) ?_
    refine AW_icmp_ne (tgt := 63) dX6_keeps_19 (by decide) (fun q9 => ?_) (fun q9 => ?_)
    · have h7 := h4.1 q9
      refine AW_aload_n dX6_keeps_63 rfl ?_
      refine AW_iconst (v := 0) dX6_keeps_64 (by decide) ?_
      refine AW_aload_n dX6_keeps_65 rfl ?_
      refine AW_getv (t := 19) (o := 0) (k := 1) (some (21, none)) (v := aR 21 0) dX6_keeps_66 ff_X6_13 rfl rfl rfl ?_
      refine AW_sipush (v := 240) dX6_keeps_69 (by decide) ?_
      refine AW_aload_n dX6_keeps_72 rfl ?_
      refine AW_getv (t := 19) (o := 0) (k := 5) none (v := aI (m1 19 0 5)) dX6_keeps_73 ff_X6_58 rfl rfl rfl ?_
      refine AW_imul dX6_keeps_76 ?_
      obtain ⟨m10, h12, h11⟩ := h7
      refine AW_callSV [aR t1 o1, aI 0, aR 21 0, aI (240 * (m1 19 0 5))] dX6_keeps_77 cs_X6_61 rfl rfl (by decide) rfl (by decide) (Nat.le_of_ble_eq_true rfl) h12 ?_
      refine AW_aload_n dX6_keeps_80 rfl ?_
      refine AW_dup dX6_keeps_81 rfl ?_
      refine AW_getv (t := 19) (o := 0) (k := 5) none (v := aI (m10 19 0 5)) dX6_keeps_82 ff_X6_58 rfl rfl rfl ?_
      refine AW_iconst (v := 1) dX6_keeps_85 (by decide) ?_
      refine AW_iadd dX6_keeps_86 ?_
      obtain ⟨m13, em13⟩ : ∃ z : Mem, z = mset m10 19 0 (upd (m10 19 0) 5 ((m10 19 0 5) + 1)) := ⟨_, rfl⟩
      have h14 := h11 m13 em13
      refine AW_putf (t := 19) (o := 0) (k := 5) dX6_keeps_87 fp_X6_58 rfl rfl rfl rfl em13.symm ?_
      exact AW_return dX6_keeps_90 rfl h14
    · have h8 := h4.2 q9
      refine AW_iconst (v := 0) dX6_keeps_22 (by decide) ?_
      refine AW_istore_n (loc' := [some (aR 19 0), some (aR t1 o1), some (aI 0)]) dX6_keeps_23 (Nat.le_of_ble_eq_true rfl) rfl rfl ?_
      exact h8
  · have h5 := h2.2 q6
    exact AW_return dX6_keeps_12 rfl h5
set_option maxRecDepth 100000 in
theorem B_X6_keeps_24 {t1 o1 : Nat} {a2 : Int32} {μ : Mem} {P : RES → Mem → Prop} (hk1 : kd t1 = 1) (hc1 : hasC t1 o1 = true) (h : (1680 ≤ a2 → ∀ m4 : Mem, m4 = mset μ 19 0 (upd (μ 19 0) 5 ((μ 19 0 5) - 1)) → ∃ m7 : Mem, MetA M_X6_copies [aR t1 o1, aI 0, aR 21 0, aI (240 * (m4 19 0 5))] m4 (rV m7) ∧ (∀ m10 : Mem, m10 = mset m7 19 0 (upd (m7 19 0) 5 ((m7 19 0 5) + 1)) → P (.inl none) m10)) ∧ (¬ 1680 ≤ a2 → vp_in (a2 + 240) 1920 ∧ (vp_in a2 1920 ∧ (∀ m15 : Mem, m15 = mset μ 21 0 (upd (μ 21 0) a2.toNatClampNeg (μ 21 0 (a2 + 240).toNatClampNeg)) → AW M_X6_keeps 0 24 [some (aR 19 0), some (aR t1 o1), some (aI (a2 + 1))] [] m15 P)))) : AW M_X6_keeps 0 24 [some (aR 19 0), some (aR t1 o1), some (aI a2)] [] μ P := by
  refine AW_iload_n dX6_keeps_24 rfl ?_
  refine AW_sipush (v := 1680) dX6_keeps_25 (by decide) ?_
  refine AW_icmp_ge (tgt := 53) dX6_keeps_28 (by decide) (fun q3 => ?_) (fun q3 => ?_)
  · have h1 := h.1 q3
    refine AW_aload_n dX6_keeps_53 rfl ?_
    refine AW_dup dX6_keeps_54 rfl ?_
    refine AW_getv (t := 19) (o := 0) (k := 5) none (v := aI (μ 19 0 5)) dX6_keeps_55 ff_X6_58 rfl rfl rfl ?_
    refine AW_iconst (v := 1) dX6_keeps_58 (by decide) ?_
    refine AW_isub dX6_keeps_59 ?_
    obtain ⟨m4, em4⟩ : ∃ z : Mem, z = mset μ 19 0 (upd (μ 19 0) 5 ((μ 19 0 5) - 1)) := ⟨_, rfl⟩
    have h5 := h1 m4 em4
    refine AW_putf (t := 19) (o := 0) (k := 5) dX6_keeps_60 fp_X6_58 rfl rfl rfl rfl em4.symm ?_
    refine AW_aload_n dX6_keeps_63 rfl ?_
    refine AW_iconst (v := 0) dX6_keeps_64 (by decide) ?_
    refine AW_aload_n dX6_keeps_65 rfl ?_
    refine AW_getv (t := 19) (o := 0) (k := 1) (some (21, none)) (v := aR 21 0) dX6_keeps_66 ff_X6_13 rfl rfl rfl ?_
    refine AW_sipush (v := 240) dX6_keeps_69 (by decide) ?_
    refine AW_aload_n dX6_keeps_72 rfl ?_
    refine AW_getv (t := 19) (o := 0) (k := 5) none (v := aI (m4 19 0 5)) dX6_keeps_73 ff_X6_58 rfl rfl rfl ?_
    refine AW_imul dX6_keeps_76 ?_
    obtain ⟨m7, h9, h8⟩ := h5
    refine AW_callSV [aR t1 o1, aI 0, aR 21 0, aI (240 * (m4 19 0 5))] dX6_keeps_77 cs_X6_61 rfl rfl (by decide) rfl (by decide) (Nat.le_of_ble_eq_true rfl) h9 ?_
    refine AW_aload_n dX6_keeps_80 rfl ?_
    refine AW_dup dX6_keeps_81 rfl ?_
    refine AW_getv (t := 19) (o := 0) (k := 5) none (v := aI (m7 19 0 5)) dX6_keeps_82 ff_X6_58 rfl rfl rfl ?_
    refine AW_iconst (v := 1) dX6_keeps_85 (by decide) ?_
    refine AW_iadd dX6_keeps_86 ?_
    obtain ⟨m10, em10⟩ : ∃ z : Mem, z = mset m7 19 0 (upd (m7 19 0) 5 ((m7 19 0 5) + 1)) := ⟨_, rfl⟩
    have h11 := h8 m10 em10
    refine AW_putf (t := 19) (o := 0) (k := 5) dX6_keeps_87 fp_X6_58 rfl rfl rfl rfl em10.symm ?_
    exact AW_return dX6_keeps_90 rfl h11
  · have h2 := h.2 q3
    refine AW_aload_n dX6_keeps_31 rfl ?_
    refine AW_getv (t := 19) (o := 0) (k := 1) (some (21, none)) (v := aR 21 0) dX6_keeps_32 ff_X6_13 rfl rfl rfl ?_
    refine AW_iload_n dX6_keeps_35 rfl ?_
    refine AW_aload_n dX6_keeps_36 rfl ?_
    refine AW_getv (t := 19) (o := 0) (k := 1) (some (21, none)) (v := aR 21 0) dX6_keeps_37 ff_X6_13 rfl rfl rfl ?_
    refine AW_iload_n dX6_keeps_40 rfl ?_
    refine AW_sipush (v := 240) dX6_keeps_41 (by decide) ?_
    refine AW_iadd dX6_keeps_44 ?_
    obtain ⟨h13, h14⟩ := h2
    refine AW_iaload dX6_keeps_45 rfl rfl h13 ?_
    obtain ⟨h16, h18⟩ := h14
    obtain ⟨m15, em15⟩ : ∃ z : Mem, z = mset μ 21 0 (upd (μ 21 0) a2.toNatClampNeg (μ 21 0 (a2 + 240).toNatClampNeg)) := ⟨_, rfl⟩
    have h17 := h18 m15 em15
    refine AW_iastore dX6_keeps_46 rfl rfl h16 em15.symm ?_
    refine AW_iinc (v := a2 + 1) (loc' := [some (aR 19 0), some (aR t1 o1), some (aI (a2 + 1))]) dX6_keeps_47 rfl rfl (Nat.le_of_ble_eq_true rfl) rfl rfl ?_
    refine AW_goto (tgt := 24) dX6_keeps_50 (by decide) ?_
    exact h17
set_option maxRecDepth 100000 in
theorem B_X6_by_0 {a1 : Int32} {a2 : Int32} {μ : Mem} {P : RES → Mem → Prop}  (h : vp_in ((10 + (3 * a1)) + a2) 240 ∧ (P (.inl (some (aI (μ 20 0 ((10 + (3 * a1)) + a2).toNatClampNeg)))) μ)) : AW M_X6_by 0 0 [some (aR 19 0), some (aI a1), some (aI a2)] [] μ P := by
  refine AW_aload_n dX6_by_0 rfl ?_
  refine AW_getv (t := 19) (o := 0) (k := 0) (some (20, none)) (v := aR 20 0) dX6_by_1 ff_X6_7 rfl rfl rfl ?_
  refine AW_bipush (v := 10) dX6_by_4 (by decide) ?_
  refine AW_iconst (v := 3) dX6_by_6 (by decide) ?_
  refine AW_iload_n dX6_by_7 rfl ?_
  refine AW_imul dX6_by_8 ?_
  refine AW_iadd dX6_by_9 ?_
  refine AW_iload_n dX6_by_10 rfl ?_
  refine AW_iadd dX6_by_11 ?_
  obtain ⟨h1, h2⟩ := h
  refine AW_iaload dX6_by_12 rfl rfl h1 ?_
  exact AW_ireturn (ty := .int) dX6_by_13 rfl rfl h2
set_option maxRecDepth 100000 in
theorem B_X6_adds_0 {a1 : Int32} {a2 : Int32} {a3 : Int32} {μ : Mem} {P : RES → Mem → Prop}  (h : vp_in ((10 + (3 * a1)) + a2) 240 ∧ (vp_in ((10 + (3 * a1)) + a2) 240 ∧ (∀ m3 : Mem, m3 = mset μ 20 0 (upd (μ 20 0) ((10 + (3 * a1)) + a2).toNatClampNeg ((μ 20 0 ((10 + (3 * a1)) + a2).toNatClampNeg) + a3)) → P (.inl none) m3))) : AW M_X6_adds 0 0 [some (aR 19 0), some (aI a1), some (aI a2), some (aI a3)] [] μ P := by
  refine AW_aload_n dX6_adds_0 rfl ?_
  refine AW_getv (t := 19) (o := 0) (k := 0) (some (20, none)) (v := aR 20 0) dX6_adds_1 ff_X6_7 rfl rfl rfl ?_
  refine AW_bipush (v := 10) dX6_adds_4 (by decide) ?_
  refine AW_iconst (v := 3) dX6_adds_6 (by decide) ?_
  refine AW_iload_n dX6_adds_7 rfl ?_
  refine AW_imul dX6_adds_8 ?_
  refine AW_iadd dX6_adds_9 ?_
  refine AW_iload_n dX6_adds_10 rfl ?_
  refine AW_iadd dX6_adds_11 ?_
  refine AW_dup2 dX6_adds_12 rfl rfl ?_
  obtain ⟨h1, h2⟩ := h
  refine AW_iaload dX6_adds_13 rfl rfl h1 ?_
  refine AW_iload_n dX6_adds_14 rfl ?_
  refine AW_iadd dX6_adds_15 ?_
  obtain ⟨h4, h6⟩ := h2
  obtain ⟨m3, em3⟩ : ∃ z : Mem, z = mset μ 20 0 (upd (μ 20 0) ((10 + (3 * a1)) + a2).toNatClampNeg ((μ 20 0 ((10 + (3 * a1)) + a2).toNatClampNeg) + a3)) := ⟨_, rfl⟩
  have h5 := h6 m3 em3
  refine AW_iastore dX6_adds_16 rfl rfl h4 em3.symm ?_
  exact AW_return dX6_adds_17 rfl h5
set_option maxRecDepth 100000 in
theorem B_X6_gets_0 {a1 : Int32} {a2 : Int32} {a3 : Int32} {μ : Mem} {P : RES → Mem → Prop}  (h : ∃ (r4 : Int32) (m1 : Mem), MetA M_X6_by [aR 19 0, aI a1, aI a2] μ (rI r4 m1) ∧ (∃ (r8 : Int32) (m5 : Mem), MetA M_X6_atMost [aI (r4 + a3), aI 99] m1 (rI r8 m5) ∧ (vp_in ((10 + (3 * a1)) + a2) 240 ∧ (∀ m9 : Mem, m9 = mset m5 20 0 (upd (m5 20 0) ((10 + (3 * a1)) + a2).toNatClampNeg r8) → P (.inl none) m9)))) : AW M_X6_gets 0 0 [some (aR 19 0), some (aI a1), some (aI a2), some (aI a3)] [] μ P := by
  refine AW_aload_n dX6_gets_0 rfl ?_
  refine AW_getv (t := 19) (o := 0) (k := 0) (some (20, none)) (v := aR 20 0) dX6_gets_1 ff_X6_7 rfl rfl rfl ?_
  refine AW_bipush (v := 10) dX6_gets_4 (by decide) ?_
  refine AW_iconst (v := 3) dX6_gets_6 (by decide) ?_
  refine AW_iload_n dX6_gets_7 rfl ?_
  refine AW_imul dX6_gets_8 ?_
  refine AW_iadd dX6_gets_9 ?_
  refine AW_iload_n dX6_gets_10 rfl ?_
  refine AW_iadd dX6_gets_11 ?_
  refine AW_aload_n dX6_gets_12 rfl ?_
  refine AW_iload_n dX6_gets_13 rfl ?_
  refine AW_iload_n dX6_gets_14 rfl ?_
  obtain ⟨r4, m1, h3, h2⟩ := h
  refine AW_callVI [aI a1, aI a2] dX6_gets_15 cv_X6_65 rfl rfl rfl (by decide) rfl (by decide) (Nat.le_of_ble_eq_true rfl) h3 ?_
  refine AW_iload_n dX6_gets_18 rfl ?_
  refine AW_iadd dX6_gets_19 ?_
  refine AW_bipush (v := 99) dX6_gets_20 (by decide) ?_
  obtain ⟨r8, m5, h7, h6⟩ := h2
  refine AW_callSI [aI (r4 + a3), aI 99] dX6_gets_22 cs_X6_69 rfl rfl (by decide) rfl (by decide) (Nat.le_of_ble_eq_true rfl) h7 ?_
  obtain ⟨h10, h12⟩ := h6
  obtain ⟨m9, em9⟩ : ∃ z : Mem, z = mset m5 20 0 (upd (m5 20 0) ((10 + (3 * a1)) + a2).toNatClampNeg r8) := ⟨_, rfl⟩
  have h11 := h12 m9 em9
  refine AW_iastore dX6_gets_25 rfl rfl h10 em9.symm ?_
  exact AW_return dX6_gets_26 rfl h11
set_option maxRecDepth 100000 in
theorem B_X6_of_0 {a1 : Int32} {a2 : Int32} {μ : Mem} {P : RES → Mem → Prop}  (h : vp_in ((22 + (26 * a1)) + a2) 240 ∧ (P (.inl (some (aI (μ 20 0 ((22 + (26 * a1)) + a2).toNatClampNeg)))) μ)) : AW M_X6_of 0 0 [some (aR 19 0), some (aI a1), some (aI a2)] [] μ P := by
  refine AW_aload_n dX6_of_0 rfl ?_
  refine AW_getv (t := 19) (o := 0) (k := 0) (some (20, none)) (v := aR 20 0) dX6_of_1 ff_X6_7 rfl rfl rfl ?_
  refine AW_bipush (v := 22) dX6_of_4 (by decide) ?_
  refine AW_bipush (v := 26) dX6_of_6 (by decide) ?_
  refine AW_iload_n dX6_of_8 rfl ?_
  refine AW_imul dX6_of_9 ?_
  refine AW_iadd dX6_of_10 ?_
  refine AW_iload_n dX6_of_11 rfl ?_
  refine AW_iadd dX6_of_12 ?_
  obtain ⟨h1, h2⟩ := h
  refine AW_iaload dX6_of_13 rfl rfl h1 ?_
  exact AW_ireturn (ty := .int) dX6_of_14 rfl rfl h2
set_option maxRecDepth 100000 in
theorem B_X6_lays_0 {a1 : Int32} {a2 : Int32} {a3 : Int32} {μ : Mem} {P : RES → Mem → Prop}  (h : vp_in ((22 + (26 * a1)) + a2) 240 ∧ (∀ m1 : Mem, m1 = mset μ 20 0 (upd (μ 20 0) ((22 + (26 * a1)) + a2).toNatClampNeg a3) → P (.inl none) m1)) : AW M_X6_lays 0 0 [some (aR 19 0), some (aI a1), some (aI a2), some (aI a3)] [] μ P := by
  refine AW_aload_n dX6_lays_0 rfl ?_
  refine AW_getv (t := 19) (o := 0) (k := 0) (some (20, none)) (v := aR 20 0) dX6_lays_1 ff_X6_7 rfl rfl rfl ?_
  refine AW_bipush (v := 22) dX6_lays_4 (by decide) ?_
  refine AW_bipush (v := 26) dX6_lays_6 (by decide) ?_
  refine AW_iload_n dX6_lays_8 rfl ?_
  refine AW_imul dX6_lays_9 ?_
  refine AW_iadd dX6_lays_10 ?_
  refine AW_iload_n dX6_lays_11 rfl ?_
  refine AW_iadd dX6_lays_12 ?_
  refine AW_iload_n dX6_lays_13 rfl ?_
  obtain ⟨h2, h4⟩ := h
  obtain ⟨m1, em1⟩ : ∃ z : Mem, z = mset μ 20 0 (upd (μ 20 0) ((22 + (26 * a1)) + a2).toNatClampNeg a3) := ⟨_, rfl⟩
  have h3 := h4 m1 em1
  refine AW_iastore dX6_lays_14 rfl rfl h2 em1.symm ?_
  exact AW_return dX6_lays_15 rfl h3
set_option maxRecDepth 100000 in
theorem B_X6_isHouse_0 {a1 : Int32} {μ : Mem} {P : RES → Mem → Prop}  (h : vp_in 0 240 ∧ (∃ (r6 : Int32) (m3 : Mem), MetA M_X6_in [aI a1, aI 0, aI ((μ 20 0 (0 : Int32).toNatClampNeg) - 1)] μ (rI r6 m3) ∧ (narrow .boolean (.int r6) = .int r6 ∧ P (.inl (some (aI r6))) m3))) : AW M_X6_isHouse 0 0 [some (aR 19 0), some (aI a1)] [] μ P := by
  refine AW_iload_n dX6_isHouse_0 rfl ?_
  refine AW_iconst (v := 0) dX6_isHouse_1 (by decide) ?_
  refine AW_aload_n dX6_isHouse_2 rfl ?_
  refine AW_getv (t := 19) (o := 0) (k := 0) (some (20, none)) (v := aR 20 0) dX6_isHouse_3 ff_X6_7 rfl rfl rfl ?_
  refine AW_iconst (v := 0) dX6_isHouse_6 (by decide) ?_
  obtain ⟨h1, h2⟩ := h
  refine AW_iaload dX6_isHouse_7 rfl rfl h1 ?_
  refine AW_iconst (v := 1) dX6_isHouse_8 (by decide) ?_
  refine AW_isub dX6_isHouse_9 ?_
  obtain ⟨r6, m3, h5, h4⟩ := h2
  refine AW_callSI [aI a1, aI 0, aI ((μ 20 0 (0 : Int32).toNatClampNeg) - 1)] dX6_isHouse_10 cs_X6_72 rfl rfl (by decide) rfl (by decide) (Nat.le_of_ble_eq_true rfl) h5 ?_
  obtain ⟨h7, h8⟩ := h4
  exact AW_ireturn (ty := .boolean) dX6_isHouse_13 rfl h7 h8
set_option maxRecDepth 100000 in
theorem B_X6_isSheet_0 {a1 : Int32} {μ : Mem} {P : RES → Mem → Prop}  (h : vp_in 1 240 ∧ (∃ (r6 : Int32) (m3 : Mem), MetA M_X6_in [aI a1, aI 0, aI ((μ 20 0 (1 : Int32).toNatClampNeg) - 1)] μ (rI r6 m3) ∧ (narrow .boolean (.int r6) = .int r6 ∧ P (.inl (some (aI r6))) m3))) : AW M_X6_isSheet 0 0 [some (aR 19 0), some (aI a1)] [] μ P := by
  refine AW_iload_n dX6_isSheet_0 rfl ?_
  refine AW_iconst (v := 0) dX6_isSheet_1 (by decide) ?_
  refine AW_aload_n dX6_isSheet_2 rfl ?_
  refine AW_getv (t := 19) (o := 0) (k := 0) (some (20, none)) (v := aR 20 0) dX6_isSheet_3 ff_X6_7 rfl rfl rfl ?_
  refine AW_iconst (v := 1) dX6_isSheet_6 (by decide) ?_
  obtain ⟨h1, h2⟩ := h
  refine AW_iaload dX6_isSheet_7 rfl rfl h1 ?_
  refine AW_iconst (v := 1) dX6_isSheet_8 (by decide) ?_
  refine AW_isub dX6_isSheet_9 ?_
  obtain ⟨r6, m3, h5, h4⟩ := h2
  refine AW_callSI [aI a1, aI 0, aI ((μ 20 0 (1 : Int32).toNatClampNeg) - 1)] dX6_isSheet_10 cs_X6_72 rfl rfl (by decide) rfl (by decide) (Nat.le_of_ble_eq_true rfl) h5 ?_
  obtain ⟨h7, h8⟩ := h4
  exact AW_ireturn (ty := .boolean) dX6_isSheet_13 rfl h7 h8
set_option maxRecDepth 100000 in
theorem B_X6_isPlace_0 {a1 : Int32} {a2 : Int32} {μ : Mem} {P : RES → Mem → Prop}  (h : ∃ (r4 : Int32) (m1 : Mem), MetA M_X6_isSheet [aR 19 0, aI a1] μ (rI r4 m1) ∧ ((r4 = 0 → P (.inl (some (aI 0))) m1) ∧ (¬ r4 = 0 → ∃ (r11 : Int32) (m8 : Mem), MetA M_X6_of [aR 19 0, aI a1, aI 1] m1 (rI r11 m8) ∧ (∃ (r15 : Int32) (m12 : Mem), MetA M_X6_in [aI a2, aI 0, aI (r11 - 1)] m8 (rI r15 m12) ∧ ((r15 = 0 → P (.inl (some (aI 0))) m12) ∧ (¬ r15 = 0 → P (.inl (some (aI 1))) m12)))))) : AW M_X6_isPlace 0 0 [some (aR 19 0), some (aI a1), some (aI a2)] [] μ P := by
  refine AW_aload_n dX6_isPlace_0 rfl ?_
  refine AW_iload_n dX6_isPlace_1 rfl ?_
  obtain ⟨r4, m1, h3, h2⟩ := h
  refine AW_callVI [aI a1] dX6_isPlace_2 cv_X6_76 rfl rfl rfl (by decide) rfl (by decide) (Nat.le_of_ble_eq_true rfl) h3 ?_
  refine AW_if_eq (tgt := 28) dX6_isPlace_5 (by decide) (fun q7 => ?_) (fun q7 => ?_)
  · have h5 := h2.1 q7
    refine AW_iconst (v := 0) dX6_isPlace_28 (by decide) ?_
    exact AW_ireturn (ty := .boolean) dX6_isPlace_29 rfl rfl h5
  · have h6 := h2.2 q7
    refine AW_iload_n dX6_isPlace_8 rfl ?_
    refine AW_iconst (v := 0) dX6_isPlace_9 (by decide) ?_
    refine AW_aload_n dX6_isPlace_10 rfl ?_
    refine AW_iload_n dX6_isPlace_11 rfl ?_
    refine AW_iconst (v := 1) dX6_isPlace_12 (by decide) ?_
    obtain ⟨r11, m8, h10, h9⟩ := h6
    refine AW_callVI [aI a1, aI 1] dX6_isPlace_13 cv_X6_80 rfl rfl rfl (by decide) rfl (by decide) (Nat.le_of_ble_eq_true rfl) h10 ?_
    refine AW_iconst (v := 1) dX6_isPlace_16 (by decide) ?_
    refine AW_isub dX6_isPlace_17 ?_
    obtain ⟨r15, m12, h14, h13⟩ := h9
    refine AW_callSI [aI a2, aI 0, aI (r11 - 1)] dX6_isPlace_18 cs_X6_72 rfl rfl (by decide) rfl (by decide) (Nat.le_of_ble_eq_true rfl) h14 ?_
    refine AW_if_eq (tgt := 28) dX6_isPlace_21 (by decide) (fun q18 => ?_) (fun q18 => ?_)
    · have h16 := h13.1 q18
      refine AW_iconst (v := 0) dX6_isPlace_28 (by decide) ?_
      exact AW_ireturn (ty := .boolean) dX6_isPlace_29 rfl rfl h16
    · have h17 := h13.2 q18
      refine AW_iconst (v := 1) dX6_isPlace_24 (by decide) ?_
      refine AW_goto (tgt := 29) dX6_isPlace_25 (by decide) ?_
      exact AW_ireturn (ty := .boolean) dX6_isPlace_29 rfl rfl h17
set_option maxRecDepth 100000 in
theorem B_X6_mark_0 {a1 : Int32} {a2 : Int32} {μ : Mem} {P : RES → Mem → Prop}  (h : ∃ (r4 : Int32) (m1 : Mem), MetA M_X6_of [aR 19 0, aI a1, aI (18 + a2)] μ (rI r4 m1) ∧ (P (.inl (some (aI r4))) m1)) : AW M_X6_mark 0 0 [some (aR 19 0), some (aI a1), some (aI a2)] [] μ P := by
  refine AW_aload_n dX6_mark_0 rfl ?_
  refine AW_iload_n dX6_mark_1 rfl ?_
  refine AW_bipush (v := 18) dX6_mark_2 (by decide) ?_
  refine AW_iload_n dX6_mark_4 rfl ?_
  refine AW_iadd dX6_mark_5 ?_
  obtain ⟨r4, m1, h3, h2⟩ := h
  refine AW_callVI [aI a1, aI (18 + a2)] dX6_mark_6 cv_X6_80 rfl rfl rfl (by decide) rfl (by decide) (Nat.le_of_ble_eq_true rfl) h3 ?_
  exact AW_ireturn (ty := .int) dX6_mark_9 rfl rfl h2
set_option maxRecDepth 100000 in
theorem B_X6_bad_0 {a1 : Int32} {a2 : Int32} {μ : Mem} {P : RES → Mem → Prop}  (h : ∃ (r4 : Int32) (m1 : Mem), MetA M_X6_of [aR 19 0, aI a1, aI (10 + a2)] μ (rI r4 m1) ∧ (∃ (r8 : Int32) (m5 : Mem), MetA M_X6_of [aR 19 0, aI a1, aI (2 + a2)] m1 (rI r8 m5) ∧ (∃ (r12 : Int32) (m9 : Mem), MetA M_X6_apart [aI r4, aI r8] m5 (rI r12 m9) ∧ (P (.inl (some (aI r12))) m9)))) : AW M_X6_bad 0 0 [some (aR 19 0), some (aI a1), some (aI a2)] [] μ P := by
  refine AW_aload_n dX6_bad_0 rfl ?_
  refine AW_iload_n dX6_bad_1 rfl ?_
  refine AW_bipush (v := 10) dX6_bad_2 (by decide) ?_
  refine AW_iload_n dX6_bad_4 rfl ?_
  refine AW_iadd dX6_bad_5 ?_
  obtain ⟨r4, m1, h3, h2⟩ := h
  refine AW_callVI [aI a1, aI (10 + a2)] dX6_bad_6 cv_X6_80 rfl rfl rfl (by decide) rfl (by decide) (Nat.le_of_ble_eq_true rfl) h3 ?_
  refine AW_aload_n dX6_bad_9 rfl ?_
  refine AW_iload_n dX6_bad_10 rfl ?_
  refine AW_iconst (v := 2) dX6_bad_11 (by decide) ?_
  refine AW_iload_n dX6_bad_12 rfl ?_
  refine AW_iadd dX6_bad_13 ?_
  obtain ⟨r8, m5, h7, h6⟩ := h2
  refine AW_callVI [aI a1, aI (2 + a2)] dX6_bad_14 cv_X6_80 rfl rfl rfl (by decide) rfl (by decide) (Nat.le_of_ble_eq_true rfl) h7 ?_
  obtain ⟨r12, m9, h11, h10⟩ := h6
  refine AW_callSI [aI r4, aI r8] dX6_bad_17 cs_X6_83 rfl rfl (by decide) rfl (by decide) (Nat.le_of_ble_eq_true rfl) h11 ?_
  exact AW_ireturn (ty := .int) dX6_bad_20 rfl rfl h10
set_option maxRecDepth 100000 in
theorem B_X6_house_0 {a1 : Int32} {μ : Mem} {P : RES → Mem → Prop}  (h : ∃ (r4 : Int32) (m1 : Mem), MetA M_X6_in [aI a1, aI 0, aI 99] μ (rI r4 m1) ∧ ((r4 = 0 → ∃ (r11 : Int32) (m8 : Mem), MetA M_X6_fails [aR 19 0, aI 1] m1 (rI r11 m8) ∧ ((r11 = 0 → vp_in 0 240 ∧ ((¬ (m8 20 0 (0 : Int32).toNatClampNeg) = 4 → ∃ m20 : Mem, MetA M_X6_keeps [aR 19 0, aR 20 0] m8 (rV m20) ∧ (vp_in 0 240 ∧ (vp_in 0 240 ∧ (vp_in 0 240 ∧ (∀ m27 : Mem, m27 = mset m20 20 0 (upd (m20 20 0) (0 : Int32).toNatClampNeg ((m20 20 0 (0 : Int32).toNatClampNeg) + 1)) → AW M_X6_house 0 69 [some (aR 19 0), some (aI a1), some (aI (m20 20 0 (0 : Int32).toNatClampNeg)), some (aI 0)] [] m27 P))))) ∧ ((m8 20 0 (0 : Int32).toNatClampNeg) = 4 → ∃ (r34 : Int32) (m31 : Mem), MetA M_X6_refuses [aR 19 0, aI 2, aI 1, aI 4] m8 (rI r34 m31) ∧ (P (.inl (some (aI r34))) m31)))) ∧ (¬ r11 = 0 → P (.inl (some (aI 0))) m8))) ∧ (¬ r4 = 0 → ∃ (r38 : Int32) (m35 : Mem), MetA M_X6_fails [aR 19 0, aI 0] m1 (rI r38 m35) ∧ ((r38 = 0 → vp_in 0 240 ∧ ((¬ (m35 20 0 (0 : Int32).toNatClampNeg) = 4 → ∃ m47 : Mem, MetA M_X6_keeps [aR 19 0, aR 20 0] m35 (rV m47) ∧ (vp_in 0 240 ∧ (vp_in 0 240 ∧ (vp_in 0 240 ∧ (∀ m54 : Mem, m54 = mset m47 20 0 (upd (m47 20 0) (0 : Int32).toNatClampNeg ((m47 20 0 (0 : Int32).toNatClampNeg) + 1)) → AW M_X6_house 0 69 [some (aR 19 0), some (aI a1), some (aI (m47 20 0 (0 : Int32).toNatClampNeg)), some (aI 0)] [] m54 P))))) ∧ ((m35 20 0 (0 : Int32).toNatClampNeg) = 4 → ∃ (r61 : Int32) (m58 : Mem), MetA M_X6_refuses [aR 19 0, aI 2, aI 1, aI 4] m35 (rI r61 m58) ∧ (P (.inl (some (aI r61))) m58)))) ∧ (¬ r38 = 0 → P (.inl (some (aI 0))) m35))))) : AW M_X6_house 0 0 [some (aR 19 0), some (aI a1), none, none] [] μ P := by
  refine AW_aload_n dX6_house_0 rfl ?_
  refine AW_iload_n dX6_house_1 rfl ?_
  refine AW_iconst (v := 0) dX6_house_2 (by decide) ?_
  refine AW_bipush (v := 99) dX6_house_3 (by decide) ?_
  obtain ⟨r4, m1, h3, h2⟩ := h
  refine AW_callSI [aI a1, aI 0, aI 99] dX6_house_5 cs_X6_72 rfl rfl (by decide) rfl (by decide) (Nat.le_of_ble_eq_true rfl) h3 ?_
  refine AW_if_eq (tgt := 15) dX6_house_8 (by decide) (fun q7 => ?_) (fun q7 => ?_)
  · have h5 := h2.1 q7
    refine AW_iconst (v := 1) dX6_house_15 (by decide) ?_
    obtain ⟨r11, m8, h10, h9⟩ := h5
    refine AW_callVI [aI 1] dX6_house_16 cv_X6_86 rfl rfl rfl (by decide) rfl (by decide) (Nat.le_of_ble_eq_true rfl) h10 ?_
    refine AW_if_eq (tgt := 24) dX6_house_19 (by decide) (fun q14 => ?_) (fun q14 => ?_)
    · have h12 := h9.1 q14
      refine AW_aload_n dX6_house_24 rfl ?_
      refine AW_getv (t := 19) (o := 0) (k := 0) (some (20, none)) (v := aR 20 0) dX6_house_25 ff_X6_7 rfl rfl rfl ?_
      refine AW_iconst (v := 0) dX6_house_28 (by decide) ?_
      obtain ⟨h15, h16⟩ := h12
      refine AW_iaload dX6_house_29 rfl rfl h15 ?_
      refine AW_iconst (v := 4) dX6_house_30 (by decide) ?_
      refine AW_icmp_ne (tgt := 42) dX6_house_31 (by decide) (fun q19 => ?_) (fun q19 => ?_)
      · have h17 := h16.1 q19
        refine AW_aload_n dX6_house_42 rfl ?_
        refine AW_aload_n dX6_house_43 rfl ?_
        refine AW_getv (t := 19) (o := 0) (k := 0) (some (20, none)) (v := aR 20 0) dX6_house_44 ff_X6_7 rfl rfl rfl ?_
        obtain ⟨m20, h22, h21⟩ := h17
        refine AW_callVV [aR 20 0] dX6_house_47 cv_X6_93 rfl rfl rfl (by decide) rfl (by decide) (Nat.le_of_ble_eq_true rfl) h22 ?_
        refine AW_aload_n dX6_house_50 rfl ?_
        refine AW_getv (t := 19) (o := 0) (k := 0) (some (20, none)) (v := aR 20 0) dX6_house_51 ff_X6_7 rfl rfl rfl ?_
        refine AW_iconst (v := 0) dX6_house_54 (by decide) ?_
        obtain ⟨h23, h24⟩ := h21
        refine AW_iaload dX6_house_55 rfl rfl h23 ?_
        refine AW_istore_n (loc' := [some (aR 19 0), some (aI a1), some (aI (m20 20 0 (0 : Int32).toNatClampNeg)), none]) dX6_house_56 (Nat.le_of_ble_eq_true rfl) rfl rfl ?_
        refine AW_aload_n dX6_house_57 rfl ?_
        refine AW_getv (t := 19) (o := 0) (k := 0) (some (20, none)) (v := aR 20 0) dX6_house_58 ff_X6_7 rfl rfl rfl ?_
        refine AW_iconst (v := 0) dX6_house_61 (by decide) ?_
        refine AW_dup2 dX6_house_62 rfl rfl ?_
        obtain ⟨h25, h26⟩ := h24
        refine AW_iaload dX6_house_63 rfl rfl h25 ?_
        refine AW_iconst (v := 1) dX6_house_64 (by decide) ?_
        refine AW_iadd dX6_house_65 ?_
        obtain ⟨h28, h30⟩ := h26
        obtain ⟨m27, em27⟩ : ∃ z : Mem, z = mset m20 20 0 (upd (m20 20 0) (0 : Int32).toNatClampNeg ((m20 20 0 (0 : Int32).toNatClampNeg) + 1)) := ⟨_, rfl⟩
        have h29 := h30 m27 em27
        refine AW_iastore dX6_house_66 rfl rfl h28 em27.symm ?_
        refine AW_iconst (v := 0) dX6_house_67 (by decide) ?_
        refine AW_istore_n (loc' := [some (aR 19 0), some (aI a1), some (aI (m20 20 0 (0 : Int32).toNatClampNeg)), some (aI 0)]) dX6_house_68 (Nat.le_of_ble_eq_true rfl) rfl rfl ?_
        exact h29
      · have h18 := h16.2 q19
        refine AW_aload_n dX6_house_34 rfl ?_
        refine AW_iconst (v := 2) dX6_house_35 (by decide) ?_
        refine AW_iconst (v := 1) dX6_house_36 (by decide) ?_
        refine AW_iconst (v := 4) dX6_house_37 (by decide) ?_
        obtain ⟨r34, m31, h33, h32⟩ := h18
        refine AW_callVI [aI 2, aI 1, aI 4] dX6_house_38 cv_X6_89 rfl rfl rfl (by decide) rfl (by decide) (Nat.le_of_ble_eq_true rfl) h33 ?_
        exact AW_ireturn (ty := .int) dX6_house_41 rfl rfl h32
    · have h13 := h9.2 q14
      refine AW_iconst (v := 0) dX6_house_22 (by decide) ?_
      exact AW_ireturn (ty := .int) dX6_house_23 rfl rfl h13
  · have h6 := h2.2 q7
    refine AW_iconst (v := 0) dX6_house_11 (by decide) ?_
    refine AW_goto (tgt := 16) dX6_house_12 (by decide) ?_
    obtain ⟨r38, m35, h37, h36⟩ := h6
    refine AW_callVI [aI 0] dX6_house_16 cv_X6_86 rfl rfl rfl (by decide) rfl (by decide) (Nat.le_of_ble_eq_true rfl) h37 ?_
    refine AW_if_eq (tgt := 24) dX6_house_19 (by decide) (fun q41 => ?_) (fun q41 => ?_)
    · have h39 := h36.1 q41
      refine AW_aload_n dX6_house_24 rfl ?_
      refine AW_getv (t := 19) (o := 0) (k := 0) (some (20, none)) (v := aR 20 0) dX6_house_25 ff_X6_7 rfl rfl rfl ?_
      refine AW_iconst (v := 0) dX6_house_28 (by decide) ?_
      obtain ⟨h42, h43⟩ := h39
      refine AW_iaload dX6_house_29 rfl rfl h42 ?_
      refine AW_iconst (v := 4) dX6_house_30 (by decide) ?_
      refine AW_icmp_ne (tgt := 42) dX6_house_31 (by decide) (fun q46 => ?_) (fun q46 => ?_)
      · have h44 := h43.1 q46
        refine AW_aload_n dX6_house_42 rfl ?_
        refine AW_aload_n dX6_house_43 rfl ?_
        refine AW_getv (t := 19) (o := 0) (k := 0) (some (20, none)) (v := aR 20 0) dX6_house_44 ff_X6_7 rfl rfl rfl ?_
        obtain ⟨m47, h49, h48⟩ := h44
        refine AW_callVV [aR 20 0] dX6_house_47 cv_X6_93 rfl rfl rfl (by decide) rfl (by decide) (Nat.le_of_ble_eq_true rfl) h49 ?_
        refine AW_aload_n dX6_house_50 rfl ?_
        refine AW_getv (t := 19) (o := 0) (k := 0) (some (20, none)) (v := aR 20 0) dX6_house_51 ff_X6_7 rfl rfl rfl ?_
        refine AW_iconst (v := 0) dX6_house_54 (by decide) ?_
        obtain ⟨h50, h51⟩ := h48
        refine AW_iaload dX6_house_55 rfl rfl h50 ?_
        refine AW_istore_n (loc' := [some (aR 19 0), some (aI a1), some (aI (m47 20 0 (0 : Int32).toNatClampNeg)), none]) dX6_house_56 (Nat.le_of_ble_eq_true rfl) rfl rfl ?_
        refine AW_aload_n dX6_house_57 rfl ?_
        refine AW_getv (t := 19) (o := 0) (k := 0) (some (20, none)) (v := aR 20 0) dX6_house_58 ff_X6_7 rfl rfl rfl ?_
        refine AW_iconst (v := 0) dX6_house_61 (by decide) ?_
        refine AW_dup2 dX6_house_62 rfl rfl ?_
        obtain ⟨h52, h53⟩ := h51
        refine AW_iaload dX6_house_63 rfl rfl h52 ?_
        refine AW_iconst (v := 1) dX6_house_64 (by decide) ?_
        refine AW_iadd dX6_house_65 ?_
        obtain ⟨h55, h57⟩ := h53
        obtain ⟨m54, em54⟩ : ∃ z : Mem, z = mset m47 20 0 (upd (m47 20 0) (0 : Int32).toNatClampNeg ((m47 20 0 (0 : Int32).toNatClampNeg) + 1)) := ⟨_, rfl⟩
        have h56 := h57 m54 em54
        refine AW_iastore dX6_house_66 rfl rfl h55 em54.symm ?_
        refine AW_iconst (v := 0) dX6_house_67 (by decide) ?_
        refine AW_istore_n (loc' := [some (aR 19 0), some (aI a1), some (aI (m47 20 0 (0 : Int32).toNatClampNeg)), some (aI 0)]) dX6_house_68 (Nat.le_of_ble_eq_true rfl) rfl rfl ?_
        exact h56
      · have h45 := h43.2 q46
        refine AW_aload_n dX6_house_34 rfl ?_
        refine AW_iconst (v := 2) dX6_house_35 (by decide) ?_
        refine AW_iconst (v := 1) dX6_house_36 (by decide) ?_
        refine AW_iconst (v := 4) dX6_house_37 (by decide) ?_
        obtain ⟨r61, m58, h60, h59⟩ := h45
        refine AW_callVI [aI 2, aI 1, aI 4] dX6_house_38 cv_X6_89 rfl rfl rfl (by decide) rfl (by decide) (Nat.le_of_ble_eq_true rfl) h60 ?_
        exact AW_ireturn (ty := .int) dX6_house_41 rfl rfl h59
    · have h40 := h36.2 q41
      refine AW_iconst (v := 0) dX6_house_22 (by decide) ?_
      exact AW_ireturn (ty := .int) dX6_house_23 rfl rfl h40
set_option maxRecDepth 100000 in
theorem B_X6_house_69 {a1 : Int32} {a2 : Int32} {a3 : Int32} {μ : Mem} {P : RES → Mem → Prop}  (h : (3 ≤ a3 → ∃ m4 : Mem, MetA M_X6_adds [aR 19 0, aI a2, aI 0, aI a1] μ (rV m4) ∧ (P (.inl (some (aI a2))) m4)) ∧ (¬ 3 ≤ a3 → vp_in ((10 + (3 * a2)) + a3) 240 ∧ (∀ m7 : Mem, m7 = mset μ 20 0 (upd (μ 20 0) ((10 + (3 * a2)) + a3).toNatClampNeg 0) → AW M_X6_house 0 69 [some (aR 19 0), some (aI a1), some (aI a2), some (aI (a3 + 1))] [] m7 P))) : AW M_X6_house 0 69 [some (aR 19 0), some (aI a1), some (aI a2), some (aI a3)] [] μ P := by
  refine AW_iload_n dX6_house_69 rfl ?_
  refine AW_iconst (v := 3) dX6_house_70 (by decide) ?_
  refine AW_icmp_ge (tgt := 94) dX6_house_71 (by decide) (fun q3 => ?_) (fun q3 => ?_)
  · have h1 := h.1 q3
    refine AW_aload_n dX6_house_94 rfl ?_
    refine AW_iload_n dX6_house_95 rfl ?_
    refine AW_iconst (v := 0) dX6_house_96 (by decide) ?_
    refine AW_iload_n dX6_house_97 rfl ?_
    obtain ⟨m4, h6, h5⟩ := h1
    refine AW_callVV [aI a2, aI 0, aI a1] dX6_house_98 cv_X6_97 rfl rfl rfl (by decide) rfl (by decide) (Nat.le_of_ble_eq_true rfl) h6 ?_
    refine AW_iload_n dX6_house_101 rfl ?_
    exact AW_ireturn (ty := .int) dX6_house_102 rfl rfl h5
  · have h2 := h.2 q3
    refine AW_aload_n dX6_house_74 rfl ?_
    refine AW_getv (t := 19) (o := 0) (k := 0) (some (20, none)) (v := aR 20 0) dX6_house_75 ff_X6_7 rfl rfl rfl ?_
    refine AW_bipush (v := 10) dX6_house_78 (by decide) ?_
    refine AW_iconst (v := 3) dX6_house_80 (by decide) ?_
    refine AW_iload_n dX6_house_81 rfl ?_
    refine AW_imul dX6_house_82 ?_
    refine AW_iadd dX6_house_83 ?_
    refine AW_iload_n dX6_house_84 rfl ?_
    refine AW_iadd dX6_house_85 ?_
    refine AW_iconst (v := 0) dX6_house_86 (by decide) ?_
    obtain ⟨h8, h10⟩ := h2
    obtain ⟨m7, em7⟩ : ∃ z : Mem, z = mset μ 20 0 (upd (μ 20 0) ((10 + (3 * a2)) + a3).toNatClampNeg 0) := ⟨_, rfl⟩
    have h9 := h10 m7 em7
    refine AW_iastore dX6_house_87 rfl rfl h8 em7.symm ?_
    refine AW_iinc (v := a3 + 1) (loc' := [some (aR 19 0), some (aI a1), some (aI a2), some (aI (a3 + 1))]) dX6_house_88 rfl rfl (Nat.le_of_ble_eq_true rfl) rfl rfl ?_
    refine AW_goto (tgt := 69) dX6_house_91 (by decide) ?_
    exact h9
set_option maxRecDepth 100000 in
theorem B_X6_letters_0 {a0 : Int32} {μ : Mem} {P : RES → Mem → Prop}  (h : AW M_X6_letters 0 4 [some (aI a0), some (aI 0), some (aI a0)] [] μ P) : AW M_X6_letters 0 0 [some (aI a0), none, none] [] μ P := by
  refine AW_iconst (v := 0) dX6_letters_0 (by decide) ?_
  refine AW_istore_n (loc' := [some (aI a0), some (aI 0), none]) dX6_letters_1 (Nat.le_of_ble_eq_true rfl) rfl rfl ?_
  refine AW_iload_n dX6_letters_2 rfl ?_
  refine AW_istore_n (loc' := [some (aI a0), some (aI 0), some (aI a0)]) dX6_letters_3 (Nat.le_of_ble_eq_true rfl) rfl rfl ?_
  exact h
set_option maxRecDepth 100000 in
theorem B_X6_letters_4 {a0 : Int32} {a1 : Int32} {a2 : Int32} {μ : Mem} {P : RES → Mem → Prop}  (h : (a2 ≤ 0 → ∃ (r7 : Int32) (m4 : Mem), MetA M_X6_in [aI a1, aI 3, aI 8] μ (rI r7 m4) ∧ ((r7 = 0 → P (.inl (some (aI 0))) m4) ∧ (¬ r7 = 0 → P (.inl (some (aI a1))) m4))) ∧ (¬ a2 ≤ 0 → ∃ (r14 : Int32) (m11 : Mem), MetA M_X6_in [aI (a2 - a2 / 10 * 10), aI 1, aI 6] μ (rI r14 m11) ∧ ((¬ r14 = 0 → AW M_X6_letters 0 4 [some (aI a0), some (aI (a1 + 1)), some (aI (a2 / 10))] [] m11 P) ∧ (r14 = 0 → P (.inl (some (aI 0))) m11)))) : AW M_X6_letters 0 4 [some (aI a0), some (aI a1), some (aI a2)] [] μ P := by
  refine AW_iload_n dX6_letters_4 rfl ?_
  refine AW_if_le (tgt := 34) dX6_letters_5 (by decide) (fun q3 => ?_) (fun q3 => ?_)
  · have h1 := h.1 q3
    refine AW_iload_n dX6_letters_34 rfl ?_
    refine AW_iconst (v := 3) dX6_letters_35 (by decide) ?_
    refine AW_bipush (v := 8) dX6_letters_36 (by decide) ?_
    obtain ⟨r7, m4, h6, h5⟩ := h1
    refine AW_callSI [aI a1, aI 3, aI 8] dX6_letters_38 cs_X6_72 rfl rfl (by decide) rfl (by decide) (Nat.le_of_ble_eq_true rfl) h6 ?_
    refine AW_if_eq (tgt := 48) dX6_letters_41 (by decide) (fun q10 => ?_) (fun q10 => ?_)
    · have h8 := h5.1 q10
      refine AW_iconst (v := 0) dX6_letters_48 (by decide) ?_
      exact AW_ireturn (ty := .int) dX6_letters_49 rfl rfl h8
    · have h9 := h5.2 q10
      refine AW_iload_n dX6_letters_44 rfl ?_
      refine AW_goto (tgt := 49) dX6_letters_45 (by decide) ?_
      exact AW_ireturn (ty := .int) dX6_letters_49 rfl rfl h9
  · have h2 := h.2 q3
    refine AW_iload_n dX6_letters_8 rfl ?_
    refine AW_bipush (v := 10) dX6_letters_9 (by decide) ?_
    refine AW_irem dX6_letters_11 (by decide) ?_
    refine AW_iconst (v := 1) dX6_letters_12 (by decide) ?_
    refine AW_bipush (v := 6) dX6_letters_13 (by decide) ?_
    obtain ⟨r14, m11, h13, h12⟩ := h2
    refine AW_callSI [aI (a2 - a2 / 10 * 10), aI 1, aI 6] dX6_letters_15 cs_X6_72 rfl rfl (by decide) rfl (by decide) (Nat.le_of_ble_eq_true rfl) h13 ?_
    refine AW_if_ne (tgt := 23) dX6_letters_18 (by decide) (fun q17 => ?_) (fun q17 => ?_)
    · have h15 := h12.1 q17
      refine AW_iinc (v := a1 + 1) (loc' := [some (aI a0), some (aI (a1 + 1)), some (aI a2)]) dX6_letters_23 rfl rfl (Nat.le_of_ble_eq_true rfl) rfl rfl ?_
      refine AW_iload_n dX6_letters_26 rfl ?_
      refine AW_bipush (v := 10) dX6_letters_27 (by decide) ?_
      refine AW_idiv dX6_letters_29 (by decide) ?_
      refine AW_istore_n (loc' := [some (aI a0), some (aI (a1 + 1)), some (aI (a2 / 10))]) dX6_letters_30 (Nat.le_of_ble_eq_true rfl) rfl rfl ?_
      refine AW_goto (tgt := 4) dX6_letters_31 (by decide) ?_
      exact h15
    · have h16 := h12.2 q17
      refine AW_iconst (v := 0) dX6_letters_21 (by decide) ?_
      exact AW_ireturn (ty := .int) dX6_letters_22 rfl rfl h16
set_option maxRecDepth 100000 in
theorem B_X6_sheet_0 {a1 : Int32} {a2 : Int32} {μ : Mem} {P : RES → Mem → Prop}  (h : ∃ (r4 : Int32) (m1 : Mem), MetA M_X6_isHouse [aR 19 0, aI a1] μ (rI r4 m1) ∧ ((¬ r4 = 0 → ∃ (r11 : Int32) (m8 : Mem), MetA M_X6_letters [aI a2] m1 (rI r11 m8) ∧ ((¬ r11 = 0 → ∃ (r18 : Int32) (m15 : Mem), MetA M_X6_fails [aR 19 0, aI 0] m8 (rI r18 m15) ∧ ((r18 = 0 → vp_in 1 240 ∧ ((¬ (m15 20 0 (1 : Int32).toNatClampNeg) = 8 → ∃ m27 : Mem, MetA M_X6_keeps [aR 19 0, aR 20 0] m15 (rV m27) ∧ (vp_in 1 240 ∧ (vp_in 1 240 ∧ (vp_in 1 240 ∧ (∀ m34 : Mem, m34 = mset m27 20 0 (upd (m27 20 0) (1 : Int32).toNatClampNeg ((m27 20 0 (1 : Int32).toNatClampNeg) + 1)) → AW M_X6_sheet 0 81 [some (aR 19 0), some (aI a1), some (aI a2), some (aI (m27 20 0 (1 : Int32).toNatClampNeg)), some (aI 0), none] [] m34 P))))) ∧ ((m15 20 0 (1 : Int32).toNatClampNeg) = 8 → ∃ (r41 : Int32) (m38 : Mem), MetA M_X6_refuses [aR 19 0, aI 3, aI 1, aI 8] m15 (rI r41 m38) ∧ (P (.inl (some (aI r41))) m38)))) ∧ (¬ r18 = 0 → P (.inl (some (aI 0))) m15))) ∧ (r11 = 0 → ∃ (r45 : Int32) (m42 : Mem), MetA M_X6_fails [aR 19 0, aI 2] m8 (rI r45 m42) ∧ ((r45 = 0 → vp_in 1 240 ∧ ((¬ (m42 20 0 (1 : Int32).toNatClampNeg) = 8 → ∃ m54 : Mem, MetA M_X6_keeps [aR 19 0, aR 20 0] m42 (rV m54) ∧ (vp_in 1 240 ∧ (vp_in 1 240 ∧ (vp_in 1 240 ∧ (∀ m61 : Mem, m61 = mset m54 20 0 (upd (m54 20 0) (1 : Int32).toNatClampNeg ((m54 20 0 (1 : Int32).toNatClampNeg) + 1)) → AW M_X6_sheet 0 81 [some (aR 19 0), some (aI a1), some (aI a2), some (aI (m54 20 0 (1 : Int32).toNatClampNeg)), some (aI 0), none] [] m61 P))))) ∧ ((m42 20 0 (1 : Int32).toNatClampNeg) = 8 → ∃ (r68 : Int32) (m65 : Mem), MetA M_X6_refuses [aR 19 0, aI 3, aI 1, aI 8] m42 (rI r68 m65) ∧ (P (.inl (some (aI r68))) m65)))) ∧ (¬ r45 = 0 → P (.inl (some (aI 0))) m42))))) ∧ (r4 = 0 → ∃ (r72 : Int32) (m69 : Mem), MetA M_X6_fails [aR 19 0, aI 1] m1 (rI r72 m69) ∧ ((r72 = 0 → vp_in 1 240 ∧ ((¬ (m69 20 0 (1 : Int32).toNatClampNeg) = 8 → ∃ m81 : Mem, MetA M_X6_keeps [aR 19 0, aR 20 0] m69 (rV m81) ∧ (vp_in 1 240 ∧ (vp_in 1 240 ∧ (vp_in 1 240 ∧ (∀ m88 : Mem, m88 = mset m81 20 0 (upd (m81 20 0) (1 : Int32).toNatClampNeg ((m81 20 0 (1 : Int32).toNatClampNeg) + 1)) → AW M_X6_sheet 0 81 [some (aR 19 0), some (aI a1), some (aI a2), some (aI (m81 20 0 (1 : Int32).toNatClampNeg)), some (aI 0), none] [] m88 P))))) ∧ ((m69 20 0 (1 : Int32).toNatClampNeg) = 8 → ∃ (r95 : Int32) (m92 : Mem), MetA M_X6_refuses [aR 19 0, aI 3, aI 1, aI 8] m69 (rI r95 m92) ∧ (P (.inl (some (aI r95))) m92)))) ∧ (¬ r72 = 0 → P (.inl (some (aI 0))) m69))))) : AW M_X6_sheet 0 0 [some (aR 19 0), some (aI a1), some (aI a2), none, none, none] [] μ P := by
  refine AW_aload_n dX6_sheet_0 rfl ?_
  refine AW_aload_n dX6_sheet_1 rfl ?_
  refine AW_iload_n dX6_sheet_2 rfl ?_
  obtain ⟨r4, m1, h3, h2⟩ := h
  refine AW_callVI [aI a1] dX6_sheet_3 cv_X6_101 rfl rfl rfl (by decide) rfl (by decide) (Nat.le_of_ble_eq_true rfl) h3 ?_
  refine AW_if_ne (tgt := 13) dX6_sheet_6 (by decide) (fun q7 => ?_) (fun q7 => ?_)
  · have h5 := h2.1 q7
    refine AW_iload_n dX6_sheet_13 rfl ?_
    obtain ⟨r11, m8, h10, h9⟩ := h5
    refine AW_callSI [aI a2] dX6_sheet_14 cs_X6_104 rfl rfl (by decide) rfl (by decide) (Nat.le_of_ble_eq_true rfl) h10 ?_
    refine AW_if_ne (tgt := 24) dX6_sheet_17 (by decide) (fun q14 => ?_) (fun q14 => ?_)
    · have h12 := h9.1 q14
      refine AW_iconst (v := 0) dX6_sheet_24 (by decide) ?_
      obtain ⟨r18, m15, h17, h16⟩ := h12
      refine AW_callVI [aI 0] dX6_sheet_25 cv_X6_86 rfl rfl rfl (by decide) rfl (by decide) (Nat.le_of_ble_eq_true rfl) h17 ?_
      refine AW_if_eq (tgt := 33) dX6_sheet_28 (by decide) (fun q21 => ?_) (fun q21 => ?_)
      · have h19 := h16.1 q21
        refine AW_aload_n dX6_sheet_33 rfl ?_
        refine AW_getv (t := 19) (o := 0) (k := 0) (some (20, none)) (v := aR 20 0) dX6_sheet_34 ff_X6_7 rfl rfl rfl ?_
        refine AW_iconst (v := 1) dX6_sheet_37 (by decide) ?_
        obtain ⟨h22, h23⟩ := h19
        refine AW_iaload dX6_sheet_38 rfl rfl h22 ?_
        refine AW_bipush (v := 8) dX6_sheet_39 (by decide) ?_
        refine AW_icmp_ne (tgt := 53) dX6_sheet_41 (by decide) (fun q26 => ?_) (fun q26 => ?_)
        · have h24 := h23.1 q26
          refine AW_aload_n dX6_sheet_53 rfl ?_
          refine AW_aload_n dX6_sheet_54 rfl ?_
          refine AW_getv (t := 19) (o := 0) (k := 0) (some (20, none)) (v := aR 20 0) dX6_sheet_55 ff_X6_7 rfl rfl rfl ?_
          obtain ⟨m27, h29, h28⟩ := h24
          refine AW_callVV [aR 20 0] dX6_sheet_58 cv_X6_93 rfl rfl rfl (by decide) rfl (by decide) (Nat.le_of_ble_eq_true rfl) h29 ?_
          refine AW_aload_n dX6_sheet_61 rfl ?_
          refine AW_getv (t := 19) (o := 0) (k := 0) (some (20, none)) (v := aR 20 0) dX6_sheet_62 ff_X6_7 rfl rfl rfl ?_
          refine AW_iconst (v := 1) dX6_sheet_65 (by decide) ?_
          obtain ⟨h30, h31⟩ := h28
          refine AW_iaload dX6_sheet_66 rfl rfl h30 ?_
          refine AW_istore_n (loc' := [some (aR 19 0), some (aI a1), some (aI a2), some (aI (m27 20 0 (1 : Int32).toNatClampNeg)), none, none]) dX6_sheet_67 (Nat.le_of_ble_eq_true rfl) rfl rfl ?_
          refine AW_aload_n dX6_sheet_68 rfl ?_
          refine AW_getv (t := 19) (o := 0) (k := 0) (some (20, none)) (v := aR 20 0) dX6_sheet_69 ff_X6_7 rfl rfl rfl ?_
          refine AW_iconst (v := 1) dX6_sheet_72 (by decide) ?_
          refine AW_dup2 dX6_sheet_73 rfl rfl ?_
          obtain ⟨h32, h33⟩ := h31
          refine AW_iaload dX6_sheet_74 rfl rfl h32 ?_
          refine AW_iconst (v := 1) dX6_sheet_75 (by decide) ?_
          refine AW_iadd dX6_sheet_76 ?_
          obtain ⟨h35, h37⟩ := h33
          obtain ⟨m34, em34⟩ : ∃ z : Mem, z = mset m27 20 0 (upd (m27 20 0) (1 : Int32).toNatClampNeg ((m27 20 0 (1 : Int32).toNatClampNeg) + 1)) := ⟨_, rfl⟩
          have h36 := h37 m34 em34
          refine AW_iastore dX6_sheet_77 rfl rfl h35 em34.symm ?_
          refine AW_iconst (v := 0) dX6_sheet_78 (by decide) ?_
          refine AW_istore (loc' := [some (aR 19 0), some (aI a1), some (aI a2), some (aI (m27 20 0 (1 : Int32).toNatClampNeg)), some (aI 0), none]) dX6_sheet_79 (Nat.le_of_ble_eq_true rfl) rfl rfl ?_
          exact h36
        · have h25 := h23.2 q26
          refine AW_aload_n dX6_sheet_44 rfl ?_
          refine AW_iconst (v := 3) dX6_sheet_45 (by decide) ?_
          refine AW_iconst (v := 1) dX6_sheet_46 (by decide) ?_
          refine AW_bipush (v := 8) dX6_sheet_47 (by decide) ?_
          obtain ⟨r41, m38, h40, h39⟩ := h25
          refine AW_callVI [aI 3, aI 1, aI 8] dX6_sheet_49 cv_X6_89 rfl rfl rfl (by decide) rfl (by decide) (Nat.le_of_ble_eq_true rfl) h40 ?_
          exact AW_ireturn (ty := .int) dX6_sheet_52 rfl rfl h39
      · have h20 := h16.2 q21
        refine AW_iconst (v := 0) dX6_sheet_31 (by decide) ?_
        exact AW_ireturn (ty := .int) dX6_sheet_32 rfl rfl h20
    · have h13 := h9.2 q14
      refine AW_iconst (v := 2) dX6_sheet_20 (by decide) ?_
      refine AW_goto (tgt := 25) dX6_sheet_21 (by decide) ?_
      obtain ⟨r45, m42, h44, h43⟩ := h13
      refine AW_callVI [aI 2] dX6_sheet_25 cv_X6_86 rfl rfl rfl (by decide) rfl (by decide) (Nat.le_of_ble_eq_true rfl) h44 ?_
      refine AW_if_eq (tgt := 33) dX6_sheet_28 (by decide) (fun q48 => ?_) (fun q48 => ?_)
      · have h46 := h43.1 q48
        refine AW_aload_n dX6_sheet_33 rfl ?_
        refine AW_getv (t := 19) (o := 0) (k := 0) (some (20, none)) (v := aR 20 0) dX6_sheet_34 ff_X6_7 rfl rfl rfl ?_
        refine AW_iconst (v := 1) dX6_sheet_37 (by decide) ?_
        obtain ⟨h49, h50⟩ := h46
        refine AW_iaload dX6_sheet_38 rfl rfl h49 ?_
        refine AW_bipush (v := 8) dX6_sheet_39 (by decide) ?_
        refine AW_icmp_ne (tgt := 53) dX6_sheet_41 (by decide) (fun q53 => ?_) (fun q53 => ?_)
        · have h51 := h50.1 q53
          refine AW_aload_n dX6_sheet_53 rfl ?_
          refine AW_aload_n dX6_sheet_54 rfl ?_
          refine AW_getv (t := 19) (o := 0) (k := 0) (some (20, none)) (v := aR 20 0) dX6_sheet_55 ff_X6_7 rfl rfl rfl ?_
          obtain ⟨m54, h56, h55⟩ := h51
          refine AW_callVV [aR 20 0] dX6_sheet_58 cv_X6_93 rfl rfl rfl (by decide) rfl (by decide) (Nat.le_of_ble_eq_true rfl) h56 ?_
          refine AW_aload_n dX6_sheet_61 rfl ?_
          refine AW_getv (t := 19) (o := 0) (k := 0) (some (20, none)) (v := aR 20 0) dX6_sheet_62 ff_X6_7 rfl rfl rfl ?_
          refine AW_iconst (v := 1) dX6_sheet_65 (by decide) ?_
          obtain ⟨h57, h58⟩ := h55
          refine AW_iaload dX6_sheet_66 rfl rfl h57 ?_
          refine AW_istore_n (loc' := [some (aR 19 0), some (aI a1), some (aI a2), some (aI (m54 20 0 (1 : Int32).toNatClampNeg)), none, none]) dX6_sheet_67 (Nat.le_of_ble_eq_true rfl) rfl rfl ?_
          refine AW_aload_n dX6_sheet_68 rfl ?_
          refine AW_getv (t := 19) (o := 0) (k := 0) (some (20, none)) (v := aR 20 0) dX6_sheet_69 ff_X6_7 rfl rfl rfl ?_
          refine AW_iconst (v := 1) dX6_sheet_72 (by decide) ?_
          refine AW_dup2 dX6_sheet_73 rfl rfl ?_
          obtain ⟨h59, h60⟩ := h58
          refine AW_iaload dX6_sheet_74 rfl rfl h59 ?_
          refine AW_iconst (v := 1) dX6_sheet_75 (by decide) ?_
          refine AW_iadd dX6_sheet_76 ?_
          obtain ⟨h62, h64⟩ := h60
          obtain ⟨m61, em61⟩ : ∃ z : Mem, z = mset m54 20 0 (upd (m54 20 0) (1 : Int32).toNatClampNeg ((m54 20 0 (1 : Int32).toNatClampNeg) + 1)) := ⟨_, rfl⟩
          have h63 := h64 m61 em61
          refine AW_iastore dX6_sheet_77 rfl rfl h62 em61.symm ?_
          refine AW_iconst (v := 0) dX6_sheet_78 (by decide) ?_
          refine AW_istore (loc' := [some (aR 19 0), some (aI a1), some (aI a2), some (aI (m54 20 0 (1 : Int32).toNatClampNeg)), some (aI 0), none]) dX6_sheet_79 (Nat.le_of_ble_eq_true rfl) rfl rfl ?_
          exact h63
        · have h52 := h50.2 q53
          refine AW_aload_n dX6_sheet_44 rfl ?_
          refine AW_iconst (v := 3) dX6_sheet_45 (by decide) ?_
          refine AW_iconst (v := 1) dX6_sheet_46 (by decide) ?_
          refine AW_bipush (v := 8) dX6_sheet_47 (by decide) ?_
          obtain ⟨r68, m65, h67, h66⟩ := h52
          refine AW_callVI [aI 3, aI 1, aI 8] dX6_sheet_49 cv_X6_89 rfl rfl rfl (by decide) rfl (by decide) (Nat.le_of_ble_eq_true rfl) h67 ?_
          exact AW_ireturn (ty := .int) dX6_sheet_52 rfl rfl h66
      · have h47 := h43.2 q48
        refine AW_iconst (v := 0) dX6_sheet_31 (by decide) ?_
        exact AW_ireturn (ty := .int) dX6_sheet_32 rfl rfl h47
  · have h6 := h2.2 q7
    refine AW_iconst (v := 1) dX6_sheet_9 (by decide) ?_
    refine AW_goto (tgt := 25) dX6_sheet_10 (by decide) ?_
    obtain ⟨r72, m69, h71, h70⟩ := h6
    refine AW_callVI [aI 1] dX6_sheet_25 cv_X6_86 rfl rfl rfl (by decide) rfl (by decide) (Nat.le_of_ble_eq_true rfl) h71 ?_
    refine AW_if_eq (tgt := 33) dX6_sheet_28 (by decide) (fun q75 => ?_) (fun q75 => ?_)
    · have h73 := h70.1 q75
      refine AW_aload_n dX6_sheet_33 rfl ?_
      refine AW_getv (t := 19) (o := 0) (k := 0) (some (20, none)) (v := aR 20 0) dX6_sheet_34 ff_X6_7 rfl rfl rfl ?_
      refine AW_iconst (v := 1) dX6_sheet_37 (by decide) ?_
      obtain ⟨h76, h77⟩ := h73
      refine AW_iaload dX6_sheet_38 rfl rfl h76 ?_
      refine AW_bipush (v := 8) dX6_sheet_39 (by decide) ?_
      refine AW_icmp_ne (tgt := 53) dX6_sheet_41 (by decide) (fun q80 => ?_) (fun q80 => ?_)
      · have h78 := h77.1 q80
        refine AW_aload_n dX6_sheet_53 rfl ?_
        refine AW_aload_n dX6_sheet_54 rfl ?_
        refine AW_getv (t := 19) (o := 0) (k := 0) (some (20, none)) (v := aR 20 0) dX6_sheet_55 ff_X6_7 rfl rfl rfl ?_
        obtain ⟨m81, h83, h82⟩ := h78
        refine AW_callVV [aR 20 0] dX6_sheet_58 cv_X6_93 rfl rfl rfl (by decide) rfl (by decide) (Nat.le_of_ble_eq_true rfl) h83 ?_
        refine AW_aload_n dX6_sheet_61 rfl ?_
        refine AW_getv (t := 19) (o := 0) (k := 0) (some (20, none)) (v := aR 20 0) dX6_sheet_62 ff_X6_7 rfl rfl rfl ?_
        refine AW_iconst (v := 1) dX6_sheet_65 (by decide) ?_
        obtain ⟨h84, h85⟩ := h82
        refine AW_iaload dX6_sheet_66 rfl rfl h84 ?_
        refine AW_istore_n (loc' := [some (aR 19 0), some (aI a1), some (aI a2), some (aI (m81 20 0 (1 : Int32).toNatClampNeg)), none, none]) dX6_sheet_67 (Nat.le_of_ble_eq_true rfl) rfl rfl ?_
        refine AW_aload_n dX6_sheet_68 rfl ?_
        refine AW_getv (t := 19) (o := 0) (k := 0) (some (20, none)) (v := aR 20 0) dX6_sheet_69 ff_X6_7 rfl rfl rfl ?_
        refine AW_iconst (v := 1) dX6_sheet_72 (by decide) ?_
        refine AW_dup2 dX6_sheet_73 rfl rfl ?_
        obtain ⟨h86, h87⟩ := h85
        refine AW_iaload dX6_sheet_74 rfl rfl h86 ?_
        refine AW_iconst (v := 1) dX6_sheet_75 (by decide) ?_
        refine AW_iadd dX6_sheet_76 ?_
        obtain ⟨h89, h91⟩ := h87
        obtain ⟨m88, em88⟩ : ∃ z : Mem, z = mset m81 20 0 (upd (m81 20 0) (1 : Int32).toNatClampNeg ((m81 20 0 (1 : Int32).toNatClampNeg) + 1)) := ⟨_, rfl⟩
        have h90 := h91 m88 em88
        refine AW_iastore dX6_sheet_77 rfl rfl h89 em88.symm ?_
        refine AW_iconst (v := 0) dX6_sheet_78 (by decide) ?_
        refine AW_istore (loc' := [some (aR 19 0), some (aI a1), some (aI a2), some (aI (m81 20 0 (1 : Int32).toNatClampNeg)), some (aI 0), none]) dX6_sheet_79 (Nat.le_of_ble_eq_true rfl) rfl rfl ?_
        exact h90
      · have h79 := h77.2 q80
        refine AW_aload_n dX6_sheet_44 rfl ?_
        refine AW_iconst (v := 3) dX6_sheet_45 (by decide) ?_
        refine AW_iconst (v := 1) dX6_sheet_46 (by decide) ?_
        refine AW_bipush (v := 8) dX6_sheet_47 (by decide) ?_
        obtain ⟨r95, m92, h94, h93⟩ := h79
        refine AW_callVI [aI 3, aI 1, aI 8] dX6_sheet_49 cv_X6_89 rfl rfl rfl (by decide) rfl (by decide) (Nat.le_of_ble_eq_true rfl) h94 ?_
        exact AW_ireturn (ty := .int) dX6_sheet_52 rfl rfl h93
    · have h74 := h70.2 q75
      refine AW_iconst (v := 0) dX6_sheet_31 (by decide) ?_
      exact AW_ireturn (ty := .int) dX6_sheet_32 rfl rfl h74
set_option maxRecDepth 100000 in
theorem B_X6_sheet_81 {a1 : Int32} {a2 : Int32} {a3 : Int32} {a4 : Int32} {μ : Mem} {P : RES → Mem → Prop}  (h : (26 ≤ a4 → ∃ m4 : Mem, MetA M_X6_lays [aR 19 0, aI a3, aI 0, aI a1] μ (rV m4) ∧ (∃ (r10 : Int32) (m7 : Mem), MetA M_X6_letters [aI a2] m4 (rI r10 m7) ∧ (∃ m11 : Mem, MetA M_X6_lays [aR 19 0, aI a3, aI 1, aI r10] m7 (rV m11) ∧ (∃ (r17 : Int32) (m14 : Mem), MetA M_X6_letters [aI a2] m11 (rI r17 m14) ∧ (AW M_X6_sheet 0 130 [some (aR 19 0), some (aI a1), some (aI a2), some (aI a3), some (aI a2), some (aI (r17 - 1))] [] m14 P))))) ∧ (¬ 26 ≤ a4 → ∃ m18 : Mem, MetA M_X6_lays [aR 19 0, aI a3, aI a4, aI 0] μ (rV m18) ∧ (AW M_X6_sheet 0 81 [some (aR 19 0), some (aI a1), some (aI a2), some (aI a3), some (aI (a4 + 1)), none] [] m18 P))) : AW M_X6_sheet 0 81 [some (aR 19 0), some (aI a1), some (aI a2), some (aI a3), some (aI a4), none] [] μ P := by
  refine AW_iload dX6_sheet_81 rfl ?_
  refine AW_bipush (v := 26) dX6_sheet_83 (by decide) ?_
  refine AW_icmp_ge (tgt := 102) dX6_sheet_85 (by decide) (fun q3 => ?_) (fun q3 => ?_)
  · have h1 := h.1 q3
    refine AW_aload_n dX6_sheet_102 rfl ?_
    refine AW_iload_n dX6_sheet_103 rfl ?_
    refine AW_iconst (v := 0) dX6_sheet_104 (by decide) ?_
    refine AW_iload_n dX6_sheet_105 rfl ?_
    obtain ⟨m4, h6, h5⟩ := h1
    refine AW_callVV [aI a3, aI 0, aI a1] dX6_sheet_106 cv_X6_108 rfl rfl rfl (by decide) rfl (by decide) (Nat.le_of_ble_eq_true rfl) h6 ?_
    refine AW_aload_n dX6_sheet_109 rfl ?_
    refine AW_iload_n dX6_sheet_110 rfl ?_
    refine AW_iconst (v := 1) dX6_sheet_111 (by decide) ?_
    refine AW_iload_n dX6_sheet_112 rfl ?_
    obtain ⟨r10, m7, h9, h8⟩ := h5
    refine AW_callSI [aI a2] dX6_sheet_113 cs_X6_104 rfl rfl (by decide) rfl (by decide) (Nat.le_of_ble_eq_true rfl) h9 ?_
    obtain ⟨m11, h13, h12⟩ := h8
    refine AW_callVV [aI a3, aI 1, aI r10] dX6_sheet_116 cv_X6_108 rfl rfl rfl (by decide) rfl (by decide) (Nat.le_of_ble_eq_true rfl) h13 ?_
    refine AW_iload_n dX6_sheet_119 rfl ?_
    refine AW_istore (loc' := [some (aR 19 0), some (aI a1), some (aI a2), some (aI a3), some (aI a2), none]) dX6_sheet_120 (Nat.le_of_ble_eq_true rfl) rfl rfl ?_
    refine AW_iload_n dX6_sheet_122 rfl ?_
    obtain ⟨r17, m14, h16, h15⟩ := h12
    refine AW_callSI [aI a2] dX6_sheet_123 cs_X6_104 rfl rfl (by decide) rfl (by decide) (Nat.le_of_ble_eq_true rfl) h16 ?_
    refine AW_iconst (v := 1) dX6_sheet_126 (by decide) ?_
    refine AW_isub dX6_sheet_127 ?_
    refine AW_istore (loc' := [some (aR 19 0), some (aI a1), some (aI a2), some (aI a3), some (aI a2), some (aI (r17 - 1))]) dX6_sheet_128 (Nat.le_of_ble_eq_true rfl) rfl rfl ?_
    exact h15
  · have h2 := h.2 q3
    refine AW_aload_n dX6_sheet_88 rfl ?_
    refine AW_iload_n dX6_sheet_89 rfl ?_
    refine AW_iload dX6_sheet_90 rfl ?_
    refine AW_iconst (v := 0) dX6_sheet_92 (by decide) ?_
    obtain ⟨m18, h20, h19⟩ := h2
    refine AW_callVV [aI a3, aI a4, aI 0] dX6_sheet_93 cv_X6_108 rfl rfl rfl (by decide) rfl (by decide) (Nat.le_of_ble_eq_true rfl) h20 ?_
    refine AW_iinc (v := a4 + 1) (loc' := [some (aR 19 0), some (aI a1), some (aI a2), some (aI a3), some (aI (a4 + 1)), none]) dX6_sheet_96 rfl rfl (Nat.le_of_ble_eq_true rfl) rfl rfl ?_
    refine AW_goto (tgt := 81) dX6_sheet_99 (by decide) ?_
    exact h19
set_option maxRecDepth 100000 in
theorem B_X6_sheet_130 {a1 : Int32} {a2 : Int32} {a3 : Int32} {a4 : Int32} {a5 : Int32} {μ : Mem} {P : RES → Mem → Prop}  (h : (a5 < 0 → P (.inl (some (aI a3))) μ) ∧ (¬ a5 < 0 → ∃ m4 : Mem, MetA M_X6_lays [aR 19 0, aI a3, aI (2 + a5), aI (a4 - a4 / 10 * 10)] μ (rV m4) ∧ (∃ m7 : Mem, MetA M_X6_lays [aR 19 0, aI a3, aI (10 + a5), aI (a4 - a4 / 10 * 10)] m4 (rV m7) ∧ (AW M_X6_sheet 0 130 [some (aR 19 0), some (aI a1), some (aI a2), some (aI a3), some (aI (a4 / 10)), some (aI (a5 + (-1)))] [] m7 P)))) : AW M_X6_sheet 0 130 [some (aR 19 0), some (aI a1), some (aI a2), some (aI a3), some (aI a4), some (aI a5)] [] μ P := by
  refine AW_iload dX6_sheet_130 rfl ?_
  refine AW_if_lt (tgt := 177) dX6_sheet_132 (by decide) (fun q3 => ?_) (fun q3 => ?_)
  · have h1 := h.1 q3
    refine AW_iload_n dX6_sheet_177 rfl ?_
    exact AW_ireturn (ty := .int) dX6_sheet_178 rfl rfl h1
  · have h2 := h.2 q3
    refine AW_aload_n dX6_sheet_135 rfl ?_
    refine AW_iload_n dX6_sheet_136 rfl ?_
    refine AW_iconst (v := 2) dX6_sheet_137 (by decide) ?_
    refine AW_iload dX6_sheet_138 rfl ?_
    refine AW_iadd dX6_sheet_140 ?_
    refine AW_iload dX6_sheet_141 rfl ?_
    refine AW_bipush (v := 10) dX6_sheet_143 (by decide) ?_
    refine AW_irem dX6_sheet_145 (by decide) ?_
    obtain ⟨m4, h6, h5⟩ := h2
    refine AW_callVV [aI a3, aI (2 + a5), aI (a4 - a4 / 10 * 10)] dX6_sheet_146 cv_X6_108 rfl rfl rfl (by decide) rfl (by decide) (Nat.le_of_ble_eq_true rfl) h6 ?_
    refine AW_aload_n dX6_sheet_149 rfl ?_
    refine AW_iload_n dX6_sheet_150 rfl ?_
    refine AW_bipush (v := 10) dX6_sheet_151 (by decide) ?_
    refine AW_iload dX6_sheet_153 rfl ?_
    refine AW_iadd dX6_sheet_155 ?_
    refine AW_iload dX6_sheet_156 rfl ?_
    refine AW_bipush (v := 10) dX6_sheet_158 (by decide) ?_
    refine AW_irem dX6_sheet_160 (by decide) ?_
    obtain ⟨m7, h9, h8⟩ := h5
    refine AW_callVV [aI a3, aI (10 + a5), aI (a4 - a4 / 10 * 10)] dX6_sheet_161 cv_X6_108 rfl rfl rfl (by decide) rfl (by decide) (Nat.le_of_ble_eq_true rfl) h9 ?_
    refine AW_iload dX6_sheet_164 rfl ?_
    refine AW_bipush (v := 10) dX6_sheet_166 (by decide) ?_
    refine AW_idiv dX6_sheet_168 (by decide) ?_
    refine AW_istore (loc' := [some (aR 19 0), some (aI a1), some (aI a2), some (aI a3), some (aI (a4 / 10)), some (aI a5)]) dX6_sheet_169 (Nat.le_of_ble_eq_true rfl) rfl rfl ?_
    refine AW_iinc (v := a5 + (-1)) (loc' := [some (aR 19 0), some (aI a1), some (aI a2), some (aI a3), some (aI (a4 / 10)), some (aI (a5 + (-1)))]) dX6_sheet_171 rfl rfl (Nat.le_of_ble_eq_true rfl) rfl rfl ?_
    refine AW_goto (tgt := 130) dX6_sheet_174 (by decide) ?_
    exact h8
set_option maxRecDepth 100000 in
theorem B_X6_take_0 {a1 : Int32} {μ : Mem} {P : RES → Mem → Prop}  (h : ∃ (r4 : Int32) (m1 : Mem), MetA M_X6_isSheet [aR 19 0, aI a1] μ (rI r4 m1) ∧ ((r4 = 0 → ∃ (r11 : Int32) (m8 : Mem), MetA M_X6_fails [aR 19 0, aI 1] m1 (rI r11 m8) ∧ ((r11 = 0 → ∃ m15 : Mem, MetA M_X6_keeps [aR 19 0, aR 20 0] m8 (rV m15) ∧ (vp_in 1 240 ∧ (vp_in 1 240 ∧ (∀ m20 : Mem, m20 = mset m15 20 0 (upd (m15 20 0) (1 : Int32).toNatClampNeg ((m15 20 0 (1 : Int32).toNatClampNeg) - 1)) → AW M_X6_take 0 48 [some (aR 19 0), some (aI a1), some (aI (22 + (26 * a1)))] [] m20 P)))) ∧ (¬ r11 = 0 → P (.inl (some (aI 0))) m8))) ∧ (¬ r4 = 0 → ∃ (r27 : Int32) (m24 : Mem), MetA M_X6_fails [aR 19 0, aI 0] m1 (rI r27 m24) ∧ ((r27 = 0 → ∃ m31 : Mem, MetA M_X6_keeps [aR 19 0, aR 20 0] m24 (rV m31) ∧ (vp_in 1 240 ∧ (vp_in 1 240 ∧ (∀ m36 : Mem, m36 = mset m31 20 0 (upd (m31 20 0) (1 : Int32).toNatClampNeg ((m31 20 0 (1 : Int32).toNatClampNeg) - 1)) → AW M_X6_take 0 48 [some (aR 19 0), some (aI a1), some (aI (22 + (26 * a1)))] [] m36 P)))) ∧ (¬ r27 = 0 → P (.inl (some (aI 0))) m24))))) : AW M_X6_take 0 0 [some (aR 19 0), some (aI a1), none] [] μ P := by
  refine AW_aload_n dX6_take_0 rfl ?_
  refine AW_aload_n dX6_take_1 rfl ?_
  refine AW_iload_n dX6_take_2 rfl ?_
  obtain ⟨r4, m1, h3, h2⟩ := h
  refine AW_callVI [aI a1] dX6_take_3 cv_X6_76 rfl rfl rfl (by decide) rfl (by decide) (Nat.le_of_ble_eq_true rfl) h3 ?_
  refine AW_if_eq (tgt := 13) dX6_take_6 (by decide) (fun q7 => ?_) (fun q7 => ?_)
  · have h5 := h2.1 q7
    refine AW_iconst (v := 1) dX6_take_13 (by decide) ?_
    obtain ⟨r11, m8, h10, h9⟩ := h5
    refine AW_callVI [aI 1] dX6_take_14 cv_X6_86 rfl rfl rfl (by decide) rfl (by decide) (Nat.le_of_ble_eq_true rfl) h10 ?_
    refine AW_if_eq (tgt := 22) dX6_take_17 (by decide) (fun q14 => ?_) (fun q14 => ?_)
    · have h12 := h9.1 q14
      refine AW_aload_n dX6_take_22 rfl ?_
      refine AW_aload_n dX6_take_23 rfl ?_
      refine AW_getv (t := 19) (o := 0) (k := 0) (some (20, none)) (v := aR 20 0) dX6_take_24 ff_X6_7 rfl rfl rfl ?_
      obtain ⟨m15, h17, h16⟩ := h12
      refine AW_callVV [aR 20 0] dX6_take_27 cv_X6_93 rfl rfl rfl (by decide) rfl (by decide) (Nat.le_of_ble_eq_true rfl) h17 ?_
      refine AW_aload_n dX6_take_30 rfl ?_
      refine AW_getv (t := 19) (o := 0) (k := 0) (some (20, none)) (v := aR 20 0) dX6_take_31 ff_X6_7 rfl rfl rfl ?_
      refine AW_iconst (v := 1) dX6_take_34 (by decide) ?_
      refine AW_dup2 dX6_take_35 rfl rfl ?_
      obtain ⟨h18, h19⟩ := h16
      refine AW_iaload dX6_take_36 rfl rfl h18 ?_
      refine AW_iconst (v := 1) dX6_take_37 (by decide) ?_
      refine AW_isub dX6_take_38 ?_
      obtain ⟨h21, h23⟩ := h19
      obtain ⟨m20, em20⟩ : ∃ z : Mem, z = mset m15 20 0 (upd (m15 20 0) (1 : Int32).toNatClampNeg ((m15 20 0 (1 : Int32).toNatClampNeg) - 1)) := ⟨_, rfl⟩
      have h22 := h23 m20 em20
      refine AW_iastore dX6_take_39 rfl rfl h21 em20.symm ?_
      refine AW_bipush (v := 22) dX6_take_40 (by decide) ?_
      refine AW_bipush (v := 26) dX6_take_42 (by decide) ?_
      refine AW_iload_n dX6_take_44 rfl ?_
      refine AW_imul dX6_take_45 ?_
      refine AW_iadd dX6_take_46 ?_
      refine AW_istore_n (loc' := [some (aR 19 0), some (aI a1), some (aI (22 + (26 * a1)))]) dX6_take_47 (Nat.le_of_ble_eq_true rfl) rfl rfl ?_
      exact h22
    · have h13 := h9.2 q14
      refine AW_iconst (v := 0) dX6_take_20 (by decide) ?_
      exact AW_ireturn (ty := .int) dX6_take_21 rfl rfl h13
  · have h6 := h2.2 q7
    refine AW_iconst (v := 0) dX6_take_9 (by decide) ?_
    refine AW_goto (tgt := 14) dX6_take_10 (by decide) ?_
    obtain ⟨r27, m24, h26, h25⟩ := h6
    refine AW_callVI [aI 0] dX6_take_14 cv_X6_86 rfl rfl rfl (by decide) rfl (by decide) (Nat.le_of_ble_eq_true rfl) h26 ?_
    refine AW_if_eq (tgt := 22) dX6_take_17 (by decide) (fun q30 => ?_) (fun q30 => ?_)
    · have h28 := h25.1 q30
      refine AW_aload_n dX6_take_22 rfl ?_
      refine AW_aload_n dX6_take_23 rfl ?_
      refine AW_getv (t := 19) (o := 0) (k := 0) (some (20, none)) (v := aR 20 0) dX6_take_24 ff_X6_7 rfl rfl rfl ?_
      obtain ⟨m31, h33, h32⟩ := h28
      refine AW_callVV [aR 20 0] dX6_take_27 cv_X6_93 rfl rfl rfl (by decide) rfl (by decide) (Nat.le_of_ble_eq_true rfl) h33 ?_
      refine AW_aload_n dX6_take_30 rfl ?_
      refine AW_getv (t := 19) (o := 0) (k := 0) (some (20, none)) (v := aR 20 0) dX6_take_31 ff_X6_7 rfl rfl rfl ?_
      refine AW_iconst (v := 1) dX6_take_34 (by decide) ?_
      refine AW_dup2 dX6_take_35 rfl rfl ?_
      obtain ⟨h34, h35⟩ := h32
      refine AW_iaload dX6_take_36 rfl rfl h34 ?_
      refine AW_iconst (v := 1) dX6_take_37 (by decide) ?_
      refine AW_isub dX6_take_38 ?_
      obtain ⟨h37, h39⟩ := h35
      obtain ⟨m36, em36⟩ : ∃ z : Mem, z = mset m31 20 0 (upd (m31 20 0) (1 : Int32).toNatClampNeg ((m31 20 0 (1 : Int32).toNatClampNeg) - 1)) := ⟨_, rfl⟩
      have h38 := h39 m36 em36
      refine AW_iastore dX6_take_39 rfl rfl h37 em36.symm ?_
      refine AW_bipush (v := 22) dX6_take_40 (by decide) ?_
      refine AW_bipush (v := 26) dX6_take_42 (by decide) ?_
      refine AW_iload_n dX6_take_44 rfl ?_
      refine AW_imul dX6_take_45 ?_
      refine AW_iadd dX6_take_46 ?_
      refine AW_istore_n (loc' := [some (aR 19 0), some (aI a1), some (aI (22 + (26 * a1)))]) dX6_take_47 (Nat.le_of_ble_eq_true rfl) rfl rfl ?_
      exact h38
    · have h29 := h25.2 q30
      refine AW_iconst (v := 0) dX6_take_20 (by decide) ?_
      exact AW_ireturn (ty := .int) dX6_take_21 rfl rfl h29
set_option maxRecDepth 100000 in
theorem B_X6_take_48 {a1 : Int32} {a2 : Int32} {μ : Mem} {P : RES → Mem → Prop}  (h : vp_in 1 240 ∧ (((22 + (26 * (μ 20 0 (1 : Int32).toNatClampNeg))) ≤ a2 → AW M_X6_take 0 87 [some (aR 19 0), some (aI a1), some (aI 0)] [] μ P) ∧ (¬ (22 + (26 * (μ 20 0 (1 : Int32).toNatClampNeg))) ≤ a2 → vp_in (a2 + 26) 240 ∧ (vp_in a2 240 ∧ (∀ m8 : Mem, m8 = mset μ 20 0 (upd (μ 20 0) a2.toNatClampNeg (μ 20 0 (a2 + 26).toNatClampNeg)) → AW M_X6_take 0 48 [some (aR 19 0), some (aI a1), some (aI (a2 + 1))] [] m8 P))))) : AW M_X6_take 0 48 [some (aR 19 0), some (aI a1), some (aI a2)] [] μ P := by
  refine AW_iload_n dX6_take_48 rfl ?_
  refine AW_bipush (v := 22) dX6_take_49 (by decide) ?_
  refine AW_bipush (v := 26) dX6_take_51 (by decide) ?_
  refine AW_aload_n dX6_take_53 rfl ?_
  refine AW_getv (t := 19) (o := 0) (k := 0) (some (20, none)) (v := aR 20 0) dX6_take_54 ff_X6_7 rfl rfl rfl ?_
  refine AW_iconst (v := 1) dX6_take_57 (by decide) ?_
  obtain ⟨h1, h2⟩ := h
  refine AW_iaload dX6_take_58 rfl rfl h1 ?_
  refine AW_imul dX6_take_59 ?_
  refine AW_iadd dX6_take_60 ?_
  refine AW_icmp_ge (tgt := 85) dX6_take_61 (by decide) (fun q5 => ?_) (fun q5 => ?_)
  · have h3 := h2.1 q5
    refine AW_iconst (v := 0) dX6_take_85 (by decide) ?_
    refine AW_istore_n (loc' := [some (aR 19 0), some (aI a1), some (aI 0)]) dX6_take_86 (Nat.le_of_ble_eq_true rfl) rfl rfl ?_
    exact h3
  · have h4 := h2.2 q5
    refine AW_aload_n dX6_take_64 rfl ?_
    refine AW_getv (t := 19) (o := 0) (k := 0) (some (20, none)) (v := aR 20 0) dX6_take_65 ff_X6_7 rfl rfl rfl ?_
    refine AW_iload_n dX6_take_68 rfl ?_
    refine AW_aload_n dX6_take_69 rfl ?_
    refine AW_getv (t := 19) (o := 0) (k := 0) (some (20, none)) (v := aR 20 0) dX6_take_70 ff_X6_7 rfl rfl rfl ?_
    refine AW_iload_n dX6_take_73 rfl ?_
    refine AW_bipush (v := 26) dX6_take_74 (by decide) ?_
    refine AW_iadd dX6_take_76 ?_
    obtain ⟨h6, h7⟩ := h4
    refine AW_iaload dX6_take_77 rfl rfl h6 ?_
    obtain ⟨h9, h11⟩ := h7
    obtain ⟨m8, em8⟩ : ∃ z : Mem, z = mset μ 20 0 (upd (μ 20 0) a2.toNatClampNeg (μ 20 0 (a2 + 26).toNatClampNeg)) := ⟨_, rfl⟩
    have h10 := h11 m8 em8
    refine AW_iastore dX6_take_78 rfl rfl h9 em8.symm ?_
    refine AW_iinc (v := a2 + 1) (loc' := [some (aR 19 0), some (aI a1), some (aI (a2 + 1))]) dX6_take_79 rfl rfl (Nat.le_of_ble_eq_true rfl) rfl rfl ?_
    refine AW_goto (tgt := 48) dX6_take_82 (by decide) ?_
    exact h10
set_option maxRecDepth 100000 in
theorem B_X6_take_87 {a1 : Int32} {a2 : Int32} {μ : Mem} {P : RES → Mem → Prop}  (h : (26 ≤ a2 → vp_in 1 240 ∧ (P (.inl (some (aI (μ 20 0 (1 : Int32).toNatClampNeg)))) μ)) ∧ (¬ 26 ≤ a2 → vp_in 1 240 ∧ (∃ m8 : Mem, MetA M_X6_lays [aR 19 0, aI (μ 20 0 (1 : Int32).toNatClampNeg), aI a2, aI 0] μ (rV m8) ∧ (AW M_X6_take 0 87 [some (aR 19 0), some (aI a1), some (aI (a2 + 1))] [] m8 P)))) : AW M_X6_take 0 87 [some (aR 19 0), some (aI a1), some (aI a2)] [] μ P := by
  refine AW_iload_n dX6_take_87 rfl ?_
  refine AW_bipush (v := 26) dX6_take_88 (by decide) ?_
  refine AW_icmp_ge (tgt := 111) dX6_take_90 (by decide) (fun q3 => ?_) (fun q3 => ?_)
  · have h1 := h.1 q3
    refine AW_aload_n dX6_take_111 rfl ?_
    refine AW_getv (t := 19) (o := 0) (k := 0) (some (20, none)) (v := aR 20 0) dX6_take_112 ff_X6_7 rfl rfl rfl ?_
    refine AW_iconst (v := 1) dX6_take_115 (by decide) ?_
    obtain ⟨h4, h5⟩ := h1
    refine AW_iaload dX6_take_116 rfl rfl h4 ?_
    exact AW_ireturn (ty := .int) dX6_take_117 rfl rfl h5
  · have h2 := h.2 q3
    refine AW_aload_n dX6_take_93 rfl ?_
    refine AW_aload_n dX6_take_94 rfl ?_
    refine AW_getv (t := 19) (o := 0) (k := 0) (some (20, none)) (v := aR 20 0) dX6_take_95 ff_X6_7 rfl rfl rfl ?_
    refine AW_iconst (v := 1) dX6_take_98 (by decide) ?_
    obtain ⟨h6, h7⟩ := h2
    refine AW_iaload dX6_take_99 rfl rfl h6 ?_
    refine AW_iload_n dX6_take_100 rfl ?_
    refine AW_iconst (v := 0) dX6_take_101 (by decide) ?_
    obtain ⟨m8, h10, h9⟩ := h7
    refine AW_callVV [aI (μ 20 0 (1 : Int32).toNatClampNeg), aI a2, aI 0] dX6_take_102 cv_X6_108 rfl rfl rfl (by decide) rfl (by decide) (Nat.le_of_ble_eq_true rfl) h10 ?_
    refine AW_iinc (v := a2 + 1) (loc' := [some (aR 19 0), some (aI a1), some (aI (a2 + 1))]) dX6_take_105 rfl rfl (Nat.le_of_ble_eq_true rfl) rfl rfl ?_
    refine AW_goto (tgt := 87) dX6_take_108 (by decide) ?_
    exact h9
set_option maxRecDepth 100000 in
theorem B_X6_misprints_0 {a1 : Int32} {a2 : Int32} {μ : Mem} {P : RES → Mem → Prop}  (h : AW M_X6_misprints 0 5 [some (aR 19 0), some (aI a1), some (aI a2), some (aI 0), some (aI 0)] [] μ P) : AW M_X6_misprints 0 0 [some (aR 19 0), some (aI a1), some (aI a2), none, none] [] μ P := by
  refine AW_iconst (v := 0) dX6_misprints_0 (by decide) ?_
  refine AW_istore_n (loc' := [some (aR 19 0), some (aI a1), some (aI a2), some (aI 0), none]) dX6_misprints_1 (Nat.le_of_ble_eq_true rfl) rfl rfl ?_
  refine AW_iconst (v := 0) dX6_misprints_2 (by decide) ?_
  refine AW_istore (loc' := [some (aR 19 0), some (aI a1), some (aI a2), some (aI 0), some (aI 0)]) dX6_misprints_3 (Nat.le_of_ble_eq_true rfl) rfl rfl ?_
  exact h
set_option maxRecDepth 100000 in
theorem B_X6_misprints_5 {a1 : Int32} {a2 : Int32} {a3 : Int32} {a4 : Int32} {μ : Mem} {P : RES → Mem → Prop}  (h : ∃ (r4 : Int32) (m1 : Mem), MetA M_X6_of [aR 19 0, aI a1, aI 1] μ (rI r4 m1) ∧ ((r4 ≤ a4 → P (.inl (some (aI a3))) m1) ∧ (¬ r4 ≤ a4 → ∃ (r11 : Int32) (m8 : Mem), MetA M_X6_mark [aR 19 0, aI a1, aI a4] m1 (rI r11 m8) ∧ ((r11 < a2 → AW M_X6_misprints 0 5 [some (aR 19 0), some (aI a1), some (aI a2), some (aI (a3 + 0)), some (aI (a4 + 1))] [] m8 P) ∧ (¬ r11 < a2 → AW M_X6_misprints 0 5 [some (aR 19 0), some (aI a1), some (aI a2), some (aI (a3 + 1)), some (aI (a4 + 1))] [] m8 P))))) : AW M_X6_misprints 0 5 [some (aR 19 0), some (aI a1), some (aI a2), some (aI a3), some (aI a4)] [] μ P := by
  refine AW_iload dX6_misprints_5 rfl ?_
  refine AW_aload_n dX6_misprints_7 rfl ?_
  refine AW_iload_n dX6_misprints_8 rfl ?_
  refine AW_iconst (v := 1) dX6_misprints_9 (by decide) ?_
  obtain ⟨r4, m1, h3, h2⟩ := h
  refine AW_callVI [aI a1, aI 1] dX6_misprints_10 cv_X6_80 rfl rfl rfl (by decide) rfl (by decide) (Nat.le_of_ble_eq_true rfl) h3 ?_
  refine AW_icmp_ge (tgt := 41) dX6_misprints_13 (by decide) (fun q7 => ?_) (fun q7 => ?_)
  · have h5 := h2.1 q7
    refine AW_iload_n dX6_misprints_41 rfl ?_
    exact AW_ireturn (ty := .int) dX6_misprints_42 rfl rfl h5
  · have h6 := h2.2 q7
    refine AW_iload_n dX6_misprints_16 rfl ?_
    refine AW_aload_n dX6_misprints_17 rfl ?_
    refine AW_iload_n dX6_misprints_18 rfl ?_
    refine AW_iload dX6_misprints_19 rfl ?_
    obtain ⟨r11, m8, h10, h9⟩ := h6
    refine AW_callVI [aI a1, aI a4] dX6_misprints_21 cv_X6_111 rfl rfl rfl (by decide) rfl (by decide) (Nat.le_of_ble_eq_true rfl) h10 ?_
    refine AW_iload_n dX6_misprints_24 rfl ?_
    refine AW_icmp_lt (tgt := 32) dX6_misprints_25 (by decide) (fun q14 => ?_) (fun q14 => ?_)
    · have h12 := h9.1 q14
      refine AW_iconst (v := 0) dX6_misprints_32 (by decide) ?_
      refine AW_iadd dX6_misprints_33 ?_
      refine AW_istore_n (loc' := [some (aR 19 0), some (aI a1), some (aI a2), some (aI (a3 + 0)), some (aI a4)]) dX6_misprints_34 (Nat.le_of_ble_eq_true rfl) rfl rfl ?_
      refine AW_iinc (v := a4 + 1) (loc' := [some (aR 19 0), some (aI a1), some (aI a2), some (aI (a3 + 0)), some (aI (a4 + 1))]) dX6_misprints_35 rfl rfl (Nat.le_of_ble_eq_true rfl) rfl rfl ?_
      refine AW_goto (tgt := 5) dX6_misprints_38 (by decide) ?_
      exact h12
    · have h13 := h9.2 q14
      refine AW_iconst (v := 1) dX6_misprints_28 (by decide) ?_
      refine AW_goto (tgt := 33) dX6_misprints_29 (by decide) ?_
      refine AW_iadd dX6_misprints_33 ?_
      refine AW_istore_n (loc' := [some (aR 19 0), some (aI a1), some (aI a2), some (aI (a3 + 1)), some (aI a4)]) dX6_misprints_34 (Nat.le_of_ble_eq_true rfl) rfl rfl ?_
      refine AW_iinc (v := a4 + 1) (loc' := [some (aR 19 0), some (aI a1), some (aI a2), some (aI (a3 + 1)), some (aI (a4 + 1))]) dX6_misprints_35 rfl rfl (Nat.le_of_ble_eq_true rfl) rfl rfl ?_
      refine AW_goto (tgt := 5) dX6_misprints_38 (by decide) ?_
      exact h13
set_option maxRecDepth 100000 in
theorem B_X6_set_0 {a1 : Int32} {a2 : Int32} {a3 : Int32} {μ : Mem} {P : RES → Mem → Prop}  (h : ∃ (r4 : Int32) (m1 : Mem), MetA M_X6_isPlace [aR 19 0, aI a1, aI a2] μ (rI r4 m1) ∧ ((¬ r4 = 0 → ∃ (r11 : Int32) (m8 : Mem), MetA M_X6_in [aI a3, aI 97, aI 102] m1 (rI r11 m8) ∧ ((r11 = 0 → AW M_X6_set 0 30 [some (aR 19 0), some (aI a1), some (aI a2), some (aI a3), none] [aI 2, aR 19 0] m8 P) ∧ (¬ r11 = 0 → AW M_X6_set 0 30 [some (aR 19 0), some (aI a1), some (aI a2), some (aI a3), none] [aI 0, aR 19 0] m8 P))) ∧ (r4 = 0 → AW M_X6_set 0 30 [some (aR 19 0), some (aI a1), some (aI a2), some (aI a3), none] [aI 1, aR 19 0] m1 P))) : AW M_X6_set 0 0 [some (aR 19 0), some (aI a1), some (aI a2), some (aI a3), none] [] μ P := by
  refine AW_aload_n dX6_set_0 rfl ?_
  refine AW_aload_n dX6_set_1 rfl ?_
  refine AW_iload_n dX6_set_2 rfl ?_
  refine AW_iload_n dX6_set_3 rfl ?_
  obtain ⟨r4, m1, h3, h2⟩ := h
  refine AW_callVI [aI a1, aI a2] dX6_set_4 cv_X6_114 rfl rfl rfl (by decide) rfl (by decide) (Nat.le_of_ble_eq_true rfl) h3 ?_
  refine AW_if_ne (tgt := 14) dX6_set_7 (by decide) (fun q7 => ?_) (fun q7 => ?_)
  · have h5 := h2.1 q7
    refine AW_iload_n dX6_set_14 rfl ?_
    refine AW_bipush (v := 97) dX6_set_15 (by decide) ?_
    refine AW_bipush (v := 102) dX6_set_17 (by decide) ?_
    obtain ⟨r11, m8, h10, h9⟩ := h5
    refine AW_callSI [aI a3, aI 97, aI 102] dX6_set_19 cs_X6_72 rfl rfl (by decide) rfl (by decide) (Nat.le_of_ble_eq_true rfl) h10 ?_
    refine AW_if_eq (tgt := 29) dX6_set_22 (by decide) (fun q14 => ?_) (fun q14 => ?_)
    · have h12 := h9.1 q14
      refine AW_iconst (v := 2) dX6_set_29 (by decide) ?_
      exact h12
    · have h13 := h9.2 q14
      refine AW_iconst (v := 0) dX6_set_25 (by decide) ?_
      refine AW_goto (tgt := 30) dX6_set_26 (by decide) ?_
      exact h13
  · have h6 := h2.2 q7
    refine AW_iconst (v := 1) dX6_set_10 (by decide) ?_
    refine AW_goto (tgt := 30) dX6_set_11 (by decide) ?_
    exact h6
set_option maxRecDepth 100000 in
theorem B_X6_set_30 {a1 : Int32} {a2 : Int32} {a3 : Int32} {s0 : Int32} {μ : Mem} {P : RES → Mem → Prop}  (h : ∃ (r4 : Int32) (m1 : Mem), MetA M_X6_fails [aR 19 0, aI s0] μ (rI r4 m1) ∧ ((r4 = 0 → ∃ (r11 : Int32) (m8 : Mem), MetA M_X6_of [aR 19 0, aI a1, aI (10 + a2)] m1 (rI r11 m8) ∧ ((¬ r11 = ((a3 - 97) + 1) → ∃ (r18 : Int32) (m15 : Mem), MetA M_X6_of [aR 19 0, aI a1, aI (2 + a2)] m8 (rI r18 m15) ∧ ((¬ r18 = ((a3 - 97) + 1) → ∃ m22 : Mem, MetA M_X6_keeps [aR 19 0, aR 20 0] m15 (rV m22) ∧ (∃ m25 : Mem, MetA M_X6_lays [aR 19 0, aI a1, aI (10 + a2), aI ((a3 - 97) + 1)] m22 (rV m25) ∧ (∃ m28 : Mem, MetA M_X6_lays [aR 19 0, aI a1, aI (18 + a2), aI 1] m25 (rV m28) ∧ (∃ (r34 : Int32) (m31 : Mem), MetA M_X6_misprints [aR 19 0, aI a1, aI 1] m28 (rI r34 m31) ∧ (P (.inl (some (aI r34))) m31))))) ∧ (r18 = ((a3 - 97) + 1) → ∃ (r38 : Int32) (m35 : Mem), MetA M_X6_refuses [aR 19 0, aI 3, aI 3, aI a2] m15 (rI r38 m35) ∧ (P (.inl (some (aI r38))) m35)))) ∧ (r11 = ((a3 - 97) + 1) → ∃ (r42 : Int32) (m39 : Mem), MetA M_X6_refuses [aR 19 0, aI 3, aI 2, aI a2] m8 (rI r42 m39) ∧ (P (.inl (some (aI r42))) m39)))) ∧ (¬ r4 = 0 → P (.inl (some (aI 0))) m1))) : AW M_X6_set 0 30 [some (aR 19 0), some (aI a1), some (aI a2), some (aI a3), none] [aI s0, aR 19 0] μ P := by
  obtain ⟨r4, m1, h3, h2⟩ := h
  refine AW_callVI [aI s0] dX6_set_30 cv_X6_86 rfl rfl rfl (by decide) rfl (by decide) (Nat.le_of_ble_eq_true rfl) h3 ?_
  refine AW_if_eq (tgt := 38) dX6_set_33 (by decide) (fun q7 => ?_) (fun q7 => ?_)
  · have h5 := h2.1 q7
    refine AW_iload_n dX6_set_38 rfl ?_
    refine AW_bipush (v := 97) dX6_set_39 (by decide) ?_
    refine AW_isub dX6_set_41 ?_
    refine AW_iconst (v := 1) dX6_set_42 (by decide) ?_
    refine AW_iadd dX6_set_43 ?_
    refine AW_istore (loc' := [some (aR 19 0), some (aI a1), some (aI a2), some (aI a3), some (aI ((a3 - 97) + 1))]) dX6_set_44 (Nat.le_of_ble_eq_true rfl) rfl rfl ?_
    refine AW_aload_n dX6_set_46 rfl ?_
    refine AW_iload_n dX6_set_47 rfl ?_
    refine AW_bipush (v := 10) dX6_set_48 (by decide) ?_
    refine AW_iload_n dX6_set_50 rfl ?_
    refine AW_iadd dX6_set_51 ?_
    obtain ⟨r11, m8, h10, h9⟩ := h5
    refine AW_callVI [aI a1, aI (10 + a2)] dX6_set_52 cv_X6_80 rfl rfl rfl (by decide) rfl (by decide) (Nat.le_of_ble_eq_true rfl) h10 ?_
    refine AW_iload dX6_set_55 rfl ?_
    refine AW_icmp_ne (tgt := 68) dX6_set_57 (by decide) (fun q14 => ?_) (fun q14 => ?_)
    · have h12 := h9.1 q14
      refine AW_aload_n dX6_set_68 rfl ?_
      refine AW_iload_n dX6_set_69 rfl ?_
      refine AW_iconst (v := 2) dX6_set_70 (by decide) ?_
      refine AW_iload_n dX6_set_71 rfl ?_
      refine AW_iadd dX6_set_72 ?_
      obtain ⟨r18, m15, h17, h16⟩ := h12
      refine AW_callVI [aI a1, aI (2 + a2)] dX6_set_73 cv_X6_80 rfl rfl rfl (by decide) rfl (by decide) (Nat.le_of_ble_eq_true rfl) h17 ?_
      refine AW_iload dX6_set_76 rfl ?_
      refine AW_icmp_ne (tgt := 89) dX6_set_78 (by decide) (fun q21 => ?_) (fun q21 => ?_)
      · have h19 := h16.1 q21
        refine AW_aload_n dX6_set_89 rfl ?_
        refine AW_aload_n dX6_set_90 rfl ?_
        refine AW_getv (t := 19) (o := 0) (k := 0) (some (20, none)) (v := aR 20 0) dX6_set_91 ff_X6_7 rfl rfl rfl ?_
        obtain ⟨m22, h24, h23⟩ := h19
        refine AW_callVV [aR 20 0] dX6_set_94 cv_X6_93 rfl rfl rfl (by decide) rfl (by decide) (Nat.le_of_ble_eq_true rfl) h24 ?_
        refine AW_aload_n dX6_set_97 rfl ?_
        refine AW_iload_n dX6_set_98 rfl ?_
        refine AW_bipush (v := 10) dX6_set_99 (by decide) ?_
        refine AW_iload_n dX6_set_101 rfl ?_
        refine AW_iadd dX6_set_102 ?_
        refine AW_iload dX6_set_103 rfl ?_
        obtain ⟨m25, h27, h26⟩ := h23
        refine AW_callVV [aI a1, aI (10 + a2), aI ((a3 - 97) + 1)] dX6_set_105 cv_X6_108 rfl rfl rfl (by decide) rfl (by decide) (Nat.le_of_ble_eq_true rfl) h27 ?_
        refine AW_aload_n dX6_set_108 rfl ?_
        refine AW_iload_n dX6_set_109 rfl ?_
        refine AW_bipush (v := 18) dX6_set_110 (by decide) ?_
        refine AW_iload_n dX6_set_112 rfl ?_
        refine AW_iadd dX6_set_113 ?_
        refine AW_iconst (v := 1) dX6_set_114 (by decide) ?_
        obtain ⟨m28, h30, h29⟩ := h26
        refine AW_callVV [aI a1, aI (18 + a2), aI 1] dX6_set_115 cv_X6_108 rfl rfl rfl (by decide) rfl (by decide) (Nat.le_of_ble_eq_true rfl) h30 ?_
        refine AW_aload_n dX6_set_118 rfl ?_
        refine AW_iload_n dX6_set_119 rfl ?_
        refine AW_iconst (v := 1) dX6_set_120 (by decide) ?_
        obtain ⟨r34, m31, h33, h32⟩ := h29
        refine AW_callVI [aI a1, aI 1] dX6_set_121 cv_X6_118 rfl rfl rfl (by decide) rfl (by decide) (Nat.le_of_ble_eq_true rfl) h33 ?_
        exact AW_ireturn (ty := .int) dX6_set_124 rfl rfl h32
      · have h20 := h16.2 q21
        refine AW_aload_n dX6_set_81 rfl ?_
        refine AW_iconst (v := 3) dX6_set_82 (by decide) ?_
        refine AW_iconst (v := 3) dX6_set_83 (by decide) ?_
        refine AW_iload_n dX6_set_84 rfl ?_
        obtain ⟨r38, m35, h37, h36⟩ := h20
        refine AW_callVI [aI 3, aI 3, aI a2] dX6_set_85 cv_X6_89 rfl rfl rfl (by decide) rfl (by decide) (Nat.le_of_ble_eq_true rfl) h37 ?_
        exact AW_ireturn (ty := .int) dX6_set_88 rfl rfl h36
    · have h13 := h9.2 q14
      refine AW_aload_n dX6_set_60 rfl ?_
      refine AW_iconst (v := 3) dX6_set_61 (by decide) ?_
      refine AW_iconst (v := 2) dX6_set_62 (by decide) ?_
      refine AW_iload_n dX6_set_63 rfl ?_
      obtain ⟨r42, m39, h41, h40⟩ := h13
      refine AW_callVI [aI 3, aI 2, aI a2] dX6_set_64 cv_X6_89 rfl rfl rfl (by decide) rfl (by decide) (Nat.le_of_ble_eq_true rfl) h41 ?_
      exact AW_ireturn (ty := .int) dX6_set_67 rfl rfl h40
  · have h6 := h2.2 q7
    refine AW_iconst (v := 0) dX6_set_36 (by decide) ?_
    exact AW_ireturn (ty := .int) dX6_set_37 rfl rfl h6
set_option maxRecDepth 100000 in
theorem B_X6_ofHouse_0 {a1 : Int32} {a2 : Int32} {μ : Mem} {P : RES → Mem → Prop}  (h : AW M_X6_ofHouse 0 5 [some (aR 19 0), some (aI a1), some (aI a2), some (aI 0), some (aI 0)] [] μ P) : AW M_X6_ofHouse 0 0 [some (aR 19 0), some (aI a1), some (aI a2), none, none] [] μ P := by
  refine AW_iconst (v := 0) dX6_ofHouse_0 (by decide) ?_
  refine AW_istore_n (loc' := [some (aR 19 0), some (aI a1), some (aI a2), some (aI 0), none]) dX6_ofHouse_1 (Nat.le_of_ble_eq_true rfl) rfl rfl ?_
  refine AW_iconst (v := 0) dX6_ofHouse_2 (by decide) ?_
  refine AW_istore (loc' := [some (aR 19 0), some (aI a1), some (aI a2), some (aI 0), some (aI 0)]) dX6_ofHouse_3 (Nat.le_of_ble_eq_true rfl) rfl rfl ?_
  exact h
set_option maxRecDepth 100000 in
theorem B_X6_ofHouse_5 {a1 : Int32} {a2 : Int32} {a3 : Int32} {a4 : Int32} {μ : Mem} {P : RES → Mem → Prop}  (h : vp_in 1 240 ∧ (((μ 20 0 (1 : Int32).toNatClampNeg) ≤ a4 → P (.inl (some (aI a3))) μ) ∧ (¬ (μ 20 0 (1 : Int32).toNatClampNeg) ≤ a4 → ∃ (r9 : Int32) (m6 : Mem), MetA M_X6_of [aR 19 0, aI a4, aI 0] μ (rI r9 m6) ∧ ((¬ r9 = a1 → AW M_X6_ofHouse 0 5 [some (aR 19 0), some (aI a1), some (aI a2), some (aI (a3 + 0)), some (aI (a4 + 1))] [] m6 P) ∧ (r9 = a1 → ∃ (r16 : Int32) (m13 : Mem), MetA M_X6_misprints [aR 19 0, aI a4, aI a2] m6 (rI r16 m13) ∧ (AW M_X6_ofHouse 0 5 [some (aR 19 0), some (aI a1), some (aI a2), some (aI (a3 + r16)), some (aI (a4 + 1))] [] m13 P)))))) : AW M_X6_ofHouse 0 5 [some (aR 19 0), some (aI a1), some (aI a2), some (aI a3), some (aI a4)] [] μ P := by
  refine AW_iload dX6_ofHouse_5 rfl ?_
  refine AW_aload_n dX6_ofHouse_7 rfl ?_
  refine AW_getv (t := 19) (o := 0) (k := 0) (some (20, none)) (v := aR 20 0) dX6_ofHouse_8 ff_X6_7 rfl rfl rfl ?_
  refine AW_iconst (v := 1) dX6_ofHouse_11 (by decide) ?_
  obtain ⟨h1, h2⟩ := h
  refine AW_iaload dX6_ofHouse_12 rfl rfl h1 ?_
  refine AW_icmp_ge (tgt := 47) dX6_ofHouse_13 (by decide) (fun q5 => ?_) (fun q5 => ?_)
  · have h3 := h2.1 q5
    refine AW_iload_n dX6_ofHouse_47 rfl ?_
    exact AW_ireturn (ty := .int) dX6_ofHouse_48 rfl rfl h3
  · have h4 := h2.2 q5
    refine AW_iload_n dX6_ofHouse_16 rfl ?_
    refine AW_aload_n dX6_ofHouse_17 rfl ?_
    refine AW_iload dX6_ofHouse_18 rfl ?_
    refine AW_iconst (v := 0) dX6_ofHouse_20 (by decide) ?_
    obtain ⟨r9, m6, h8, h7⟩ := h4
    refine AW_callVI [aI a4, aI 0] dX6_ofHouse_21 cv_X6_80 rfl rfl rfl (by decide) rfl (by decide) (Nat.le_of_ble_eq_true rfl) h8 ?_
    refine AW_iload_n dX6_ofHouse_24 rfl ?_
    refine AW_icmp_ne (tgt := 38) dX6_ofHouse_25 (by decide) (fun q12 => ?_) (fun q12 => ?_)
    · have h10 := h7.1 q12
      refine AW_iconst (v := 0) dX6_ofHouse_38 (by decide) ?_
      refine AW_iadd dX6_ofHouse_39 ?_
      refine AW_istore_n (loc' := [some (aR 19 0), some (aI a1), some (aI a2), some (aI (a3 + 0)), some (aI a4)]) dX6_ofHouse_40 (Nat.le_of_ble_eq_true rfl) rfl rfl ?_
      refine AW_iinc (v := a4 + 1) (loc' := [some (aR 19 0), some (aI a1), some (aI a2), some (aI (a3 + 0)), some (aI (a4 + 1))]) dX6_ofHouse_41 rfl rfl (Nat.le_of_ble_eq_true rfl) rfl rfl ?_
      refine AW_goto (tgt := 5) dX6_ofHouse_44 (by decide) ?_
      exact h10
    · have h11 := h7.2 q12
      refine AW_aload_n dX6_ofHouse_28 rfl ?_
      refine AW_iload dX6_ofHouse_29 rfl ?_
      refine AW_iload_n dX6_ofHouse_31 rfl ?_
      obtain ⟨r16, m13, h15, h14⟩ := h11
      refine AW_callVI [aI a4, aI a2] dX6_ofHouse_32 cv_X6_118 rfl rfl rfl (by decide) rfl (by decide) (Nat.le_of_ble_eq_true rfl) h15 ?_
      refine AW_goto (tgt := 39) dX6_ofHouse_35 (by decide) ?_
      refine AW_iadd dX6_ofHouse_39 ?_
      refine AW_istore_n (loc' := [some (aR 19 0), some (aI a1), some (aI a2), some (aI (a3 + r16)), some (aI a4)]) dX6_ofHouse_40 (Nat.le_of_ble_eq_true rfl) rfl rfl ?_
      refine AW_iinc (v := a4 + 1) (loc' := [some (aR 19 0), some (aI a1), some (aI a2), some (aI (a3 + r16)), some (aI (a4 + 1))]) dX6_ofHouse_41 rfl rfl (Nat.le_of_ble_eq_true rfl) rfl rfl ?_
      refine AW_goto (tgt := 5) dX6_ofHouse_44 (by decide) ?_
      exact h14
set_option maxRecDepth 100000 in
theorem B_X6_price_0 {a1 : Int32} {μ : Mem} {P : RES → Mem → Prop}  (h : ∃ (r4 : Int32) (m1 : Mem), MetA M_X6_ofHouse [aR 19 0, aI a1, aI 2] μ (rI r4 m1) ∧ (P (.inl (some (aI (2 + r4)))) m1)) : AW M_X6_price 0 0 [some (aR 19 0), some (aI a1)] [] μ P := by
  refine AW_iconst (v := 2) dX6_price_0 (by decide) ?_
  refine AW_aload_n dX6_price_1 rfl ?_
  refine AW_iload_n dX6_price_2 rfl ?_
  refine AW_iconst (v := 2) dX6_price_3 (by decide) ?_
  obtain ⟨r4, m1, h3, h2⟩ := h
  refine AW_callVI [aI a1, aI 2] dX6_price_4 cv_X6_121 rfl rfl rfl (by decide) rfl (by decide) (Nat.le_of_ble_eq_true rfl) h3 ?_
  refine AW_iadd dX6_price_7 ?_
  exact AW_ireturn (ty := .int) dX6_price_8 rfl rfl h2
set_option maxRecDepth 100000 in
theorem B_X6_isAshamed_0 {a1 : Int32} {μ : Mem} {P : RES → Mem → Prop}  (h : ∃ (r4 : Int32) (m1 : Mem), MetA M_X6_by [aR 19 0, aI a1, aI 1] μ (rI r4 m1) ∧ ((r4 ≤ 20 → P (.inl (some (aI 0))) m1) ∧ (¬ r4 ≤ 20 → P (.inl (some (aI 1))) m1))) : AW M_X6_isAshamed 0 0 [some (aR 19 0), some (aI a1)] [] μ P := by
  refine AW_aload_n dX6_isAshamed_0 rfl ?_
  refine AW_iload_n dX6_isAshamed_1 rfl ?_
  refine AW_iconst (v := 1) dX6_isAshamed_2 (by decide) ?_
  obtain ⟨r4, m1, h3, h2⟩ := h
  refine AW_callVI [aI a1, aI 1] dX6_isAshamed_3 cv_X6_65 rfl rfl rfl (by decide) rfl (by decide) (Nat.le_of_ble_eq_true rfl) h3 ?_
  refine AW_bipush (v := 20) dX6_isAshamed_6 (by decide) ?_
  refine AW_icmp_le (tgt := 15) dX6_isAshamed_8 (by decide) (fun q7 => ?_) (fun q7 => ?_)
  · have h5 := h2.1 q7
    refine AW_iconst (v := 0) dX6_isAshamed_15 (by decide) ?_
    exact AW_ireturn (ty := .boolean) dX6_isAshamed_16 rfl rfl h5
  · have h6 := h2.2 q7
    refine AW_iconst (v := 1) dX6_isAshamed_11 (by decide) ?_
    refine AW_goto (tgt := 16) dX6_isAshamed_12 (by decide) ?_
    exact AW_ireturn (ty := .boolean) dX6_isAshamed_16 rfl rfl h6
set_option maxRecDepth 100000 in
theorem B_X6_license_0 {a1 : Int32} {a2 : Int32} {μ : Mem} {P : RES → Mem → Prop}  (h : ∃ (r4 : Int32) (m1 : Mem), MetA M_X6_isPlace [aR 19 0, aI a1, aI a2] μ (rI r4 m1) ∧ ((r4 = 0 → AW M_X6_license 0 15 [some (aR 19 0), some (aI a1), some (aI a2), none, none] [aI 1, aR 19 0] m1 P) ∧ (¬ r4 = 0 → AW M_X6_license 0 15 [some (aR 19 0), some (aI a1), some (aI a2), none, none] [aI 0, aR 19 0] m1 P))) : AW M_X6_license 0 0 [some (aR 19 0), some (aI a1), some (aI a2), none, none] [] μ P := by
  refine AW_aload_n dX6_license_0 rfl ?_
  refine AW_aload_n dX6_license_1 rfl ?_
  refine AW_iload_n dX6_license_2 rfl ?_
  refine AW_iload_n dX6_license_3 rfl ?_
  obtain ⟨r4, m1, h3, h2⟩ := h
  refine AW_callVI [aI a1, aI a2] dX6_license_4 cv_X6_114 rfl rfl rfl (by decide) rfl (by decide) (Nat.le_of_ble_eq_true rfl) h3 ?_
  refine AW_if_eq (tgt := 14) dX6_license_7 (by decide) (fun q7 => ?_) (fun q7 => ?_)
  · have h5 := h2.1 q7
    refine AW_iconst (v := 1) dX6_license_14 (by decide) ?_
    exact h5
  · have h6 := h2.2 q7
    refine AW_iconst (v := 0) dX6_license_10 (by decide) ?_
    refine AW_goto (tgt := 15) dX6_license_11 (by decide) ?_
    exact h6
set_option maxRecDepth 100000 in
theorem B_X6_license_15 {a1 : Int32} {a2 : Int32} {s0 : Int32} {μ : Mem} {P : RES → Mem → Prop}  (h : ∃ (r4 : Int32) (m1 : Mem), MetA M_X6_fails [aR 19 0, aI s0] μ (rI r4 m1) ∧ ((r4 = 0 → ∃ (r11 : Int32) (m8 : Mem), MetA M_X6_of [aR 19 0, aI a1, aI 0] m1 (rI r11 m8) ∧ (∃ (r15 : Int32) (m12 : Mem), MetA M_X6_mark [aR 19 0, aI a1, aI a2] m8 (rI r15 m12) ∧ ((¬ r15 = 0 → ∃ (r22 : Int32) (m19 : Mem), MetA M_X6_mark [aR 19 0, aI a1, aI a2] m12 (rI r22 m19) ∧ ((r22 ≤ 1 → ∃ (r29 : Int32) (m26 : Mem), MetA M_X6_isAshamed [aR 19 0, aI r11] m19 (rI r29 m26) ∧ ((r29 = 0 → ∃ (r36 : Int32) (m33 : Mem), MetA M_X6_price [aR 19 0, aI r11] m26 (rI r36 m33) ∧ (∃ (r40 : Int32) (m37 : Mem), MetA M_X6_by [aR 19 0, aI r11, aI 0] m33 (rI r40 m37) ∧ ((r36 ≤ r40 → ∃ m44 : Mem, MetA M_X6_keeps [aR 19 0, aR 20 0] m37 (rV m44) ∧ (∃ m47 : Mem, MetA M_X6_adds [aR 19 0, aI r11, aI 0, aI (-r36)] m44 (rV m47) ∧ (vp_in 7 240 ∧ (vp_in 7 240 ∧ (∀ m52 : Mem, m52 = mset m47 20 0 (upd (m47 20 0) (7 : Int32).toNatClampNeg ((m47 20 0 (7 : Int32).toNatClampNeg) + r36)) → ∃ m56 : Mem, MetA M_X6_lays [aR 19 0, aI a1, aI (18 + a2), aI 2] m52 (rV m56) ∧ (P (.inl (some (aI r36))) m56)))))) ∧ (¬ r36 ≤ r40 → ∃ (r62 : Int32) (m59 : Mem), MetA M_X6_by [aR 19 0, aI r11, aI 0] m37 (rI r62 m59) ∧ (∃ (r66 : Int32) (m63 : Mem), MetA M_X6_refuses [aR 19 0, aI 2, aI 7, aI r62] m59 (rI r66 m63) ∧ (P (.inl (some (aI r66))) m63)))))) ∧ (¬ r29 = 0 → ∃ (r70 : Int32) (m67 : Mem), MetA M_X6_by [aR 19 0, aI r11, aI 1] m26 (rI r70 m67) ∧ (∃ (r74 : Int32) (m71 : Mem), MetA M_X6_refuses [aR 19 0, aI 2, aI 6, aI r70] m67 (rI r74 m71) ∧ (P (.inl (some (aI r74))) m71))))) ∧ (¬ r22 ≤ 1 → ∃ (r78 : Int32) (m75 : Mem), MetA M_X6_refuses [aR 19 0, aI 2, aI 5, aI a2] m19 (rI r78 m75) ∧ (P (.inl (some (aI r78))) m75)))) ∧ (r15 = 0 → ∃ (r82 : Int32) (m79 : Mem), MetA M_X6_refuses [aR 19 0, aI 2, aI 4, aI a2] m12 (rI r82 m79) ∧ (P (.inl (some (aI r82))) m79))))) ∧ (¬ r4 = 0 → P (.inl (some (aI 0))) m1))) : AW M_X6_license 0 15 [some (aR 19 0), some (aI a1), some (aI a2), none, none] [aI s0, aR 19 0] μ P := by
  obtain ⟨r4, m1, h3, h2⟩ := h
  refine AW_callVI [aI s0] dX6_license_15 cv_X6_86 rfl rfl rfl (by decide) rfl (by decide) (Nat.le_of_ble_eq_true rfl) h3 ?_
  refine AW_if_eq (tgt := 23) dX6_license_18 (by decide) (fun q7 => ?_) (fun q7 => ?_)
  · have h5 := h2.1 q7
    refine AW_aload_n dX6_license_23 rfl ?_
    refine AW_iload_n dX6_license_24 rfl ?_
    refine AW_iconst (v := 0) dX6_license_25 (by decide) ?_
    obtain ⟨r11, m8, h10, h9⟩ := h5
    refine AW_callVI [aI a1, aI 0] dX6_license_26 cv_X6_80 rfl rfl rfl (by decide) rfl (by decide) (Nat.le_of_ble_eq_true rfl) h10 ?_
    refine AW_istore_n (loc' := [some (aR 19 0), some (aI a1), some (aI a2), some (aI r11), none]) dX6_license_29 (Nat.le_of_ble_eq_true rfl) rfl rfl ?_
    refine AW_aload_n dX6_license_30 rfl ?_
    refine AW_iload_n dX6_license_31 rfl ?_
    refine AW_iload_n dX6_license_32 rfl ?_
    obtain ⟨r15, m12, h14, h13⟩ := h9
    refine AW_callVI [aI a1, aI a2] dX6_license_33 cv_X6_111 rfl rfl rfl (by decide) rfl (by decide) (Nat.le_of_ble_eq_true rfl) h14 ?_
    refine AW_if_ne (tgt := 47) dX6_license_36 (by decide) (fun q18 => ?_) (fun q18 => ?_)
    · have h16 := h13.1 q18
      refine AW_aload_n dX6_license_47 rfl ?_
      refine AW_iload_n dX6_license_48 rfl ?_
      refine AW_iload_n dX6_license_49 rfl ?_
      obtain ⟨r22, m19, h21, h20⟩ := h16
      refine AW_callVI [aI a1, aI a2] dX6_license_50 cv_X6_111 rfl rfl rfl (by decide) rfl (by decide) (Nat.le_of_ble_eq_true rfl) h21 ?_
      refine AW_iconst (v := 1) dX6_license_53 (by decide) ?_
      refine AW_icmp_le (tgt := 65) dX6_license_54 (by decide) (fun q25 => ?_) (fun q25 => ?_)
      · have h23 := h20.1 q25
        refine AW_aload_n dX6_license_65 rfl ?_
        refine AW_iload_n dX6_license_66 rfl ?_
        obtain ⟨r29, m26, h28, h27⟩ := h23
        refine AW_callVI [aI r11] dX6_license_67 cv_X6_124 rfl rfl rfl (by decide) rfl (by decide) (Nat.le_of_ble_eq_true rfl) h28 ?_
        refine AW_if_eq (tgt := 87) dX6_license_70 (by decide) (fun q32 => ?_) (fun q32 => ?_)
        · have h30 := h27.1 q32
          refine AW_aload_n dX6_license_87 rfl ?_
          refine AW_iload_n dX6_license_88 rfl ?_
          obtain ⟨r36, m33, h35, h34⟩ := h30
          refine AW_callVI [aI r11] dX6_license_89 cv_X6_127 rfl rfl rfl (by decide) rfl (by decide) (Nat.le_of_ble_eq_true rfl) h35 ?_
          refine AW_istore (loc' := [some (aR 19 0), some (aI a1), some (aI a2), some (aI r11), some (aI r36)]) dX6_license_92 (Nat.le_of_ble_eq_true rfl) rfl rfl ?_
          refine AW_aload_n dX6_license_94 rfl ?_
          refine AW_iload_n dX6_license_95 rfl ?_
          refine AW_iconst (v := 0) dX6_license_96 (by decide) ?_
          obtain ⟨r40, m37, h39, h38⟩ := h34
          refine AW_callVI [aI r11, aI 0] dX6_license_97 cv_X6_65 rfl rfl rfl (by decide) rfl (by decide) (Nat.le_of_ble_eq_true rfl) h39 ?_
          refine AW_iload dX6_license_100 rfl ?_
          refine AW_icmp_ge (tgt := 119) dX6_license_102 (by decide) (fun q43 => ?_) (fun q43 => ?_)
          · have h41 := h38.1 q43
            refine AW_aload_n dX6_license_119 rfl ?_
            refine AW_aload_n dX6_license_120 rfl ?_
            refine AW_getv (t := 19) (o := 0) (k := 0) (some (20, none)) (v := aR 20 0) dX6_license_121 ff_X6_7 rfl rfl rfl ?_
            obtain ⟨m44, h46, h45⟩ := h41
            refine AW_callVV [aR 20 0] dX6_license_124 cv_X6_93 rfl rfl rfl (by decide) rfl (by decide) (Nat.le_of_ble_eq_true rfl) h46 ?_
            refine AW_aload_n dX6_license_127 rfl ?_
            refine AW_iload_n dX6_license_128 rfl ?_
            refine AW_iconst (v := 0) dX6_license_129 (by decide) ?_
            refine AW_iload dX6_license_130 rfl ?_
            refine AW_ineg dX6_license_132 ?_
            obtain ⟨m47, h49, h48⟩ := h45
            refine AW_callVV [aI r11, aI 0, aI (-r36)] dX6_license_133 cv_X6_97 rfl rfl rfl (by decide) rfl (by decide) (Nat.le_of_ble_eq_true rfl) h49 ?_
            refine AW_aload_n dX6_license_136 rfl ?_
            refine AW_getv (t := 19) (o := 0) (k := 0) (some (20, none)) (v := aR 20 0) dX6_license_137 ff_X6_7 rfl rfl rfl ?_
            refine AW_bipush (v := 7) dX6_license_140 (by decide) ?_
            refine AW_dup2 dX6_license_142 rfl rfl ?_
            obtain ⟨h50, h51⟩ := h48
            refine AW_iaload dX6_license_143 rfl rfl h50 ?_
            refine AW_iload dX6_license_144 rfl ?_
            refine AW_iadd dX6_license_146 ?_
            obtain ⟨h53, h55⟩ := h51
            obtain ⟨m52, em52⟩ : ∃ z : Mem, z = mset m47 20 0 (upd (m47 20 0) (7 : Int32).toNatClampNeg ((m47 20 0 (7 : Int32).toNatClampNeg) + r36)) := ⟨_, rfl⟩
            have h54 := h55 m52 em52
            refine AW_iastore dX6_license_147 rfl rfl h53 em52.symm ?_
            refine AW_aload_n dX6_license_148 rfl ?_
            refine AW_iload_n dX6_license_149 rfl ?_
            refine AW_bipush (v := 18) dX6_license_150 (by decide) ?_
            refine AW_iload_n dX6_license_152 rfl ?_
            refine AW_iadd dX6_license_153 ?_
            refine AW_iconst (v := 2) dX6_license_154 (by decide) ?_
            obtain ⟨m56, h58, h57⟩ := h54
            refine AW_callVV [aI a1, aI (18 + a2), aI 2] dX6_license_155 cv_X6_108 rfl rfl rfl (by decide) rfl (by decide) (Nat.le_of_ble_eq_true rfl) h58 ?_
            refine AW_iload dX6_license_158 rfl ?_
            exact AW_ireturn (ty := .int) dX6_license_160 rfl rfl h57
          · have h42 := h38.2 q43
            refine AW_aload_n dX6_license_105 rfl ?_
            refine AW_iconst (v := 2) dX6_license_106 (by decide) ?_
            refine AW_bipush (v := 7) dX6_license_107 (by decide) ?_
            refine AW_aload_n dX6_license_109 rfl ?_
            refine AW_iload_n dX6_license_110 rfl ?_
            refine AW_iconst (v := 0) dX6_license_111 (by decide) ?_
            obtain ⟨r62, m59, h61, h60⟩ := h42
            refine AW_callVI [aI r11, aI 0] dX6_license_112 cv_X6_65 rfl rfl rfl (by decide) rfl (by decide) (Nat.le_of_ble_eq_true rfl) h61 ?_
            obtain ⟨r66, m63, h65, h64⟩ := h60
            refine AW_callVI [aI 2, aI 7, aI r62] dX6_license_115 cv_X6_89 rfl rfl rfl (by decide) rfl (by decide) (Nat.le_of_ble_eq_true rfl) h65 ?_
            exact AW_ireturn (ty := .int) dX6_license_118 rfl rfl h64
        · have h31 := h27.2 q32
          refine AW_aload_n dX6_license_73 rfl ?_
          refine AW_iconst (v := 2) dX6_license_74 (by decide) ?_
          refine AW_bipush (v := 6) dX6_license_75 (by decide) ?_
          refine AW_aload_n dX6_license_77 rfl ?_
          refine AW_iload_n dX6_license_78 rfl ?_
          refine AW_iconst (v := 1) dX6_license_79 (by decide) ?_
          obtain ⟨r70, m67, h69, h68⟩ := h31
          refine AW_callVI [aI r11, aI 1] dX6_license_80 cv_X6_65 rfl rfl rfl (by decide) rfl (by decide) (Nat.le_of_ble_eq_true rfl) h69 ?_
          obtain ⟨r74, m71, h73, h72⟩ := h68
          refine AW_callVI [aI 2, aI 6, aI r70] dX6_license_83 cv_X6_89 rfl rfl rfl (by decide) rfl (by decide) (Nat.le_of_ble_eq_true rfl) h73 ?_
          exact AW_ireturn (ty := .int) dX6_license_86 rfl rfl h72
      · have h24 := h20.2 q25
        refine AW_aload_n dX6_license_57 rfl ?_
        refine AW_iconst (v := 2) dX6_license_58 (by decide) ?_
        refine AW_iconst (v := 5) dX6_license_59 (by decide) ?_
        refine AW_iload_n dX6_license_60 rfl ?_
        obtain ⟨r78, m75, h77, h76⟩ := h24
        refine AW_callVI [aI 2, aI 5, aI a2] dX6_license_61 cv_X6_89 rfl rfl rfl (by decide) rfl (by decide) (Nat.le_of_ble_eq_true rfl) h77 ?_
        exact AW_ireturn (ty := .int) dX6_license_64 rfl rfl h76
    · have h17 := h13.2 q18
      refine AW_aload_n dX6_license_39 rfl ?_
      refine AW_iconst (v := 2) dX6_license_40 (by decide) ?_
      refine AW_iconst (v := 4) dX6_license_41 (by decide) ?_
      refine AW_iload_n dX6_license_42 rfl ?_
      obtain ⟨r82, m79, h81, h80⟩ := h17
      refine AW_callVI [aI 2, aI 4, aI a2] dX6_license_43 cv_X6_89 rfl rfl rfl (by decide) rfl (by decide) (Nat.le_of_ble_eq_true rfl) h81 ?_
      exact AW_ireturn (ty := .int) dX6_license_46 rfl rfl h80
  · have h6 := h2.2 q7
    refine AW_iconst (v := 0) dX6_license_21 (by decide) ?_
    exact AW_ireturn (ty := .int) dX6_license_22 rfl rfl h6
set_option maxRecDepth 100000 in
theorem B_X6_fineAt_0 {a1 : Int32} {a2 : Int32} {μ : Mem} {P : RES → Mem → Prop}  (h : ∃ (r4 : Int32) (m1 : Mem), MetA M_X6_mark [aR 19 0, aI a1, aI a2] μ (rI r4 m1) ∧ ((¬ r4 = 0 → ∃ (r11 : Int32) (m8 : Mem), MetA M_X6_bad [aR 19 0, aI a1, aI a2] m1 (rI r11 m8) ∧ ((r4 ≤ 1 → (¬ r4 = 3 → P (.inl (some (aI (((1 + r11) + 0) * 1)))) m8) ∧ (r4 = 3 → P (.inl (some (aI (((1 + r11) + 0) * 2)))) m8)) ∧ (¬ r4 ≤ 1 → (¬ r4 = 3 → P (.inl (some (aI (((1 + r11) + 2) * 1)))) m8) ∧ (r4 = 3 → P (.inl (some (aI (((1 + r11) + 2) * 2)))) m8)))) ∧ (r4 = 0 → P (.inl (some (aI 0))) m1))) : AW M_X6_fineAt 0 0 [some (aR 19 0), some (aI a1), some (aI a2), none] [] μ P := by
  refine AW_aload_n dX6_fineAt_0 rfl ?_
  refine AW_iload_n dX6_fineAt_1 rfl ?_
  refine AW_iload_n dX6_fineAt_2 rfl ?_
  obtain ⟨r4, m1, h3, h2⟩ := h
  refine AW_callVI [aI a1, aI a2] dX6_fineAt_3 cv_X6_111 rfl rfl rfl (by decide) rfl (by decide) (Nat.le_of_ble_eq_true rfl) h3 ?_
  refine AW_istore_n (loc' := [some (aR 19 0), some (aI a1), some (aI a2), some (aI r4)]) dX6_fineAt_6 (Nat.le_of_ble_eq_true rfl) rfl rfl ?_
  refine AW_iload_n dX6_fineAt_7 rfl ?_
  refine AW_if_ne (tgt := 15) dX6_fineAt_8 (by decide) (fun q7 => ?_) (fun q7 => ?_)
  · have h5 := h2.1 q7
    refine AW_iconst (v := 1) dX6_fineAt_15 (by decide) ?_
    refine AW_aload_n dX6_fineAt_16 rfl ?_
    refine AW_iload_n dX6_fineAt_17 rfl ?_
    refine AW_iload_n dX6_fineAt_18 rfl ?_
    obtain ⟨r11, m8, h10, h9⟩ := h5
    refine AW_callVI [aI a1, aI a2] dX6_fineAt_19 cv_X6_130 rfl rfl rfl (by decide) rfl (by decide) (Nat.le_of_ble_eq_true rfl) h10 ?_
    refine AW_iadd dX6_fineAt_22 ?_
    refine AW_iload_n dX6_fineAt_23 rfl ?_
    refine AW_iconst (v := 1) dX6_fineAt_24 (by decide) ?_
    refine AW_icmp_le (tgt := 32) dX6_fineAt_25 (by decide) (fun q14 => ?_) (fun q14 => ?_)
    · have h12 := h9.1 q14
      refine AW_iconst (v := 0) dX6_fineAt_32 (by decide) ?_
      refine AW_iadd dX6_fineAt_33 ?_
      refine AW_iload_n dX6_fineAt_34 rfl ?_
      refine AW_iconst (v := 3) dX6_fineAt_35 (by decide) ?_
      refine AW_icmp_ne (tgt := 43) dX6_fineAt_36 (by decide) (fun q17 => ?_) (fun q17 => ?_)
      · have h15 := h12.1 q17
        refine AW_iconst (v := 1) dX6_fineAt_43 (by decide) ?_
        refine AW_imul dX6_fineAt_44 ?_
        exact AW_ireturn (ty := .int) dX6_fineAt_45 rfl rfl h15
      · have h16 := h12.2 q17
        refine AW_iconst (v := 2) dX6_fineAt_39 (by decide) ?_
        refine AW_goto (tgt := 44) dX6_fineAt_40 (by decide) ?_
        refine AW_imul dX6_fineAt_44 ?_
        exact AW_ireturn (ty := .int) dX6_fineAt_45 rfl rfl h16
    · have h13 := h9.2 q14
      refine AW_iconst (v := 2) dX6_fineAt_28 (by decide) ?_
      refine AW_goto (tgt := 33) dX6_fineAt_29 (by decide) ?_
      refine AW_iadd dX6_fineAt_33 ?_
      refine AW_iload_n dX6_fineAt_34 rfl ?_
      refine AW_iconst (v := 3) dX6_fineAt_35 (by decide) ?_
      refine AW_icmp_ne (tgt := 43) dX6_fineAt_36 (by decide) (fun q20 => ?_) (fun q20 => ?_)
      · have h18 := h13.1 q20
        refine AW_iconst (v := 1) dX6_fineAt_43 (by decide) ?_
        refine AW_imul dX6_fineAt_44 ?_
        exact AW_ireturn (ty := .int) dX6_fineAt_45 rfl rfl h18
      · have h19 := h13.2 q20
        refine AW_iconst (v := 2) dX6_fineAt_39 (by decide) ?_
        refine AW_goto (tgt := 44) dX6_fineAt_40 (by decide) ?_
        refine AW_imul dX6_fineAt_44 ?_
        exact AW_ireturn (ty := .int) dX6_fineAt_45 rfl rfl h19
  · have h6 := h2.2 q7
    refine AW_iconst (v := 0) dX6_fineAt_11 (by decide) ?_
    refine AW_goto (tgt := 45) dX6_fineAt_12 (by decide) ?_
    exact AW_ireturn (ty := .int) dX6_fineAt_45 rfl rfl h6
set_option maxRecDepth 100000 in
theorem B_X6_correct_0 {a1 : Int32} {a2 : Int32} {μ : Mem} {P : RES → Mem → Prop}  (h : ∃ (r4 : Int32) (m1 : Mem), MetA M_X6_isPlace [aR 19 0, aI a1, aI a2] μ (rI r4 m1) ∧ ((r4 = 0 → AW M_X6_correct 0 15 [some (aR 19 0), some (aI a1), some (aI a2), none, none] [aI 1, aR 19 0] m1 P) ∧ (¬ r4 = 0 → AW M_X6_correct 0 15 [some (aR 19 0), some (aI a1), some (aI a2), none, none] [aI 0, aR 19 0] m1 P))) : AW M_X6_correct 0 0 [some (aR 19 0), some (aI a1), some (aI a2), none, none] [] μ P := by
  refine AW_aload_n dX6_correct_0 rfl ?_
  refine AW_aload_n dX6_correct_1 rfl ?_
  refine AW_iload_n dX6_correct_2 rfl ?_
  refine AW_iload_n dX6_correct_3 rfl ?_
  obtain ⟨r4, m1, h3, h2⟩ := h
  refine AW_callVI [aI a1, aI a2] dX6_correct_4 cv_X6_114 rfl rfl rfl (by decide) rfl (by decide) (Nat.le_of_ble_eq_true rfl) h3 ?_
  refine AW_if_eq (tgt := 14) dX6_correct_7 (by decide) (fun q7 => ?_) (fun q7 => ?_)
  · have h5 := h2.1 q7
    refine AW_iconst (v := 1) dX6_correct_14 (by decide) ?_
    exact h5
  · have h6 := h2.2 q7
    refine AW_iconst (v := 0) dX6_correct_10 (by decide) ?_
    refine AW_goto (tgt := 15) dX6_correct_11 (by decide) ?_
    exact h6
set_option maxRecDepth 100000 in
theorem B_X6_correct_15 {a1 : Int32} {a2 : Int32} {s0 : Int32} {μ : Mem} {P : RES → Mem → Prop}  (h : ∃ (r4 : Int32) (m1 : Mem), MetA M_X6_fails [aR 19 0, aI s0] μ (rI r4 m1) ∧ ((r4 = 0 → ∃ (r11 : Int32) (m8 : Mem), MetA M_X6_of [aR 19 0, aI a1, aI 0] m1 (rI r11 m8) ∧ (∃ (r15 : Int32) (m12 : Mem), MetA M_X6_fineAt [aR 19 0, aI a1, aI a2] m8 (rI r15 m12) ∧ ((¬ r15 = 0 → ∃ (r22 : Int32) (m19 : Mem), MetA M_X6_by [aR 19 0, aI r11, aI 0] m12 (rI r22 m19) ∧ ((r15 ≤ r22 → ∃ m26 : Mem, MetA M_X6_keeps [aR 19 0, aR 20 0] m19 (rV m26) ∧ (∃ m29 : Mem, MetA M_X6_adds [aR 19 0, aI r11, aI 0, aI (-r15)] m26 (rV m29) ∧ (∃ m32 : Mem, MetA M_X6_adds [aR 19 0, aI r11, aI 2, aI r15] m29 (rV m32) ∧ (vp_in 8 240 ∧ (vp_in 8 240 ∧ (∀ m37 : Mem, m37 = mset m32 20 0 (upd (m32 20 0) (8 : Int32).toNatClampNeg ((m32 20 0 (8 : Int32).toNatClampNeg) + r15)) → ∃ (r44 : Int32) (m41 : Mem), MetA M_X6_of [aR 19 0, aI a1, aI (2 + a2)] m37 (rI r44 m41) ∧ (∃ m45 : Mem, MetA M_X6_lays [aR 19 0, aI a1, aI (10 + a2), aI r44] m41 (rV m45) ∧ (∃ m48 : Mem, MetA M_X6_lays [aR 19 0, aI a1, aI (18 + a2), aI 0] m45 (rV m48) ∧ (P (.inl (some (aI r15))) m48))))))))) ∧ (¬ r15 ≤ r22 → ∃ (r54 : Int32) (m51 : Mem), MetA M_X6_by [aR 19 0, aI r11, aI 0] m19 (rI r54 m51) ∧ (∃ (r58 : Int32) (m55 : Mem), MetA M_X6_refuses [aR 19 0, aI 2, aI 7, aI r54] m51 (rI r58 m55) ∧ (P (.inl (some (aI r58))) m55))))) ∧ (r15 = 0 → ∃ (r62 : Int32) (m59 : Mem), MetA M_X6_refuses [aR 19 0, aI 2, aI 4, aI a2] m12 (rI r62 m59) ∧ (P (.inl (some (aI r62))) m59))))) ∧ (¬ r4 = 0 → P (.inl (some (aI 0))) m1))) : AW M_X6_correct 0 15 [some (aR 19 0), some (aI a1), some (aI a2), none, none] [aI s0, aR 19 0] μ P := by
  obtain ⟨r4, m1, h3, h2⟩ := h
  refine AW_callVI [aI s0] dX6_correct_15 cv_X6_86 rfl rfl rfl (by decide) rfl (by decide) (Nat.le_of_ble_eq_true rfl) h3 ?_
  refine AW_if_eq (tgt := 23) dX6_correct_18 (by decide) (fun q7 => ?_) (fun q7 => ?_)
  · have h5 := h2.1 q7
    refine AW_aload_n dX6_correct_23 rfl ?_
    refine AW_iload_n dX6_correct_24 rfl ?_
    refine AW_iconst (v := 0) dX6_correct_25 (by decide) ?_
    obtain ⟨r11, m8, h10, h9⟩ := h5
    refine AW_callVI [aI a1, aI 0] dX6_correct_26 cv_X6_80 rfl rfl rfl (by decide) rfl (by decide) (Nat.le_of_ble_eq_true rfl) h10 ?_
    refine AW_istore_n (loc' := [some (aR 19 0), some (aI a1), some (aI a2), some (aI r11), none]) dX6_correct_29 (Nat.le_of_ble_eq_true rfl) rfl rfl ?_
    refine AW_aload_n dX6_correct_30 rfl ?_
    refine AW_iload_n dX6_correct_31 rfl ?_
    refine AW_iload_n dX6_correct_32 rfl ?_
    obtain ⟨r15, m12, h14, h13⟩ := h9
    refine AW_callVI [aI a1, aI a2] dX6_correct_33 cv_X6_133 rfl rfl rfl (by decide) rfl (by decide) (Nat.le_of_ble_eq_true rfl) h14 ?_
    refine AW_istore (loc' := [some (aR 19 0), some (aI a1), some (aI a2), some (aI r11), some (aI r15)]) dX6_correct_36 (Nat.le_of_ble_eq_true rfl) rfl rfl ?_
    refine AW_iload dX6_correct_38 rfl ?_
    refine AW_if_ne (tgt := 51) dX6_correct_40 (by decide) (fun q18 => ?_) (fun q18 => ?_)
    · have h16 := h13.1 q18
      refine AW_aload_n dX6_correct_51 rfl ?_
      refine AW_iload_n dX6_correct_52 rfl ?_
      refine AW_iconst (v := 0) dX6_correct_53 (by decide) ?_
      obtain ⟨r22, m19, h21, h20⟩ := h16
      refine AW_callVI [aI r11, aI 0] dX6_correct_54 cv_X6_65 rfl rfl rfl (by decide) rfl (by decide) (Nat.le_of_ble_eq_true rfl) h21 ?_
      refine AW_iload dX6_correct_57 rfl ?_
      refine AW_icmp_ge (tgt := 76) dX6_correct_59 (by decide) (fun q25 => ?_) (fun q25 => ?_)
      · have h23 := h20.1 q25
        refine AW_aload_n dX6_correct_76 rfl ?_
        refine AW_aload_n dX6_correct_77 rfl ?_
        refine AW_getv (t := 19) (o := 0) (k := 0) (some (20, none)) (v := aR 20 0) dX6_correct_78 ff_X6_7 rfl rfl rfl ?_
        obtain ⟨m26, h28, h27⟩ := h23
        refine AW_callVV [aR 20 0] dX6_correct_81 cv_X6_93 rfl rfl rfl (by decide) rfl (by decide) (Nat.le_of_ble_eq_true rfl) h28 ?_
        refine AW_aload_n dX6_correct_84 rfl ?_
        refine AW_iload_n dX6_correct_85 rfl ?_
        refine AW_iconst (v := 0) dX6_correct_86 (by decide) ?_
        refine AW_iload dX6_correct_87 rfl ?_
        refine AW_ineg dX6_correct_89 ?_
        obtain ⟨m29, h31, h30⟩ := h27
        refine AW_callVV [aI r11, aI 0, aI (-r15)] dX6_correct_90 cv_X6_97 rfl rfl rfl (by decide) rfl (by decide) (Nat.le_of_ble_eq_true rfl) h31 ?_
        refine AW_aload_n dX6_correct_93 rfl ?_
        refine AW_iload_n dX6_correct_94 rfl ?_
        refine AW_iconst (v := 2) dX6_correct_95 (by decide) ?_
        refine AW_iload dX6_correct_96 rfl ?_
        obtain ⟨m32, h34, h33⟩ := h30
        refine AW_callVV [aI r11, aI 2, aI r15] dX6_correct_98 cv_X6_97 rfl rfl rfl (by decide) rfl (by decide) (Nat.le_of_ble_eq_true rfl) h34 ?_
        refine AW_aload_n dX6_correct_101 rfl ?_
        refine AW_getv (t := 19) (o := 0) (k := 0) (some (20, none)) (v := aR 20 0) dX6_correct_102 ff_X6_7 rfl rfl rfl ?_
        refine AW_bipush (v := 8) dX6_correct_105 (by decide) ?_
        refine AW_dup2 dX6_correct_107 rfl rfl ?_
        obtain ⟨h35, h36⟩ := h33
        refine AW_iaload dX6_correct_108 rfl rfl h35 ?_
        refine AW_iload dX6_correct_109 rfl ?_
        refine AW_iadd dX6_correct_111 ?_
        obtain ⟨h38, h40⟩ := h36
        obtain ⟨m37, em37⟩ : ∃ z : Mem, z = mset m32 20 0 (upd (m32 20 0) (8 : Int32).toNatClampNeg ((m32 20 0 (8 : Int32).toNatClampNeg) + r15)) := ⟨_, rfl⟩
        have h39 := h40 m37 em37
        refine AW_iastore dX6_correct_112 rfl rfl h38 em37.symm ?_
        refine AW_aload_n dX6_correct_113 rfl ?_
        refine AW_iload_n dX6_correct_114 rfl ?_
        refine AW_bipush (v := 10) dX6_correct_115 (by decide) ?_
        refine AW_iload_n dX6_correct_117 rfl ?_
        refine AW_iadd dX6_correct_118 ?_
        refine AW_aload_n dX6_correct_119 rfl ?_
        refine AW_iload_n dX6_correct_120 rfl ?_
        refine AW_iconst (v := 2) dX6_correct_121 (by decide) ?_
        refine AW_iload_n dX6_correct_122 rfl ?_
        refine AW_iadd dX6_correct_123 ?_
        obtain ⟨r44, m41, h43, h42⟩ := h39
        refine AW_callVI [aI a1, aI (2 + a2)] dX6_correct_124 cv_X6_80 rfl rfl rfl (by decide) rfl (by decide) (Nat.le_of_ble_eq_true rfl) h43 ?_
        obtain ⟨m45, h47, h46⟩ := h42
        refine AW_callVV [aI a1, aI (10 + a2), aI r44] dX6_correct_127 cv_X6_108 rfl rfl rfl (by decide) rfl (by decide) (Nat.le_of_ble_eq_true rfl) h47 ?_
        refine AW_aload_n dX6_correct_130 rfl ?_
        refine AW_iload_n dX6_correct_131 rfl ?_
        refine AW_bipush (v := 18) dX6_correct_132 (by decide) ?_
        refine AW_iload_n dX6_correct_134 rfl ?_
        refine AW_iadd dX6_correct_135 ?_
        refine AW_iconst (v := 0) dX6_correct_136 (by decide) ?_
        obtain ⟨m48, h50, h49⟩ := h46
        refine AW_callVV [aI a1, aI (18 + a2), aI 0] dX6_correct_137 cv_X6_108 rfl rfl rfl (by decide) rfl (by decide) (Nat.le_of_ble_eq_true rfl) h50 ?_
        refine AW_iload dX6_correct_140 rfl ?_
        exact AW_ireturn (ty := .int) dX6_correct_142 rfl rfl h49
      · have h24 := h20.2 q25
        refine AW_aload_n dX6_correct_62 rfl ?_
        refine AW_iconst (v := 2) dX6_correct_63 (by decide) ?_
        refine AW_bipush (v := 7) dX6_correct_64 (by decide) ?_
        refine AW_aload_n dX6_correct_66 rfl ?_
        refine AW_iload_n dX6_correct_67 rfl ?_
        refine AW_iconst (v := 0) dX6_correct_68 (by decide) ?_
        obtain ⟨r54, m51, h53, h52⟩ := h24
        refine AW_callVI [aI r11, aI 0] dX6_correct_69 cv_X6_65 rfl rfl rfl (by decide) rfl (by decide) (Nat.le_of_ble_eq_true rfl) h53 ?_
        obtain ⟨r58, m55, h57, h56⟩ := h52
        refine AW_callVI [aI 2, aI 7, aI r54] dX6_correct_72 cv_X6_89 rfl rfl rfl (by decide) rfl (by decide) (Nat.le_of_ble_eq_true rfl) h57 ?_
        exact AW_ireturn (ty := .int) dX6_correct_75 rfl rfl h56
    · have h17 := h13.2 q18
      refine AW_aload_n dX6_correct_43 rfl ?_
      refine AW_iconst (v := 2) dX6_correct_44 (by decide) ?_
      refine AW_iconst (v := 4) dX6_correct_45 (by decide) ?_
      refine AW_iload_n dX6_correct_46 rfl ?_
      obtain ⟨r62, m59, h61, h60⟩ := h17
      refine AW_callVI [aI 2, aI 4, aI a2] dX6_correct_47 cv_X6_89 rfl rfl rfl (by decide) rfl (by decide) (Nat.le_of_ble_eq_true rfl) h61 ?_
      exact AW_ireturn (ty := .int) dX6_correct_50 rfl rfl h60
  · have h6 := h2.2 q7
    refine AW_iconst (v := 0) dX6_correct_21 (by decide) ?_
    exact AW_ireturn (ty := .int) dX6_correct_22 rfl rfl h6
set_option maxRecDepth 100000 in
theorem B_X6_reader_0 {a1 : Int32} {a2 : Int32} {μ : Mem} {P : RES → Mem → Prop}  (h : ∃ (r4 : Int32) (m1 : Mem), MetA M_X6_in [aI a1, aI 0, aI 1] μ (rI r4 m1) ∧ ((r4 = 0 → AW M_X6_reader 0 25 [some (aR 19 0), some (aI a1), some (aI a2)] [aI 1, aR 19 0] m1 P) ∧ (¬ r4 = 0 → ∃ (r11 : Int32) (m8 : Mem), MetA M_X6_in [aI a2, aI 1, aI 6] m1 (rI r11 m8) ∧ ((r11 = 0 → AW M_X6_reader 0 25 [some (aR 19 0), some (aI a1), some (aI a2)] [aI 1, aR 19 0] m8 P) ∧ (¬ r11 = 0 → AW M_X6_reader 0 25 [some (aR 19 0), some (aI a1), some (aI a2)] [aI 0, aR 19 0] m8 P))))) : AW M_X6_reader 0 0 [some (aR 19 0), some (aI a1), some (aI a2)] [] μ P := by
  refine AW_aload_n dX6_reader_0 rfl ?_
  refine AW_iload_n dX6_reader_1 rfl ?_
  refine AW_iconst (v := 0) dX6_reader_2 (by decide) ?_
  refine AW_iconst (v := 1) dX6_reader_3 (by decide) ?_
  obtain ⟨r4, m1, h3, h2⟩ := h
  refine AW_callSI [aI a1, aI 0, aI 1] dX6_reader_4 cs_X6_72 rfl rfl (by decide) rfl (by decide) (Nat.le_of_ble_eq_true rfl) h3 ?_
  refine AW_if_eq (tgt := 24) dX6_reader_7 (by decide) (fun q7 => ?_) (fun q7 => ?_)
  · have h5 := h2.1 q7
    refine AW_iconst (v := 1) dX6_reader_24 (by decide) ?_
    exact h5
  · have h6 := h2.2 q7
    refine AW_iload_n dX6_reader_10 rfl ?_
    refine AW_iconst (v := 1) dX6_reader_11 (by decide) ?_
    refine AW_bipush (v := 6) dX6_reader_12 (by decide) ?_
    obtain ⟨r11, m8, h10, h9⟩ := h6
    refine AW_callSI [aI a2, aI 1, aI 6] dX6_reader_14 cs_X6_72 rfl rfl (by decide) rfl (by decide) (Nat.le_of_ble_eq_true rfl) h10 ?_
    refine AW_if_eq (tgt := 24) dX6_reader_17 (by decide) (fun q14 => ?_) (fun q14 => ?_)
    · have h12 := h9.1 q14
      refine AW_iconst (v := 1) dX6_reader_24 (by decide) ?_
      exact h12
    · have h13 := h9.2 q14
      refine AW_iconst (v := 0) dX6_reader_20 (by decide) ?_
      refine AW_goto (tgt := 25) dX6_reader_21 (by decide) ?_
      exact h13
set_option maxRecDepth 100000 in
theorem B_X6_reader_25 {a1 : Int32} {a2 : Int32} {s0 : Int32} {μ : Mem} {P : RES → Mem → Prop}  (h : ∃ (r4 : Int32) (m1 : Mem), MetA M_X6_fails [aR 19 0, aI s0] μ (rI r4 m1) ∧ ((r4 = 0 → vp_in 2 240 ∧ ((¬ (m1 20 0 (2 : Int32).toNatClampNeg) = 5 → ∃ m13 : Mem, MetA M_X6_keeps [aR 19 0, aR 20 0] m1 (rV m13) ∧ (vp_in 2 240 ∧ (vp_in (230 + (2 * (m13 20 0 (2 : Int32).toNatClampNeg))) 240 ∧ (∀ m18 : Mem, m18 = mset m13 20 0 (upd (m13 20 0) (230 + (2 * (m13 20 0 (2 : Int32).toNatClampNeg))).toNatClampNeg a1) → vp_in 2 240 ∧ (vp_in ((230 + (2 * (m18 20 0 (2 : Int32).toNatClampNeg))) + 1) 240 ∧ (∀ m24 : Mem, m24 = mset m18 20 0 (upd (m18 20 0) ((230 + (2 * (m18 20 0 (2 : Int32).toNatClampNeg))) + 1).toNatClampNeg a2) → vp_in 2 240 ∧ (vp_in 2 240 ∧ (∀ m30 : Mem, m30 = mset m24 20 0 (upd (m24 20 0) (2 : Int32).toNatClampNeg ((m24 20 0 (2 : Int32).toNatClampNeg) + 1)) → vp_in 2 240 ∧ (P (.inl (some (aI ((m30 20 0 (2 : Int32).toNatClampNeg) - 1)))) m30))))))))) ∧ ((m1 20 0 (2 : Int32).toNatClampNeg) = 5 → ∃ (r39 : Int32) (m36 : Mem), MetA M_X6_refuses [aR 19 0, aI 2, aI 1, aI 5] m1 (rI r39 m36) ∧ (P (.inl (some (aI r39))) m36)))) ∧ (¬ r4 = 0 → P (.inl (some (aI 0))) m1))) : AW M_X6_reader 0 25 [some (aR 19 0), some (aI a1), some (aI a2)] [aI s0, aR 19 0] μ P := by
  obtain ⟨r4, m1, h3, h2⟩ := h
  refine AW_callVI [aI s0] dX6_reader_25 cv_X6_86 rfl rfl rfl (by decide) rfl (by decide) (Nat.le_of_ble_eq_true rfl) h3 ?_
  refine AW_if_eq (tgt := 33) dX6_reader_28 (by decide) (fun q7 => ?_) (fun q7 => ?_)
  · have h5 := h2.1 q7
    refine AW_aload_n dX6_reader_33 rfl ?_
    refine AW_getv (t := 19) (o := 0) (k := 0) (some (20, none)) (v := aR 20 0) dX6_reader_34 ff_X6_7 rfl rfl rfl ?_
    refine AW_iconst (v := 2) dX6_reader_37 (by decide) ?_
    obtain ⟨h8, h9⟩ := h5
    refine AW_iaload dX6_reader_38 rfl rfl h8 ?_
    refine AW_iconst (v := 5) dX6_reader_39 (by decide) ?_
    refine AW_icmp_ne (tgt := 51) dX6_reader_40 (by decide) (fun q12 => ?_) (fun q12 => ?_)
    · have h10 := h9.1 q12
      refine AW_aload_n dX6_reader_51 rfl ?_
      refine AW_aload_n dX6_reader_52 rfl ?_
      refine AW_getv (t := 19) (o := 0) (k := 0) (some (20, none)) (v := aR 20 0) dX6_reader_53 ff_X6_7 rfl rfl rfl ?_
      obtain ⟨m13, h15, h14⟩ := h10
      refine AW_callVV [aR 20 0] dX6_reader_56 cv_X6_93 rfl rfl rfl (by decide) rfl (by decide) (Nat.le_of_ble_eq_true rfl) h15 ?_
      refine AW_aload_n dX6_reader_59 rfl ?_
      refine AW_getv (t := 19) (o := 0) (k := 0) (some (20, none)) (v := aR 20 0) dX6_reader_60 ff_X6_7 rfl rfl rfl ?_
      refine AW_sipush (v := 230) dX6_reader_63 (by decide) ?_
      refine AW_iconst (v := 2) dX6_reader_66 (by decide) ?_
      refine AW_aload_n dX6_reader_67 rfl ?_
      refine AW_getv (t := 19) (o := 0) (k := 0) (some (20, none)) (v := aR 20 0) dX6_reader_68 ff_X6_7 rfl rfl rfl ?_
      refine AW_iconst (v := 2) dX6_reader_71 (by decide) ?_
      obtain ⟨h16, h17⟩ := h14
      refine AW_iaload dX6_reader_72 rfl rfl h16 ?_
      refine AW_imul dX6_reader_73 ?_
      refine AW_iadd dX6_reader_74 ?_
      refine AW_iload_n dX6_reader_75 rfl ?_
      obtain ⟨h19, h21⟩ := h17
      obtain ⟨m18, em18⟩ : ∃ z : Mem, z = mset m13 20 0 (upd (m13 20 0) (230 + (2 * (m13 20 0 (2 : Int32).toNatClampNeg))).toNatClampNeg a1) := ⟨_, rfl⟩
      have h20 := h21 m18 em18
      refine AW_iastore dX6_reader_76 rfl rfl h19 em18.symm ?_
      refine AW_aload_n dX6_reader_77 rfl ?_
      refine AW_getv (t := 19) (o := 0) (k := 0) (some (20, none)) (v := aR 20 0) dX6_reader_78 ff_X6_7 rfl rfl rfl ?_
      refine AW_sipush (v := 230) dX6_reader_81 (by decide) ?_
      refine AW_iconst (v := 2) dX6_reader_84 (by decide) ?_
      refine AW_aload_n dX6_reader_85 rfl ?_
      refine AW_getv (t := 19) (o := 0) (k := 0) (some (20, none)) (v := aR 20 0) dX6_reader_86 ff_X6_7 rfl rfl rfl ?_
      refine AW_iconst (v := 2) dX6_reader_89 (by decide) ?_
      obtain ⟨h22, h23⟩ := h20
      refine AW_iaload dX6_reader_90 rfl rfl h22 ?_
      refine AW_imul dX6_reader_91 ?_
      refine AW_iadd dX6_reader_92 ?_
      refine AW_iconst (v := 1) dX6_reader_93 (by decide) ?_
      refine AW_iadd dX6_reader_94 ?_
      refine AW_iload_n dX6_reader_95 rfl ?_
      obtain ⟨h25, h27⟩ := h23
      obtain ⟨m24, em24⟩ : ∃ z : Mem, z = mset m18 20 0 (upd (m18 20 0) ((230 + (2 * (m18 20 0 (2 : Int32).toNatClampNeg))) + 1).toNatClampNeg a2) := ⟨_, rfl⟩
      have h26 := h27 m24 em24
      refine AW_iastore dX6_reader_96 rfl rfl h25 em24.symm ?_
      refine AW_aload_n dX6_reader_97 rfl ?_
      refine AW_getv (t := 19) (o := 0) (k := 0) (some (20, none)) (v := aR 20 0) dX6_reader_98 ff_X6_7 rfl rfl rfl ?_
      refine AW_iconst (v := 2) dX6_reader_101 (by decide) ?_
      refine AW_dup2 dX6_reader_102 rfl rfl ?_
      obtain ⟨h28, h29⟩ := h26
      refine AW_iaload dX6_reader_103 rfl rfl h28 ?_
      refine AW_iconst (v := 1) dX6_reader_104 (by decide) ?_
      refine AW_iadd dX6_reader_105 ?_
      obtain ⟨h31, h33⟩ := h29
      obtain ⟨m30, em30⟩ : ∃ z : Mem, z = mset m24 20 0 (upd (m24 20 0) (2 : Int32).toNatClampNeg ((m24 20 0 (2 : Int32).toNatClampNeg) + 1)) := ⟨_, rfl⟩
      have h32 := h33 m30 em30
      refine AW_iastore dX6_reader_106 rfl rfl h31 em30.symm ?_
      refine AW_aload_n dX6_reader_107 rfl ?_
      refine AW_getv (t := 19) (o := 0) (k := 0) (some (20, none)) (v := aR 20 0) dX6_reader_108 ff_X6_7 rfl rfl rfl ?_
      refine AW_iconst (v := 2) dX6_reader_111 (by decide) ?_
      obtain ⟨h34, h35⟩ := h32
      refine AW_iaload dX6_reader_112 rfl rfl h34 ?_
      refine AW_iconst (v := 1) dX6_reader_113 (by decide) ?_
      refine AW_isub dX6_reader_114 ?_
      exact AW_ireturn (ty := .int) dX6_reader_115 rfl rfl h35
    · have h11 := h9.2 q12
      refine AW_aload_n dX6_reader_43 rfl ?_
      refine AW_iconst (v := 2) dX6_reader_44 (by decide) ?_
      refine AW_iconst (v := 1) dX6_reader_45 (by decide) ?_
      refine AW_iconst (v := 5) dX6_reader_46 (by decide) ?_
      obtain ⟨r39, m36, h38, h37⟩ := h11
      refine AW_callVI [aI 2, aI 1, aI 5] dX6_reader_47 cv_X6_89 rfl rfl rfl (by decide) rfl (by decide) (Nat.le_of_ble_eq_true rfl) h38 ?_
      exact AW_ireturn (ty := .int) dX6_reader_50 rfl rfl h37
  · have h6 := h2.2 q7
    refine AW_iconst (v := 0) dX6_reader_31 (by decide) ?_
    exact AW_ireturn (ty := .int) dX6_reader_32 rfl rfl h6
set_option maxRecDepth 100000 in
theorem B_X6_laughers_0 {a1 : Int32} {a2 : Int32} {μ : Mem} {P : RES → Mem → Prop}  (h : AW M_X6_laughers 0 5 [some (aR 19 0), some (aI a1), some (aI a2), some (aI 0), some (aI 0), none, none] [] μ P) : AW M_X6_laughers 0 0 [some (aR 19 0), some (aI a1), some (aI a2), none, none, none, none] [] μ P := by
  refine AW_iconst (v := 0) dX6_laughers_0 (by decide) ?_
  refine AW_istore_n (loc' := [some (aR 19 0), some (aI a1), some (aI a2), some (aI 0), none, none, none]) dX6_laughers_1 (Nat.le_of_ble_eq_true rfl) rfl rfl ?_
  refine AW_iconst (v := 0) dX6_laughers_2 (by decide) ?_
  refine AW_istore (loc' := [some (aR 19 0), some (aI a1), some (aI a2), some (aI 0), some (aI 0), none, none]) dX6_laughers_3 (Nat.le_of_ble_eq_true rfl) rfl rfl ?_
  exact h
set_option maxRecDepth 100000 in
theorem B_X6_laughers_5 {a1 : Int32} {a2 : Int32} {a3 : Int32} {a4 : Int32} {μ : Mem} {P : RES → Mem → Prop}  (h : vp_in 2 240 ∧ (((μ 20 0 (2 : Int32).toNatClampNeg) ≤ a4 → P (.inl (some (aI a3))) μ) ∧ (¬ (μ 20 0 (2 : Int32).toNatClampNeg) ≤ a4 → ∃ (r9 : Int32) (m6 : Mem), MetA M_X6_mark [aR 19 0, aI a1, aI a2] μ (rI r9 m6) ∧ ((r9 ≤ 0 → P (.inl (some (aI a3))) m6) ∧ (¬ r9 ≤ 0 → vp_in ((230 + (2 * a4)) + 1) 240 ∧ (vp_in (230 + (2 * a4)) 240 ∧ ((¬ (m6 20 0 (230 + (2 * a4)).toNatClampNeg) = 0 → ∃ (r23 : Int32) (m20 : Mem), MetA M_X6_bad [aR 19 0, aI a1, aI a2] m6 (rI r23 m20) ∧ ((r23 < (m6 20 0 ((230 + (2 * a4)) + 1).toNatClampNeg) → AW M_X6_laughers 0 5 [some (aR 19 0), some (aI a1), some (aI a2), some (aI (a3 ||| 0)), some (aI (a4 + 1)), none, none] [] m20 P) ∧ (¬ r23 < (m6 20 0 ((230 + (2 * a4)) + 1).toNatClampNeg) → AW M_X6_laughers 0 5 [some (aR 19 0), some (aI a1), some (aI a2), some (aI (a3 ||| (1 <<< (a4 &&& 31)))), some (aI (a4 + 1)), none, none] [] m20 P))) ∧ ((m6 20 0 (230 + (2 * a4)).toNatClampNeg) = 0 → ∃ (r36 : Int32) (m33 : Mem), MetA M_X6_of [aR 19 0, aI a1, aI (10 + a2)] m6 (rI r36 m33) ∧ ((¬ r36 = (m6 20 0 ((230 + (2 * a4)) + 1).toNatClampNeg) → AW M_X6_laughers 0 5 [some (aR 19 0), some (aI a1), some (aI a2), some (aI (a3 ||| 0)), some (aI (a4 + 1)), none, none] [] m33 P) ∧ (r36 = (m6 20 0 ((230 + (2 * a4)) + 1).toNatClampNeg) → AW M_X6_laughers 0 5 [some (aR 19 0), some (aI a1), some (aI a2), some (aI (a3 ||| (1 <<< (a4 &&& 31)))), some (aI (a4 + 1)), none, none] [] m33 P)))))))))) : AW M_X6_laughers 0 5 [some (aR 19 0), some (aI a1), some (aI a2), some (aI a3), some (aI a4), none, none] [] μ P := by
  refine AW_iload dX6_laughers_5 rfl ?_
  refine AW_aload_n dX6_laughers_7 rfl ?_
  refine AW_getv (t := 19) (o := 0) (k := 0) (some (20, none)) (v := aR 20 0) dX6_laughers_8 ff_X6_7 rfl rfl rfl ?_
  refine AW_iconst (v := 2) dX6_laughers_11 (by decide) ?_
  obtain ⟨h1, h2⟩ := h
  refine AW_iaload dX6_laughers_12 rfl rfl h1 ?_
  refine AW_icmp_ge (tgt := 120) dX6_laughers_13 (by decide) (fun q5 => ?_) (fun q5 => ?_)
  · have h3 := h2.1 q5
    refine AW_iload_n dX6_laughers_120 rfl ?_
    exact AW_ireturn (ty := .int) dX6_laughers_121 rfl rfl h3
  · have h4 := h2.2 q5
    refine AW_aload_n dX6_laughers_16 rfl ?_
    refine AW_iload_n dX6_laughers_17 rfl ?_
    refine AW_iload_n dX6_laughers_18 rfl ?_
    obtain ⟨r9, m6, h8, h7⟩ := h4
    refine AW_callVI [aI a1, aI a2] dX6_laughers_19 cv_X6_111 rfl rfl rfl (by decide) rfl (by decide) (Nat.le_of_ble_eq_true rfl) h8 ?_
    refine AW_if_le (tgt := 120) dX6_laughers_22 (by decide) (fun q12 => ?_) (fun q12 => ?_)
    · have h10 := h7.1 q12
      refine AW_iload_n dX6_laughers_120 rfl ?_
      exact AW_ireturn (ty := .int) dX6_laughers_121 rfl rfl h10
    · have h11 := h7.2 q12
      refine AW_aload_n dX6_laughers_25 rfl ?_
      refine AW_getv (t := 19) (o := 0) (k := 0) (some (20, none)) (v := aR 20 0) dX6_laughers_26 ff_X6_7 rfl rfl rfl ?_
      refine AW_sipush (v := 230) dX6_laughers_29 (by decide) ?_
      refine AW_iconst (v := 2) dX6_laughers_32 (by decide) ?_
      refine AW_iload dX6_laughers_33 rfl ?_
      refine AW_imul dX6_laughers_35 ?_
      refine AW_iadd dX6_laughers_36 ?_
      refine AW_iconst (v := 1) dX6_laughers_37 (by decide) ?_
      refine AW_iadd dX6_laughers_38 ?_
      obtain ⟨h13, h14⟩ := h11
      refine AW_iaload dX6_laughers_39 rfl rfl h13 ?_
      refine AW_istore (loc' := [some (aR 19 0), some (aI a1), some (aI a2), some (aI a3), some (aI a4), some (aI (m6 20 0 ((230 + (2 * a4)) + 1).toNatClampNeg)), none]) dX6_laughers_40 (Nat.le_of_ble_eq_true rfl) rfl rfl ?_
      refine AW_aload_n dX6_laughers_42 rfl ?_
      refine AW_getv (t := 19) (o := 0) (k := 0) (some (20, none)) (v := aR 20 0) dX6_laughers_43 ff_X6_7 rfl rfl rfl ?_
      refine AW_sipush (v := 230) dX6_laughers_46 (by decide) ?_
      refine AW_iconst (v := 2) dX6_laughers_49 (by decide) ?_
      refine AW_iload dX6_laughers_50 rfl ?_
      refine AW_imul dX6_laughers_52 ?_
      refine AW_iadd dX6_laughers_53 ?_
      obtain ⟨h15, h16⟩ := h14
      refine AW_iaload dX6_laughers_54 rfl rfl h15 ?_
      refine AW_if_ne (tgt := 80) dX6_laughers_55 (by decide) (fun q19 => ?_) (fun q19 => ?_)
      · have h17 := h16.1 q19
        refine AW_aload_n dX6_laughers_80 rfl ?_
        refine AW_iload_n dX6_laughers_81 rfl ?_
        refine AW_iload_n dX6_laughers_82 rfl ?_
        obtain ⟨r23, m20, h22, h21⟩ := h17
        refine AW_callVI [aI a1, aI a2] dX6_laughers_83 cv_X6_130 rfl rfl rfl (by decide) rfl (by decide) (Nat.le_of_ble_eq_true rfl) h22 ?_
        refine AW_iload dX6_laughers_86 rfl ?_
        refine AW_icmp_lt (tgt := 95) dX6_laughers_88 (by decide) (fun q26 => ?_) (fun q26 => ?_)
        · have h24 := h21.1 q26
          refine AW_iconst (v := 0) dX6_laughers_95 (by decide) ?_
          refine AW_istore (loc' := [some (aR 19 0), some (aI a1), some (aI a2), some (aI a3), some (aI a4), some (aI (m6 20 0 ((230 + (2 * a4)) + 1).toNatClampNeg)), some (aI 0)]) dX6_laughers_96 (Nat.le_of_ble_eq_true rfl) rfl rfl ?_
          refine AW_iload_n dX6_laughers_98 rfl ?_
          refine AW_iload dX6_laughers_99 rfl ?_
          refine AW_if_eq (tgt := 111) dX6_laughers_101 (by decide) (fun q29 => ?_) (fun q29 => absurd q29 (by decide))
          refine AW_iconst (v := 0) dX6_laughers_111 (by decide) ?_
          refine AW_ior dX6_laughers_112 ?_
          refine AW_istore_n (loc' := [some (aR 19 0), some (aI a1), some (aI a2), some (aI (a3 ||| 0)), some (aI a4), some (aI (m6 20 0 ((230 + (2 * a4)) + 1).toNatClampNeg)), some (aI 0)]) dX6_laughers_113 (Nat.le_of_ble_eq_true rfl) rfl rfl ?_
          refine AW_iinc (v := a4 + 1) (loc' := [some (aR 19 0), some (aI a1), some (aI a2), some (aI (a3 ||| 0)), some (aI (a4 + 1)), some (aI (m6 20 0 ((230 + (2 * a4)) + 1).toNatClampNeg)), some (aI 0)]) dX6_laughers_114 rfl rfl (Nat.le_of_ble_eq_true rfl) rfl rfl ?_
          refine AW_goto (tgt := 5) dX6_laughers_117 (by decide) ?_
          exact AW_mask [true, true, true, true, true, false, false] h24
        · have h25 := h21.2 q26
          refine AW_iconst (v := 1) dX6_laughers_91 (by decide) ?_
          refine AW_goto (tgt := 96) dX6_laughers_92 (by decide) ?_
          refine AW_istore (loc' := [some (aR 19 0), some (aI a1), some (aI a2), some (aI a3), some (aI a4), some (aI (m6 20 0 ((230 + (2 * a4)) + 1).toNatClampNeg)), some (aI 1)]) dX6_laughers_96 (Nat.le_of_ble_eq_true rfl) rfl rfl ?_
          refine AW_iload_n dX6_laughers_98 rfl ?_
          refine AW_iload dX6_laughers_99 rfl ?_
          refine AW_if_eq (tgt := 111) dX6_laughers_101 (by decide) (fun q32 => absurd q32 (by decide)) (fun q32 => ?_)
          refine AW_iconst (v := 1) dX6_laughers_104 (by decide) ?_
          refine AW_iload dX6_laughers_105 rfl ?_
          refine AW_ishl dX6_laughers_107 ?_
          refine AW_goto (tgt := 112) dX6_laughers_108 (by decide) ?_
          refine AW_ior dX6_laughers_112 ?_
          refine AW_istore_n (loc' := [some (aR 19 0), some (aI a1), some (aI a2), some (aI (a3 ||| (1 <<< (a4 &&& 31)))), some (aI a4), some (aI (m6 20 0 ((230 + (2 * a4)) + 1).toNatClampNeg)), some (aI 1)]) dX6_laughers_113 (Nat.le_of_ble_eq_true rfl) rfl rfl ?_
          refine AW_iinc (v := a4 + 1) (loc' := [some (aR 19 0), some (aI a1), some (aI a2), some (aI (a3 ||| (1 <<< (a4 &&& 31)))), some (aI (a4 + 1)), some (aI (m6 20 0 ((230 + (2 * a4)) + 1).toNatClampNeg)), some (aI 1)]) dX6_laughers_114 rfl rfl (Nat.le_of_ble_eq_true rfl) rfl rfl ?_
          refine AW_goto (tgt := 5) dX6_laughers_117 (by decide) ?_
          exact AW_mask [true, true, true, true, true, false, false] h25
      · have h18 := h16.2 q19
        refine AW_aload_n dX6_laughers_58 rfl ?_
        refine AW_iload_n dX6_laughers_59 rfl ?_
        refine AW_bipush (v := 10) dX6_laughers_60 (by decide) ?_
        refine AW_iload_n dX6_laughers_62 rfl ?_
        refine AW_iadd dX6_laughers_63 ?_
        obtain ⟨r36, m33, h35, h34⟩ := h18
        refine AW_callVI [aI a1, aI (10 + a2)] dX6_laughers_64 cv_X6_80 rfl rfl rfl (by decide) rfl (by decide) (Nat.le_of_ble_eq_true rfl) h35 ?_
        refine AW_iload dX6_laughers_67 rfl ?_
        refine AW_icmp_ne (tgt := 76) dX6_laughers_69 (by decide) (fun q39 => ?_) (fun q39 => ?_)
        · have h37 := h34.1 q39
          refine AW_iconst (v := 0) dX6_laughers_76 (by decide) ?_
          refine AW_goto (tgt := 96) dX6_laughers_77 (by decide) ?_
          refine AW_istore (loc' := [some (aR 19 0), some (aI a1), some (aI a2), some (aI a3), some (aI a4), some (aI (m6 20 0 ((230 + (2 * a4)) + 1).toNatClampNeg)), some (aI 0)]) dX6_laughers_96 (Nat.le_of_ble_eq_true rfl) rfl rfl ?_
          refine AW_iload_n dX6_laughers_98 rfl ?_
          refine AW_iload dX6_laughers_99 rfl ?_
          refine AW_if_eq (tgt := 111) dX6_laughers_101 (by decide) (fun q42 => ?_) (fun q42 => absurd q42 (by decide))
          refine AW_iconst (v := 0) dX6_laughers_111 (by decide) ?_
          refine AW_ior dX6_laughers_112 ?_
          refine AW_istore_n (loc' := [some (aR 19 0), some (aI a1), some (aI a2), some (aI (a3 ||| 0)), some (aI a4), some (aI (m6 20 0 ((230 + (2 * a4)) + 1).toNatClampNeg)), some (aI 0)]) dX6_laughers_113 (Nat.le_of_ble_eq_true rfl) rfl rfl ?_
          refine AW_iinc (v := a4 + 1) (loc' := [some (aR 19 0), some (aI a1), some (aI a2), some (aI (a3 ||| 0)), some (aI (a4 + 1)), some (aI (m6 20 0 ((230 + (2 * a4)) + 1).toNatClampNeg)), some (aI 0)]) dX6_laughers_114 rfl rfl (Nat.le_of_ble_eq_true rfl) rfl rfl ?_
          refine AW_goto (tgt := 5) dX6_laughers_117 (by decide) ?_
          exact AW_mask [true, true, true, true, true, false, false] h37
        · have h38 := h34.2 q39
          refine AW_iconst (v := 1) dX6_laughers_72 (by decide) ?_
          refine AW_goto (tgt := 96) dX6_laughers_73 (by decide) ?_
          refine AW_istore (loc' := [some (aR 19 0), some (aI a1), some (aI a2), some (aI a3), some (aI a4), some (aI (m6 20 0 ((230 + (2 * a4)) + 1).toNatClampNeg)), some (aI 1)]) dX6_laughers_96 (Nat.le_of_ble_eq_true rfl) rfl rfl ?_
          refine AW_iload_n dX6_laughers_98 rfl ?_
          refine AW_iload dX6_laughers_99 rfl ?_
          refine AW_if_eq (tgt := 111) dX6_laughers_101 (by decide) (fun q45 => absurd q45 (by decide)) (fun q45 => ?_)
          refine AW_iconst (v := 1) dX6_laughers_104 (by decide) ?_
          refine AW_iload dX6_laughers_105 rfl ?_
          refine AW_ishl dX6_laughers_107 ?_
          refine AW_goto (tgt := 112) dX6_laughers_108 (by decide) ?_
          refine AW_ior dX6_laughers_112 ?_
          refine AW_istore_n (loc' := [some (aR 19 0), some (aI a1), some (aI a2), some (aI (a3 ||| (1 <<< (a4 &&& 31)))), some (aI a4), some (aI (m6 20 0 ((230 + (2 * a4)) + 1).toNatClampNeg)), some (aI 1)]) dX6_laughers_113 (Nat.le_of_ble_eq_true rfl) rfl rfl ?_
          refine AW_iinc (v := a4 + 1) (loc' := [some (aR 19 0), some (aI a1), some (aI a2), some (aI (a3 ||| (1 <<< (a4 &&& 31)))), some (aI (a4 + 1)), some (aI (m6 20 0 ((230 + (2 * a4)) + 1).toNatClampNeg)), some (aI 1)]) dX6_laughers_114 rfl rfl (Nat.le_of_ble_eq_true rfl) rfl rfl ?_
          refine AW_goto (tgt := 5) dX6_laughers_117 (by decide) ?_
          exact AW_mask [true, true, true, true, true, false, false] h38
set_option maxRecDepth 100000 in
theorem B_X6_laughs_0 {a1 : Int32} {a2 : Int32} {μ : Mem} {P : RES → Mem → Prop}  (h : AW M_X6_laughs 0 5 [some (aR 19 0), some (aI a1), some (aI a2), some (aI 0), some (aI 0)] [] μ P) : AW M_X6_laughs 0 0 [some (aR 19 0), some (aI a1), some (aI a2), none, none] [] μ P := by
  refine AW_iconst (v := 0) dX6_laughs_0 (by decide) ?_
  refine AW_istore_n (loc' := [some (aR 19 0), some (aI a1), some (aI a2), some (aI 0), none]) dX6_laughs_1 (Nat.le_of_ble_eq_true rfl) rfl rfl ?_
  refine AW_iconst (v := 0) dX6_laughs_2 (by decide) ?_
  refine AW_istore (loc' := [some (aR 19 0), some (aI a1), some (aI a2), some (aI 0), some (aI 0)]) dX6_laughs_3 (Nat.le_of_ble_eq_true rfl) rfl rfl ?_
  exact h
set_option maxRecDepth 100000 in
theorem B_X6_laughs_5 {a1 : Int32} {a2 : Int32} {a3 : Int32} {a4 : Int32} {μ : Mem} {P : RES → Mem → Prop}  (h : (5 ≤ a4 → P (.inl (some (aI a3))) μ) ∧ (¬ 5 ≤ a4 → ∃ (r7 : Int32) (m4 : Mem), MetA M_X6_laughers [aR 19 0, aI a1, aI a2] μ (rI r7 m4) ∧ (AW M_X6_laughs 0 5 [some (aR 19 0), some (aI a1), some (aI a2), some (aI (a3 + ((r7 >>> (a4 &&& 31)) &&& 1))), some (aI (a4 + 1))] [] m4 P))) : AW M_X6_laughs 0 5 [some (aR 19 0), some (aI a1), some (aI a2), some (aI a3), some (aI a4)] [] μ P := by
  refine AW_iload dX6_laughs_5 rfl ?_
  refine AW_iconst (v := 5) dX6_laughs_7 (by decide) ?_
  refine AW_icmp_ge (tgt := 31) dX6_laughs_8 (by decide) (fun q3 => ?_) (fun q3 => ?_)
  · have h1 := h.1 q3
    refine AW_iload_n dX6_laughs_31 rfl ?_
    exact AW_ireturn (ty := .int) dX6_laughs_32 rfl rfl h1
  · have h2 := h.2 q3
    refine AW_iload_n dX6_laughs_11 rfl ?_
    refine AW_aload_n dX6_laughs_12 rfl ?_
    refine AW_iload_n dX6_laughs_13 rfl ?_
    refine AW_iload_n dX6_laughs_14 rfl ?_
    obtain ⟨r7, m4, h6, h5⟩ := h2
    refine AW_callVI [aI a1, aI a2] dX6_laughs_15 cv_X6_136 rfl rfl rfl (by decide) rfl (by decide) (Nat.le_of_ble_eq_true rfl) h6 ?_
    refine AW_iload dX6_laughs_18 rfl ?_
    refine AW_ishr dX6_laughs_20 ?_
    refine AW_iconst (v := 1) dX6_laughs_21 (by decide) ?_
    refine AW_iand dX6_laughs_22 ?_
    refine AW_iadd dX6_laughs_23 ?_
    refine AW_istore_n (loc' := [some (aR 19 0), some (aI a1), some (aI a2), some (aI (a3 + ((r7 >>> (a4 &&& 31)) &&& 1))), some (aI a4)]) dX6_laughs_24 (Nat.le_of_ble_eq_true rfl) rfl rfl ?_
    refine AW_iinc (v := a4 + 1) (loc' := [some (aR 19 0), some (aI a1), some (aI a2), some (aI (a3 + ((r7 >>> (a4 &&& 31)) &&& 1))), some (aI (a4 + 1))]) dX6_laughs_25 rfl rfl (Nat.le_of_ble_eq_true rfl) rfl rfl ?_
    refine AW_goto (tgt := 5) dX6_laughs_28 (by decide) ?_
    exact h5
set_option maxRecDepth 100000 in
theorem B_X6_printable_0  {μ : Mem} {P : RES → Mem → Prop}  (h : AW M_X6_printable 0 4 [some (aR 19 0), some (aI 0), some (aI 0)] [] μ P) : AW M_X6_printable 0 0 [some (aR 19 0), none, none] [] μ P := by
  refine AW_iconst (v := 0) dX6_printable_0 (by decide) ?_
  refine AW_istore_n (loc' := [some (aR 19 0), some (aI 0), none]) dX6_printable_1 (Nat.le_of_ble_eq_true rfl) rfl rfl ?_
  refine AW_iconst (v := 0) dX6_printable_2 (by decide) ?_
  refine AW_istore_n (loc' := [some (aR 19 0), some (aI 0), some (aI 0)]) dX6_printable_3 (Nat.le_of_ble_eq_true rfl) rfl rfl ?_
  exact h
set_option maxRecDepth 100000 in
theorem B_X6_printable_4 {a1 : Int32} {a2 : Int32} {μ : Mem} {P : RES → Mem → Prop}  (h : vp_in 1 240 ∧ (((μ 20 0 (1 : Int32).toNatClampNeg) ≤ a2 → P (.inl (some (aI a1))) μ) ∧ (¬ (μ 20 0 (1 : Int32).toNatClampNeg) ≤ a2 → ∃ (r9 : Int32) (m6 : Mem), MetA M_X6_misprints [aR 19 0, aI a2, aI 2] μ (rI r9 m6) ∧ (∃ (r13 : Int32) (m10 : Mem), MetA M_X6_misprints [aR 19 0, aI a2, aI 3] m6 (rI r13 m10) ∧ (AW M_X6_printable 0 4 [some (aR 19 0), some (aI (a1 + (r9 - r13))), some (aI (a2 + 1))] [] m10 P))))) : AW M_X6_printable 0 4 [some (aR 19 0), some (aI a1), some (aI a2)] [] μ P := by
  refine AW_iload_n dX6_printable_4 rfl ?_
  refine AW_aload_n dX6_printable_5 rfl ?_
  refine AW_getv (t := 19) (o := 0) (k := 0) (some (20, none)) (v := aR 20 0) dX6_printable_6 ff_X6_7 rfl rfl rfl ?_
  refine AW_iconst (v := 1) dX6_printable_9 (by decide) ?_
  obtain ⟨h1, h2⟩ := h
  refine AW_iaload dX6_printable_10 rfl rfl h1 ?_
  refine AW_icmp_ge (tgt := 36) dX6_printable_11 (by decide) (fun q5 => ?_) (fun q5 => ?_)
  · have h3 := h2.1 q5
    refine AW_iload_n dX6_printable_36 rfl ?_
    exact AW_ireturn (ty := .int) dX6_printable_37 rfl rfl h3
  · have h4 := h2.2 q5
    refine AW_iload_n dX6_printable_14 rfl ?_
    refine AW_aload_n dX6_printable_15 rfl ?_
    refine AW_iload_n dX6_printable_16 rfl ?_
    refine AW_iconst (v := 2) dX6_printable_17 (by decide) ?_
    obtain ⟨r9, m6, h8, h7⟩ := h4
    refine AW_callVI [aI a2, aI 2] dX6_printable_18 cv_X6_118 rfl rfl rfl (by decide) rfl (by decide) (Nat.le_of_ble_eq_true rfl) h8 ?_
    refine AW_aload_n dX6_printable_21 rfl ?_
    refine AW_iload_n dX6_printable_22 rfl ?_
    refine AW_iconst (v := 3) dX6_printable_23 (by decide) ?_
    obtain ⟨r13, m10, h12, h11⟩ := h7
    refine AW_callVI [aI a2, aI 3] dX6_printable_24 cv_X6_118 rfl rfl rfl (by decide) rfl (by decide) (Nat.le_of_ble_eq_true rfl) h12 ?_
    refine AW_isub dX6_printable_27 ?_
    refine AW_iadd dX6_printable_28 ?_
    refine AW_istore_n (loc' := [some (aR 19 0), some (aI (a1 + (r9 - r13))), some (aI a2)]) dX6_printable_29 (Nat.le_of_ble_eq_true rfl) rfl rfl ?_
    refine AW_iinc (v := a2 + 1) (loc' := [some (aR 19 0), some (aI (a1 + (r9 - r13))), some (aI (a2 + 1))]) dX6_printable_30 rfl rfl (Nat.le_of_ble_eq_true rfl) rfl rfl ?_
    refine AW_goto (tgt := 4) dX6_printable_33 (by decide) ?_
    exact h11
set_option maxRecDepth 100000 in
theorem B_X6_edition_0  {μ : Mem} {P : RES → Mem → Prop}  (h : ∃ (r4 : Int32) (m1 : Mem), MetA M_X6_printable [aR 19 0] μ (rI r4 m1) ∧ ((¬ r4 = 0 → ∃ m8 : Mem, MetA M_X6_keeps [aR 19 0, aR 20 0] m1 (rV m8) ∧ (AW M_X6_edition 0 33 [some (aR 19 0), some (aI 0), some (aI 0), none] [] m8 P)) ∧ (r4 = 0 → vp_in 4 240 ∧ (∃ (r16 : Int32) (m13 : Mem), MetA M_X6_refuses [aR 19 0, aI 1, aI 8, aI (m1 20 0 (4 : Int32).toNatClampNeg)] m1 (rI r16 m13) ∧ (P (.inl (some (aI r16))) m13))))) : AW M_X6_edition 0 0 [some (aR 19 0), none, none, none] [] μ P := by
  refine AW_aload_n dX6_edition_0 rfl ?_
  obtain ⟨r4, m1, h3, h2⟩ := h
  refine AW_callVI [] dX6_edition_1 cv_X6_139 rfl rfl rfl (by decide) rfl (by decide) (Nat.le_of_ble_eq_true rfl) h3 ?_
  refine AW_if_ne (tgt := 21) dX6_edition_4 (by decide) (fun q7 => ?_) (fun q7 => ?_)
  · have h5 := h2.1 q7
    refine AW_aload_n dX6_edition_21 rfl ?_
    refine AW_aload_n dX6_edition_22 rfl ?_
    refine AW_getv (t := 19) (o := 0) (k := 0) (some (20, none)) (v := aR 20 0) dX6_edition_23 ff_X6_7 rfl rfl rfl ?_
    obtain ⟨m8, h10, h9⟩ := h5
    refine AW_callVV [aR 20 0] dX6_edition_26 cv_X6_93 rfl rfl rfl (by decide) rfl (by decide) (Nat.le_of_ble_eq_true rfl) h10 ?_
    refine AW_iconst (v := 0) dX6_edition_29 (by decide) ?_
    refine AW_istore_n (loc' := [some (aR 19 0), some (aI 0), none, none]) dX6_edition_30 (Nat.le_of_ble_eq_true rfl) rfl rfl ?_
    refine AW_iconst (v := 0) dX6_edition_31 (by decide) ?_
    refine AW_istore_n (loc' := [some (aR 19 0), some (aI 0), some (aI 0), none]) dX6_edition_32 (Nat.le_of_ble_eq_true rfl) rfl rfl ?_
    exact h9
  · have h6 := h2.2 q7
    refine AW_aload_n dX6_edition_7 rfl ?_
    refine AW_iconst (v := 1) dX6_edition_8 (by decide) ?_
    refine AW_bipush (v := 8) dX6_edition_9 (by decide) ?_
    refine AW_aload_n dX6_edition_11 rfl ?_
    refine AW_getv (t := 19) (o := 0) (k := 0) (some (20, none)) (v := aR 20 0) dX6_edition_12 ff_X6_7 rfl rfl rfl ?_
    refine AW_iconst (v := 4) dX6_edition_15 (by decide) ?_
    obtain ⟨h11, h12⟩ := h6
    refine AW_iaload dX6_edition_16 rfl rfl h11 ?_
    obtain ⟨r16, m13, h15, h14⟩ := h12
    refine AW_callVI [aI 1, aI 8, aI (m1 20 0 (4 : Int32).toNatClampNeg)] dX6_edition_17 cv_X6_89 rfl rfl rfl (by decide) rfl (by decide) (Nat.le_of_ble_eq_true rfl) h15 ?_
    exact AW_ireturn (ty := .int) dX6_edition_20 rfl rfl h14
set_option maxRecDepth 100000 in
theorem B_X6_edition_33 {a1 : Int32} {a2 : Int32} {μ : Mem} {P : RES → Mem → Prop}  (h : vp_in 1 240 ∧ (((μ 20 0 (1 : Int32).toNatClampNeg) ≤ a2 → vp_in 6 240 ∧ (vp_in 6 240 ∧ (∀ m8 : Mem, m8 = mset μ 20 0 (upd (μ 20 0) (6 : Int32).toNatClampNeg ((μ 20 0 (6 : Int32).toNatClampNeg) + a1)) → vp_in 4 240 ∧ (vp_in 4 240 ∧ (∀ m14 : Mem, m14 = mset m8 20 0 (upd (m8 20 0) (4 : Int32).toNatClampNeg ((m8 20 0 (4 : Int32).toNatClampNeg) + 1)) → P (.inl (some (aI a1))) m14))))) ∧ (¬ (μ 20 0 (1 : Int32).toNatClampNeg) ≤ a2 → AW M_X6_edition 0 45 [some (aR 19 0), some (aI a1), some (aI a2), some (aI 0)] [] μ P))) : AW M_X6_edition 0 33 [some (aR 19 0), some (aI a1), some (aI a2), none] [] μ P := by
  refine AW_iload_n dX6_edition_33 rfl ?_
  refine AW_aload_n dX6_edition_34 rfl ?_
  refine AW_getv (t := 19) (o := 0) (k := 0) (some (20, none)) (v := aR 20 0) dX6_edition_35 ff_X6_7 rfl rfl rfl ?_
  refine AW_iconst (v := 1) dX6_edition_38 (by decide) ?_
  obtain ⟨h1, h2⟩ := h
  refine AW_iaload dX6_edition_39 rfl rfl h1 ?_
  refine AW_icmp_ge (tgt := 143) dX6_edition_40 (by decide) (fun q5 => ?_) (fun q5 => ?_)
  · have h3 := h2.1 q5
    refine AW_aload_n dX6_edition_143 rfl ?_
    refine AW_getv (t := 19) (o := 0) (k := 0) (some (20, none)) (v := aR 20 0) dX6_edition_144 ff_X6_7 rfl rfl rfl ?_
    refine AW_bipush (v := 6) dX6_edition_147 (by decide) ?_
    refine AW_dup2 dX6_edition_149 rfl rfl ?_
    obtain ⟨h6, h7⟩ := h3
    refine AW_iaload dX6_edition_150 rfl rfl h6 ?_
    refine AW_iload_n dX6_edition_151 rfl ?_
    refine AW_iadd dX6_edition_152 ?_
    obtain ⟨h9, h11⟩ := h7
    obtain ⟨m8, em8⟩ : ∃ z : Mem, z = mset μ 20 0 (upd (μ 20 0) (6 : Int32).toNatClampNeg ((μ 20 0 (6 : Int32).toNatClampNeg) + a1)) := ⟨_, rfl⟩
    have h10 := h11 m8 em8
    refine AW_iastore dX6_edition_153 rfl rfl h9 em8.symm ?_
    refine AW_aload_n dX6_edition_154 rfl ?_
    refine AW_getv (t := 19) (o := 0) (k := 0) (some (20, none)) (v := aR 20 0) dX6_edition_155 ff_X6_7 rfl rfl rfl ?_
    refine AW_iconst (v := 4) dX6_edition_158 (by decide) ?_
    refine AW_dup2 dX6_edition_159 rfl rfl ?_
    obtain ⟨h12, h13⟩ := h10
    refine AW_iaload dX6_edition_160 rfl rfl h12 ?_
    refine AW_iconst (v := 1) dX6_edition_161 (by decide) ?_
    refine AW_iadd dX6_edition_162 ?_
    obtain ⟨h15, h17⟩ := h13
    obtain ⟨m14, em14⟩ : ∃ z : Mem, z = mset m8 20 0 (upd (m8 20 0) (4 : Int32).toNatClampNeg ((m8 20 0 (4 : Int32).toNatClampNeg) + 1)) := ⟨_, rfl⟩
    have h16 := h17 m14 em14
    refine AW_iastore dX6_edition_163 rfl rfl h15 em14.symm ?_
    refine AW_iload_n dX6_edition_164 rfl ?_
    exact AW_ireturn (ty := .int) dX6_edition_165 rfl rfl h16
  · have h4 := h2.2 q5
    refine AW_iconst (v := 0) dX6_edition_43 (by decide) ?_
    refine AW_istore_n (loc' := [some (aR 19 0), some (aI a1), some (aI a2), some (aI 0)]) dX6_edition_44 (Nat.le_of_ble_eq_true rfl) rfl rfl ?_
    exact h4
set_option maxRecDepth 100000 in
theorem B_X6_edition_45 {a1 : Int32} {a2 : Int32} {a3 : Int32} {μ : Mem} {P : RES → Mem → Prop}  (h : ∃ (r4 : Int32) (m1 : Mem), MetA M_X6_of [aR 19 0, aI a2, aI 1] μ (rI r4 m1) ∧ ((r4 ≤ a3 → AW M_X6_edition 0 33 [some (aR 19 0), some (aI a1), some (aI (a2 + 1)), none] [] m1 P) ∧ (¬ r4 ≤ a3 → ∃ (r11 : Int32) (m8 : Mem), MetA M_X6_mark [aR 19 0, aI a2, aI a3] m1 (rI r11 m8) ∧ ((r11 = 2 → ∃ (r18 : Int32) (m15 : Mem), MetA M_X6_of [aR 19 0, aI a2, aI 0] m8 (rI r18 m15) ∧ (∃ (r22 : Int32) (m19 : Mem), MetA M_X6_bad [aR 19 0, aI a2, aI a3] m15 (rI r22 m19) ∧ (∃ m23 : Mem, MetA M_X6_gets [aR 19 0, aI r18, aI 1, aI r22] m19 (rV m23) ∧ (∃ (r29 : Int32) (m26 : Mem), MetA M_X6_of [aR 19 0, aI a2, aI 0] m23 (rI r29 m26) ∧ (∃ (r33 : Int32) (m30 : Mem), MetA M_X6_laughs [aR 19 0, aI a2, aI a3] m26 (rI r33 m30) ∧ (∃ m34 : Mem, MetA M_X6_gets [aR 19 0, aI r29, aI 0, aI r33] m30 (rV m34) ∧ (∃ (r40 : Int32) (m37 : Mem), MetA M_X6_laughs [aR 19 0, aI a2, aI a3] m34 (rI r40 m37) ∧ (∃ m41 : Mem, MetA M_X6_lays [aR 19 0, aI a2, aI (18 + a3), aI 3] m37 (rV m41) ∧ (vp_in 5 240 ∧ (vp_in 5 240 ∧ (∀ m46 : Mem, m46 = mset m41 20 0 (upd (m41 20 0) (5 : Int32).toNatClampNeg ((m41 20 0 (5 : Int32).toNatClampNeg) + 1)) → AW M_X6_edition 0 45 [some (aR 19 0), some (aI (a1 + r40)), some (aI a2), some (aI (a3 + 1))] [] m46 P))))))))))) ∧ (¬ r11 = 2 → AW M_X6_edition 0 45 [some (aR 19 0), some (aI a1), some (aI a2), some (aI (a3 + 1))] [] m8 P))))) : AW M_X6_edition 0 45 [some (aR 19 0), some (aI a1), some (aI a2), some (aI a3)] [] μ P := by
  refine AW_iload_n dX6_edition_45 rfl ?_
  refine AW_aload_n dX6_edition_46 rfl ?_
  refine AW_iload_n dX6_edition_47 rfl ?_
  refine AW_iconst (v := 1) dX6_edition_48 (by decide) ?_
  obtain ⟨r4, m1, h3, h2⟩ := h
  refine AW_callVI [aI a2, aI 1] dX6_edition_49 cv_X6_80 rfl rfl rfl (by decide) rfl (by decide) (Nat.le_of_ble_eq_true rfl) h3 ?_
  refine AW_icmp_ge (tgt := 137) dX6_edition_52 (by decide) (fun q7 => ?_) (fun q7 => ?_)
  · have h5 := h2.1 q7
    refine AW_iinc (v := a2 + 1) (loc' := [some (aR 19 0), some (aI a1), some (aI (a2 + 1)), some (aI a3)]) dX6_edition_137 rfl rfl (Nat.le_of_ble_eq_true rfl) rfl rfl ?_
    refine AW_goto (tgt := 33) dX6_edition_140 (by decide) ?_
    exact AW_mask [true, true, true, false] h5
  · have h6 := h2.2 q7
    refine AW_aload_n dX6_edition_55 rfl ?_
    refine AW_iload_n dX6_edition_56 rfl ?_
    refine AW_iload_n dX6_edition_57 rfl ?_
    obtain ⟨r11, m8, h10, h9⟩ := h6
    refine AW_callVI [aI a2, aI a3] dX6_edition_58 cv_X6_111 rfl rfl rfl (by decide) rfl (by decide) (Nat.le_of_ble_eq_true rfl) h10 ?_
    refine AW_iconst (v := 2) dX6_edition_61 (by decide) ?_
    refine AW_icmp_eq (tgt := 68) dX6_edition_62 (by decide) (fun q14 => ?_) (fun q14 => ?_)
    · have h12 := h9.1 q14
      refine AW_aload_n dX6_edition_68 rfl ?_
      refine AW_aload_n dX6_edition_69 rfl ?_
      refine AW_iload_n dX6_edition_70 rfl ?_
      refine AW_iconst (v := 0) dX6_edition_71 (by decide) ?_
      obtain ⟨r18, m15, h17, h16⟩ := h12
      refine AW_callVI [aI a2, aI 0] dX6_edition_72 cv_X6_80 rfl rfl rfl (by decide) rfl (by decide) (Nat.le_of_ble_eq_true rfl) h17 ?_
      refine AW_iconst (v := 1) dX6_edition_75 (by decide) ?_
      refine AW_aload_n dX6_edition_76 rfl ?_
      refine AW_iload_n dX6_edition_77 rfl ?_
      refine AW_iload_n dX6_edition_78 rfl ?_
      obtain ⟨r22, m19, h21, h20⟩ := h16
      refine AW_callVI [aI a2, aI a3] dX6_edition_79 cv_X6_130 rfl rfl rfl (by decide) rfl (by decide) (Nat.le_of_ble_eq_true rfl) h21 ?_
      obtain ⟨m23, h25, h24⟩ := h20
      refine AW_callVV [aI r18, aI 1, aI r22] dX6_edition_82 cv_X6_143 rfl rfl rfl (by decide) rfl (by decide) (Nat.le_of_ble_eq_true rfl) h25 ?_
      refine AW_aload_n dX6_edition_85 rfl ?_
      refine AW_aload_n dX6_edition_86 rfl ?_
      refine AW_iload_n dX6_edition_87 rfl ?_
      refine AW_iconst (v := 0) dX6_edition_88 (by decide) ?_
      obtain ⟨r29, m26, h28, h27⟩ := h24
      refine AW_callVI [aI a2, aI 0] dX6_edition_89 cv_X6_80 rfl rfl rfl (by decide) rfl (by decide) (Nat.le_of_ble_eq_true rfl) h28 ?_
      refine AW_iconst (v := 0) dX6_edition_92 (by decide) ?_
      refine AW_aload_n dX6_edition_93 rfl ?_
      refine AW_iload_n dX6_edition_94 rfl ?_
      refine AW_iload_n dX6_edition_95 rfl ?_
      obtain ⟨r33, m30, h32, h31⟩ := h27
      refine AW_callVI [aI a2, aI a3] dX6_edition_96 cv_X6_146 rfl rfl rfl (by decide) rfl (by decide) (Nat.le_of_ble_eq_true rfl) h32 ?_
      obtain ⟨m34, h36, h35⟩ := h31
      refine AW_callVV [aI r29, aI 0, aI r33] dX6_edition_99 cv_X6_143 rfl rfl rfl (by decide) rfl (by decide) (Nat.le_of_ble_eq_true rfl) h36 ?_
      refine AW_iload_n dX6_edition_102 rfl ?_
      refine AW_aload_n dX6_edition_103 rfl ?_
      refine AW_iload_n dX6_edition_104 rfl ?_
      refine AW_iload_n dX6_edition_105 rfl ?_
      obtain ⟨r40, m37, h39, h38⟩ := h35
      refine AW_callVI [aI a2, aI a3] dX6_edition_106 cv_X6_146 rfl rfl rfl (by decide) rfl (by decide) (Nat.le_of_ble_eq_true rfl) h39 ?_
      refine AW_iadd dX6_edition_109 ?_
      refine AW_istore_n (loc' := [some (aR 19 0), some (aI (a1 + r40)), some (aI a2), some (aI a3)]) dX6_edition_110 (Nat.le_of_ble_eq_true rfl) rfl rfl ?_
      refine AW_aload_n dX6_edition_111 rfl ?_
      refine AW_iload_n dX6_edition_112 rfl ?_
      refine AW_bipush (v := 18) dX6_edition_113 (by decide) ?_
      refine AW_iload_n dX6_edition_115 rfl ?_
      refine AW_iadd dX6_edition_116 ?_
      refine AW_iconst (v := 3) dX6_edition_117 (by decide) ?_
      obtain ⟨m41, h43, h42⟩ := h38
      refine AW_callVV [aI a2, aI (18 + a3), aI 3] dX6_edition_118 cv_X6_108 rfl rfl rfl (by decide) rfl (by decide) (Nat.le_of_ble_eq_true rfl) h43 ?_
      refine AW_aload_n dX6_edition_121 rfl ?_
      refine AW_getv (t := 19) (o := 0) (k := 0) (some (20, none)) (v := aR 20 0) dX6_edition_122 ff_X6_7 rfl rfl rfl ?_
      refine AW_iconst (v := 5) dX6_edition_125 (by decide) ?_
      refine AW_dup2 dX6_edition_126 rfl rfl ?_
      obtain ⟨h44, h45⟩ := h42
      refine AW_iaload dX6_edition_127 rfl rfl h44 ?_
      refine AW_iconst (v := 1) dX6_edition_128 (by decide) ?_
      refine AW_iadd dX6_edition_129 ?_
      obtain ⟨h47, h49⟩ := h45
      obtain ⟨m46, em46⟩ : ∃ z : Mem, z = mset m41 20 0 (upd (m41 20 0) (5 : Int32).toNatClampNeg ((m41 20 0 (5 : Int32).toNatClampNeg) + 1)) := ⟨_, rfl⟩
      have h48 := h49 m46 em46
      refine AW_iastore dX6_edition_130 rfl rfl h47 em46.symm ?_
      refine AW_iinc (v := a3 + 1) (loc' := [some (aR 19 0), some (aI (a1 + r40)), some (aI a2), some (aI (a3 + 1))]) dX6_edition_131 rfl rfl (Nat.le_of_ble_eq_true rfl) rfl rfl ?_
      refine AW_goto (tgt := 45) dX6_edition_134 (by decide) ?_
      exact h48
    · have h13 := h9.2 q14
      refine AW_goto (tgt := 131) dX6_edition_65 (by decide) ?_
      refine AW_iinc (v := a3 + 1) (loc' := [some (aR 19 0), some (aI a1), some (aI a2), some (aI (a3 + 1))]) dX6_edition_131 rfl rfl (Nat.le_of_ble_eq_true rfl) rfl rfl ?_
      refine AW_goto (tgt := 45) dX6_edition_134 (by decide) ?_
      exact h13
set_option maxRecDepth 100000 in
theorem B_X6_day_0  {μ : Mem} {P : RES → Mem → Prop}  (h : ∃ m1 : Mem, MetA M_X6_keeps [aR 19 0, aR 20 0] μ (rV m1) ∧ (AW M_X6_day 0 12 [some (aR 19 0), some (aI 0), some (aI 0)] [] m1 P)) : AW M_X6_day 0 0 [some (aR 19 0), none, none] [] μ P := by
  refine AW_aload_n dX6_day_0 rfl ?_
  refine AW_aload_n dX6_day_1 rfl ?_
  refine AW_getv (t := 19) (o := 0) (k := 0) (some (20, none)) (v := aR 20 0) dX6_day_2 ff_X6_7 rfl rfl rfl ?_
  obtain ⟨m1, h3, h2⟩ := h
  refine AW_callVV [aR 20 0] dX6_day_5 cv_X6_93 rfl rfl rfl (by decide) rfl (by decide) (Nat.le_of_ble_eq_true rfl) h3 ?_
  refine AW_iconst (v := 0) dX6_day_8 (by decide) ?_
  refine AW_istore_n (loc' := [some (aR 19 0), some (aI 0), none]) dX6_day_9 (Nat.le_of_ble_eq_true rfl) rfl rfl ?_
  refine AW_iconst (v := 0) dX6_day_10 (by decide) ?_
  refine AW_istore_n (loc' := [some (aR 19 0), some (aI 0), some (aI 0)]) dX6_day_11 (Nat.le_of_ble_eq_true rfl) rfl rfl ?_
  exact h2
set_option maxRecDepth 100000 in
theorem B_X6_day_12 {a1 : Int32} {a2 : Int32} {μ : Mem} {P : RES → Mem → Prop}  (h : vp_in 0 240 ∧ (((μ 20 0 (0 : Int32).toNatClampNeg) ≤ a2 → vp_in 3 240 ∧ (vp_in 3 240 ∧ (∀ m8 : Mem, m8 = mset μ 20 0 (upd (μ 20 0) (3 : Int32).toNatClampNeg ((μ 20 0 (3 : Int32).toNatClampNeg) + 1)) → P (.inl (some (aI a1))) m8))) ∧ (¬ (μ 20 0 (0 : Int32).toNatClampNeg) ≤ a2 → ∃ (r15 : Int32) (m12 : Mem), MetA M_X6_by [aR 19 0, aI a2, aI 1] μ (rI r15 m12) ∧ ((r15 ≤ 0 → ∃ m19 : Mem, MetA M_X6_gets [aR 19 0, aI a2, aI 0, aI 1] m12 (rV m19) ∧ (∃ (r25 : Int32) (m22 : Mem), MetA M_X6_isAshamed [aR 19 0, aI a2] m19 (rI r25 m22) ∧ ((r25 = 0 → AW M_X6_day 0 12 [some (aR 19 0), some (aI (a1 + 0)), some (aI (a2 + 1))] [] m22 P) ∧ (¬ r25 = 0 → AW M_X6_day 0 12 [some (aR 19 0), some (aI (a1 + 1)), some (aI (a2 + 1))] [] m22 P)))) ∧ (¬ r15 ≤ 0 → ∃ m29 : Mem, MetA M_X6_adds [aR 19 0, aI a2, aI 1, aI (-1)] m12 (rV m29) ∧ (∃ m32 : Mem, MetA M_X6_gets [aR 19 0, aI a2, aI 0, aI 1] m29 (rV m32) ∧ (∃ (r38 : Int32) (m35 : Mem), MetA M_X6_isAshamed [aR 19 0, aI a2] m32 (rI r38 m35) ∧ ((r38 = 0 → AW M_X6_day 0 12 [some (aR 19 0), some (aI (a1 + 0)), some (aI (a2 + 1))] [] m35 P) ∧ (¬ r38 = 0 → AW M_X6_day 0 12 [some (aR 19 0), some (aI (a1 + 1)), some (aI (a2 + 1))] [] m35 P))))))))) : AW M_X6_day 0 12 [some (aR 19 0), some (aI a1), some (aI a2)] [] μ P := by
  refine AW_iload_n dX6_day_12 rfl ?_
  refine AW_aload_n dX6_day_13 rfl ?_
  refine AW_getv (t := 19) (o := 0) (k := 0) (some (20, none)) (v := aR 20 0) dX6_day_14 ff_X6_7 rfl rfl rfl ?_
  refine AW_iconst (v := 0) dX6_day_17 (by decide) ?_
  obtain ⟨h1, h2⟩ := h
  refine AW_iaload dX6_day_18 rfl rfl h1 ?_
  refine AW_icmp_ge (tgt := 67) dX6_day_19 (by decide) (fun q5 => ?_) (fun q5 => ?_)
  · have h3 := h2.1 q5
    refine AW_aload_n dX6_day_67 rfl ?_
    refine AW_getv (t := 19) (o := 0) (k := 0) (some (20, none)) (v := aR 20 0) dX6_day_68 ff_X6_7 rfl rfl rfl ?_
    refine AW_iconst (v := 3) dX6_day_71 (by decide) ?_
    refine AW_dup2 dX6_day_72 rfl rfl ?_
    obtain ⟨h6, h7⟩ := h3
    refine AW_iaload dX6_day_73 rfl rfl h6 ?_
    refine AW_iconst (v := 1) dX6_day_74 (by decide) ?_
    refine AW_iadd dX6_day_75 ?_
    obtain ⟨h9, h11⟩ := h7
    obtain ⟨m8, em8⟩ : ∃ z : Mem, z = mset μ 20 0 (upd (μ 20 0) (3 : Int32).toNatClampNeg ((μ 20 0 (3 : Int32).toNatClampNeg) + 1)) := ⟨_, rfl⟩
    have h10 := h11 m8 em8
    refine AW_iastore dX6_day_76 rfl rfl h9 em8.symm ?_
    refine AW_iload_n dX6_day_77 rfl ?_
    exact AW_ireturn (ty := .int) dX6_day_78 rfl rfl h10
  · have h4 := h2.2 q5
    refine AW_aload_n dX6_day_22 rfl ?_
    refine AW_iload_n dX6_day_23 rfl ?_
    refine AW_iconst (v := 1) dX6_day_24 (by decide) ?_
    obtain ⟨r15, m12, h14, h13⟩ := h4
    refine AW_callVI [aI a2, aI 1] dX6_day_25 cv_X6_65 rfl rfl rfl (by decide) rfl (by decide) (Nat.le_of_ble_eq_true rfl) h14 ?_
    refine AW_if_le (tgt := 38) dX6_day_28 (by decide) (fun q18 => ?_) (fun q18 => ?_)
    · have h16 := h13.1 q18
      refine AW_aload_n dX6_day_38 rfl ?_
      refine AW_iload_n dX6_day_39 rfl ?_
      refine AW_iconst (v := 0) dX6_day_40 (by decide) ?_
      refine AW_iconst (v := 1) dX6_day_41 (by decide) ?_
      obtain ⟨m19, h21, h20⟩ := h16
      refine AW_callVV [aI a2, aI 0, aI 1] dX6_day_42 cv_X6_143 rfl rfl rfl (by decide) rfl (by decide) (Nat.le_of_ble_eq_true rfl) h21 ?_
      refine AW_iload_n dX6_day_45 rfl ?_
      refine AW_aload_n dX6_day_46 rfl ?_
      refine AW_iload_n dX6_day_47 rfl ?_
      obtain ⟨r25, m22, h24, h23⟩ := h20
      refine AW_callVI [aI a2] dX6_day_48 cv_X6_124 rfl rfl rfl (by decide) rfl (by decide) (Nat.le_of_ble_eq_true rfl) h24 ?_
      refine AW_if_eq (tgt := 58) dX6_day_51 (by decide) (fun q28 => ?_) (fun q28 => ?_)
      · have h26 := h23.1 q28
        refine AW_iconst (v := 0) dX6_day_58 (by decide) ?_
        refine AW_iadd dX6_day_59 ?_
        refine AW_istore_n (loc' := [some (aR 19 0), some (aI (a1 + 0)), some (aI a2)]) dX6_day_60 (Nat.le_of_ble_eq_true rfl) rfl rfl ?_
        refine AW_iinc (v := a2 + 1) (loc' := [some (aR 19 0), some (aI (a1 + 0)), some (aI (a2 + 1))]) dX6_day_61 rfl rfl (Nat.le_of_ble_eq_true rfl) rfl rfl ?_
        refine AW_goto (tgt := 12) dX6_day_64 (by decide) ?_
        exact h26
      · have h27 := h23.2 q28
        refine AW_iconst (v := 1) dX6_day_54 (by decide) ?_
        refine AW_goto (tgt := 59) dX6_day_55 (by decide) ?_
        refine AW_iadd dX6_day_59 ?_
        refine AW_istore_n (loc' := [some (aR 19 0), some (aI (a1 + 1)), some (aI a2)]) dX6_day_60 (Nat.le_of_ble_eq_true rfl) rfl rfl ?_
        refine AW_iinc (v := a2 + 1) (loc' := [some (aR 19 0), some (aI (a1 + 1)), some (aI (a2 + 1))]) dX6_day_61 rfl rfl (Nat.le_of_ble_eq_true rfl) rfl rfl ?_
        refine AW_goto (tgt := 12) dX6_day_64 (by decide) ?_
        exact h27
    · have h17 := h13.2 q18
      refine AW_aload_n dX6_day_31 rfl ?_
      refine AW_iload_n dX6_day_32 rfl ?_
      refine AW_iconst (v := 1) dX6_day_33 (by decide) ?_
      refine AW_iconst (v := (-1)) dX6_day_34 (by decide) ?_
      obtain ⟨m29, h31, h30⟩ := h17
      refine AW_callVV [aI a2, aI 1, aI (-1)] dX6_day_35 cv_X6_97 rfl rfl rfl (by decide) rfl (by decide) (Nat.le_of_ble_eq_true rfl) h31 ?_
      refine AW_aload_n dX6_day_38 rfl ?_
      refine AW_iload_n dX6_day_39 rfl ?_
      refine AW_iconst (v := 0) dX6_day_40 (by decide) ?_
      refine AW_iconst (v := 1) dX6_day_41 (by decide) ?_
      obtain ⟨m32, h34, h33⟩ := h30
      refine AW_callVV [aI a2, aI 0, aI 1] dX6_day_42 cv_X6_143 rfl rfl rfl (by decide) rfl (by decide) (Nat.le_of_ble_eq_true rfl) h34 ?_
      refine AW_iload_n dX6_day_45 rfl ?_
      refine AW_aload_n dX6_day_46 rfl ?_
      refine AW_iload_n dX6_day_47 rfl ?_
      obtain ⟨r38, m35, h37, h36⟩ := h33
      refine AW_callVI [aI a2] dX6_day_48 cv_X6_124 rfl rfl rfl (by decide) rfl (by decide) (Nat.le_of_ble_eq_true rfl) h37 ?_
      refine AW_if_eq (tgt := 58) dX6_day_51 (by decide) (fun q41 => ?_) (fun q41 => ?_)
      · have h39 := h36.1 q41
        refine AW_iconst (v := 0) dX6_day_58 (by decide) ?_
        refine AW_iadd dX6_day_59 ?_
        refine AW_istore_n (loc' := [some (aR 19 0), some (aI (a1 + 0)), some (aI a2)]) dX6_day_60 (Nat.le_of_ble_eq_true rfl) rfl rfl ?_
        refine AW_iinc (v := a2 + 1) (loc' := [some (aR 19 0), some (aI (a1 + 0)), some (aI (a2 + 1))]) dX6_day_61 rfl rfl (Nat.le_of_ble_eq_true rfl) rfl rfl ?_
        refine AW_goto (tgt := 12) dX6_day_64 (by decide) ?_
        exact h39
      · have h40 := h36.2 q41
        refine AW_iconst (v := 1) dX6_day_54 (by decide) ?_
        refine AW_goto (tgt := 59) dX6_day_55 (by decide) ?_
        refine AW_iadd dX6_day_59 ?_
        refine AW_istore_n (loc' := [some (aR 19 0), some (aI (a1 + 1)), some (aI a2)]) dX6_day_60 (Nat.le_of_ble_eq_true rfl) rfl rfl ?_
        refine AW_iinc (v := a2 + 1) (loc' := [some (aR 19 0), some (aI (a1 + 1)), some (aI (a2 + 1))]) dX6_day_61 rfl rfl (Nat.le_of_ble_eq_true rfl) rfl rfl ?_
        refine AW_goto (tgt := 12) dX6_day_64 (by decide) ?_
        exact h40
set_option maxRecDepth 100000 in
theorem B_X6_sheetsOf_0 {a1 : Int32} {μ : Mem} {P : RES → Mem → Prop}  (h : AW M_X6_sheetsOf 0 4 [some (aR 19 0), some (aI a1), some (aI 0), some (aI 0)] [] μ P) : AW M_X6_sheetsOf 0 0 [some (aR 19 0), some (aI a1), none, none] [] μ P := by
  refine AW_iconst (v := 0) dX6_sheetsOf_0 (by decide) ?_
  refine AW_istore_n (loc' := [some (aR 19 0), some (aI a1), some (aI 0), none]) dX6_sheetsOf_1 (Nat.le_of_ble_eq_true rfl) rfl rfl ?_
  refine AW_iconst (v := 0) dX6_sheetsOf_2 (by decide) ?_
  refine AW_istore_n (loc' := [some (aR 19 0), some (aI a1), some (aI 0), some (aI 0)]) dX6_sheetsOf_3 (Nat.le_of_ble_eq_true rfl) rfl rfl ?_
  exact h
set_option maxRecDepth 100000 in
theorem B_X6_sheetsOf_4 {a1 : Int32} {a2 : Int32} {a3 : Int32} {μ : Mem} {P : RES → Mem → Prop}  (h : vp_in 1 240 ∧ (((μ 20 0 (1 : Int32).toNatClampNeg) ≤ a3 → P (.inl (some (aI a2))) μ) ∧ (¬ (μ 20 0 (1 : Int32).toNatClampNeg) ≤ a3 → ∃ (r9 : Int32) (m6 : Mem), MetA M_X6_of [aR 19 0, aI a3, aI 0] μ (rI r9 m6) ∧ ((¬ r9 = a1 → AW M_X6_sheetsOf 0 4 [some (aR 19 0), some (aI a1), some (aI (a2 + 0)), some (aI (a3 + 1))] [] m6 P) ∧ (r9 = a1 → AW M_X6_sheetsOf 0 4 [some (aR 19 0), some (aI a1), some (aI (a2 + 1)), some (aI (a3 + 1))] [] m6 P))))) : AW M_X6_sheetsOf 0 4 [some (aR 19 0), some (aI a1), some (aI a2), some (aI a3)] [] μ P := by
  refine AW_iload_n dX6_sheetsOf_4 rfl ?_
  refine AW_aload_n dX6_sheetsOf_5 rfl ?_
  refine AW_getv (t := 19) (o := 0) (k := 0) (some (20, none)) (v := aR 20 0) dX6_sheetsOf_6 ff_X6_7 rfl rfl rfl ?_
  refine AW_iconst (v := 1) dX6_sheetsOf_9 (by decide) ?_
  obtain ⟨h1, h2⟩ := h
  refine AW_iaload dX6_sheetsOf_10 rfl rfl h1 ?_
  refine AW_icmp_ge (tgt := 38) dX6_sheetsOf_11 (by decide) (fun q5 => ?_) (fun q5 => ?_)
  · have h3 := h2.1 q5
    refine AW_iload_n dX6_sheetsOf_38 rfl ?_
    exact AW_ireturn (ty := .int) dX6_sheetsOf_39 rfl rfl h3
  · have h4 := h2.2 q5
    refine AW_iload_n dX6_sheetsOf_14 rfl ?_
    refine AW_aload_n dX6_sheetsOf_15 rfl ?_
    refine AW_iload_n dX6_sheetsOf_16 rfl ?_
    refine AW_iconst (v := 0) dX6_sheetsOf_17 (by decide) ?_
    obtain ⟨r9, m6, h8, h7⟩ := h4
    refine AW_callVI [aI a3, aI 0] dX6_sheetsOf_18 cv_X6_80 rfl rfl rfl (by decide) rfl (by decide) (Nat.le_of_ble_eq_true rfl) h8 ?_
    refine AW_iload_n dX6_sheetsOf_21 rfl ?_
    refine AW_icmp_ne (tgt := 29) dX6_sheetsOf_22 (by decide) (fun q12 => ?_) (fun q12 => ?_)
    · have h10 := h7.1 q12
      refine AW_iconst (v := 0) dX6_sheetsOf_29 (by decide) ?_
      refine AW_iadd dX6_sheetsOf_30 ?_
      refine AW_istore_n (loc' := [some (aR 19 0), some (aI a1), some (aI (a2 + 0)), some (aI a3)]) dX6_sheetsOf_31 (Nat.le_of_ble_eq_true rfl) rfl rfl ?_
      refine AW_iinc (v := a3 + 1) (loc' := [some (aR 19 0), some (aI a1), some (aI (a2 + 0)), some (aI (a3 + 1))]) dX6_sheetsOf_32 rfl rfl (Nat.le_of_ble_eq_true rfl) rfl rfl ?_
      refine AW_goto (tgt := 4) dX6_sheetsOf_35 (by decide) ?_
      exact h10
    · have h11 := h7.2 q12
      refine AW_iconst (v := 1) dX6_sheetsOf_25 (by decide) ?_
      refine AW_goto (tgt := 30) dX6_sheetsOf_26 (by decide) ?_
      refine AW_iadd dX6_sheetsOf_30 ?_
      refine AW_istore_n (loc' := [some (aR 19 0), some (aI a1), some (aI (a2 + 1)), some (aI a3)]) dX6_sheetsOf_31 (Nat.le_of_ble_eq_true rfl) rfl rfl ?_
      refine AW_iinc (v := a3 + 1) (loc' := [some (aR 19 0), some (aI a1), some (aI (a2 + 1)), some (aI (a3 + 1))]) dX6_sheetsOf_32 rfl rfl (Nat.le_of_ble_eq_true rfl) rfl rfl ?_
      refine AW_goto (tgt := 4) dX6_sheetsOf_35 (by decide) ?_
      exact h11
set_option maxRecDepth 100000 in
theorem B_X6_houseOf_0 {a1 : Int32} {a2 : Int32} {μ : Mem} {P : RES → Mem → Prop}  (h : ∃ (r4 : Int32) (m1 : Mem), MetA M_X6_isHouse [aR 19 0, aI a1] μ (rI r4 m1) ∧ ((¬ r4 = 0 → ∃ (r11 : Int32) (m8 : Mem), MetA M_X6_in [aI a2, aI 0, aI 6] m1 (rI r11 m8) ∧ ((r11 = 0 → ∃ (r18 : Int32) (m15 : Mem), MetA M_X6_fails [aR 19 0, aI 2] m8 (rI r18 m15) ∧ ((r18 = 0 → (a2.toInt = 0 ∨ a2.toInt = 1 → ∃ (r27 : Int32) (m24 : Mem), MetA M_X6_by [aR 19 0, aI a1, aI a2] m15 (rI r27 m24) ∧ (P (.inl (some (aI r27))) m24)) ∧ (a2.toInt = 2 → ∃ (r32 : Int32) (m29 : Mem), MetA M_X6_sheetsOf [aR 19 0, aI a1] m15 (rI r32 m29) ∧ (P (.inl (some (aI r32))) m29)) ∧ (a2.toInt = 3 → ∃ (r37 : Int32) (m34 : Mem), MetA M_X6_ofHouse [aR 19 0, aI a1, aI 1] m15 (rI r37 m34) ∧ (P (.inl (some (aI r37))) m34)) ∧ (a2.toInt = 4 → ∃ (r42 : Int32) (m39 : Mem), MetA M_X6_ofHouse [aR 19 0, aI a1, aI 2] m15 (rI r42 m39) ∧ (P (.inl (some (aI r42))) m39)) ∧ (a2.toInt = 5 → ∃ (r47 : Int32) (m44 : Mem), MetA M_X6_price [aR 19 0, aI a1] m15 (rI r47 m44) ∧ (P (.inl (some (aI r47))) m44)) ∧ (¬ a2.toInt = 0 → ¬ a2.toInt = 1 → ¬ a2.toInt = 2 → ¬ a2.toInt = 3 → ¬ a2.toInt = 4 → ¬ a2.toInt = 5 → ∃ (r52 : Int32) (m49 : Mem), MetA M_X6_by [aR 19 0, aI a1, aI 2] m15 (rI r52 m49) ∧ (P (.inl (some (aI r52))) m49))) ∧ (¬ r18 = 0 → P (.inl (some (aI 0))) m15))) ∧ (¬ r11 = 0 → ∃ (r63 : Int32) (m60 : Mem), MetA M_X6_fails [aR 19 0, aI 0] m8 (rI r63 m60) ∧ ((r63 = 0 → (a2.toInt = 0 ∨ a2.toInt = 1 → ∃ (r72 : Int32) (m69 : Mem), MetA M_X6_by [aR 19 0, aI a1, aI a2] m60 (rI r72 m69) ∧ (P (.inl (some (aI r72))) m69)) ∧ (a2.toInt = 2 → ∃ (r77 : Int32) (m74 : Mem), MetA M_X6_sheetsOf [aR 19 0, aI a1] m60 (rI r77 m74) ∧ (P (.inl (some (aI r77))) m74)) ∧ (a2.toInt = 3 → ∃ (r82 : Int32) (m79 : Mem), MetA M_X6_ofHouse [aR 19 0, aI a1, aI 1] m60 (rI r82 m79) ∧ (P (.inl (some (aI r82))) m79)) ∧ (a2.toInt = 4 → ∃ (r87 : Int32) (m84 : Mem), MetA M_X6_ofHouse [aR 19 0, aI a1, aI 2] m60 (rI r87 m84) ∧ (P (.inl (some (aI r87))) m84)) ∧ (a2.toInt = 5 → ∃ (r92 : Int32) (m89 : Mem), MetA M_X6_price [aR 19 0, aI a1] m60 (rI r92 m89) ∧ (P (.inl (some (aI r92))) m89)) ∧ (¬ a2.toInt = 0 → ¬ a2.toInt = 1 → ¬ a2.toInt = 2 → ¬ a2.toInt = 3 → ¬ a2.toInt = 4 → ¬ a2.toInt = 5 → ∃ (r97 : Int32) (m94 : Mem), MetA M_X6_by [aR 19 0, aI a1, aI 2] m60 (rI r97 m94) ∧ (P (.inl (some (aI r97))) m94))) ∧ (¬ r63 = 0 → P (.inl (some (aI 0))) m60))))) ∧ (r4 = 0 → ∃ (r108 : Int32) (m105 : Mem), MetA M_X6_fails [aR 19 0, aI 1] m1 (rI r108 m105) ∧ ((r108 = 0 → (a2.toInt = 0 ∨ a2.toInt = 1 → ∃ (r117 : Int32) (m114 : Mem), MetA M_X6_by [aR 19 0, aI a1, aI a2] m105 (rI r117 m114) ∧ (P (.inl (some (aI r117))) m114)) ∧ (a2.toInt = 2 → ∃ (r122 : Int32) (m119 : Mem), MetA M_X6_sheetsOf [aR 19 0, aI a1] m105 (rI r122 m119) ∧ (P (.inl (some (aI r122))) m119)) ∧ (a2.toInt = 3 → ∃ (r127 : Int32) (m124 : Mem), MetA M_X6_ofHouse [aR 19 0, aI a1, aI 1] m105 (rI r127 m124) ∧ (P (.inl (some (aI r127))) m124)) ∧ (a2.toInt = 4 → ∃ (r132 : Int32) (m129 : Mem), MetA M_X6_ofHouse [aR 19 0, aI a1, aI 2] m105 (rI r132 m129) ∧ (P (.inl (some (aI r132))) m129)) ∧ (a2.toInt = 5 → ∃ (r137 : Int32) (m134 : Mem), MetA M_X6_price [aR 19 0, aI a1] m105 (rI r137 m134) ∧ (P (.inl (some (aI r137))) m134)) ∧ (¬ a2.toInt = 0 → ¬ a2.toInt = 1 → ¬ a2.toInt = 2 → ¬ a2.toInt = 3 → ¬ a2.toInt = 4 → ¬ a2.toInt = 5 → ∃ (r142 : Int32) (m139 : Mem), MetA M_X6_by [aR 19 0, aI a1, aI 2] m105 (rI r142 m139) ∧ (P (.inl (some (aI r142))) m139))) ∧ (¬ r108 = 0 → P (.inl (some (aI 0))) m105))))) : AW M_X6_houseOf 0 0 [some (aR 19 0), some (aI a1), some (aI a2)] [] μ P := by
  refine AW_aload_n dX6_houseOf_0 rfl ?_
  refine AW_aload_n dX6_houseOf_1 rfl ?_
  refine AW_iload_n dX6_houseOf_2 rfl ?_
  obtain ⟨r4, m1, h3, h2⟩ := h
  refine AW_callVI [aI a1] dX6_houseOf_3 cv_X6_101 rfl rfl rfl (by decide) rfl (by decide) (Nat.le_of_ble_eq_true rfl) h3 ?_
  refine AW_if_ne (tgt := 13) dX6_houseOf_6 (by decide) (fun q7 => ?_) (fun q7 => ?_)
  · have h5 := h2.1 q7
    refine AW_iload_n dX6_houseOf_13 rfl ?_
    refine AW_iconst (v := 0) dX6_houseOf_14 (by decide) ?_
    refine AW_bipush (v := 6) dX6_houseOf_15 (by decide) ?_
    obtain ⟨r11, m8, h10, h9⟩ := h5
    refine AW_callSI [aI a2, aI 0, aI 6] dX6_houseOf_17 cs_X6_72 rfl rfl (by decide) rfl (by decide) (Nat.le_of_ble_eq_true rfl) h10 ?_
    refine AW_if_eq (tgt := 27) dX6_houseOf_20 (by decide) (fun q14 => ?_) (fun q14 => ?_)
    · have h12 := h9.1 q14
      refine AW_iconst (v := 2) dX6_houseOf_27 (by decide) ?_
      obtain ⟨r18, m15, h17, h16⟩ := h12
      refine AW_callVI [aI 2] dX6_houseOf_28 cv_X6_86 rfl rfl rfl (by decide) rfl (by decide) (Nat.le_of_ble_eq_true rfl) h17 ?_
      refine AW_if_eq (tgt := 36) dX6_houseOf_31 (by decide) (fun q21 => ?_) (fun q21 => ?_)
      · have h19 := h16.1 q21
        refine AW_iload_n dX6_houseOf_36 rfl ?_
        obtain ⟨g53, g54, g55, g56, g57, g58⟩ := h19
        have hdf : (¬ a2.toInt = 0 → ¬ a2.toInt = 1 → ¬ a2.toInt = 2 → ¬ a2.toInt = 3 → ¬ a2.toInt = 4 → ¬ a2.toInt = 5 → AW M_X6_houseOf 0 109 [some (aR 19 0), some (aI a1), some (aI a2)] [] m15 P) := by
          intro z0 z1 z2 z3 z4 z5
          have h48 := g58 z0 z1 z2 z3 z4 z5
          refine AW_aload_n dX6_houseOf_109 rfl ?_
          refine AW_iload_n dX6_houseOf_110 rfl ?_
          refine AW_iconst (v := 2) dX6_houseOf_111 (by decide) ?_
          obtain ⟨r52, m49, h51, h50⟩ := h48
          refine AW_callVI [aI a1, aI 2] dX6_houseOf_112 cv_X6_65 rfl rfl rfl (by decide) rfl (by decide) (Nat.le_of_ble_eq_true rfl) h51 ?_
          exact AW_ireturn (ty := .int) dX6_houseOf_115 rfl rfl h50
        have ho39 : (a2.toInt = 0 ∨ a2.toInt = 1 → AW M_X6_houseOf 0 76 [some (aR 19 0), some (aI a1), some (aI a2)] [] m15 P) := by
          intro z
          have h23 := g53 z
          refine AW_aload_n dX6_houseOf_76 rfl ?_
          refine AW_iload_n dX6_houseOf_77 rfl ?_
          refine AW_iload_n dX6_houseOf_78 rfl ?_
          obtain ⟨r27, m24, h26, h25⟩ := h23
          refine AW_callVI [aI a1, aI a2] dX6_houseOf_79 cv_X6_65 rfl rfl rfl (by decide) rfl (by decide) (Nat.le_of_ble_eq_true rfl) h26 ?_
          exact AW_ireturn (ty := .int) dX6_houseOf_82 rfl rfl h25
        have ho46 : (a2.toInt = 2 → AW M_X6_houseOf 0 83 [some (aR 19 0), some (aI a1), some (aI a2)] [] m15 P) := by
          intro z
          have h28 := g54 z
          refine AW_aload_n dX6_houseOf_83 rfl ?_
          refine AW_iload_n dX6_houseOf_84 rfl ?_
          obtain ⟨r32, m29, h31, h30⟩ := h28
          refine AW_callVI [aI a1] dX6_houseOf_85 cv_X6_149 rfl rfl rfl (by decide) rfl (by decide) (Nat.le_of_ble_eq_true rfl) h31 ?_
          exact AW_ireturn (ty := .int) dX6_houseOf_88 rfl rfl h30
        have ho52 : (a2.toInt = 3 → AW M_X6_houseOf 0 89 [some (aR 19 0), some (aI a1), some (aI a2)] [] m15 P) := by
          intro z
          have h33 := g55 z
          refine AW_aload_n dX6_houseOf_89 rfl ?_
          refine AW_iload_n dX6_houseOf_90 rfl ?_
          refine AW_iconst (v := 1) dX6_houseOf_91 (by decide) ?_
          obtain ⟨r37, m34, h36, h35⟩ := h33
          refine AW_callVI [aI a1, aI 1] dX6_houseOf_92 cv_X6_121 rfl rfl rfl (by decide) rfl (by decide) (Nat.le_of_ble_eq_true rfl) h36 ?_
          exact AW_ireturn (ty := .int) dX6_houseOf_95 rfl rfl h35
        have ho59 : (a2.toInt = 4 → AW M_X6_houseOf 0 96 [some (aR 19 0), some (aI a1), some (aI a2)] [] m15 P) := by
          intro z
          have h38 := g56 z
          refine AW_aload_n dX6_houseOf_96 rfl ?_
          refine AW_iload_n dX6_houseOf_97 rfl ?_
          refine AW_iconst (v := 2) dX6_houseOf_98 (by decide) ?_
          obtain ⟨r42, m39, h41, h40⟩ := h38
          refine AW_callVI [aI a1, aI 2] dX6_houseOf_99 cv_X6_121 rfl rfl rfl (by decide) rfl (by decide) (Nat.le_of_ble_eq_true rfl) h41 ?_
          exact AW_ireturn (ty := .int) dX6_houseOf_102 rfl rfl h40
        have ho66 : (a2.toInt = 5 → AW M_X6_houseOf 0 103 [some (aR 19 0), some (aI a1), some (aI a2)] [] m15 P) := by
          intro z
          have h43 := g57 z
          refine AW_aload_n dX6_houseOf_103 rfl ?_
          refine AW_iload_n dX6_houseOf_104 rfl ?_
          obtain ⟨r47, m44, h46, h45⟩ := h43
          refine AW_callVI [aI a1] dX6_houseOf_105 cv_X6_127 rfl rfl rfl (by decide) rfl (by decide) (Nat.le_of_ble_eq_true rfl) h46 ?_
          exact AW_ireturn (ty := .int) dX6_houseOf_108 rfl rfl h45
        exact AW_tsw dX6_houseOf_37 (by decide) (fun q59 => ⟨109, by decide, hdf (by omega) (by omega) (by omega) (by omega) (by omega) (by omega)⟩) ⟨fun q59 => ⟨76, by decide, ho39 (by omega)⟩, fun q59 => ⟨76, by decide, ho39 (by omega)⟩, fun q59 => ⟨83, by decide, ho46 (by omega)⟩, fun q59 => ⟨89, by decide, ho52 (by omega)⟩, fun q59 => ⟨96, by decide, ho59 (by omega)⟩, fun q59 => ⟨103, by decide, ho66 (by omega)⟩, trivial⟩
      · have h20 := h16.2 q21
        refine AW_iconst (v := 0) dX6_houseOf_34 (by decide) ?_
        exact AW_ireturn (ty := .int) dX6_houseOf_35 rfl rfl h20
    · have h13 := h9.2 q14
      refine AW_iconst (v := 0) dX6_houseOf_23 (by decide) ?_
      refine AW_goto (tgt := 28) dX6_houseOf_24 (by decide) ?_
      obtain ⟨r63, m60, h62, h61⟩ := h13
      refine AW_callVI [aI 0] dX6_houseOf_28 cv_X6_86 rfl rfl rfl (by decide) rfl (by decide) (Nat.le_of_ble_eq_true rfl) h62 ?_
      refine AW_if_eq (tgt := 36) dX6_houseOf_31 (by decide) (fun q66 => ?_) (fun q66 => ?_)
      · have h64 := h61.1 q66
        refine AW_iload_n dX6_houseOf_36 rfl ?_
        obtain ⟨g98, g99, g100, g101, g102, g103⟩ := h64
        have hdf : (¬ a2.toInt = 0 → ¬ a2.toInt = 1 → ¬ a2.toInt = 2 → ¬ a2.toInt = 3 → ¬ a2.toInt = 4 → ¬ a2.toInt = 5 → AW M_X6_houseOf 0 109 [some (aR 19 0), some (aI a1), some (aI a2)] [] m60 P) := by
          intro z0 z1 z2 z3 z4 z5
          have h93 := g103 z0 z1 z2 z3 z4 z5
          refine AW_aload_n dX6_houseOf_109 rfl ?_
          refine AW_iload_n dX6_houseOf_110 rfl ?_
          refine AW_iconst (v := 2) dX6_houseOf_111 (by decide) ?_
          obtain ⟨r97, m94, h96, h95⟩ := h93
          refine AW_callVI [aI a1, aI 2] dX6_houseOf_112 cv_X6_65 rfl rfl rfl (by decide) rfl (by decide) (Nat.le_of_ble_eq_true rfl) h96 ?_
          exact AW_ireturn (ty := .int) dX6_houseOf_115 rfl rfl h95
        have ho39 : (a2.toInt = 0 ∨ a2.toInt = 1 → AW M_X6_houseOf 0 76 [some (aR 19 0), some (aI a1), some (aI a2)] [] m60 P) := by
          intro z
          have h68 := g98 z
          refine AW_aload_n dX6_houseOf_76 rfl ?_
          refine AW_iload_n dX6_houseOf_77 rfl ?_
          refine AW_iload_n dX6_houseOf_78 rfl ?_
          obtain ⟨r72, m69, h71, h70⟩ := h68
          refine AW_callVI [aI a1, aI a2] dX6_houseOf_79 cv_X6_65 rfl rfl rfl (by decide) rfl (by decide) (Nat.le_of_ble_eq_true rfl) h71 ?_
          exact AW_ireturn (ty := .int) dX6_houseOf_82 rfl rfl h70
        have ho46 : (a2.toInt = 2 → AW M_X6_houseOf 0 83 [some (aR 19 0), some (aI a1), some (aI a2)] [] m60 P) := by
          intro z
          have h73 := g99 z
          refine AW_aload_n dX6_houseOf_83 rfl ?_
          refine AW_iload_n dX6_houseOf_84 rfl ?_
          obtain ⟨r77, m74, h76, h75⟩ := h73
          refine AW_callVI [aI a1] dX6_houseOf_85 cv_X6_149 rfl rfl rfl (by decide) rfl (by decide) (Nat.le_of_ble_eq_true rfl) h76 ?_
          exact AW_ireturn (ty := .int) dX6_houseOf_88 rfl rfl h75
        have ho52 : (a2.toInt = 3 → AW M_X6_houseOf 0 89 [some (aR 19 0), some (aI a1), some (aI a2)] [] m60 P) := by
          intro z
          have h78 := g100 z
          refine AW_aload_n dX6_houseOf_89 rfl ?_
          refine AW_iload_n dX6_houseOf_90 rfl ?_
          refine AW_iconst (v := 1) dX6_houseOf_91 (by decide) ?_
          obtain ⟨r82, m79, h81, h80⟩ := h78
          refine AW_callVI [aI a1, aI 1] dX6_houseOf_92 cv_X6_121 rfl rfl rfl (by decide) rfl (by decide) (Nat.le_of_ble_eq_true rfl) h81 ?_
          exact AW_ireturn (ty := .int) dX6_houseOf_95 rfl rfl h80
        have ho59 : (a2.toInt = 4 → AW M_X6_houseOf 0 96 [some (aR 19 0), some (aI a1), some (aI a2)] [] m60 P) := by
          intro z
          have h83 := g101 z
          refine AW_aload_n dX6_houseOf_96 rfl ?_
          refine AW_iload_n dX6_houseOf_97 rfl ?_
          refine AW_iconst (v := 2) dX6_houseOf_98 (by decide) ?_
          obtain ⟨r87, m84, h86, h85⟩ := h83
          refine AW_callVI [aI a1, aI 2] dX6_houseOf_99 cv_X6_121 rfl rfl rfl (by decide) rfl (by decide) (Nat.le_of_ble_eq_true rfl) h86 ?_
          exact AW_ireturn (ty := .int) dX6_houseOf_102 rfl rfl h85
        have ho66 : (a2.toInt = 5 → AW M_X6_houseOf 0 103 [some (aR 19 0), some (aI a1), some (aI a2)] [] m60 P) := by
          intro z
          have h88 := g102 z
          refine AW_aload_n dX6_houseOf_103 rfl ?_
          refine AW_iload_n dX6_houseOf_104 rfl ?_
          obtain ⟨r92, m89, h91, h90⟩ := h88
          refine AW_callVI [aI a1] dX6_houseOf_105 cv_X6_127 rfl rfl rfl (by decide) rfl (by decide) (Nat.le_of_ble_eq_true rfl) h91 ?_
          exact AW_ireturn (ty := .int) dX6_houseOf_108 rfl rfl h90
        exact AW_tsw dX6_houseOf_37 (by decide) (fun q104 => ⟨109, by decide, hdf (by omega) (by omega) (by omega) (by omega) (by omega) (by omega)⟩) ⟨fun q104 => ⟨76, by decide, ho39 (by omega)⟩, fun q104 => ⟨76, by decide, ho39 (by omega)⟩, fun q104 => ⟨83, by decide, ho46 (by omega)⟩, fun q104 => ⟨89, by decide, ho52 (by omega)⟩, fun q104 => ⟨96, by decide, ho59 (by omega)⟩, fun q104 => ⟨103, by decide, ho66 (by omega)⟩, trivial⟩
      · have h65 := h61.2 q66
        refine AW_iconst (v := 0) dX6_houseOf_34 (by decide) ?_
        exact AW_ireturn (ty := .int) dX6_houseOf_35 rfl rfl h65
  · have h6 := h2.2 q7
    refine AW_iconst (v := 1) dX6_houseOf_9 (by decide) ?_
    refine AW_goto (tgt := 28) dX6_houseOf_10 (by decide) ?_
    obtain ⟨r108, m105, h107, h106⟩ := h6
    refine AW_callVI [aI 1] dX6_houseOf_28 cv_X6_86 rfl rfl rfl (by decide) rfl (by decide) (Nat.le_of_ble_eq_true rfl) h107 ?_
    refine AW_if_eq (tgt := 36) dX6_houseOf_31 (by decide) (fun q111 => ?_) (fun q111 => ?_)
    · have h109 := h106.1 q111
      refine AW_iload_n dX6_houseOf_36 rfl ?_
      obtain ⟨g143, g144, g145, g146, g147, g148⟩ := h109
      have hdf : (¬ a2.toInt = 0 → ¬ a2.toInt = 1 → ¬ a2.toInt = 2 → ¬ a2.toInt = 3 → ¬ a2.toInt = 4 → ¬ a2.toInt = 5 → AW M_X6_houseOf 0 109 [some (aR 19 0), some (aI a1), some (aI a2)] [] m105 P) := by
        intro z0 z1 z2 z3 z4 z5
        have h138 := g148 z0 z1 z2 z3 z4 z5
        refine AW_aload_n dX6_houseOf_109 rfl ?_
        refine AW_iload_n dX6_houseOf_110 rfl ?_
        refine AW_iconst (v := 2) dX6_houseOf_111 (by decide) ?_
        obtain ⟨r142, m139, h141, h140⟩ := h138
        refine AW_callVI [aI a1, aI 2] dX6_houseOf_112 cv_X6_65 rfl rfl rfl (by decide) rfl (by decide) (Nat.le_of_ble_eq_true rfl) h141 ?_
        exact AW_ireturn (ty := .int) dX6_houseOf_115 rfl rfl h140
      have ho39 : (a2.toInt = 0 ∨ a2.toInt = 1 → AW M_X6_houseOf 0 76 [some (aR 19 0), some (aI a1), some (aI a2)] [] m105 P) := by
        intro z
        have h113 := g143 z
        refine AW_aload_n dX6_houseOf_76 rfl ?_
        refine AW_iload_n dX6_houseOf_77 rfl ?_
        refine AW_iload_n dX6_houseOf_78 rfl ?_
        obtain ⟨r117, m114, h116, h115⟩ := h113
        refine AW_callVI [aI a1, aI a2] dX6_houseOf_79 cv_X6_65 rfl rfl rfl (by decide) rfl (by decide) (Nat.le_of_ble_eq_true rfl) h116 ?_
        exact AW_ireturn (ty := .int) dX6_houseOf_82 rfl rfl h115
      have ho46 : (a2.toInt = 2 → AW M_X6_houseOf 0 83 [some (aR 19 0), some (aI a1), some (aI a2)] [] m105 P) := by
        intro z
        have h118 := g144 z
        refine AW_aload_n dX6_houseOf_83 rfl ?_
        refine AW_iload_n dX6_houseOf_84 rfl ?_
        obtain ⟨r122, m119, h121, h120⟩ := h118
        refine AW_callVI [aI a1] dX6_houseOf_85 cv_X6_149 rfl rfl rfl (by decide) rfl (by decide) (Nat.le_of_ble_eq_true rfl) h121 ?_
        exact AW_ireturn (ty := .int) dX6_houseOf_88 rfl rfl h120
      have ho52 : (a2.toInt = 3 → AW M_X6_houseOf 0 89 [some (aR 19 0), some (aI a1), some (aI a2)] [] m105 P) := by
        intro z
        have h123 := g145 z
        refine AW_aload_n dX6_houseOf_89 rfl ?_
        refine AW_iload_n dX6_houseOf_90 rfl ?_
        refine AW_iconst (v := 1) dX6_houseOf_91 (by decide) ?_
        obtain ⟨r127, m124, h126, h125⟩ := h123
        refine AW_callVI [aI a1, aI 1] dX6_houseOf_92 cv_X6_121 rfl rfl rfl (by decide) rfl (by decide) (Nat.le_of_ble_eq_true rfl) h126 ?_
        exact AW_ireturn (ty := .int) dX6_houseOf_95 rfl rfl h125
      have ho59 : (a2.toInt = 4 → AW M_X6_houseOf 0 96 [some (aR 19 0), some (aI a1), some (aI a2)] [] m105 P) := by
        intro z
        have h128 := g146 z
        refine AW_aload_n dX6_houseOf_96 rfl ?_
        refine AW_iload_n dX6_houseOf_97 rfl ?_
        refine AW_iconst (v := 2) dX6_houseOf_98 (by decide) ?_
        obtain ⟨r132, m129, h131, h130⟩ := h128
        refine AW_callVI [aI a1, aI 2] dX6_houseOf_99 cv_X6_121 rfl rfl rfl (by decide) rfl (by decide) (Nat.le_of_ble_eq_true rfl) h131 ?_
        exact AW_ireturn (ty := .int) dX6_houseOf_102 rfl rfl h130
      have ho66 : (a2.toInt = 5 → AW M_X6_houseOf 0 103 [some (aR 19 0), some (aI a1), some (aI a2)] [] m105 P) := by
        intro z
        have h133 := g147 z
        refine AW_aload_n dX6_houseOf_103 rfl ?_
        refine AW_iload_n dX6_houseOf_104 rfl ?_
        obtain ⟨r137, m134, h136, h135⟩ := h133
        refine AW_callVI [aI a1] dX6_houseOf_105 cv_X6_127 rfl rfl rfl (by decide) rfl (by decide) (Nat.le_of_ble_eq_true rfl) h136 ?_
        exact AW_ireturn (ty := .int) dX6_houseOf_108 rfl rfl h135
      exact AW_tsw dX6_houseOf_37 (by decide) (fun q149 => ⟨109, by decide, hdf (by omega) (by omega) (by omega) (by omega) (by omega) (by omega)⟩) ⟨fun q149 => ⟨76, by decide, ho39 (by omega)⟩, fun q149 => ⟨76, by decide, ho39 (by omega)⟩, fun q149 => ⟨83, by decide, ho46 (by omega)⟩, fun q149 => ⟨89, by decide, ho52 (by omega)⟩, fun q149 => ⟨96, by decide, ho59 (by omega)⟩, fun q149 => ⟨103, by decide, ho66 (by omega)⟩, trivial⟩
    · have h110 := h106.2 q111
      refine AW_iconst (v := 0) dX6_houseOf_34 (by decide) ?_
      exact AW_ireturn (ty := .int) dX6_houseOf_35 rfl rfl h110
set_option maxRecDepth 100000 in
theorem B_X6_badOf_0 {a1 : Int32} {μ : Mem} {P : RES → Mem → Prop}  (h : AW M_X6_badOf 0 4 [some (aR 19 0), some (aI a1), some (aI 0), some (aI 0)] [] μ P) : AW M_X6_badOf 0 0 [some (aR 19 0), some (aI a1), none, none] [] μ P := by
  refine AW_iconst (v := 0) dX6_badOf_0 (by decide) ?_
  refine AW_istore_n (loc' := [some (aR 19 0), some (aI a1), some (aI 0), none]) dX6_badOf_1 (Nat.le_of_ble_eq_true rfl) rfl rfl ?_
  refine AW_iconst (v := 0) dX6_badOf_2 (by decide) ?_
  refine AW_istore_n (loc' := [some (aR 19 0), some (aI a1), some (aI 0), some (aI 0)]) dX6_badOf_3 (Nat.le_of_ble_eq_true rfl) rfl rfl ?_
  exact h
set_option maxRecDepth 100000 in
theorem B_X6_badOf_4 {a1 : Int32} {a2 : Int32} {a3 : Int32} {μ : Mem} {P : RES → Mem → Prop}  (h : ∃ (r4 : Int32) (m1 : Mem), MetA M_X6_of [aR 19 0, aI a1, aI 1] μ (rI r4 m1) ∧ ((r4 ≤ a3 → P (.inl (some (aI a2))) m1) ∧ (¬ r4 ≤ a3 → ∃ (r11 : Int32) (m8 : Mem), MetA M_X6_bad [aR 19 0, aI a1, aI a3] m1 (rI r11 m8) ∧ (AW M_X6_badOf 0 4 [some (aR 19 0), some (aI a1), some (aI (a2 + r11)), some (aI (a3 + 1))] [] m8 P)))) : AW M_X6_badOf 0 4 [some (aR 19 0), some (aI a1), some (aI a2), some (aI a3)] [] μ P := by
  refine AW_iload_n dX6_badOf_4 rfl ?_
  refine AW_aload_n dX6_badOf_5 rfl ?_
  refine AW_iload_n dX6_badOf_6 rfl ?_
  refine AW_iconst (v := 1) dX6_badOf_7 (by decide) ?_
  obtain ⟨r4, m1, h3, h2⟩ := h
  refine AW_callVI [aI a1, aI 1] dX6_badOf_8 cv_X6_80 rfl rfl rfl (by decide) rfl (by decide) (Nat.le_of_ble_eq_true rfl) h3 ?_
  refine AW_icmp_ge (tgt := 29) dX6_badOf_11 (by decide) (fun q7 => ?_) (fun q7 => ?_)
  · have h5 := h2.1 q7
    refine AW_iload_n dX6_badOf_29 rfl ?_
    exact AW_ireturn (ty := .int) dX6_badOf_30 rfl rfl h5
  · have h6 := h2.2 q7
    refine AW_iload_n dX6_badOf_14 rfl ?_
    refine AW_aload_n dX6_badOf_15 rfl ?_
    refine AW_iload_n dX6_badOf_16 rfl ?_
    refine AW_iload_n dX6_badOf_17 rfl ?_
    obtain ⟨r11, m8, h10, h9⟩ := h6
    refine AW_callVI [aI a1, aI a3] dX6_badOf_18 cv_X6_130 rfl rfl rfl (by decide) rfl (by decide) (Nat.le_of_ble_eq_true rfl) h10 ?_
    refine AW_iadd dX6_badOf_21 ?_
    refine AW_istore_n (loc' := [some (aR 19 0), some (aI a1), some (aI (a2 + r11)), some (aI a3)]) dX6_badOf_22 (Nat.le_of_ble_eq_true rfl) rfl rfl ?_
    refine AW_iinc (v := a3 + 1) (loc' := [some (aR 19 0), some (aI a1), some (aI (a2 + r11)), some (aI (a3 + 1))]) dX6_badOf_23 rfl rfl (Nat.le_of_ble_eq_true rfl) rfl rfl ?_
    refine AW_goto (tgt := 4) dX6_badOf_26 (by decide) ?_
    exact h9
set_option maxRecDepth 100000 in
theorem B_X6_sheetOf_0 {a1 : Int32} {a2 : Int32} {μ : Mem} {P : RES → Mem → Prop}  (h : ∃ (r4 : Int32) (m1 : Mem), MetA M_X6_isSheet [aR 19 0, aI a1] μ (rI r4 m1) ∧ ((¬ r4 = 0 → ∃ (r11 : Int32) (m8 : Mem), MetA M_X6_in [aI a2, aI 0, aI 5] m1 (rI r11 m8) ∧ ((r11 = 0 → ∃ (r18 : Int32) (m15 : Mem), MetA M_X6_fails [aR 19 0, aI 2] m8 (rI r18 m15) ∧ ((r18 = 0 → (2 ≤ a2 → (¬ a2 = 5 → ∃ (r31 : Int32) (m28 : Mem), MetA M_X6_misprints [aR 19 0, aI a1, aI (a2 - 1)] m15 (rI r31 m28) ∧ (P (.inl (some (aI r31))) m28)) ∧ (a2 = 5 → ∃ (r35 : Int32) (m32 : Mem), MetA M_X6_badOf [aR 19 0, aI a1] m15 (rI r35 m32) ∧ (P (.inl (some (aI r35))) m32))) ∧ (¬ 2 ≤ a2 → ∃ (r39 : Int32) (m36 : Mem), MetA M_X6_of [aR 19 0, aI a1, aI a2] m15 (rI r39 m36) ∧ (P (.inl (some (aI r39))) m36))) ∧ (¬ r18 = 0 → P (.inl (some (aI 0))) m15))) ∧ (¬ r11 = 0 → ∃ (r43 : Int32) (m40 : Mem), MetA M_X6_fails [aR 19 0, aI 0] m8 (rI r43 m40) ∧ ((r43 = 0 → (2 ≤ a2 → (¬ a2 = 5 → ∃ (r56 : Int32) (m53 : Mem), MetA M_X6_misprints [aR 19 0, aI a1, aI (a2 - 1)] m40 (rI r56 m53) ∧ (P (.inl (some (aI r56))) m53)) ∧ (a2 = 5 → ∃ (r60 : Int32) (m57 : Mem), MetA M_X6_badOf [aR 19 0, aI a1] m40 (rI r60 m57) ∧ (P (.inl (some (aI r60))) m57))) ∧ (¬ 2 ≤ a2 → ∃ (r64 : Int32) (m61 : Mem), MetA M_X6_of [aR 19 0, aI a1, aI a2] m40 (rI r64 m61) ∧ (P (.inl (some (aI r64))) m61))) ∧ (¬ r43 = 0 → P (.inl (some (aI 0))) m40))))) ∧ (r4 = 0 → ∃ (r68 : Int32) (m65 : Mem), MetA M_X6_fails [aR 19 0, aI 1] m1 (rI r68 m65) ∧ ((r68 = 0 → (2 ≤ a2 → (¬ a2 = 5 → ∃ (r81 : Int32) (m78 : Mem), MetA M_X6_misprints [aR 19 0, aI a1, aI (a2 - 1)] m65 (rI r81 m78) ∧ (P (.inl (some (aI r81))) m78)) ∧ (a2 = 5 → ∃ (r85 : Int32) (m82 : Mem), MetA M_X6_badOf [aR 19 0, aI a1] m65 (rI r85 m82) ∧ (P (.inl (some (aI r85))) m82))) ∧ (¬ 2 ≤ a2 → ∃ (r89 : Int32) (m86 : Mem), MetA M_X6_of [aR 19 0, aI a1, aI a2] m65 (rI r89 m86) ∧ (P (.inl (some (aI r89))) m86))) ∧ (¬ r68 = 0 → P (.inl (some (aI 0))) m65))))) : AW M_X6_sheetOf 0 0 [some (aR 19 0), some (aI a1), some (aI a2)] [] μ P := by
  refine AW_aload_n dX6_sheetOf_0 rfl ?_
  refine AW_aload_n dX6_sheetOf_1 rfl ?_
  refine AW_iload_n dX6_sheetOf_2 rfl ?_
  obtain ⟨r4, m1, h3, h2⟩ := h
  refine AW_callVI [aI a1] dX6_sheetOf_3 cv_X6_76 rfl rfl rfl (by decide) rfl (by decide) (Nat.le_of_ble_eq_true rfl) h3 ?_
  refine AW_if_ne (tgt := 13) dX6_sheetOf_6 (by decide) (fun q7 => ?_) (fun q7 => ?_)
  · have h5 := h2.1 q7
    refine AW_iload_n dX6_sheetOf_13 rfl ?_
    refine AW_iconst (v := 0) dX6_sheetOf_14 (by decide) ?_
    refine AW_iconst (v := 5) dX6_sheetOf_15 (by decide) ?_
    obtain ⟨r11, m8, h10, h9⟩ := h5
    refine AW_callSI [aI a2, aI 0, aI 5] dX6_sheetOf_16 cs_X6_72 rfl rfl (by decide) rfl (by decide) (Nat.le_of_ble_eq_true rfl) h10 ?_
    refine AW_if_eq (tgt := 26) dX6_sheetOf_19 (by decide) (fun q14 => ?_) (fun q14 => ?_)
    · have h12 := h9.1 q14
      refine AW_iconst (v := 2) dX6_sheetOf_26 (by decide) ?_
      obtain ⟨r18, m15, h17, h16⟩ := h12
      refine AW_callVI [aI 2] dX6_sheetOf_27 cv_X6_86 rfl rfl rfl (by decide) rfl (by decide) (Nat.le_of_ble_eq_true rfl) h17 ?_
      refine AW_if_eq (tgt := 35) dX6_sheetOf_30 (by decide) (fun q21 => ?_) (fun q21 => ?_)
      · have h19 := h16.1 q21
        refine AW_iload_n dX6_sheetOf_35 rfl ?_
        refine AW_iconst (v := 2) dX6_sheetOf_36 (by decide) ?_
        refine AW_icmp_ge (tgt := 49) dX6_sheetOf_37 (by decide) (fun q24 => ?_) (fun q24 => ?_)
        · have h22 := h19.1 q24
          refine AW_iload_n dX6_sheetOf_49 rfl ?_
          refine AW_iconst (v := 5) dX6_sheetOf_50 (by decide) ?_
          refine AW_icmp_ne (tgt := 62) dX6_sheetOf_51 (by decide) (fun q27 => ?_) (fun q27 => ?_)
          · have h25 := h22.1 q27
            refine AW_aload_n dX6_sheetOf_62 rfl ?_
            refine AW_iload_n dX6_sheetOf_63 rfl ?_
            refine AW_iload_n dX6_sheetOf_64 rfl ?_
            refine AW_iconst (v := 1) dX6_sheetOf_65 (by decide) ?_
            refine AW_isub dX6_sheetOf_66 ?_
            obtain ⟨r31, m28, h30, h29⟩ := h25
            refine AW_callVI [aI a1, aI (a2 - 1)] dX6_sheetOf_67 cv_X6_118 rfl rfl rfl (by decide) rfl (by decide) (Nat.le_of_ble_eq_true rfl) h30 ?_
            exact AW_ireturn (ty := .int) dX6_sheetOf_70 rfl rfl h29
          · have h26 := h22.2 q27
            refine AW_aload_n dX6_sheetOf_54 rfl ?_
            refine AW_iload_n dX6_sheetOf_55 rfl ?_
            obtain ⟨r35, m32, h34, h33⟩ := h26
            refine AW_callVI [aI a1] dX6_sheetOf_56 cv_X6_152 rfl rfl rfl (by decide) rfl (by decide) (Nat.le_of_ble_eq_true rfl) h34 ?_
            refine AW_goto (tgt := 70) dX6_sheetOf_59 (by decide) ?_
            exact AW_ireturn (ty := .int) dX6_sheetOf_70 rfl rfl h33
        · have h23 := h19.2 q24
          refine AW_aload_n dX6_sheetOf_40 rfl ?_
          refine AW_iload_n dX6_sheetOf_41 rfl ?_
          refine AW_iload_n dX6_sheetOf_42 rfl ?_
          obtain ⟨r39, m36, h38, h37⟩ := h23
          refine AW_callVI [aI a1, aI a2] dX6_sheetOf_43 cv_X6_80 rfl rfl rfl (by decide) rfl (by decide) (Nat.le_of_ble_eq_true rfl) h38 ?_
          refine AW_goto (tgt := 70) dX6_sheetOf_46 (by decide) ?_
          exact AW_ireturn (ty := .int) dX6_sheetOf_70 rfl rfl h37
      · have h20 := h16.2 q21
        refine AW_iconst (v := 0) dX6_sheetOf_33 (by decide) ?_
        exact AW_ireturn (ty := .int) dX6_sheetOf_34 rfl rfl h20
    · have h13 := h9.2 q14
      refine AW_iconst (v := 0) dX6_sheetOf_22 (by decide) ?_
      refine AW_goto (tgt := 27) dX6_sheetOf_23 (by decide) ?_
      obtain ⟨r43, m40, h42, h41⟩ := h13
      refine AW_callVI [aI 0] dX6_sheetOf_27 cv_X6_86 rfl rfl rfl (by decide) rfl (by decide) (Nat.le_of_ble_eq_true rfl) h42 ?_
      refine AW_if_eq (tgt := 35) dX6_sheetOf_30 (by decide) (fun q46 => ?_) (fun q46 => ?_)
      · have h44 := h41.1 q46
        refine AW_iload_n dX6_sheetOf_35 rfl ?_
        refine AW_iconst (v := 2) dX6_sheetOf_36 (by decide) ?_
        refine AW_icmp_ge (tgt := 49) dX6_sheetOf_37 (by decide) (fun q49 => ?_) (fun q49 => ?_)
        · have h47 := h44.1 q49
          refine AW_iload_n dX6_sheetOf_49 rfl ?_
          refine AW_iconst (v := 5) dX6_sheetOf_50 (by decide) ?_
          refine AW_icmp_ne (tgt := 62) dX6_sheetOf_51 (by decide) (fun q52 => ?_) (fun q52 => ?_)
          · have h50 := h47.1 q52
            refine AW_aload_n dX6_sheetOf_62 rfl ?_
            refine AW_iload_n dX6_sheetOf_63 rfl ?_
            refine AW_iload_n dX6_sheetOf_64 rfl ?_
            refine AW_iconst (v := 1) dX6_sheetOf_65 (by decide) ?_
            refine AW_isub dX6_sheetOf_66 ?_
            obtain ⟨r56, m53, h55, h54⟩ := h50
            refine AW_callVI [aI a1, aI (a2 - 1)] dX6_sheetOf_67 cv_X6_118 rfl rfl rfl (by decide) rfl (by decide) (Nat.le_of_ble_eq_true rfl) h55 ?_
            exact AW_ireturn (ty := .int) dX6_sheetOf_70 rfl rfl h54
          · have h51 := h47.2 q52
            refine AW_aload_n dX6_sheetOf_54 rfl ?_
            refine AW_iload_n dX6_sheetOf_55 rfl ?_
            obtain ⟨r60, m57, h59, h58⟩ := h51
            refine AW_callVI [aI a1] dX6_sheetOf_56 cv_X6_152 rfl rfl rfl (by decide) rfl (by decide) (Nat.le_of_ble_eq_true rfl) h59 ?_
            refine AW_goto (tgt := 70) dX6_sheetOf_59 (by decide) ?_
            exact AW_ireturn (ty := .int) dX6_sheetOf_70 rfl rfl h58
        · have h48 := h44.2 q49
          refine AW_aload_n dX6_sheetOf_40 rfl ?_
          refine AW_iload_n dX6_sheetOf_41 rfl ?_
          refine AW_iload_n dX6_sheetOf_42 rfl ?_
          obtain ⟨r64, m61, h63, h62⟩ := h48
          refine AW_callVI [aI a1, aI a2] dX6_sheetOf_43 cv_X6_80 rfl rfl rfl (by decide) rfl (by decide) (Nat.le_of_ble_eq_true rfl) h63 ?_
          refine AW_goto (tgt := 70) dX6_sheetOf_46 (by decide) ?_
          exact AW_ireturn (ty := .int) dX6_sheetOf_70 rfl rfl h62
      · have h45 := h41.2 q46
        refine AW_iconst (v := 0) dX6_sheetOf_33 (by decide) ?_
        exact AW_ireturn (ty := .int) dX6_sheetOf_34 rfl rfl h45
  · have h6 := h2.2 q7
    refine AW_iconst (v := 1) dX6_sheetOf_9 (by decide) ?_
    refine AW_goto (tgt := 27) dX6_sheetOf_10 (by decide) ?_
    obtain ⟨r68, m65, h67, h66⟩ := h6
    refine AW_callVI [aI 1] dX6_sheetOf_27 cv_X6_86 rfl rfl rfl (by decide) rfl (by decide) (Nat.le_of_ble_eq_true rfl) h67 ?_
    refine AW_if_eq (tgt := 35) dX6_sheetOf_30 (by decide) (fun q71 => ?_) (fun q71 => ?_)
    · have h69 := h66.1 q71
      refine AW_iload_n dX6_sheetOf_35 rfl ?_
      refine AW_iconst (v := 2) dX6_sheetOf_36 (by decide) ?_
      refine AW_icmp_ge (tgt := 49) dX6_sheetOf_37 (by decide) (fun q74 => ?_) (fun q74 => ?_)
      · have h72 := h69.1 q74
        refine AW_iload_n dX6_sheetOf_49 rfl ?_
        refine AW_iconst (v := 5) dX6_sheetOf_50 (by decide) ?_
        refine AW_icmp_ne (tgt := 62) dX6_sheetOf_51 (by decide) (fun q77 => ?_) (fun q77 => ?_)
        · have h75 := h72.1 q77
          refine AW_aload_n dX6_sheetOf_62 rfl ?_
          refine AW_iload_n dX6_sheetOf_63 rfl ?_
          refine AW_iload_n dX6_sheetOf_64 rfl ?_
          refine AW_iconst (v := 1) dX6_sheetOf_65 (by decide) ?_
          refine AW_isub dX6_sheetOf_66 ?_
          obtain ⟨r81, m78, h80, h79⟩ := h75
          refine AW_callVI [aI a1, aI (a2 - 1)] dX6_sheetOf_67 cv_X6_118 rfl rfl rfl (by decide) rfl (by decide) (Nat.le_of_ble_eq_true rfl) h80 ?_
          exact AW_ireturn (ty := .int) dX6_sheetOf_70 rfl rfl h79
        · have h76 := h72.2 q77
          refine AW_aload_n dX6_sheetOf_54 rfl ?_
          refine AW_iload_n dX6_sheetOf_55 rfl ?_
          obtain ⟨r85, m82, h84, h83⟩ := h76
          refine AW_callVI [aI a1] dX6_sheetOf_56 cv_X6_152 rfl rfl rfl (by decide) rfl (by decide) (Nat.le_of_ble_eq_true rfl) h84 ?_
          refine AW_goto (tgt := 70) dX6_sheetOf_59 (by decide) ?_
          exact AW_ireturn (ty := .int) dX6_sheetOf_70 rfl rfl h83
      · have h73 := h69.2 q74
        refine AW_aload_n dX6_sheetOf_40 rfl ?_
        refine AW_iload_n dX6_sheetOf_41 rfl ?_
        refine AW_iload_n dX6_sheetOf_42 rfl ?_
        obtain ⟨r89, m86, h88, h87⟩ := h73
        refine AW_callVI [aI a1, aI a2] dX6_sheetOf_43 cv_X6_80 rfl rfl rfl (by decide) rfl (by decide) (Nat.le_of_ble_eq_true rfl) h88 ?_
        refine AW_goto (tgt := 70) dX6_sheetOf_46 (by decide) ?_
        exact AW_ireturn (ty := .int) dX6_sheetOf_70 rfl rfl h87
    · have h70 := h66.2 q71
      refine AW_iconst (v := 0) dX6_sheetOf_33 (by decide) ?_
      exact AW_ireturn (ty := .int) dX6_sheetOf_34 rfl rfl h70
set_option maxRecDepth 100000 in
theorem B_X6_isNowhere_0 {a1 : Int32} {a2 : Int32} {μ : Mem} {P : RES → Mem → Prop}  (h : ∃ (r4 : Int32) (m1 : Mem), MetA M_X6_isPlace [aR 19 0, aI a1, aI a2] μ (rI r4 m1) ∧ ((r4 = 0 → ∃ (r11 : Int32) (m8 : Mem), MetA M_X6_fails [aR 19 0, aI 1] m1 (rI r11 m8) ∧ (narrow .boolean (.int r11) = .int r11 ∧ P (.inl (some (aI r11))) m8)) ∧ (¬ r4 = 0 → ∃ (r17 : Int32) (m14 : Mem), MetA M_X6_fails [aR 19 0, aI 0] m1 (rI r17 m14) ∧ (narrow .boolean (.int r17) = .int r17 ∧ P (.inl (some (aI r17))) m14)))) : AW M_X6_isNowhere 0 0 [some (aR 19 0), some (aI a1), some (aI a2)] [] μ P := by
  refine AW_aload_n dX6_isNowhere_0 rfl ?_
  refine AW_aload_n dX6_isNowhere_1 rfl ?_
  refine AW_iload_n dX6_isNowhere_2 rfl ?_
  refine AW_iload_n dX6_isNowhere_3 rfl ?_
  obtain ⟨r4, m1, h3, h2⟩ := h
  refine AW_callVI [aI a1, aI a2] dX6_isNowhere_4 cv_X6_114 rfl rfl rfl (by decide) rfl (by decide) (Nat.le_of_ble_eq_true rfl) h3 ?_
  refine AW_if_eq (tgt := 14) dX6_isNowhere_7 (by decide) (fun q7 => ?_) (fun q7 => ?_)
  · have h5 := h2.1 q7
    refine AW_iconst (v := 1) dX6_isNowhere_14 (by decide) ?_
    obtain ⟨r11, m8, h10, h9⟩ := h5
    refine AW_callVI [aI 1] dX6_isNowhere_15 cv_X6_86 rfl rfl rfl (by decide) rfl (by decide) (Nat.le_of_ble_eq_true rfl) h10 ?_
    obtain ⟨h12, h13⟩ := h9
    exact AW_ireturn (ty := .boolean) dX6_isNowhere_18 rfl h12 h13
  · have h6 := h2.2 q7
    refine AW_iconst (v := 0) dX6_isNowhere_10 (by decide) ?_
    refine AW_goto (tgt := 15) dX6_isNowhere_11 (by decide) ?_
    obtain ⟨r17, m14, h16, h15⟩ := h6
    refine AW_callVI [aI 0] dX6_isNowhere_15 cv_X6_86 rfl rfl rfl (by decide) rfl (by decide) (Nat.le_of_ble_eq_true rfl) h16 ?_
    obtain ⟨h18, h19⟩ := h15
    exact AW_ireturn (ty := .boolean) dX6_isNowhere_18 rfl h18 h19
set_option maxRecDepth 100000 in
theorem B_X6_letterAt_0 {a1 : Int32} {a2 : Int32} {a3 : Int32} {μ : Mem} {P : RES → Mem → Prop}  (h : ∃ (r4 : Int32) (m1 : Mem), MetA M_X6_isNowhere [aR 19 0, aI a1, aI a2] μ (rI r4 m1) ∧ ((r4 = 0 → (a3 = 0 → ∃ (r14 : Int32) (m11 : Mem), MetA M_X6_of [aR 19 0, aI a1, aI (10 + a2)] m1 (rI r14 m11) ∧ (narrow .char (.int (((96 + r14).toUInt32 % 65536).toInt32)) = .int (((96 + r14).toUInt32 % 65536).toInt32) ∧ P (.inl (some (aI (((96 + r14).toUInt32 % 65536).toInt32)))) m11)) ∧ (¬ a3 = 0 → ∃ (r20 : Int32) (m17 : Mem), MetA M_X6_of [aR 19 0, aI a1, aI (2 + a2)] m1 (rI r20 m17) ∧ (narrow .char (.int (((96 + r20).toUInt32 % 65536).toInt32)) = .int (((96 + r20).toUInt32 % 65536).toInt32) ∧ P (.inl (some (aI (((96 + r20).toUInt32 % 65536).toInt32)))) m17))) ∧ (¬ r4 = 0 → P (.inl (some (aI 32))) m1))) : AW M_X6_letterAt 0 0 [some (aR 19 0), some (aI a1), some (aI a2), some (aI a3)] [] μ P := by
  refine AW_aload_n dX6_letterAt_0 rfl ?_
  refine AW_iload_n dX6_letterAt_1 rfl ?_
  refine AW_iload_n dX6_letterAt_2 rfl ?_
  obtain ⟨r4, m1, h3, h2⟩ := h
  refine AW_callVI [aI a1, aI a2] dX6_letterAt_3 cv_X6_155 rfl rfl rfl (by decide) rfl (by decide) (Nat.le_of_ble_eq_true rfl) h3 ?_
  refine AW_if_eq (tgt := 14) dX6_letterAt_6 (by decide) (fun q7 => ?_) (fun q7 => ?_)
  · have h5 := h2.1 q7
    refine AW_bipush (v := 96) dX6_letterAt_14 (by decide) ?_
    refine AW_aload_n dX6_letterAt_16 rfl ?_
    refine AW_iload_n dX6_letterAt_17 rfl ?_
    refine AW_iload_n dX6_letterAt_18 rfl ?_
    refine AW_if_eq (tgt := 26) dX6_letterAt_19 (by decide) (fun q10 => ?_) (fun q10 => ?_)
    · have h8 := h5.1 q10
      refine AW_bipush (v := 10) dX6_letterAt_26 (by decide) ?_
      refine AW_iload_n dX6_letterAt_28 rfl ?_
      refine AW_iadd dX6_letterAt_29 ?_
      obtain ⟨r14, m11, h13, h12⟩ := h8
      refine AW_callVI [aI a1, aI (10 + a2)] dX6_letterAt_30 cv_X6_80 rfl rfl rfl (by decide) rfl (by decide) (Nat.le_of_ble_eq_true rfl) h13 ?_
      refine AW_iadd dX6_letterAt_33 ?_
      refine AW_i2c (v := ((96 + r14).toUInt32 % 65536).toInt32) dX6_letterAt_34 rfl ?_
      obtain ⟨h15, h16⟩ := h12
      exact AW_ireturn (ty := .char) dX6_letterAt_35 rfl h15 h16
    · have h9 := h5.2 q10
      refine AW_iconst (v := 2) dX6_letterAt_22 (by decide) ?_
      refine AW_goto (tgt := 28) dX6_letterAt_23 (by decide) ?_
      refine AW_iload_n dX6_letterAt_28 rfl ?_
      refine AW_iadd dX6_letterAt_29 ?_
      obtain ⟨r20, m17, h19, h18⟩ := h9
      refine AW_callVI [aI a1, aI (2 + a2)] dX6_letterAt_30 cv_X6_80 rfl rfl rfl (by decide) rfl (by decide) (Nat.le_of_ble_eq_true rfl) h19 ?_
      refine AW_iadd dX6_letterAt_33 ?_
      refine AW_i2c (v := ((96 + r20).toUInt32 % 65536).toInt32) dX6_letterAt_34 rfl ?_
      obtain ⟨h21, h22⟩ := h18
      exact AW_ireturn (ty := .char) dX6_letterAt_35 rfl h21 h22
  · have h6 := h2.2 q7
    refine AW_bipush (v := 32) dX6_letterAt_9 (by decide) ?_
    refine AW_goto (tgt := 35) dX6_letterAt_11 (by decide) ?_
    exact AW_ireturn (ty := .char) dX6_letterAt_35 rfl rfl h6
set_option maxRecDepth 100000 in
theorem B_X6_markAt_0 {a1 : Int32} {a2 : Int32} {μ : Mem} {P : RES → Mem → Prop}  (h : ∃ (r4 : Int32) (m1 : Mem), MetA M_X6_isNowhere [aR 19 0, aI a1, aI a2] μ (rI r4 m1) ∧ ((r4 = 0 → ∃ (r11 : Int32) (m8 : Mem), MetA M_X6_mark [aR 19 0, aI a1, aI a2] m1 (rI r11 m8) ∧ (P (.inl (some (aI r11))) m8)) ∧ (¬ r4 = 0 → P (.inl (some (aI 0))) m1))) : AW M_X6_markAt 0 0 [some (aR 19 0), some (aI a1), some (aI a2)] [] μ P := by
  refine AW_aload_n dX6_markAt_0 rfl ?_
  refine AW_iload_n dX6_markAt_1 rfl ?_
  refine AW_iload_n dX6_markAt_2 rfl ?_
  obtain ⟨r4, m1, h3, h2⟩ := h
  refine AW_callVI [aI a1, aI a2] dX6_markAt_3 cv_X6_155 rfl rfl rfl (by decide) rfl (by decide) (Nat.le_of_ble_eq_true rfl) h3 ?_
  refine AW_if_eq (tgt := 13) dX6_markAt_6 (by decide) (fun q7 => ?_) (fun q7 => ?_)
  · have h5 := h2.1 q7
    refine AW_aload_n dX6_markAt_13 rfl ?_
    refine AW_iload_n dX6_markAt_14 rfl ?_
    refine AW_iload_n dX6_markAt_15 rfl ?_
    obtain ⟨r11, m8, h10, h9⟩ := h5
    refine AW_callVI [aI a1, aI a2] dX6_markAt_16 cv_X6_111 rfl rfl rfl (by decide) rfl (by decide) (Nat.le_of_ble_eq_true rfl) h10 ?_
    exact AW_ireturn (ty := .int) dX6_markAt_19 rfl rfl h9
  · have h6 := h2.2 q7
    refine AW_iconst (v := 0) dX6_markAt_9 (by decide) ?_
    refine AW_goto (tgt := 19) dX6_markAt_10 (by decide) ?_
    exact AW_ireturn (ty := .int) dX6_markAt_19 rfl rfl h6
set_option maxRecDepth 100000 in
theorem B_X6_fine_0 {a1 : Int32} {a2 : Int32} {a3 : Int32} {μ : Mem} {P : RES → Mem → Prop}  (h : ∃ (r4 : Int32) (m1 : Mem), MetA M_X6_isNowhere [aR 19 0, aI a1, aI a2] μ (rI r4 m1) ∧ ((r4 = 0 → ∃ (r11 : Int32) (m8 : Mem), MetA M_X6_fineAt [aR 19 0, aI a1, aI a2] m1 (rI r11 m8) ∧ (P (.inl (some (aI r11))) m8)) ∧ (¬ r4 = 0 → P (.inl (some (aI 0))) m1))) : AW M_X6_fine 0 0 [some (aR 19 0), some (aI a1), some (aI a2), some (aI a3)] [] μ P := by
  refine AW_aload_n dX6_fine_0 rfl ?_
  refine AW_iload_n dX6_fine_1 rfl ?_
  refine AW_iload_n dX6_fine_2 rfl ?_
  obtain ⟨r4, m1, h3, h2⟩ := h
  refine AW_callVI [aI a1, aI a2] dX6_fine_3 cv_X6_155 rfl rfl rfl (by decide) rfl (by decide) (Nat.le_of_ble_eq_true rfl) h3 ?_
  refine AW_if_eq (tgt := 13) dX6_fine_6 (by decide) (fun q7 => ?_) (fun q7 => ?_)
  · have h5 := h2.1 q7
    refine AW_aload_n dX6_fine_13 rfl ?_
    refine AW_iload_n dX6_fine_14 rfl ?_
    refine AW_iload_n dX6_fine_15 rfl ?_
    obtain ⟨r11, m8, h10, h9⟩ := h5
    refine AW_callVI [aI a1, aI a2] dX6_fine_16 cv_X6_133 rfl rfl rfl (by decide) rfl (by decide) (Nat.le_of_ble_eq_true rfl) h10 ?_
    exact AW_ireturn (ty := .int) dX6_fine_19 rfl rfl h9
  · have h6 := h2.2 q7
    refine AW_iconst (v := 0) dX6_fine_9 (by decide) ?_
    refine AW_goto (tgt := 19) dX6_fine_10 (by decide) ?_
    exact AW_ireturn (ty := .int) dX6_fine_19 rfl rfl h6
set_option maxRecDepth 100000 in
theorem B_X6_finesOf_0 {a1 : Int32} {μ : Mem} {P : RES → Mem → Prop}  (h : AW M_X6_finesOf 0 4 [some (aR 19 0), some (aI a1), some (aI 0), some (aI 0)] [] μ P) : AW M_X6_finesOf 0 0 [some (aR 19 0), some (aI a1), none, none] [] μ P := by
  refine AW_iconst (v := 0) dX6_finesOf_0 (by decide) ?_
  refine AW_istore_n (loc' := [some (aR 19 0), some (aI a1), some (aI 0), none]) dX6_finesOf_1 (Nat.le_of_ble_eq_true rfl) rfl rfl ?_
  refine AW_iconst (v := 0) dX6_finesOf_2 (by decide) ?_
  refine AW_istore_n (loc' := [some (aR 19 0), some (aI a1), some (aI 0), some (aI 0)]) dX6_finesOf_3 (Nat.le_of_ble_eq_true rfl) rfl rfl ?_
  exact h
set_option maxRecDepth 100000 in
theorem B_X6_finesOf_4 {a1 : Int32} {a2 : Int32} {a3 : Int32} {μ : Mem} {P : RES → Mem → Prop}  (h : ∃ (r4 : Int32) (m1 : Mem), MetA M_X6_of [aR 19 0, aI a1, aI 1] μ (rI r4 m1) ∧ ((r4 ≤ a3 → P (.inl (some (aI a2))) m1) ∧ (¬ r4 ≤ a3 → ∃ (r11 : Int32) (m8 : Mem), MetA M_X6_fineAt [aR 19 0, aI a1, aI a3] m1 (rI r11 m8) ∧ (AW M_X6_finesOf 0 4 [some (aR 19 0), some (aI a1), some (aI (a2 + r11)), some (aI (a3 + 1))] [] m8 P)))) : AW M_X6_finesOf 0 4 [some (aR 19 0), some (aI a1), some (aI a2), some (aI a3)] [] μ P := by
  refine AW_iload_n dX6_finesOf_4 rfl ?_
  refine AW_aload_n dX6_finesOf_5 rfl ?_
  refine AW_iload_n dX6_finesOf_6 rfl ?_
  refine AW_iconst (v := 1) dX6_finesOf_7 (by decide) ?_
  obtain ⟨r4, m1, h3, h2⟩ := h
  refine AW_callVI [aI a1, aI 1] dX6_finesOf_8 cv_X6_80 rfl rfl rfl (by decide) rfl (by decide) (Nat.le_of_ble_eq_true rfl) h3 ?_
  refine AW_icmp_ge (tgt := 29) dX6_finesOf_11 (by decide) (fun q7 => ?_) (fun q7 => ?_)
  · have h5 := h2.1 q7
    refine AW_iload_n dX6_finesOf_29 rfl ?_
    exact AW_ireturn (ty := .int) dX6_finesOf_30 rfl rfl h5
  · have h6 := h2.2 q7
    refine AW_iload_n dX6_finesOf_14 rfl ?_
    refine AW_aload_n dX6_finesOf_15 rfl ?_
    refine AW_iload_n dX6_finesOf_16 rfl ?_
    refine AW_iload_n dX6_finesOf_17 rfl ?_
    obtain ⟨r11, m8, h10, h9⟩ := h6
    refine AW_callVI [aI a1, aI a3] dX6_finesOf_18 cv_X6_133 rfl rfl rfl (by decide) rfl (by decide) (Nat.le_of_ble_eq_true rfl) h10 ?_
    refine AW_iadd dX6_finesOf_21 ?_
    refine AW_istore_n (loc' := [some (aR 19 0), some (aI a1), some (aI (a2 + r11)), some (aI a3)]) dX6_finesOf_22 (Nat.le_of_ble_eq_true rfl) rfl rfl ?_
    refine AW_iinc (v := a3 + 1) (loc' := [some (aR 19 0), some (aI a1), some (aI (a2 + r11)), some (aI (a3 + 1))]) dX6_finesOf_23 rfl rfl (Nat.le_of_ble_eq_true rfl) rfl rfl ?_
    refine AW_goto (tgt := 4) dX6_finesOf_26 (by decide) ?_
    exact h9
set_option maxRecDepth 100000 in
theorem B_X6_fines_0 {a1 : Int32} {a2 : Int32} {μ : Mem} {P : RES → Mem → Prop}  (h : ∃ (r4 : Int32) (m1 : Mem), MetA M_X6_isSheet [aR 19 0, aI a1] μ (rI r4 m1) ∧ ((r4 = 0 → ∃ (r11 : Int32) (m8 : Mem), MetA M_X6_fails [aR 19 0, aI 1] m1 (rI r11 m8) ∧ ((r11 = 0 → ∃ (r18 : Int32) (m15 : Mem), MetA M_X6_finesOf [aR 19 0, aI a1] m8 (rI r18 m15) ∧ (P (.inl (some (aI r18))) m15)) ∧ (¬ r11 = 0 → P (.inl (some (aI 0))) m8))) ∧ (¬ r4 = 0 → ∃ (r22 : Int32) (m19 : Mem), MetA M_X6_fails [aR 19 0, aI 0] m1 (rI r22 m19) ∧ ((r22 = 0 → ∃ (r29 : Int32) (m26 : Mem), MetA M_X6_finesOf [aR 19 0, aI a1] m19 (rI r29 m26) ∧ (P (.inl (some (aI r29))) m26)) ∧ (¬ r22 = 0 → P (.inl (some (aI 0))) m19))))) : AW M_X6_fines 0 0 [some (aR 19 0), some (aI a1), some (aI a2)] [] μ P := by
  refine AW_aload_n dX6_fines_0 rfl ?_
  refine AW_aload_n dX6_fines_1 rfl ?_
  refine AW_iload_n dX6_fines_2 rfl ?_
  obtain ⟨r4, m1, h3, h2⟩ := h
  refine AW_callVI [aI a1] dX6_fines_3 cv_X6_76 rfl rfl rfl (by decide) rfl (by decide) (Nat.le_of_ble_eq_true rfl) h3 ?_
  refine AW_if_eq (tgt := 13) dX6_fines_6 (by decide) (fun q7 => ?_) (fun q7 => ?_)
  · have h5 := h2.1 q7
    refine AW_iconst (v := 1) dX6_fines_13 (by decide) ?_
    obtain ⟨r11, m8, h10, h9⟩ := h5
    refine AW_callVI [aI 1] dX6_fines_14 cv_X6_86 rfl rfl rfl (by decide) rfl (by decide) (Nat.le_of_ble_eq_true rfl) h10 ?_
    refine AW_if_eq (tgt := 24) dX6_fines_17 (by decide) (fun q14 => ?_) (fun q14 => ?_)
    · have h12 := h9.1 q14
      refine AW_aload_n dX6_fines_24 rfl ?_
      refine AW_iload_n dX6_fines_25 rfl ?_
      obtain ⟨r18, m15, h17, h16⟩ := h12
      refine AW_callVI [aI a1] dX6_fines_26 cv_X6_158 rfl rfl rfl (by decide) rfl (by decide) (Nat.le_of_ble_eq_true rfl) h17 ?_
      exact AW_ireturn (ty := .int) dX6_fines_29 rfl rfl h16
    · have h13 := h9.2 q14
      refine AW_iconst (v := 0) dX6_fines_20 (by decide) ?_
      refine AW_goto (tgt := 29) dX6_fines_21 (by decide) ?_
      exact AW_ireturn (ty := .int) dX6_fines_29 rfl rfl h13
  · have h6 := h2.2 q7
    refine AW_iconst (v := 0) dX6_fines_9 (by decide) ?_
    refine AW_goto (tgt := 14) dX6_fines_10 (by decide) ?_
    obtain ⟨r22, m19, h21, h20⟩ := h6
    refine AW_callVI [aI 0] dX6_fines_14 cv_X6_86 rfl rfl rfl (by decide) rfl (by decide) (Nat.le_of_ble_eq_true rfl) h21 ?_
    refine AW_if_eq (tgt := 24) dX6_fines_17 (by decide) (fun q25 => ?_) (fun q25 => ?_)
    · have h23 := h20.1 q25
      refine AW_aload_n dX6_fines_24 rfl ?_
      refine AW_iload_n dX6_fines_25 rfl ?_
      obtain ⟨r29, m26, h28, h27⟩ := h23
      refine AW_callVI [aI a1] dX6_fines_26 cv_X6_158 rfl rfl rfl (by decide) rfl (by decide) (Nat.le_of_ble_eq_true rfl) h28 ?_
      exact AW_ireturn (ty := .int) dX6_fines_29 rfl rfl h27
    · have h24 := h20.2 q25
      refine AW_iconst (v := 0) dX6_fines_20 (by decide) ?_
      refine AW_goto (tgt := 29) dX6_fines_21 (by decide) ?_
      exact AW_ireturn (ty := .int) dX6_fines_29 rfl rfl h24
set_option maxRecDepth 100000 in
theorem B_X6_canMend_0 {a1 : Int32} {μ : Mem} {P : RES → Mem → Prop}  (h : ∃ (r4 : Int32) (m1 : Mem), MetA M_X6_isSheet [aR 19 0, aI a1] μ (rI r4 m1) ∧ ((r4 = 0 → ∃ (r11 : Int32) (m8 : Mem), MetA M_X6_fails [aR 19 0, aI 1] m1 (rI r11 m8) ∧ ((¬ r11 = 0 → P (.inl (some (aI 0))) m8) ∧ (r11 = 0 → ∃ (r18 : Int32) (m15 : Mem), MetA M_X6_of [aR 19 0, aI a1, aI 0] m8 (rI r18 m15) ∧ (∃ (r22 : Int32) (m19 : Mem), MetA M_X6_by [aR 19 0, aI r18, aI 0] m15 (rI r22 m19) ∧ (∃ (r26 : Int32) (m23 : Mem), MetA M_X6_finesOf [aR 19 0, aI a1] m19 (rI r26 m23) ∧ ((r22 < r26 → P (.inl (some (aI 0))) m23) ∧ (¬ r22 < r26 → P (.inl (some (aI 1))) m23))))))) ∧ (¬ r4 = 0 → ∃ (r33 : Int32) (m30 : Mem), MetA M_X6_fails [aR 19 0, aI 0] m1 (rI r33 m30) ∧ ((¬ r33 = 0 → P (.inl (some (aI 0))) m30) ∧ (r33 = 0 → ∃ (r40 : Int32) (m37 : Mem), MetA M_X6_of [aR 19 0, aI a1, aI 0] m30 (rI r40 m37) ∧ (∃ (r44 : Int32) (m41 : Mem), MetA M_X6_by [aR 19 0, aI r40, aI 0] m37 (rI r44 m41) ∧ (∃ (r48 : Int32) (m45 : Mem), MetA M_X6_finesOf [aR 19 0, aI a1] m41 (rI r48 m45) ∧ ((r44 < r48 → P (.inl (some (aI 0))) m45) ∧ (¬ r44 < r48 → P (.inl (some (aI 1))) m45))))))))) : AW M_X6_canMend 0 0 [some (aR 19 0), some (aI a1)] [] μ P := by
  refine AW_aload_n dX6_canMend_0 rfl ?_
  refine AW_aload_n dX6_canMend_1 rfl ?_
  refine AW_iload_n dX6_canMend_2 rfl ?_
  obtain ⟨r4, m1, h3, h2⟩ := h
  refine AW_callVI [aI a1] dX6_canMend_3 cv_X6_76 rfl rfl rfl (by decide) rfl (by decide) (Nat.le_of_ble_eq_true rfl) h3 ?_
  refine AW_if_eq (tgt := 13) dX6_canMend_6 (by decide) (fun q7 => ?_) (fun q7 => ?_)
  · have h5 := h2.1 q7
    refine AW_iconst (v := 1) dX6_canMend_13 (by decide) ?_
    obtain ⟨r11, m8, h10, h9⟩ := h5
    refine AW_callVI [aI 1] dX6_canMend_14 cv_X6_86 rfl rfl rfl (by decide) rfl (by decide) (Nat.le_of_ble_eq_true rfl) h10 ?_
    refine AW_if_ne (tgt := 43) dX6_canMend_17 (by decide) (fun q14 => ?_) (fun q14 => ?_)
    · have h12 := h9.1 q14
      refine AW_iconst (v := 0) dX6_canMend_43 (by decide) ?_
      exact AW_ireturn (ty := .boolean) dX6_canMend_44 rfl rfl h12
    · have h13 := h9.2 q14
      refine AW_aload_n dX6_canMend_20 rfl ?_
      refine AW_aload_n dX6_canMend_21 rfl ?_
      refine AW_iload_n dX6_canMend_22 rfl ?_
      refine AW_iconst (v := 0) dX6_canMend_23 (by decide) ?_
      obtain ⟨r18, m15, h17, h16⟩ := h13
      refine AW_callVI [aI a1, aI 0] dX6_canMend_24 cv_X6_80 rfl rfl rfl (by decide) rfl (by decide) (Nat.le_of_ble_eq_true rfl) h17 ?_
      refine AW_iconst (v := 0) dX6_canMend_27 (by decide) ?_
      obtain ⟨r22, m19, h21, h20⟩ := h16
      refine AW_callVI [aI r18, aI 0] dX6_canMend_28 cv_X6_65 rfl rfl rfl (by decide) rfl (by decide) (Nat.le_of_ble_eq_true rfl) h21 ?_
      refine AW_aload_n dX6_canMend_31 rfl ?_
      refine AW_iload_n dX6_canMend_32 rfl ?_
      obtain ⟨r26, m23, h25, h24⟩ := h20
      refine AW_callVI [aI a1] dX6_canMend_33 cv_X6_158 rfl rfl rfl (by decide) rfl (by decide) (Nat.le_of_ble_eq_true rfl) h25 ?_
      refine AW_icmp_lt (tgt := 43) dX6_canMend_36 (by decide) (fun q29 => ?_) (fun q29 => ?_)
      · have h27 := h24.1 q29
        refine AW_iconst (v := 0) dX6_canMend_43 (by decide) ?_
        exact AW_ireturn (ty := .boolean) dX6_canMend_44 rfl rfl h27
      · have h28 := h24.2 q29
        refine AW_iconst (v := 1) dX6_canMend_39 (by decide) ?_
        refine AW_goto (tgt := 44) dX6_canMend_40 (by decide) ?_
        exact AW_ireturn (ty := .boolean) dX6_canMend_44 rfl rfl h28
  · have h6 := h2.2 q7
    refine AW_iconst (v := 0) dX6_canMend_9 (by decide) ?_
    refine AW_goto (tgt := 14) dX6_canMend_10 (by decide) ?_
    obtain ⟨r33, m30, h32, h31⟩ := h6
    refine AW_callVI [aI 0] dX6_canMend_14 cv_X6_86 rfl rfl rfl (by decide) rfl (by decide) (Nat.le_of_ble_eq_true rfl) h32 ?_
    refine AW_if_ne (tgt := 43) dX6_canMend_17 (by decide) (fun q36 => ?_) (fun q36 => ?_)
    · have h34 := h31.1 q36
      refine AW_iconst (v := 0) dX6_canMend_43 (by decide) ?_
      exact AW_ireturn (ty := .boolean) dX6_canMend_44 rfl rfl h34
    · have h35 := h31.2 q36
      refine AW_aload_n dX6_canMend_20 rfl ?_
      refine AW_aload_n dX6_canMend_21 rfl ?_
      refine AW_iload_n dX6_canMend_22 rfl ?_
      refine AW_iconst (v := 0) dX6_canMend_23 (by decide) ?_
      obtain ⟨r40, m37, h39, h38⟩ := h35
      refine AW_callVI [aI a1, aI 0] dX6_canMend_24 cv_X6_80 rfl rfl rfl (by decide) rfl (by decide) (Nat.le_of_ble_eq_true rfl) h39 ?_
      refine AW_iconst (v := 0) dX6_canMend_27 (by decide) ?_
      obtain ⟨r44, m41, h43, h42⟩ := h38
      refine AW_callVI [aI r40, aI 0] dX6_canMend_28 cv_X6_65 rfl rfl rfl (by decide) rfl (by decide) (Nat.le_of_ble_eq_true rfl) h43 ?_
      refine AW_aload_n dX6_canMend_31 rfl ?_
      refine AW_iload_n dX6_canMend_32 rfl ?_
      obtain ⟨r48, m45, h47, h46⟩ := h42
      refine AW_callVI [aI a1] dX6_canMend_33 cv_X6_158 rfl rfl rfl (by decide) rfl (by decide) (Nat.le_of_ble_eq_true rfl) h47 ?_
      refine AW_icmp_lt (tgt := 43) dX6_canMend_36 (by decide) (fun q51 => ?_) (fun q51 => ?_)
      · have h49 := h46.1 q51
        refine AW_iconst (v := 0) dX6_canMend_43 (by decide) ?_
        exact AW_ireturn (ty := .boolean) dX6_canMend_44 rfl rfl h49
      · have h50 := h46.2 q51
        refine AW_iconst (v := 1) dX6_canMend_39 (by decide) ?_
        refine AW_goto (tgt := 44) dX6_canMend_40 (by decide) ?_
        exact AW_ireturn (ty := .boolean) dX6_canMend_44 rfl rfl h50
set_option maxRecDepth 100000 in
theorem B_X6_laughing_0 {a1 : Int32} {a2 : Int32} {μ : Mem} {P : RES → Mem → Prop}  (h : ∃ (r4 : Int32) (m1 : Mem), MetA M_X6_isNowhere [aR 19 0, aI a1, aI a2] μ (rI r4 m1) ∧ ((r4 = 0 → ∃ (r11 : Int32) (m8 : Mem), MetA M_X6_laughers [aR 19 0, aI a1, aI a2] m1 (rI r11 m8) ∧ (P (.inl (some (aI r11))) m8)) ∧ (¬ r4 = 0 → P (.inl (some (aI 0))) m1))) : AW M_X6_laughing 0 0 [some (aR 19 0), some (aI a1), some (aI a2)] [] μ P := by
  refine AW_aload_n dX6_laughing_0 rfl ?_
  refine AW_iload_n dX6_laughing_1 rfl ?_
  refine AW_iload_n dX6_laughing_2 rfl ?_
  obtain ⟨r4, m1, h3, h2⟩ := h
  refine AW_callVI [aI a1, aI a2] dX6_laughing_3 cv_X6_155 rfl rfl rfl (by decide) rfl (by decide) (Nat.le_of_ble_eq_true rfl) h3 ?_
  refine AW_if_eq (tgt := 13) dX6_laughing_6 (by decide) (fun q7 => ?_) (fun q7 => ?_)
  · have h5 := h2.1 q7
    refine AW_aload_n dX6_laughing_13 rfl ?_
    refine AW_iload_n dX6_laughing_14 rfl ?_
    refine AW_iload_n dX6_laughing_15 rfl ?_
    obtain ⟨r11, m8, h10, h9⟩ := h5
    refine AW_callVI [aI a1, aI a2] dX6_laughing_16 cv_X6_136 rfl rfl rfl (by decide) rfl (by decide) (Nat.le_of_ble_eq_true rfl) h10 ?_
    exact AW_ireturn (ty := .int) dX6_laughing_19 rfl rfl h9
  · have h6 := h2.2 q7
    refine AW_iconst (v := 0) dX6_laughing_9 (by decide) ?_
    refine AW_goto (tgt := 19) dX6_laughing_10 (by decide) ?_
    exact AW_ireturn (ty := .int) dX6_laughing_19 rfl rfl h6
set_option maxRecDepth 100000 in
theorem B_X6_canLicense_0 {a1 : Int32} {a2 : Int32} {μ : Mem} {P : RES → Mem → Prop}  (h : ∃ (r4 : Int32) (m1 : Mem), MetA M_X6_of [aR 19 0, aI a1, aI 0] μ (rI r4 m1) ∧ (∃ (r8 : Int32) (m5 : Mem), MetA M_X6_mark [aR 19 0, aI a1, aI a2] m1 (rI r8 m5) ∧ ((¬ r8 = 1 → P (.inl (some (aI 0))) m5) ∧ (r8 = 1 → ∃ (r15 : Int32) (m12 : Mem), MetA M_X6_isAshamed [aR 19 0, aI r4] m5 (rI r15 m12) ∧ ((¬ r15 = 0 → P (.inl (some (aI 0))) m12) ∧ (r15 = 0 → ∃ (r22 : Int32) (m19 : Mem), MetA M_X6_by [aR 19 0, aI r4, aI 0] m12 (rI r22 m19) ∧ (∃ (r26 : Int32) (m23 : Mem), MetA M_X6_price [aR 19 0, aI r4] m19 (rI r26 m23) ∧ ((r22 < r26 → P (.inl (some (aI 0))) m23) ∧ (¬ r22 < r26 → P (.inl (some (aI 1))) m23))))))))) : AW M_X6_canLicense 0 0 [some (aR 19 0), some (aI a1), some (aI a2), none] [] μ P := by
  refine AW_aload_n dX6_canLicense_0 rfl ?_
  refine AW_iload_n dX6_canLicense_1 rfl ?_
  refine AW_iconst (v := 0) dX6_canLicense_2 (by decide) ?_
  obtain ⟨r4, m1, h3, h2⟩ := h
  refine AW_callVI [aI a1, aI 0] dX6_canLicense_3 cv_X6_80 rfl rfl rfl (by decide) rfl (by decide) (Nat.le_of_ble_eq_true rfl) h3 ?_
  refine AW_istore_n (loc' := [some (aR 19 0), some (aI a1), some (aI a2), some (aI r4)]) dX6_canLicense_6 (Nat.le_of_ble_eq_true rfl) rfl rfl ?_
  refine AW_aload_n dX6_canLicense_7 rfl ?_
  refine AW_iload_n dX6_canLicense_8 rfl ?_
  refine AW_iload_n dX6_canLicense_9 rfl ?_
  obtain ⟨r8, m5, h7, h6⟩ := h2
  refine AW_callVI [aI a1, aI a2] dX6_canLicense_10 cv_X6_111 rfl rfl rfl (by decide) rfl (by decide) (Nat.le_of_ble_eq_true rfl) h7 ?_
  refine AW_iconst (v := 1) dX6_canLicense_13 (by decide) ?_
  refine AW_icmp_ne (tgt := 43) dX6_canLicense_14 (by decide) (fun q11 => ?_) (fun q11 => ?_)
  · have h9 := h6.1 q11
    refine AW_iconst (v := 0) dX6_canLicense_43 (by decide) ?_
    exact AW_ireturn (ty := .boolean) dX6_canLicense_44 rfl rfl h9
  · have h10 := h6.2 q11
    refine AW_aload_n dX6_canLicense_17 rfl ?_
    refine AW_iload_n dX6_canLicense_18 rfl ?_
    obtain ⟨r15, m12, h14, h13⟩ := h10
    refine AW_callVI [aI r4] dX6_canLicense_19 cv_X6_124 rfl rfl rfl (by decide) rfl (by decide) (Nat.le_of_ble_eq_true rfl) h14 ?_
    refine AW_if_ne (tgt := 43) dX6_canLicense_22 (by decide) (fun q18 => ?_) (fun q18 => ?_)
    · have h16 := h13.1 q18
      refine AW_iconst (v := 0) dX6_canLicense_43 (by decide) ?_
      exact AW_ireturn (ty := .boolean) dX6_canLicense_44 rfl rfl h16
    · have h17 := h13.2 q18
      refine AW_aload_n dX6_canLicense_25 rfl ?_
      refine AW_iload_n dX6_canLicense_26 rfl ?_
      refine AW_iconst (v := 0) dX6_canLicense_27 (by decide) ?_
      obtain ⟨r22, m19, h21, h20⟩ := h17
      refine AW_callVI [aI r4, aI 0] dX6_canLicense_28 cv_X6_65 rfl rfl rfl (by decide) rfl (by decide) (Nat.le_of_ble_eq_true rfl) h21 ?_
      refine AW_aload_n dX6_canLicense_31 rfl ?_
      refine AW_iload_n dX6_canLicense_32 rfl ?_
      obtain ⟨r26, m23, h25, h24⟩ := h20
      refine AW_callVI [aI r4] dX6_canLicense_33 cv_X6_127 rfl rfl rfl (by decide) rfl (by decide) (Nat.le_of_ble_eq_true rfl) h25 ?_
      refine AW_icmp_lt (tgt := 43) dX6_canLicense_36 (by decide) (fun q29 => ?_) (fun q29 => ?_)
      · have h27 := h24.1 q29
        refine AW_iconst (v := 0) dX6_canLicense_43 (by decide) ?_
        exact AW_ireturn (ty := .boolean) dX6_canLicense_44 rfl rfl h27
      · have h28 := h24.2 q29
        refine AW_iconst (v := 1) dX6_canLicense_39 (by decide) ?_
        refine AW_goto (tgt := 44) dX6_canLicense_40 (by decide) ?_
        exact AW_ireturn (ty := .boolean) dX6_canLicense_44 rfl rfl h28
set_option maxRecDepth 100000 in
theorem B_X6_bargain_0 {a1 : Int32} {μ : Mem} {P : RES → Mem → Prop}  (h : AW M_X6_bargain 0 7 [some (aR 19 0), some (aI a1), some (aI (-1)), some (aI 0), some (aI 0), none] [] μ P) : AW M_X6_bargain 0 0 [some (aR 19 0), some (aI a1), none, none, none, none] [] μ P := by
  refine AW_iconst (v := (-1)) dX6_bargain_0 (by decide) ?_
  refine AW_istore_n (loc' := [some (aR 19 0), some (aI a1), some (aI (-1)), none, none, none]) dX6_bargain_1 (Nat.le_of_ble_eq_true rfl) rfl rfl ?_
  refine AW_iconst (v := 0) dX6_bargain_2 (by decide) ?_
  refine AW_istore_n (loc' := [some (aR 19 0), some (aI a1), some (aI (-1)), some (aI 0), none, none]) dX6_bargain_3 (Nat.le_of_ble_eq_true rfl) rfl rfl ?_
  refine AW_iconst (v := 0) dX6_bargain_4 (by decide) ?_
  refine AW_istore (loc' := [some (aR 19 0), some (aI a1), some (aI (-1)), some (aI 0), some (aI 0), none]) dX6_bargain_5 (Nat.le_of_ble_eq_true rfl) rfl rfl ?_
  exact h
set_option maxRecDepth 100000 in
theorem B_X6_bargain_7 {a1 : Int32} {a2 : Int32} {a3 : Int32} {a4 : Int32} {μ : Mem} {P : RES → Mem → Prop}  (h : vp_in 1 240 ∧ (((8 * (μ 20 0 (1 : Int32).toNatClampNeg)) ≤ a4 → (0 ≤ a2 → ∃ (r12 : Int32) (m9 : Mem), MetA M_X6_fails [aR 19 0, aI 0] μ (rI r12 m9) ∧ ((r12 = 0 → (a1 = 0 → P (.inl (some (aI (a2 / 8)))) m9) ∧ (¬ a1 = 0 → P (.inl (some (aI (a2 - a2 / 8 * 8)))) m9)) ∧ (¬ r12 = 0 → P (.inl (some (aI 0))) m9))) ∧ (¬ 0 ≤ a2 → ∃ (r22 : Int32) (m19 : Mem), MetA M_X6_fails [aR 19 0, aI 1] μ (rI r22 m19) ∧ ((r22 = 0 → (a1 = 0 → P (.inl (some (aI (a2 / 8)))) m19) ∧ (¬ a1 = 0 → P (.inl (some (aI (a2 - a2 / 8 * 8)))) m19)) ∧ (¬ r22 = 0 → P (.inl (some (aI 0))) m19)))) ∧ (¬ (8 * (μ 20 0 (1 : Int32).toNatClampNeg)) ≤ a4 → ∃ (r32 : Int32) (m29 : Mem), MetA M_X6_isPlace [aR 19 0, aI (a4 / 8), aI (a4 - a4 / 8 * 8)] μ (rI r32 m29) ∧ ((r32 = 0 → AW M_X6_bargain 0 7 [some (aR 19 0), some (aI a1), some (aI a2), some (aI a3), some (aI (a4 + 1)), none] [] m29 P) ∧ (¬ r32 = 0 → ∃ (r39 : Int32) (m36 : Mem), MetA M_X6_canLicense [aR 19 0, aI (a4 / 8), aI (a4 - a4 / 8 * 8)] m29 (rI r39 m36) ∧ ((¬ r39 = 0 → ∃ (r46 : Int32) (m43 : Mem), MetA M_X6_laughs [aR 19 0, aI (a4 / 8), aI (a4 - a4 / 8 * 8)] m36 (rI r46 m43) ∧ (∃ (r50 : Int32) (m47 : Mem), MetA M_X6_of [aR 19 0, aI (a4 / 8), aI 0] m43 (rI r50 m47) ∧ (∃ (r54 : Int32) (m51 : Mem), MetA M_X6_price [aR 19 0, aI r50] m47 (rI r54 m51) ∧ ((a2 < 0 → AW M_X6_bargain 0 7 [some (aR 19 0), some (aI a1), some (aI a4), some (aI (r46 - r54)), some (aI (a4 + 1)), none] [] m51 P) ∧ (¬ a2 < 0 → (a3 < (r46 - r54) → AW M_X6_bargain 0 7 [some (aR 19 0), some (aI a1), some (aI a4), some (aI (r46 - r54)), some (aI (a4 + 1)), none] [] m51 P) ∧ (¬ a3 < (r46 - r54) → AW M_X6_bargain 0 7 [some (aR 19 0), some (aI a1), some (aI a2), some (aI a3), some (aI (a4 + 1)), none] [] m51 P)))))) ∧ (r39 = 0 → AW M_X6_bargain 0 7 [some (aR 19 0), some (aI a1), some (aI a2), some (aI a3), some (aI (a4 + 1)), none] [] m36 P))))))) : AW M_X6_bargain 0 7 [some (aR 19 0), some (aI a1), some (aI a2), some (aI a3), some (aI a4), none] [] μ P := by
  refine AW_iload dX6_bargain_7 rfl ?_
  refine AW_bipush (v := 8) dX6_bargain_9 (by decide) ?_
  refine AW_aload_n dX6_bargain_11 rfl ?_
  refine AW_getv (t := 19) (o := 0) (k := 0) (some (20, none)) (v := aR 20 0) dX6_bargain_12 ff_X6_7 rfl rfl rfl ?_
  refine AW_iconst (v := 1) dX6_bargain_15 (by decide) ?_
  obtain ⟨h1, h2⟩ := h
  refine AW_iaload dX6_bargain_16 rfl rfl h1 ?_
  refine AW_imul dX6_bargain_17 ?_
  refine AW_icmp_ge (tgt := 114) dX6_bargain_18 (by decide) (fun q5 => ?_) (fun q5 => ?_)
  · have h3 := h2.1 q5
    refine AW_aload_n dX6_bargain_114 rfl ?_
    refine AW_iload_n dX6_bargain_115 rfl ?_
    refine AW_if_ge (tgt := 123) dX6_bargain_116 (by decide) (fun q8 => ?_) (fun q8 => ?_)
    · have h6 := h3.1 q8
      refine AW_iconst (v := 0) dX6_bargain_123 (by decide) ?_
      obtain ⟨r12, m9, h11, h10⟩ := h6
      refine AW_callVI [aI 0] dX6_bargain_124 cv_X6_86 rfl rfl rfl (by decide) rfl (by decide) (Nat.le_of_ble_eq_true rfl) h11 ?_
      refine AW_if_eq (tgt := 134) dX6_bargain_127 (by decide) (fun q15 => ?_) (fun q15 => ?_)
      · have h13 := h10.1 q15
        refine AW_iload_n dX6_bargain_134 rfl ?_
        refine AW_if_eq (tgt := 145) dX6_bargain_135 (by decide) (fun q18 => ?_) (fun q18 => ?_)
        · have h16 := h13.1 q18
          refine AW_iload_n dX6_bargain_145 rfl ?_
          refine AW_bipush (v := 8) dX6_bargain_146 (by decide) ?_
          refine AW_idiv dX6_bargain_148 (by decide) ?_
          exact AW_ireturn (ty := .int) dX6_bargain_149 rfl rfl h16
        · have h17 := h13.2 q18
          refine AW_iload_n dX6_bargain_138 rfl ?_
          refine AW_bipush (v := 8) dX6_bargain_139 (by decide) ?_
          refine AW_irem dX6_bargain_141 (by decide) ?_
          refine AW_goto (tgt := 149) dX6_bargain_142 (by decide) ?_
          exact AW_ireturn (ty := .int) dX6_bargain_149 rfl rfl h17
      · have h14 := h10.2 q15
        refine AW_iconst (v := 0) dX6_bargain_130 (by decide) ?_
        refine AW_goto (tgt := 149) dX6_bargain_131 (by decide) ?_
        exact AW_ireturn (ty := .int) dX6_bargain_149 rfl rfl h14
    · have h7 := h3.2 q8
      refine AW_iconst (v := 1) dX6_bargain_119 (by decide) ?_
      refine AW_goto (tgt := 124) dX6_bargain_120 (by decide) ?_
      obtain ⟨r22, m19, h21, h20⟩ := h7
      refine AW_callVI [aI 1] dX6_bargain_124 cv_X6_86 rfl rfl rfl (by decide) rfl (by decide) (Nat.le_of_ble_eq_true rfl) h21 ?_
      refine AW_if_eq (tgt := 134) dX6_bargain_127 (by decide) (fun q25 => ?_) (fun q25 => ?_)
      · have h23 := h20.1 q25
        refine AW_iload_n dX6_bargain_134 rfl ?_
        refine AW_if_eq (tgt := 145) dX6_bargain_135 (by decide) (fun q28 => ?_) (fun q28 => ?_)
        · have h26 := h23.1 q28
          refine AW_iload_n dX6_bargain_145 rfl ?_
          refine AW_bipush (v := 8) dX6_bargain_146 (by decide) ?_
          refine AW_idiv dX6_bargain_148 (by decide) ?_
          exact AW_ireturn (ty := .int) dX6_bargain_149 rfl rfl h26
        · have h27 := h23.2 q28
          refine AW_iload_n dX6_bargain_138 rfl ?_
          refine AW_bipush (v := 8) dX6_bargain_139 (by decide) ?_
          refine AW_irem dX6_bargain_141 (by decide) ?_
          refine AW_goto (tgt := 149) dX6_bargain_142 (by decide) ?_
          exact AW_ireturn (ty := .int) dX6_bargain_149 rfl rfl h27
      · have h24 := h20.2 q25
        refine AW_iconst (v := 0) dX6_bargain_130 (by decide) ?_
        refine AW_goto (tgt := 149) dX6_bargain_131 (by decide) ?_
        exact AW_ireturn (ty := .int) dX6_bargain_149 rfl rfl h24
  · have h4 := h2.2 q5
    refine AW_aload_n dX6_bargain_21 rfl ?_
    refine AW_iload dX6_bargain_22 rfl ?_
    refine AW_bipush (v := 8) dX6_bargain_24 (by decide) ?_
    refine AW_idiv dX6_bargain_26 (by decide) ?_
    refine AW_iload dX6_bargain_27 rfl ?_
    refine AW_bipush (v := 8) dX6_bargain_29 (by decide) ?_
    refine AW_irem dX6_bargain_31 (by decide) ?_
    obtain ⟨r32, m29, h31, h30⟩ := h4
    refine AW_callVI [aI (a4 / 8), aI (a4 - a4 / 8 * 8)] dX6_bargain_32 cv_X6_114 rfl rfl rfl (by decide) rfl (by decide) (Nat.le_of_ble_eq_true rfl) h31 ?_
    refine AW_if_eq (tgt := 108) dX6_bargain_35 (by decide) (fun q35 => ?_) (fun q35 => ?_)
    · have h33 := h30.1 q35
      refine AW_iinc (v := a4 + 1) (loc' := [some (aR 19 0), some (aI a1), some (aI a2), some (aI a3), some (aI (a4 + 1)), none]) dX6_bargain_108 rfl rfl (Nat.le_of_ble_eq_true rfl) rfl rfl ?_
      refine AW_goto (tgt := 7) dX6_bargain_111 (by decide) ?_
      exact h33
    · have h34 := h30.2 q35
      refine AW_aload_n dX6_bargain_38 rfl ?_
      refine AW_iload dX6_bargain_39 rfl ?_
      refine AW_bipush (v := 8) dX6_bargain_41 (by decide) ?_
      refine AW_idiv dX6_bargain_43 (by decide) ?_
      refine AW_iload dX6_bargain_44 rfl ?_
      refine AW_bipush (v := 8) dX6_bargain_46 (by decide) ?_
      refine AW_irem dX6_bargain_48 (by decide) ?_
      obtain ⟨r39, m36, h38, h37⟩ := h34
      refine AW_callVI [aI (a4 / 8), aI (a4 - a4 / 8 * 8)] dX6_bargain_49 cv_X6_161 rfl rfl rfl (by decide) rfl (by decide) (Nat.le_of_ble_eq_true rfl) h38 ?_
      refine AW_if_ne (tgt := 58) dX6_bargain_52 (by decide) (fun q42 => ?_) (fun q42 => ?_)
      · have h40 := h37.1 q42
        refine AW_aload_n dX6_bargain_58 rfl ?_
        refine AW_iload dX6_bargain_59 rfl ?_
        refine AW_bipush (v := 8) dX6_bargain_61 (by decide) ?_
        refine AW_idiv dX6_bargain_63 (by decide) ?_
        refine AW_iload dX6_bargain_64 rfl ?_
        refine AW_bipush (v := 8) dX6_bargain_66 (by decide) ?_
        refine AW_irem dX6_bargain_68 (by decide) ?_
        obtain ⟨r46, m43, h45, h44⟩ := h40
        refine AW_callVI [aI (a4 / 8), aI (a4 - a4 / 8 * 8)] dX6_bargain_69 cv_X6_146 rfl rfl rfl (by decide) rfl (by decide) (Nat.le_of_ble_eq_true rfl) h45 ?_
        refine AW_aload_n dX6_bargain_72 rfl ?_
        refine AW_aload_n dX6_bargain_73 rfl ?_
        refine AW_iload dX6_bargain_74 rfl ?_
        refine AW_bipush (v := 8) dX6_bargain_76 (by decide) ?_
        refine AW_idiv dX6_bargain_78 (by decide) ?_
        refine AW_iconst (v := 0) dX6_bargain_79 (by decide) ?_
        obtain ⟨r50, m47, h49, h48⟩ := h44
        refine AW_callVI [aI (a4 / 8), aI 0] dX6_bargain_80 cv_X6_80 rfl rfl rfl (by decide) rfl (by decide) (Nat.le_of_ble_eq_true rfl) h49 ?_
        obtain ⟨r54, m51, h53, h52⟩ := h48
        refine AW_callVI [aI r50] dX6_bargain_83 cv_X6_127 rfl rfl rfl (by decide) rfl (by decide) (Nat.le_of_ble_eq_true rfl) h53 ?_
        refine AW_isub dX6_bargain_86 ?_
        refine AW_istore (loc' := [some (aR 19 0), some (aI a1), some (aI a2), some (aI a3), some (aI a4), some (aI (r46 - r54))]) dX6_bargain_87 (Nat.le_of_ble_eq_true rfl) rfl rfl ?_
        refine AW_iload_n dX6_bargain_89 rfl ?_
        refine AW_if_lt (tgt := 102) dX6_bargain_90 (by decide) (fun q57 => ?_) (fun q57 => ?_)
        · have h55 := h52.1 q57
          refine AW_iload dX6_bargain_102 rfl ?_
          refine AW_istore_n (loc' := [some (aR 19 0), some (aI a1), some (aI a4), some (aI a3), some (aI a4), some (aI (r46 - r54))]) dX6_bargain_104 (Nat.le_of_ble_eq_true rfl) rfl rfl ?_
          refine AW_iload dX6_bargain_105 rfl ?_
          refine AW_istore_n (loc' := [some (aR 19 0), some (aI a1), some (aI a4), some (aI (r46 - r54)), some (aI a4), some (aI (r46 - r54))]) dX6_bargain_107 (Nat.le_of_ble_eq_true rfl) rfl rfl ?_
          refine AW_iinc (v := a4 + 1) (loc' := [some (aR 19 0), some (aI a1), some (aI a4), some (aI (r46 - r54)), some (aI (a4 + 1)), some (aI (r46 - r54))]) dX6_bargain_108 rfl rfl (Nat.le_of_ble_eq_true rfl) rfl rfl ?_
          refine AW_goto (tgt := 7) dX6_bargain_111 (by decide) ?_
          exact AW_mask [true, true, true, true, true, false] h55
        · have h56 := h52.2 q57
          refine AW_iload dX6_bargain_93 rfl ?_
          refine AW_iload_n dX6_bargain_95 rfl ?_
          refine AW_icmp_gt (tgt := 102) dX6_bargain_96 (by decide) (fun q60 => ?_) (fun q60 => ?_)
          · have h58 := h56.1 q60
            refine AW_iload dX6_bargain_102 rfl ?_
            refine AW_istore_n (loc' := [some (aR 19 0), some (aI a1), some (aI a4), some (aI a3), some (aI a4), some (aI (r46 - r54))]) dX6_bargain_104 (Nat.le_of_ble_eq_true rfl) rfl rfl ?_
            refine AW_iload dX6_bargain_105 rfl ?_
            refine AW_istore_n (loc' := [some (aR 19 0), some (aI a1), some (aI a4), some (aI (r46 - r54)), some (aI a4), some (aI (r46 - r54))]) dX6_bargain_107 (Nat.le_of_ble_eq_true rfl) rfl rfl ?_
            refine AW_iinc (v := a4 + 1) (loc' := [some (aR 19 0), some (aI a1), some (aI a4), some (aI (r46 - r54)), some (aI (a4 + 1)), some (aI (r46 - r54))]) dX6_bargain_108 rfl rfl (Nat.le_of_ble_eq_true rfl) rfl rfl ?_
            refine AW_goto (tgt := 7) dX6_bargain_111 (by decide) ?_
            exact AW_mask [true, true, true, true, true, false] h58
          · have h59 := h56.2 q60
            refine AW_goto (tgt := 108) dX6_bargain_99 (by decide) ?_
            refine AW_iinc (v := a4 + 1) (loc' := [some (aR 19 0), some (aI a1), some (aI a2), some (aI a3), some (aI (a4 + 1)), some (aI (r46 - r54))]) dX6_bargain_108 rfl rfl (Nat.le_of_ble_eq_true rfl) rfl rfl ?_
            refine AW_goto (tgt := 7) dX6_bargain_111 (by decide) ?_
            exact AW_mask [true, true, true, true, true, false] h59
      · have h41 := h37.2 q42
        refine AW_goto (tgt := 108) dX6_bargain_55 (by decide) ?_
        refine AW_iinc (v := a4 + 1) (loc' := [some (aR 19 0), some (aI a1), some (aI a2), some (aI a3), some (aI (a4 + 1)), none]) dX6_bargain_108 rfl rfl (Nat.le_of_ble_eq_true rfl) rfl rfl ?_
        refine AW_goto (tgt := 7) dX6_bargain_111 (by decide) ?_
        exact h41
set_option maxRecDepth 100000 in
theorem B_X6_wouldShame_0 {a1 : Int32} {μ : Mem} {P : RES → Mem → Prop}  (h : ∃ (r4 : Int32) (m1 : Mem), MetA M_X6_isHouse [aR 19 0, aI a1] μ (rI r4 m1) ∧ ((r4 = 0 → ∃ (r11 : Int32) (m8 : Mem), MetA M_X6_fails [aR 19 0, aI 1] m1 (rI r11 m8) ∧ ((r11 = 0 → ∃ (r18 : Int32) (m15 : Mem), MetA M_X6_by [aR 19 0, aI a1, aI 1] m8 (rI r18 m15) ∧ (AW M_X6_wouldShame 0 31 [some (aR 19 0), some (aI a1), some (aI r18), some (aI 0), none] [] m15 P)) ∧ (¬ r11 = 0 → P (.inl (some (aI 0))) m8))) ∧ (¬ r4 = 0 → ∃ (r22 : Int32) (m19 : Mem), MetA M_X6_fails [aR 19 0, aI 0] m1 (rI r22 m19) ∧ ((r22 = 0 → ∃ (r29 : Int32) (m26 : Mem), MetA M_X6_by [aR 19 0, aI a1, aI 1] m19 (rI r29 m26) ∧ (AW M_X6_wouldShame 0 31 [some (aR 19 0), some (aI a1), some (aI r29), some (aI 0), none] [] m26 P)) ∧ (¬ r22 = 0 → P (.inl (some (aI 0))) m19))))) : AW M_X6_wouldShame 0 0 [some (aR 19 0), some (aI a1), none, none, none] [] μ P := by
  refine AW_aload_n dX6_wouldShame_0 rfl ?_
  refine AW_aload_n dX6_wouldShame_1 rfl ?_
  refine AW_iload_n dX6_wouldShame_2 rfl ?_
  obtain ⟨r4, m1, h3, h2⟩ := h
  refine AW_callVI [aI a1] dX6_wouldShame_3 cv_X6_101 rfl rfl rfl (by decide) rfl (by decide) (Nat.le_of_ble_eq_true rfl) h3 ?_
  refine AW_if_eq (tgt := 13) dX6_wouldShame_6 (by decide) (fun q7 => ?_) (fun q7 => ?_)
  · have h5 := h2.1 q7
    refine AW_iconst (v := 1) dX6_wouldShame_13 (by decide) ?_
    obtain ⟨r11, m8, h10, h9⟩ := h5
    refine AW_callVI [aI 1] dX6_wouldShame_14 cv_X6_86 rfl rfl rfl (by decide) rfl (by decide) (Nat.le_of_ble_eq_true rfl) h10 ?_
    refine AW_if_eq (tgt := 22) dX6_wouldShame_17 (by decide) (fun q14 => ?_) (fun q14 => ?_)
    · have h12 := h9.1 q14
      refine AW_aload_n dX6_wouldShame_22 rfl ?_
      refine AW_iload_n dX6_wouldShame_23 rfl ?_
      refine AW_iconst (v := 1) dX6_wouldShame_24 (by decide) ?_
      obtain ⟨r18, m15, h17, h16⟩ := h12
      refine AW_callVI [aI a1, aI 1] dX6_wouldShame_25 cv_X6_65 rfl rfl rfl (by decide) rfl (by decide) (Nat.le_of_ble_eq_true rfl) h17 ?_
      refine AW_istore_n (loc' := [some (aR 19 0), some (aI a1), some (aI r18), none, none]) dX6_wouldShame_28 (Nat.le_of_ble_eq_true rfl) rfl rfl ?_
      refine AW_iconst (v := 0) dX6_wouldShame_29 (by decide) ?_
      refine AW_istore_n (loc' := [some (aR 19 0), some (aI a1), some (aI r18), some (aI 0), none]) dX6_wouldShame_30 (Nat.le_of_ble_eq_true rfl) rfl rfl ?_
      exact h16
    · have h13 := h9.2 q14
      refine AW_iconst (v := 0) dX6_wouldShame_20 (by decide) ?_
      exact AW_ireturn (ty := .int) dX6_wouldShame_21 rfl rfl h13
  · have h6 := h2.2 q7
    refine AW_iconst (v := 0) dX6_wouldShame_9 (by decide) ?_
    refine AW_goto (tgt := 14) dX6_wouldShame_10 (by decide) ?_
    obtain ⟨r22, m19, h21, h20⟩ := h6
    refine AW_callVI [aI 0] dX6_wouldShame_14 cv_X6_86 rfl rfl rfl (by decide) rfl (by decide) (Nat.le_of_ble_eq_true rfl) h21 ?_
    refine AW_if_eq (tgt := 22) dX6_wouldShame_17 (by decide) (fun q25 => ?_) (fun q25 => ?_)
    · have h23 := h20.1 q25
      refine AW_aload_n dX6_wouldShame_22 rfl ?_
      refine AW_iload_n dX6_wouldShame_23 rfl ?_
      refine AW_iconst (v := 1) dX6_wouldShame_24 (by decide) ?_
      obtain ⟨r29, m26, h28, h27⟩ := h23
      refine AW_callVI [aI a1, aI 1] dX6_wouldShame_25 cv_X6_65 rfl rfl rfl (by decide) rfl (by decide) (Nat.le_of_ble_eq_true rfl) h28 ?_
      refine AW_istore_n (loc' := [some (aR 19 0), some (aI a1), some (aI r29), none, none]) dX6_wouldShame_28 (Nat.le_of_ble_eq_true rfl) rfl rfl ?_
      refine AW_iconst (v := 0) dX6_wouldShame_29 (by decide) ?_
      refine AW_istore_n (loc' := [some (aR 19 0), some (aI a1), some (aI r29), some (aI 0), none]) dX6_wouldShame_30 (Nat.le_of_ble_eq_true rfl) rfl rfl ?_
      exact h27
    · have h24 := h20.2 q25
      refine AW_iconst (v := 0) dX6_wouldShame_20 (by decide) ?_
      exact AW_ireturn (ty := .int) dX6_wouldShame_21 rfl rfl h24
set_option maxRecDepth 100000 in
theorem B_X6_wouldShame_31 {a1 : Int32} {a2 : Int32} {a3 : Int32} {μ : Mem} {P : RES → Mem → Prop}  (h : vp_in 1 240 ∧ (((μ 20 0 (1 : Int32).toNatClampNeg) ≤ a3 → ∃ (r9 : Int32) (m6 : Mem), MetA M_X6_atMost [aI a2, aI 99] μ (rI r9 m6) ∧ (P (.inl (some (aI r9))) m6)) ∧ (¬ (μ 20 0 (1 : Int32).toNatClampNeg) ≤ a3 → AW M_X6_wouldShame 0 44 [some (aR 19 0), some (aI a1), some (aI a2), some (aI a3), some (aI 0)] [] μ P))) : AW M_X6_wouldShame 0 31 [some (aR 19 0), some (aI a1), some (aI a2), some (aI a3), none] [] μ P := by
  refine AW_iload_n dX6_wouldShame_31 rfl ?_
  refine AW_aload_n dX6_wouldShame_32 rfl ?_
  refine AW_getv (t := 19) (o := 0) (k := 0) (some (20, none)) (v := aR 20 0) dX6_wouldShame_33 ff_X6_7 rfl rfl rfl ?_
  refine AW_iconst (v := 1) dX6_wouldShame_36 (by decide) ?_
  obtain ⟨h1, h2⟩ := h
  refine AW_iaload dX6_wouldShame_37 rfl rfl h1 ?_
  refine AW_icmp_ge (tgt := 102) dX6_wouldShame_38 (by decide) (fun q5 => ?_) (fun q5 => ?_)
  · have h3 := h2.1 q5
    refine AW_iload_n dX6_wouldShame_102 rfl ?_
    refine AW_bipush (v := 99) dX6_wouldShame_103 (by decide) ?_
    obtain ⟨r9, m6, h8, h7⟩ := h3
    refine AW_callSI [aI a2, aI 99] dX6_wouldShame_105 cs_X6_69 rfl rfl (by decide) rfl (by decide) (Nat.le_of_ble_eq_true rfl) h8 ?_
    exact AW_ireturn (ty := .int) dX6_wouldShame_108 rfl rfl h7
  · have h4 := h2.2 q5
    refine AW_iconst (v := 0) dX6_wouldShame_41 (by decide) ?_
    refine AW_istore (loc' := [some (aR 19 0), some (aI a1), some (aI a2), some (aI a3), some (aI 0)]) dX6_wouldShame_42 (Nat.le_of_ble_eq_true rfl) rfl rfl ?_
    exact h4
set_option maxRecDepth 100000 in
theorem B_X6_wouldShame_44 {a1 : Int32} {a2 : Int32} {a3 : Int32} {a4 : Int32} {μ : Mem} {P : RES → Mem → Prop}  (h : ∃ (r4 : Int32) (m1 : Mem), MetA M_X6_of [aR 19 0, aI a3, aI 1] μ (rI r4 m1) ∧ ((r4 ≤ a4 → AW M_X6_wouldShame 0 31 [some (aR 19 0), some (aI a1), some (aI a2), some (aI (a3 + 1)), none] [] m1 P) ∧ (¬ r4 ≤ a4 → ∃ (r11 : Int32) (m8 : Mem), MetA M_X6_of [aR 19 0, aI a3, aI 0] m1 (rI r11 m8) ∧ ((¬ r11 = a1 → AW M_X6_wouldShame 0 31 [some (aR 19 0), some (aI a1), some (aI a2), some (aI (a3 + 1)), none] [] m8 P) ∧ (r11 = a1 → ∃ (r18 : Int32) (m15 : Mem), MetA M_X6_mark [aR 19 0, aI a3, aI a4] m8 (rI r18 m15) ∧ ((¬ r18 = 2 → AW M_X6_wouldShame 0 44 [some (aR 19 0), some (aI a1), some (aI (a2 + 0)), some (aI a3), some (aI (a4 + 1))] [] m15 P) ∧ (r18 = 2 → ∃ (r25 : Int32) (m22 : Mem), MetA M_X6_bad [aR 19 0, aI a3, aI a4] m15 (rI r25 m22) ∧ (AW M_X6_wouldShame 0 44 [some (aR 19 0), some (aI a1), some (aI (a2 + r25)), some (aI a3), some (aI (a4 + 1))] [] m22 P)))))))) : AW M_X6_wouldShame 0 44 [some (aR 19 0), some (aI a1), some (aI a2), some (aI a3), some (aI a4)] [] μ P := by
  refine AW_iload dX6_wouldShame_44 rfl ?_
  refine AW_aload_n dX6_wouldShame_46 rfl ?_
  refine AW_iload_n dX6_wouldShame_47 rfl ?_
  refine AW_iconst (v := 1) dX6_wouldShame_48 (by decide) ?_
  obtain ⟨r4, m1, h3, h2⟩ := h
  refine AW_callVI [aI a3, aI 1] dX6_wouldShame_49 cv_X6_80 rfl rfl rfl (by decide) rfl (by decide) (Nat.le_of_ble_eq_true rfl) h3 ?_
  refine AW_icmp_ge (tgt := 96) dX6_wouldShame_52 (by decide) (fun q7 => ?_) (fun q7 => ?_)
  · have h5 := h2.1 q7
    refine AW_iinc (v := a3 + 1) (loc' := [some (aR 19 0), some (aI a1), some (aI a2), some (aI (a3 + 1)), some (aI a4)]) dX6_wouldShame_96 rfl rfl (Nat.le_of_ble_eq_true rfl) rfl rfl ?_
    refine AW_goto (tgt := 31) dX6_wouldShame_99 (by decide) ?_
    exact AW_mask [true, true, true, true, false] h5
  · have h6 := h2.2 q7
    refine AW_aload_n dX6_wouldShame_55 rfl ?_
    refine AW_iload_n dX6_wouldShame_56 rfl ?_
    refine AW_iconst (v := 0) dX6_wouldShame_57 (by decide) ?_
    obtain ⟨r11, m8, h10, h9⟩ := h6
    refine AW_callVI [aI a3, aI 0] dX6_wouldShame_58 cv_X6_80 rfl rfl rfl (by decide) rfl (by decide) (Nat.le_of_ble_eq_true rfl) h10 ?_
    refine AW_iload_n dX6_wouldShame_61 rfl ?_
    refine AW_icmp_ne (tgt := 96) dX6_wouldShame_62 (by decide) (fun q14 => ?_) (fun q14 => ?_)
    · have h12 := h9.1 q14
      refine AW_iinc (v := a3 + 1) (loc' := [some (aR 19 0), some (aI a1), some (aI a2), some (aI (a3 + 1)), some (aI a4)]) dX6_wouldShame_96 rfl rfl (Nat.le_of_ble_eq_true rfl) rfl rfl ?_
      refine AW_goto (tgt := 31) dX6_wouldShame_99 (by decide) ?_
      exact AW_mask [true, true, true, true, false] h12
    · have h13 := h9.2 q14
      refine AW_iload_n dX6_wouldShame_65 rfl ?_
      refine AW_aload_n dX6_wouldShame_66 rfl ?_
      refine AW_iload_n dX6_wouldShame_67 rfl ?_
      refine AW_iload dX6_wouldShame_68 rfl ?_
      obtain ⟨r18, m15, h17, h16⟩ := h13
      refine AW_callVI [aI a3, aI a4] dX6_wouldShame_70 cv_X6_111 rfl rfl rfl (by decide) rfl (by decide) (Nat.le_of_ble_eq_true rfl) h17 ?_
      refine AW_iconst (v := 2) dX6_wouldShame_73 (by decide) ?_
      refine AW_icmp_ne (tgt := 87) dX6_wouldShame_74 (by decide) (fun q21 => ?_) (fun q21 => ?_)
      · have h19 := h16.1 q21
        refine AW_iconst (v := 0) dX6_wouldShame_87 (by decide) ?_
        refine AW_iadd dX6_wouldShame_88 ?_
        refine AW_istore_n (loc' := [some (aR 19 0), some (aI a1), some (aI (a2 + 0)), some (aI a3), some (aI a4)]) dX6_wouldShame_89 (Nat.le_of_ble_eq_true rfl) rfl rfl ?_
        refine AW_iinc (v := a4 + 1) (loc' := [some (aR 19 0), some (aI a1), some (aI (a2 + 0)), some (aI a3), some (aI (a4 + 1))]) dX6_wouldShame_90 rfl rfl (Nat.le_of_ble_eq_true rfl) rfl rfl ?_
        refine AW_goto (tgt := 44) dX6_wouldShame_93 (by decide) ?_
        exact h19
      · have h20 := h16.2 q21
        refine AW_aload_n dX6_wouldShame_77 rfl ?_
        refine AW_iload_n dX6_wouldShame_78 rfl ?_
        refine AW_iload dX6_wouldShame_79 rfl ?_
        obtain ⟨r25, m22, h24, h23⟩ := h20
        refine AW_callVI [aI a3, aI a4] dX6_wouldShame_81 cv_X6_130 rfl rfl rfl (by decide) rfl (by decide) (Nat.le_of_ble_eq_true rfl) h24 ?_
        refine AW_goto (tgt := 88) dX6_wouldShame_84 (by decide) ?_
        refine AW_iadd dX6_wouldShame_88 ?_
        refine AW_istore_n (loc' := [some (aR 19 0), some (aI a1), some (aI (a2 + r25)), some (aI a3), some (aI a4)]) dX6_wouldShame_89 (Nat.le_of_ble_eq_true rfl) rfl rfl ?_
        refine AW_iinc (v := a4 + 1) (loc' := [some (aR 19 0), some (aI a1), some (aI (a2 + r25)), some (aI a3), some (aI (a4 + 1))]) dX6_wouldShame_90 rfl rfl (Nat.le_of_ble_eq_true rfl) rfl rfl ?_
        refine AW_goto (tgt := 44) dX6_wouldShame_93 (by decide) ?_
        exact h23
set_option maxRecDepth 100000 in
theorem B_X6_wouldLaugh_0 {a1 : Int32} {μ : Mem} {P : RES → Mem → Prop}  (h : ∀ m1 : Mem, m1 = mset μ 19 0 (upd (μ 19 0) 8 0) → AW M_X6_wouldLaugh 0 9 [some (aR 19 0), some (aI a1), some (aI 0), some (aI 0), none] [] m1 P) : AW M_X6_wouldLaugh 0 0 [some (aR 19 0), some (aI a1), none, none, none] [] μ P := by
  refine AW_aload_n dX6_wouldLaugh_0 rfl ?_
  refine AW_iconst (v := 0) dX6_wouldLaugh_1 (by decide) ?_
  obtain ⟨m1, em1⟩ : ∃ z : Mem, z = mset μ 19 0 (upd (μ 19 0) 8 0) := ⟨_, rfl⟩
  have h2 := h m1 em1
  refine AW_putf (t := 19) (o := 0) (k := 8) dX6_wouldLaugh_2 fp_X6_36 rfl rfl rfl rfl em1.symm ?_
  refine AW_iconst (v := 0) dX6_wouldLaugh_5 (by decide) ?_
  refine AW_istore_n (loc' := [some (aR 19 0), some (aI a1), some (aI 0), none, none]) dX6_wouldLaugh_6 (Nat.le_of_ble_eq_true rfl) rfl rfl ?_
  refine AW_iconst (v := 0) dX6_wouldLaugh_7 (by decide) ?_
  refine AW_istore_n (loc' := [some (aR 19 0), some (aI a1), some (aI 0), some (aI 0), none]) dX6_wouldLaugh_8 (Nat.le_of_ble_eq_true rfl) rfl rfl ?_
  exact h2
set_option maxRecDepth 100000 in
theorem B_X6_wouldLaugh_9 {a1 : Int32} {a2 : Int32} {a3 : Int32} {μ : Mem} {P : RES → Mem → Prop}  (h : vp_in 1 240 ∧ (((μ 20 0 (1 : Int32).toNatClampNeg) ≤ a3 → P (.inl (some (aI a2))) μ) ∧ (¬ (μ 20 0 (1 : Int32).toNatClampNeg) ≤ a3 → AW M_X6_wouldLaugh 0 22 [some (aR 19 0), some (aI a1), some (aI a2), some (aI a3), some (aI 0)] [] μ P))) : AW M_X6_wouldLaugh 0 9 [some (aR 19 0), some (aI a1), some (aI a2), some (aI a3), none] [] μ P := by
  refine AW_iload_n dX6_wouldLaugh_9 rfl ?_
  refine AW_aload_n dX6_wouldLaugh_10 rfl ?_
  refine AW_getv (t := 19) (o := 0) (k := 0) (some (20, none)) (v := aR 20 0) dX6_wouldLaugh_11 ff_X6_7 rfl rfl rfl ?_
  refine AW_iconst (v := 1) dX6_wouldLaugh_14 (by decide) ?_
  obtain ⟨h1, h2⟩ := h
  refine AW_iaload dX6_wouldLaugh_15 rfl rfl h1 ?_
  refine AW_icmp_ge (tgt := 70) dX6_wouldLaugh_16 (by decide) (fun q5 => ?_) (fun q5 => ?_)
  · have h3 := h2.1 q5
    refine AW_iload_n dX6_wouldLaugh_70 rfl ?_
    exact AW_ireturn (ty := .int) dX6_wouldLaugh_71 rfl rfl h3
  · have h4 := h2.2 q5
    refine AW_iconst (v := 0) dX6_wouldLaugh_19 (by decide) ?_
    refine AW_istore (loc' := [some (aR 19 0), some (aI a1), some (aI a2), some (aI a3), some (aI 0)]) dX6_wouldLaugh_20 (Nat.le_of_ble_eq_true rfl) rfl rfl ?_
    exact h4
set_option maxRecDepth 100000 in
theorem B_X6_wouldLaugh_22 {a1 : Int32} {a2 : Int32} {a3 : Int32} {a4 : Int32} {μ : Mem} {P : RES → Mem → Prop}  (h : ∃ (r4 : Int32) (m1 : Mem), MetA M_X6_of [aR 19 0, aI a3, aI 1] μ (rI r4 m1) ∧ ((r4 ≤ a4 → AW M_X6_wouldLaugh 0 9 [some (aR 19 0), some (aI a1), some (aI a2), some (aI (a3 + 1)), none] [] m1 P) ∧ (¬ r4 ≤ a4 → ∃ (r11 : Int32) (m8 : Mem), MetA M_X6_mark [aR 19 0, aI a3, aI a4] m1 (rI r11 m8) ∧ ((¬ r11 = 2 → AW M_X6_wouldLaugh 0 22 [some (aR 19 0), some (aI a1), some (aI (a2 + 0)), some (aI a3), some (aI (a4 + 1))] [] m8 P) ∧ (r11 = 2 → ∃ (r18 : Int32) (m15 : Mem), MetA M_X6_laughs [aR 19 0, aI a3, aI a4] m8 (rI r18 m15) ∧ (AW M_X6_wouldLaugh 0 22 [some (aR 19 0), some (aI a1), some (aI (a2 + r18)), some (aI a3), some (aI (a4 + 1))] [] m15 P)))))) : AW M_X6_wouldLaugh 0 22 [some (aR 19 0), some (aI a1), some (aI a2), some (aI a3), some (aI a4)] [] μ P := by
  refine AW_iload dX6_wouldLaugh_22 rfl ?_
  refine AW_aload_n dX6_wouldLaugh_24 rfl ?_
  refine AW_iload_n dX6_wouldLaugh_25 rfl ?_
  refine AW_iconst (v := 1) dX6_wouldLaugh_26 (by decide) ?_
  obtain ⟨r4, m1, h3, h2⟩ := h
  refine AW_callVI [aI a3, aI 1] dX6_wouldLaugh_27 cv_X6_80 rfl rfl rfl (by decide) rfl (by decide) (Nat.le_of_ble_eq_true rfl) h3 ?_
  refine AW_icmp_ge (tgt := 64) dX6_wouldLaugh_30 (by decide) (fun q7 => ?_) (fun q7 => ?_)
  · have h5 := h2.1 q7
    refine AW_iinc (v := a3 + 1) (loc' := [some (aR 19 0), some (aI a1), some (aI a2), some (aI (a3 + 1)), some (aI a4)]) dX6_wouldLaugh_64 rfl rfl (Nat.le_of_ble_eq_true rfl) rfl rfl ?_
    refine AW_goto (tgt := 9) dX6_wouldLaugh_67 (by decide) ?_
    exact AW_mask [true, true, true, true, false] h5
  · have h6 := h2.2 q7
    refine AW_iload_n dX6_wouldLaugh_33 rfl ?_
    refine AW_aload_n dX6_wouldLaugh_34 rfl ?_
    refine AW_iload_n dX6_wouldLaugh_35 rfl ?_
    refine AW_iload dX6_wouldLaugh_36 rfl ?_
    obtain ⟨r11, m8, h10, h9⟩ := h6
    refine AW_callVI [aI a3, aI a4] dX6_wouldLaugh_38 cv_X6_111 rfl rfl rfl (by decide) rfl (by decide) (Nat.le_of_ble_eq_true rfl) h10 ?_
    refine AW_iconst (v := 2) dX6_wouldLaugh_41 (by decide) ?_
    refine AW_icmp_ne (tgt := 55) dX6_wouldLaugh_42 (by decide) (fun q14 => ?_) (fun q14 => ?_)
    · have h12 := h9.1 q14
      refine AW_iconst (v := 0) dX6_wouldLaugh_55 (by decide) ?_
      refine AW_iadd dX6_wouldLaugh_56 ?_
      refine AW_istore_n (loc' := [some (aR 19 0), some (aI a1), some (aI (a2 + 0)), some (aI a3), some (aI a4)]) dX6_wouldLaugh_57 (Nat.le_of_ble_eq_true rfl) rfl rfl ?_
      refine AW_iinc (v := a4 + 1) (loc' := [some (aR 19 0), some (aI a1), some (aI (a2 + 0)), some (aI a3), some (aI (a4 + 1))]) dX6_wouldLaugh_58 rfl rfl (Nat.le_of_ble_eq_true rfl) rfl rfl ?_
      refine AW_goto (tgt := 22) dX6_wouldLaugh_61 (by decide) ?_
      exact h12
    · have h13 := h9.2 q14
      refine AW_aload_n dX6_wouldLaugh_45 rfl ?_
      refine AW_iload_n dX6_wouldLaugh_46 rfl ?_
      refine AW_iload dX6_wouldLaugh_47 rfl ?_
      obtain ⟨r18, m15, h17, h16⟩ := h13
      refine AW_callVI [aI a3, aI a4] dX6_wouldLaugh_49 cv_X6_146 rfl rfl rfl (by decide) rfl (by decide) (Nat.le_of_ble_eq_true rfl) h17 ?_
      refine AW_goto (tgt := 56) dX6_wouldLaugh_52 (by decide) ?_
      refine AW_iadd dX6_wouldLaugh_56 ?_
      refine AW_istore_n (loc' := [some (aR 19 0), some (aI a1), some (aI (a2 + r18)), some (aI a3), some (aI a4)]) dX6_wouldLaugh_57 (Nat.le_of_ble_eq_true rfl) rfl rfl ?_
      refine AW_iinc (v := a4 + 1) (loc' := [some (aR 19 0), some (aI a1), some (aI (a2 + r18)), some (aI a3), some (aI (a4 + 1))]) dX6_wouldLaugh_58 rfl rfl (Nat.le_of_ble_eq_true rfl) rfl rfl ?_
      refine AW_goto (tgt := 22) dX6_wouldLaugh_61 (by decide) ?_
      exact h16
set_option maxRecDepth 100000 in
theorem B_X6_far_0 {a1 : Int32} {a2 : Int32} {μ : Mem} {P : RES → Mem → Prop}  (h : AW M_X6_far 0 5 [some (aR 19 0), some (aI a1), some (aI a2), some (aI 0), some (aI 0)] [] μ P) : AW M_X6_far 0 0 [some (aR 19 0), some (aI a1), some (aI a2), none, none] [] μ P := by
  refine AW_iconst (v := 0) dX6_far_0 (by decide) ?_
  refine AW_istore_n (loc' := [some (aR 19 0), some (aI a1), some (aI a2), some (aI 0), none]) dX6_far_1 (Nat.le_of_ble_eq_true rfl) rfl rfl ?_
  refine AW_iconst (v := 0) dX6_far_2 (by decide) ?_
  refine AW_istore (loc' := [some (aR 19 0), some (aI a1), some (aI a2), some (aI 0), some (aI 0)]) dX6_far_3 (Nat.le_of_ble_eq_true rfl) rfl rfl ?_
  exact h
set_option maxRecDepth 100000 in
theorem B_X6_far_5 {a1 : Int32} {a2 : Int32} {a3 : Int32} {a4 : Int32} {μ : Mem} {P : RES → Mem → Prop}  (h : (8 ≤ a4 → P (.inl (some (aI a3))) μ) ∧ (¬ 8 ≤ a4 → ∃ (r7 : Int32) (m4 : Mem), MetA M_X6_of [aR 19 0, aI a1, aI (10 + a4)] μ (rI r7 m4) ∧ (∃ (r11 : Int32) (m8 : Mem), MetA M_X6_of [aR 19 0, aI a2, aI (2 + a4)] m4 (rI r11 m8) ∧ ((¬ r7 = r11 → AW M_X6_far 0 5 [some (aR 19 0), some (aI a1), some (aI a2), some (aI (a3 + 1)), some (aI (a4 + 1))] [] m8 P) ∧ (r7 = r11 → AW M_X6_far 0 5 [some (aR 19 0), some (aI a1), some (aI a2), some (aI (a3 + 0)), some (aI (a4 + 1))] [] m8 P))))) : AW M_X6_far 0 5 [some (aR 19 0), some (aI a1), some (aI a2), some (aI a3), some (aI a4)] [] μ P := by
  refine AW_iload dX6_far_5 rfl ?_
  refine AW_bipush (v := 8) dX6_far_7 (by decide) ?_
  refine AW_icmp_ge (tgt := 48) dX6_far_9 (by decide) (fun q3 => ?_) (fun q3 => ?_)
  · have h1 := h.1 q3
    refine AW_iload_n dX6_far_48 rfl ?_
    exact AW_ireturn (ty := .int) dX6_far_49 rfl rfl h1
  · have h2 := h.2 q3
    refine AW_iload_n dX6_far_12 rfl ?_
    refine AW_aload_n dX6_far_13 rfl ?_
    refine AW_iload_n dX6_far_14 rfl ?_
    refine AW_bipush (v := 10) dX6_far_15 (by decide) ?_
    refine AW_iload dX6_far_17 rfl ?_
    refine AW_iadd dX6_far_19 ?_
    obtain ⟨r7, m4, h6, h5⟩ := h2
    refine AW_callVI [aI a1, aI (10 + a4)] dX6_far_20 cv_X6_80 rfl rfl rfl (by decide) rfl (by decide) (Nat.le_of_ble_eq_true rfl) h6 ?_
    refine AW_aload_n dX6_far_23 rfl ?_
    refine AW_iload_n dX6_far_24 rfl ?_
    refine AW_iconst (v := 2) dX6_far_25 (by decide) ?_
    refine AW_iload dX6_far_26 rfl ?_
    refine AW_iadd dX6_far_28 ?_
    obtain ⟨r11, m8, h10, h9⟩ := h5
    refine AW_callVI [aI a2, aI (2 + a4)] dX6_far_29 cv_X6_80 rfl rfl rfl (by decide) rfl (by decide) (Nat.le_of_ble_eq_true rfl) h10 ?_
    refine AW_icmp_ne (tgt := 39) dX6_far_32 (by decide) (fun q14 => ?_) (fun q14 => ?_)
    · have h12 := h9.1 q14
      refine AW_iconst (v := 1) dX6_far_39 (by decide) ?_
      refine AW_iadd dX6_far_40 ?_
      refine AW_istore_n (loc' := [some (aR 19 0), some (aI a1), some (aI a2), some (aI (a3 + 1)), some (aI a4)]) dX6_far_41 (Nat.le_of_ble_eq_true rfl) rfl rfl ?_
      refine AW_iinc (v := a4 + 1) (loc' := [some (aR 19 0), some (aI a1), some (aI a2), some (aI (a3 + 1)), some (aI (a4 + 1))]) dX6_far_42 rfl rfl (Nat.le_of_ble_eq_true rfl) rfl rfl ?_
      refine AW_goto (tgt := 5) dX6_far_45 (by decide) ?_
      exact h12
    · have h13 := h9.2 q14
      refine AW_iconst (v := 0) dX6_far_35 (by decide) ?_
      refine AW_goto (tgt := 40) dX6_far_36 (by decide) ?_
      refine AW_iadd dX6_far_40 ?_
      refine AW_istore_n (loc' := [some (aR 19 0), some (aI a1), some (aI a2), some (aI (a3 + 0)), some (aI a4)]) dX6_far_41 (Nat.le_of_ble_eq_true rfl) rfl rfl ?_
      refine AW_iinc (v := a4 + 1) (loc' := [some (aR 19 0), some (aI a1), some (aI a2), some (aI (a3 + 0)), some (aI (a4 + 1))]) dX6_far_42 rfl rfl (Nat.le_of_ble_eq_true rfl) rfl rfl ?_
      refine AW_goto (tgt := 5) dX6_far_45 (by decide) ?_
      exact h13
set_option maxRecDepth 100000 in
theorem B_X6_nearest_0 {a1 : Int32} {μ : Mem} {P : RES → Mem → Prop}  (h : ∃ (r4 : Int32) (m1 : Mem), MetA M_X6_isSheet [aR 19 0, aI a1] μ (rI r4 m1) ∧ ((r4 = 0 → ∃ (r11 : Int32) (m8 : Mem), MetA M_X6_fails [aR 19 0, aI 1] m1 (rI r11 m8) ∧ ((r11 = 0 → AW M_X6_nearest 0 26 [some (aR 19 0), some (aI a1), some (aI 0), some (aI 1)] [] m8 P) ∧ (¬ r11 = 0 → P (.inl (some (aI 0))) m8))) ∧ (¬ r4 = 0 → ∃ (r18 : Int32) (m15 : Mem), MetA M_X6_fails [aR 19 0, aI 0] m1 (rI r18 m15) ∧ ((r18 = 0 → AW M_X6_nearest 0 26 [some (aR 19 0), some (aI a1), some (aI 0), some (aI 1)] [] m15 P) ∧ (¬ r18 = 0 → P (.inl (some (aI 0))) m15))))) : AW M_X6_nearest 0 0 [some (aR 19 0), some (aI a1), none, none] [] μ P := by
  refine AW_aload_n dX6_nearest_0 rfl ?_
  refine AW_aload_n dX6_nearest_1 rfl ?_
  refine AW_iload_n dX6_nearest_2 rfl ?_
  obtain ⟨r4, m1, h3, h2⟩ := h
  refine AW_callVI [aI a1] dX6_nearest_3 cv_X6_76 rfl rfl rfl (by decide) rfl (by decide) (Nat.le_of_ble_eq_true rfl) h3 ?_
  refine AW_if_eq (tgt := 13) dX6_nearest_6 (by decide) (fun q7 => ?_) (fun q7 => ?_)
  · have h5 := h2.1 q7
    refine AW_iconst (v := 1) dX6_nearest_13 (by decide) ?_
    obtain ⟨r11, m8, h10, h9⟩ := h5
    refine AW_callVI [aI 1] dX6_nearest_14 cv_X6_86 rfl rfl rfl (by decide) rfl (by decide) (Nat.le_of_ble_eq_true rfl) h10 ?_
    refine AW_if_eq (tgt := 22) dX6_nearest_17 (by decide) (fun q14 => ?_) (fun q14 => ?_)
    · have h12 := h9.1 q14
      refine AW_iconst (v := 0) dX6_nearest_22 (by decide) ?_
      refine AW_istore_n (loc' := [some (aR 19 0), some (aI a1), some (aI 0), none]) dX6_nearest_23 (Nat.le_of_ble_eq_true rfl) rfl rfl ?_
      refine AW_iconst (v := 1) dX6_nearest_24 (by decide) ?_
      refine AW_istore_n (loc' := [some (aR 19 0), some (aI a1), some (aI 0), some (aI 1)]) dX6_nearest_25 (Nat.le_of_ble_eq_true rfl) rfl rfl ?_
      exact h12
    · have h13 := h9.2 q14
      refine AW_iconst (v := 0) dX6_nearest_20 (by decide) ?_
      exact AW_ireturn (ty := .int) dX6_nearest_21 rfl rfl h13
  · have h6 := h2.2 q7
    refine AW_iconst (v := 0) dX6_nearest_9 (by decide) ?_
    refine AW_goto (tgt := 14) dX6_nearest_10 (by decide) ?_
    obtain ⟨r18, m15, h17, h16⟩ := h6
    refine AW_callVI [aI 0] dX6_nearest_14 cv_X6_86 rfl rfl rfl (by decide) rfl (by decide) (Nat.le_of_ble_eq_true rfl) h17 ?_
    refine AW_if_eq (tgt := 22) dX6_nearest_17 (by decide) (fun q21 => ?_) (fun q21 => ?_)
    · have h19 := h16.1 q21
      refine AW_iconst (v := 0) dX6_nearest_22 (by decide) ?_
      refine AW_istore_n (loc' := [some (aR 19 0), some (aI a1), some (aI 0), none]) dX6_nearest_23 (Nat.le_of_ble_eq_true rfl) rfl rfl ?_
      refine AW_iconst (v := 1) dX6_nearest_24 (by decide) ?_
      refine AW_istore_n (loc' := [some (aR 19 0), some (aI a1), some (aI 0), some (aI 1)]) dX6_nearest_25 (Nat.le_of_ble_eq_true rfl) rfl rfl ?_
      exact h19
    · have h20 := h16.2 q21
      refine AW_iconst (v := 0) dX6_nearest_20 (by decide) ?_
      exact AW_ireturn (ty := .int) dX6_nearest_21 rfl rfl h20
set_option maxRecDepth 100000 in
theorem B_X6_nearest_26 {a1 : Int32} {a2 : Int32} {a3 : Int32} {μ : Mem} {P : RES → Mem → Prop}  (h : vp_in 1 240 ∧ (((μ 20 0 (1 : Int32).toNatClampNeg) ≤ a3 → P (.inl (some (aI a2))) μ) ∧ (¬ (μ 20 0 (1 : Int32).toNatClampNeg) ≤ a3 → ∃ (r9 : Int32) (m6 : Mem), MetA M_X6_far [aR 19 0, aI a1, aI a3] μ (rI r9 m6) ∧ (∃ (r13 : Int32) (m10 : Mem), MetA M_X6_far [aR 19 0, aI a1, aI a2] m6 (rI r13 m10) ∧ ((r13 ≤ r9 → AW M_X6_nearest 0 26 [some (aR 19 0), some (aI a1), some (aI a2), some (aI (a3 + 1))] [] m10 P) ∧ (¬ r13 ≤ r9 → AW M_X6_nearest 0 26 [some (aR 19 0), some (aI a1), some (aI a3), some (aI (a3 + 1))] [] m10 P)))))) : AW M_X6_nearest 0 26 [some (aR 19 0), some (aI a1), some (aI a2), some (aI a3)] [] μ P := by
  refine AW_iload_n dX6_nearest_26 rfl ?_
  refine AW_aload_n dX6_nearest_27 rfl ?_
  refine AW_getv (t := 19) (o := 0) (k := 0) (some (20, none)) (v := aR 20 0) dX6_nearest_28 ff_X6_7 rfl rfl rfl ?_
  refine AW_iconst (v := 1) dX6_nearest_31 (by decide) ?_
  obtain ⟨h1, h2⟩ := h
  refine AW_iaload dX6_nearest_32 rfl rfl h1 ?_
  refine AW_icmp_ge (tgt := 59) dX6_nearest_33 (by decide) (fun q5 => ?_) (fun q5 => ?_)
  · have h3 := h2.1 q5
    refine AW_iload_n dX6_nearest_59 rfl ?_
    exact AW_ireturn (ty := .int) dX6_nearest_60 rfl rfl h3
  · have h4 := h2.2 q5
    refine AW_aload_n dX6_nearest_36 rfl ?_
    refine AW_iload_n dX6_nearest_37 rfl ?_
    refine AW_iload_n dX6_nearest_38 rfl ?_
    obtain ⟨r9, m6, h8, h7⟩ := h4
    refine AW_callVI [aI a1, aI a3] dX6_nearest_39 cv_X6_164 rfl rfl rfl (by decide) rfl (by decide) (Nat.le_of_ble_eq_true rfl) h8 ?_
    refine AW_aload_n dX6_nearest_42 rfl ?_
    refine AW_iload_n dX6_nearest_43 rfl ?_
    refine AW_iload_n dX6_nearest_44 rfl ?_
    obtain ⟨r13, m10, h12, h11⟩ := h7
    refine AW_callVI [aI a1, aI a2] dX6_nearest_45 cv_X6_164 rfl rfl rfl (by decide) rfl (by decide) (Nat.le_of_ble_eq_true rfl) h12 ?_
    refine AW_icmp_ge (tgt := 53) dX6_nearest_48 (by decide) (fun q16 => ?_) (fun q16 => ?_)
    · have h14 := h11.1 q16
      refine AW_iinc (v := a3 + 1) (loc' := [some (aR 19 0), some (aI a1), some (aI a2), some (aI (a3 + 1))]) dX6_nearest_53 rfl rfl (Nat.le_of_ble_eq_true rfl) rfl rfl ?_
      refine AW_goto (tgt := 26) dX6_nearest_56 (by decide) ?_
      exact h14
    · have h15 := h11.2 q16
      refine AW_iload_n dX6_nearest_51 rfl ?_
      refine AW_istore_n (loc' := [some (aR 19 0), some (aI a1), some (aI a3), some (aI a3)]) dX6_nearest_52 (Nat.le_of_ble_eq_true rfl) rfl rfl ?_
      refine AW_iinc (v := a3 + 1) (loc' := [some (aR 19 0), some (aI a1), some (aI a3), some (aI (a3 + 1))]) dX6_nearest_53 rfl rfl (Nat.le_of_ble_eq_true rfl) rfl rfl ?_
      refine AW_goto (tgt := 26) dX6_nearest_56 (by decide) ?_
      exact h15
set_option maxRecDepth 100000 in
theorem B_X6_calmIn_0 {a1 : Int32} {μ : Mem} {P : RES → Mem → Prop}  (h : ∃ (r4 : Int32) (m1 : Mem), MetA M_X6_isHouse [aR 19 0, aI a1] μ (rI r4 m1) ∧ ((r4 = 0 → ∃ (r11 : Int32) (m8 : Mem), MetA M_X6_fails [aR 19 0, aI 1] m1 (rI r11 m8) ∧ ((¬ r11 = 0 → P (.inl (some (aI 0))) m8) ∧ (r11 = 0 → ∃ (r18 : Int32) (m15 : Mem), MetA M_X6_isAshamed [aR 19 0, aI a1] m8 (rI r18 m15) ∧ ((¬ r18 = 0 → ∃ (r25 : Int32) (m22 : Mem), MetA M_X6_by [aR 19 0, aI a1, aI 1] m15 (rI r25 m22) ∧ (P (.inl (some (aI (r25 - 20)))) m22)) ∧ (r18 = 0 → P (.inl (some (aI 0))) m15))))) ∧ (¬ r4 = 0 → ∃ (r29 : Int32) (m26 : Mem), MetA M_X6_fails [aR 19 0, aI 0] m1 (rI r29 m26) ∧ ((¬ r29 = 0 → P (.inl (some (aI 0))) m26) ∧ (r29 = 0 → ∃ (r36 : Int32) (m33 : Mem), MetA M_X6_isAshamed [aR 19 0, aI a1] m26 (rI r36 m33) ∧ ((¬ r36 = 0 → ∃ (r43 : Int32) (m40 : Mem), MetA M_X6_by [aR 19 0, aI a1, aI 1] m33 (rI r43 m40) ∧ (P (.inl (some (aI (r43 - 20)))) m40)) ∧ (r36 = 0 → P (.inl (some (aI 0))) m33))))))) : AW M_X6_calmIn 0 0 [some (aR 19 0), some (aI a1)] [] μ P := by
  refine AW_aload_n dX6_calmIn_0 rfl ?_
  refine AW_aload_n dX6_calmIn_1 rfl ?_
  refine AW_iload_n dX6_calmIn_2 rfl ?_
  obtain ⟨r4, m1, h3, h2⟩ := h
  refine AW_callVI [aI a1] dX6_calmIn_3 cv_X6_101 rfl rfl rfl (by decide) rfl (by decide) (Nat.le_of_ble_eq_true rfl) h3 ?_
  refine AW_if_eq (tgt := 13) dX6_calmIn_6 (by decide) (fun q7 => ?_) (fun q7 => ?_)
  · have h5 := h2.1 q7
    refine AW_iconst (v := 1) dX6_calmIn_13 (by decide) ?_
    obtain ⟨r11, m8, h10, h9⟩ := h5
    refine AW_callVI [aI 1] dX6_calmIn_14 cv_X6_86 rfl rfl rfl (by decide) rfl (by decide) (Nat.le_of_ble_eq_true rfl) h10 ?_
    refine AW_if_ne (tgt := 28) dX6_calmIn_17 (by decide) (fun q14 => ?_) (fun q14 => ?_)
    · have h12 := h9.1 q14
      refine AW_iconst (v := 0) dX6_calmIn_28 (by decide) ?_
      refine AW_goto (tgt := 41) dX6_calmIn_29 (by decide) ?_
      exact AW_ireturn (ty := .int) dX6_calmIn_41 rfl rfl h12
    · have h13 := h9.2 q14
      refine AW_aload_n dX6_calmIn_20 rfl ?_
      refine AW_iload_n dX6_calmIn_21 rfl ?_
      obtain ⟨r18, m15, h17, h16⟩ := h13
      refine AW_callVI [aI a1] dX6_calmIn_22 cv_X6_124 rfl rfl rfl (by decide) rfl (by decide) (Nat.le_of_ble_eq_true rfl) h17 ?_
      refine AW_if_ne (tgt := 32) dX6_calmIn_25 (by decide) (fun q21 => ?_) (fun q21 => ?_)
      · have h19 := h16.1 q21
        refine AW_aload_n dX6_calmIn_32 rfl ?_
        refine AW_iload_n dX6_calmIn_33 rfl ?_
        refine AW_iconst (v := 1) dX6_calmIn_34 (by decide) ?_
        obtain ⟨r25, m22, h24, h23⟩ := h19
        refine AW_callVI [aI a1, aI 1] dX6_calmIn_35 cv_X6_65 rfl rfl rfl (by decide) rfl (by decide) (Nat.le_of_ble_eq_true rfl) h24 ?_
        refine AW_bipush (v := 20) dX6_calmIn_38 (by decide) ?_
        refine AW_isub dX6_calmIn_40 ?_
        exact AW_ireturn (ty := .int) dX6_calmIn_41 rfl rfl h23
      · have h20 := h16.2 q21
        refine AW_iconst (v := 0) dX6_calmIn_28 (by decide) ?_
        refine AW_goto (tgt := 41) dX6_calmIn_29 (by decide) ?_
        exact AW_ireturn (ty := .int) dX6_calmIn_41 rfl rfl h20
  · have h6 := h2.2 q7
    refine AW_iconst (v := 0) dX6_calmIn_9 (by decide) ?_
    refine AW_goto (tgt := 14) dX6_calmIn_10 (by decide) ?_
    obtain ⟨r29, m26, h28, h27⟩ := h6
    refine AW_callVI [aI 0] dX6_calmIn_14 cv_X6_86 rfl rfl rfl (by decide) rfl (by decide) (Nat.le_of_ble_eq_true rfl) h28 ?_
    refine AW_if_ne (tgt := 28) dX6_calmIn_17 (by decide) (fun q32 => ?_) (fun q32 => ?_)
    · have h30 := h27.1 q32
      refine AW_iconst (v := 0) dX6_calmIn_28 (by decide) ?_
      refine AW_goto (tgt := 41) dX6_calmIn_29 (by decide) ?_
      exact AW_ireturn (ty := .int) dX6_calmIn_41 rfl rfl h30
    · have h31 := h27.2 q32
      refine AW_aload_n dX6_calmIn_20 rfl ?_
      refine AW_iload_n dX6_calmIn_21 rfl ?_
      obtain ⟨r36, m33, h35, h34⟩ := h31
      refine AW_callVI [aI a1] dX6_calmIn_22 cv_X6_124 rfl rfl rfl (by decide) rfl (by decide) (Nat.le_of_ble_eq_true rfl) h35 ?_
      refine AW_if_ne (tgt := 32) dX6_calmIn_25 (by decide) (fun q39 => ?_) (fun q39 => ?_)
      · have h37 := h34.1 q39
        refine AW_aload_n dX6_calmIn_32 rfl ?_
        refine AW_iload_n dX6_calmIn_33 rfl ?_
        refine AW_iconst (v := 1) dX6_calmIn_34 (by decide) ?_
        obtain ⟨r43, m40, h42, h41⟩ := h37
        refine AW_callVI [aI a1, aI 1] dX6_calmIn_35 cv_X6_65 rfl rfl rfl (by decide) rfl (by decide) (Nat.le_of_ble_eq_true rfl) h42 ?_
        refine AW_bipush (v := 20) dX6_calmIn_38 (by decide) ?_
        refine AW_isub dX6_calmIn_40 ?_
        exact AW_ireturn (ty := .int) dX6_calmIn_41 rfl rfl h41
      · have h38 := h34.2 q39
        refine AW_iconst (v := 0) dX6_calmIn_28 (by decide) ?_
        refine AW_goto (tgt := 41) dX6_calmIn_29 (by decide) ?_
        exact AW_ireturn (ty := .int) dX6_calmIn_41 rfl rfl h38
set_option maxRecDepth 100000 in
theorem B_X6_isMoreAshamed_0 {a1 : Int32} {a2 : Int32} {μ : Mem} {P : RES → Mem → Prop}  (h : ∃ (r4 : Int32) (m1 : Mem), MetA M_X6_by [aR 19 0, aI a1, aI 1] μ (rI r4 m1) ∧ (∃ (r8 : Int32) (m5 : Mem), MetA M_X6_by [aR 19 0, aI a2, aI 1] m1 (rI r8 m5) ∧ (((r4 - r8) = 0 → ∃ (r15 : Int32) (m12 : Mem), MetA M_X6_by [aR 19 0, aI a1, aI 0] m5 (rI r15 m12) ∧ (∃ (r19 : Int32) (m16 : Mem), MetA M_X6_by [aR 19 0, aI a2, aI 0] m12 (rI r19 m16) ∧ (((r15 - r19) < 0 → P (.inl (some (aI 1))) m16) ∧ (¬ (r15 - r19) < 0 → (¬ (r15 - r19) = 0 → P (.inl (some (aI 0))) m16) ∧ ((r15 - r19) = 0 → (a2 ≤ a1 → P (.inl (some (aI 0))) m16) ∧ (¬ a2 ≤ a1 → P (.inl (some (aI 1))) m16)))))) ∧ (¬ (r4 - r8) = 0 → ((r4 - r8) ≤ 0 → P (.inl (some (aI 0))) m5) ∧ (¬ (r4 - r8) ≤ 0 → P (.inl (some (aI 1))) m5))))) : AW M_X6_isMoreAshamed 0 0 [some (aR 19 0), some (aI a1), some (aI a2), none, none] [] μ P := by
  refine AW_aload_n dX6_isMoreAshamed_0 rfl ?_
  refine AW_iload_n dX6_isMoreAshamed_1 rfl ?_
  refine AW_iconst (v := 1) dX6_isMoreAshamed_2 (by decide) ?_
  obtain ⟨r4, m1, h3, h2⟩ := h
  refine AW_callVI [aI a1, aI 1] dX6_isMoreAshamed_3 cv_X6_65 rfl rfl rfl (by decide) rfl (by decide) (Nat.le_of_ble_eq_true rfl) h3 ?_
  refine AW_aload_n dX6_isMoreAshamed_6 rfl ?_
  refine AW_iload_n dX6_isMoreAshamed_7 rfl ?_
  refine AW_iconst (v := 1) dX6_isMoreAshamed_8 (by decide) ?_
  obtain ⟨r8, m5, h7, h6⟩ := h2
  refine AW_callVI [aI a2, aI 1] dX6_isMoreAshamed_9 cv_X6_65 rfl rfl rfl (by decide) rfl (by decide) (Nat.le_of_ble_eq_true rfl) h7 ?_
  refine AW_isub dX6_isMoreAshamed_12 ?_
  refine AW_istore_n (loc' := [some (aR 19 0), some (aI a1), some (aI a2), some (aI (r4 - r8)), none]) dX6_isMoreAshamed_13 (Nat.le_of_ble_eq_true rfl) rfl rfl ?_
  refine AW_iload_n dX6_isMoreAshamed_14 rfl ?_
  refine AW_if_eq (tgt := 28) dX6_isMoreAshamed_15 (by decide) (fun q11 => ?_) (fun q11 => ?_)
  · have h9 := h6.1 q11
    refine AW_aload_n dX6_isMoreAshamed_28 rfl ?_
    refine AW_iload_n dX6_isMoreAshamed_29 rfl ?_
    refine AW_iconst (v := 0) dX6_isMoreAshamed_30 (by decide) ?_
    obtain ⟨r15, m12, h14, h13⟩ := h9
    refine AW_callVI [aI a1, aI 0] dX6_isMoreAshamed_31 cv_X6_65 rfl rfl rfl (by decide) rfl (by decide) (Nat.le_of_ble_eq_true rfl) h14 ?_
    refine AW_aload_n dX6_isMoreAshamed_34 rfl ?_
    refine AW_iload_n dX6_isMoreAshamed_35 rfl ?_
    refine AW_iconst (v := 0) dX6_isMoreAshamed_36 (by decide) ?_
    obtain ⟨r19, m16, h18, h17⟩ := h13
    refine AW_callVI [aI a2, aI 0] dX6_isMoreAshamed_37 cv_X6_65 rfl rfl rfl (by decide) rfl (by decide) (Nat.le_of_ble_eq_true rfl) h18 ?_
    refine AW_isub dX6_isMoreAshamed_40 ?_
    refine AW_istore (loc' := [some (aR 19 0), some (aI a1), some (aI a2), some (aI (r4 - r8)), some (aI (r15 - r19))]) dX6_isMoreAshamed_41 (Nat.le_of_ble_eq_true rfl) rfl rfl ?_
    refine AW_iload dX6_isMoreAshamed_43 rfl ?_
    refine AW_if_lt (tgt := 58) dX6_isMoreAshamed_45 (by decide) (fun q22 => ?_) (fun q22 => ?_)
    · have h20 := h17.1 q22
      refine AW_iconst (v := 1) dX6_isMoreAshamed_58 (by decide) ?_
      refine AW_goto (tgt := 63) dX6_isMoreAshamed_59 (by decide) ?_
      exact AW_ireturn (ty := .boolean) dX6_isMoreAshamed_63 rfl rfl h20
    · have h21 := h17.2 q22
      refine AW_iload dX6_isMoreAshamed_48 rfl ?_
      refine AW_if_ne (tgt := 62) dX6_isMoreAshamed_50 (by decide) (fun q25 => ?_) (fun q25 => ?_)
      · have h23 := h21.1 q25
        refine AW_iconst (v := 0) dX6_isMoreAshamed_62 (by decide) ?_
        exact AW_ireturn (ty := .boolean) dX6_isMoreAshamed_63 rfl rfl h23
      · have h24 := h21.2 q25
        refine AW_iload_n dX6_isMoreAshamed_53 rfl ?_
        refine AW_iload_n dX6_isMoreAshamed_54 rfl ?_
        refine AW_icmp_ge (tgt := 62) dX6_isMoreAshamed_55 (by decide) (fun q28 => ?_) (fun q28 => ?_)
        · have h26 := h24.1 q28
          refine AW_iconst (v := 0) dX6_isMoreAshamed_62 (by decide) ?_
          exact AW_ireturn (ty := .boolean) dX6_isMoreAshamed_63 rfl rfl h26
        · have h27 := h24.2 q28
          refine AW_iconst (v := 1) dX6_isMoreAshamed_58 (by decide) ?_
          refine AW_goto (tgt := 63) dX6_isMoreAshamed_59 (by decide) ?_
          exact AW_ireturn (ty := .boolean) dX6_isMoreAshamed_63 rfl rfl h27
  · have h10 := h6.2 q11
    refine AW_iload_n dX6_isMoreAshamed_18 rfl ?_
    refine AW_if_le (tgt := 26) dX6_isMoreAshamed_19 (by decide) (fun q31 => ?_) (fun q31 => ?_)
    · have h29 := h10.1 q31
      refine AW_iconst (v := 0) dX6_isMoreAshamed_26 (by decide) ?_
      exact AW_ireturn (ty := .boolean) dX6_isMoreAshamed_27 rfl rfl h29
    · have h30 := h10.2 q31
      refine AW_iconst (v := 1) dX6_isMoreAshamed_22 (by decide) ?_
      refine AW_goto (tgt := 27) dX6_isMoreAshamed_23 (by decide) ?_
      exact AW_ireturn (ty := .boolean) dX6_isMoreAshamed_27 rfl rfl h30
set_option maxRecDepth 100000 in
theorem B_X6_ashamed_0 {a1 : Int32} {μ : Mem} {P : RES → Mem → Prop}  (h : AW M_X6_ashamed 0 2 [some (aR 19 0), some (aI a1), some (aI 0), none, none] [] μ P) : AW M_X6_ashamed 0 0 [some (aR 19 0), some (aI a1), none, none, none] [] μ P := by
  refine AW_iconst (v := 0) dX6_ashamed_0 (by decide) ?_
  refine AW_istore_n (loc' := [some (aR 19 0), some (aI a1), some (aI 0), none, none]) dX6_ashamed_1 (Nat.le_of_ble_eq_true rfl) rfl rfl ?_
  exact h
set_option maxRecDepth 100000 in
theorem B_X6_ashamed_2 {a1 : Int32} {a2 : Int32} {μ : Mem} {P : RES → Mem → Prop}  (h : vp_in 0 240 ∧ (((μ 20 0 (0 : Int32).toNatClampNeg) ≤ a2 → ∀ m6 : Mem, m6 = mset μ 19 0 (upd (μ 19 0) 8 1) → P (.inl (some (aI 0))) m6) ∧ (¬ (μ 20 0 (0 : Int32).toNatClampNeg) ≤ a2 → AW M_X6_ashamed 0 17 [some (aR 19 0), some (aI a1), some (aI a2), some (aI 0), some (aI 0)] [] μ P))) : AW M_X6_ashamed 0 2 [some (aR 19 0), some (aI a1), some (aI a2), none, none] [] μ P := by
  refine AW_iload_n dX6_ashamed_2 rfl ?_
  refine AW_aload_n dX6_ashamed_3 rfl ?_
  refine AW_getv (t := 19) (o := 0) (k := 0) (some (20, none)) (v := aR 20 0) dX6_ashamed_4 ff_X6_7 rfl rfl rfl ?_
  refine AW_iconst (v := 0) dX6_ashamed_7 (by decide) ?_
  obtain ⟨h1, h2⟩ := h
  refine AW_iaload dX6_ashamed_8 rfl rfl h1 ?_
  refine AW_icmp_ge (tgt := 73) dX6_ashamed_9 (by decide) (fun q5 => ?_) (fun q5 => ?_)
  · have h3 := h2.1 q5
    refine AW_aload_n dX6_ashamed_73 rfl ?_
    refine AW_iconst (v := 1) dX6_ashamed_74 (by decide) ?_
    obtain ⟨m6, em6⟩ : ∃ z : Mem, z = mset μ 19 0 (upd (μ 19 0) 8 1) := ⟨_, rfl⟩
    have h7 := h3 m6 em6
    refine AW_putf (t := 19) (o := 0) (k := 8) dX6_ashamed_75 fp_X6_36 rfl rfl rfl rfl em6.symm ?_
    refine AW_iconst (v := 0) dX6_ashamed_78 (by decide) ?_
    exact AW_ireturn (ty := .int) dX6_ashamed_79 rfl rfl h7
  · have h4 := h2.2 q5
    refine AW_iconst (v := 0) dX6_ashamed_12 (by decide) ?_
    refine AW_istore_n (loc' := [some (aR 19 0), some (aI a1), some (aI a2), some (aI 0), none]) dX6_ashamed_13 (Nat.le_of_ble_eq_true rfl) rfl rfl ?_
    refine AW_iconst (v := 0) dX6_ashamed_14 (by decide) ?_
    refine AW_istore (loc' := [some (aR 19 0), some (aI a1), some (aI a2), some (aI 0), some (aI 0)]) dX6_ashamed_15 (Nat.le_of_ble_eq_true rfl) rfl rfl ?_
    exact h4
set_option maxRecDepth 100000 in
theorem B_X6_ashamed_17 {a1 : Int32} {a2 : Int32} {a3 : Int32} {a4 : Int32} {μ : Mem} {P : RES → Mem → Prop}  (h : vp_in 0 240 ∧ (((μ 20 0 (0 : Int32).toNatClampNeg) ≤ a4 → (a3 = a1 → ∀ m9 : Mem, m9 = mset μ 19 0 (upd (μ 19 0) 8 0) → P (.inl (some (aI a2))) m9) ∧ (¬ a3 = a1 → AW M_X6_ashamed 0 2 [some (aR 19 0), some (aI a1), some (aI (a2 + 1)), none, none] [] μ P)) ∧ (¬ (μ 20 0 (0 : Int32).toNatClampNeg) ≤ a4 → ∃ (r15 : Int32) (m12 : Mem), MetA M_X6_isMoreAshamed [aR 19 0, aI a4, aI a2] μ (rI r15 m12) ∧ ((r15 = 0 → AW M_X6_ashamed 0 17 [some (aR 19 0), some (aI a1), some (aI a2), some (aI (a3 + 0)), some (aI (a4 + 1))] [] m12 P) ∧ (¬ r15 = 0 → AW M_X6_ashamed 0 17 [some (aR 19 0), some (aI a1), some (aI a2), some (aI (a3 + 1)), some (aI (a4 + 1))] [] m12 P))))) : AW M_X6_ashamed 0 17 [some (aR 19 0), some (aI a1), some (aI a2), some (aI a3), some (aI a4)] [] μ P := by
  refine AW_iload dX6_ashamed_17 rfl ?_
  refine AW_aload_n dX6_ashamed_19 rfl ?_
  refine AW_getv (t := 19) (o := 0) (k := 0) (some (20, none)) (v := aR 20 0) dX6_ashamed_20 ff_X6_7 rfl rfl rfl ?_
  refine AW_iconst (v := 0) dX6_ashamed_23 (by decide) ?_
  obtain ⟨h1, h2⟩ := h
  refine AW_iaload dX6_ashamed_24 rfl rfl h1 ?_
  refine AW_icmp_ge (tgt := 52) dX6_ashamed_25 (by decide) (fun q5 => ?_) (fun q5 => ?_)
  · have h3 := h2.1 q5
    refine AW_iload_n dX6_ashamed_52 rfl ?_
    refine AW_iload_n dX6_ashamed_53 rfl ?_
    refine AW_icmp_eq (tgt := 60) dX6_ashamed_54 (by decide) (fun q8 => ?_) (fun q8 => ?_)
    · have h6 := h3.1 q8
      refine AW_aload_n dX6_ashamed_60 rfl ?_
      refine AW_iconst (v := 0) dX6_ashamed_61 (by decide) ?_
      obtain ⟨m9, em9⟩ : ∃ z : Mem, z = mset μ 19 0 (upd (μ 19 0) 8 0) := ⟨_, rfl⟩
      have h10 := h6 m9 em9
      refine AW_putf (t := 19) (o := 0) (k := 8) dX6_ashamed_62 fp_X6_36 rfl rfl rfl rfl em9.symm ?_
      refine AW_iload_n dX6_ashamed_65 rfl ?_
      exact AW_ireturn (ty := .int) dX6_ashamed_66 rfl rfl h10
    · have h7 := h3.2 q8
      refine AW_goto (tgt := 67) dX6_ashamed_57 (by decide) ?_
      refine AW_iinc (v := a2 + 1) (loc' := [some (aR 19 0), some (aI a1), some (aI (a2 + 1)), some (aI a3), some (aI a4)]) dX6_ashamed_67 rfl rfl (Nat.le_of_ble_eq_true rfl) rfl rfl ?_
      refine AW_goto (tgt := 2) dX6_ashamed_70 (by decide) ?_
      exact AW_mask [true, true, true, false, false] h7
  · have h4 := h2.2 q5
    refine AW_iload_n dX6_ashamed_28 rfl ?_
    refine AW_aload_n dX6_ashamed_29 rfl ?_
    refine AW_iload dX6_ashamed_30 rfl ?_
    refine AW_iload_n dX6_ashamed_32 rfl ?_
    obtain ⟨r15, m12, h14, h13⟩ := h4
    refine AW_callVI [aI a4, aI a2] dX6_ashamed_33 cv_X6_167 rfl rfl rfl (by decide) rfl (by decide) (Nat.le_of_ble_eq_true rfl) h14 ?_
    refine AW_if_eq (tgt := 43) dX6_ashamed_36 (by decide) (fun q18 => ?_) (fun q18 => ?_)
    · have h16 := h13.1 q18
      refine AW_iconst (v := 0) dX6_ashamed_43 (by decide) ?_
      refine AW_iadd dX6_ashamed_44 ?_
      refine AW_istore_n (loc' := [some (aR 19 0), some (aI a1), some (aI a2), some (aI (a3 + 0)), some (aI a4)]) dX6_ashamed_45 (Nat.le_of_ble_eq_true rfl) rfl rfl ?_
      refine AW_iinc (v := a4 + 1) (loc' := [some (aR 19 0), some (aI a1), some (aI a2), some (aI (a3 + 0)), some (aI (a4 + 1))]) dX6_ashamed_46 rfl rfl (Nat.le_of_ble_eq_true rfl) rfl rfl ?_
      refine AW_goto (tgt := 17) dX6_ashamed_49 (by decide) ?_
      exact h16
    · have h17 := h13.2 q18
      refine AW_iconst (v := 1) dX6_ashamed_39 (by decide) ?_
      refine AW_goto (tgt := 44) dX6_ashamed_40 (by decide) ?_
      refine AW_iadd dX6_ashamed_44 ?_
      refine AW_istore_n (loc' := [some (aR 19 0), some (aI a1), some (aI a2), some (aI (a3 + 1)), some (aI a4)]) dX6_ashamed_45 (Nat.le_of_ble_eq_true rfl) rfl rfl ?_
      refine AW_iinc (v := a4 + 1) (loc' := [some (aR 19 0), some (aI a1), some (aI a2), some (aI (a3 + 1)), some (aI (a4 + 1))]) dX6_ashamed_46 rfl rfl (Nat.le_of_ble_eq_true rfl) rfl rfl ?_
      refine AW_goto (tgt := 17) dX6_ashamed_49 (by decide) ?_
      exact h17
set_option maxRecDepth 100000 in
theorem B_X6_isWorse_0 {a1 : Int32} {a2 : Int32} {μ : Mem} {P : RES → Mem → Prop}  (h : ∃ (r4 : Int32) (m1 : Mem), MetA M_X6_badOf [aR 19 0, aI a1] μ (rI r4 m1) ∧ (∃ (r8 : Int32) (m5 : Mem), MetA M_X6_badOf [aR 19 0, aI a2] m1 (rI r8 m5) ∧ (((r4 - r8) = 0 → ∃ (r15 : Int32) (m12 : Mem), MetA M_X6_misprints [aR 19 0, aI a1, aI 1] m5 (rI r15 m12) ∧ (∃ (r19 : Int32) (m16 : Mem), MetA M_X6_misprints [aR 19 0, aI a2, aI 1] m12 (rI r19 m16) ∧ ((0 < (r15 - r19) → P (.inl (some (aI 1))) m16) ∧ (¬ 0 < (r15 - r19) → (¬ (r15 - r19) = 0 → P (.inl (some (aI 0))) m16) ∧ ((r15 - r19) = 0 → (a2 ≤ a1 → P (.inl (some (aI 0))) m16) ∧ (¬ a2 ≤ a1 → P (.inl (some (aI 1))) m16)))))) ∧ (¬ (r4 - r8) = 0 → ((r4 - r8) ≤ 0 → P (.inl (some (aI 0))) m5) ∧ (¬ (r4 - r8) ≤ 0 → P (.inl (some (aI 1))) m5))))) : AW M_X6_isWorse 0 0 [some (aR 19 0), some (aI a1), some (aI a2), none, none] [] μ P := by
  refine AW_aload_n dX6_isWorse_0 rfl ?_
  refine AW_iload_n dX6_isWorse_1 rfl ?_
  obtain ⟨r4, m1, h3, h2⟩ := h
  refine AW_callVI [aI a1] dX6_isWorse_2 cv_X6_152 rfl rfl rfl (by decide) rfl (by decide) (Nat.le_of_ble_eq_true rfl) h3 ?_
  refine AW_aload_n dX6_isWorse_5 rfl ?_
  refine AW_iload_n dX6_isWorse_6 rfl ?_
  obtain ⟨r8, m5, h7, h6⟩ := h2
  refine AW_callVI [aI a2] dX6_isWorse_7 cv_X6_152 rfl rfl rfl (by decide) rfl (by decide) (Nat.le_of_ble_eq_true rfl) h7 ?_
  refine AW_isub dX6_isWorse_10 ?_
  refine AW_istore_n (loc' := [some (aR 19 0), some (aI a1), some (aI a2), some (aI (r4 - r8)), none]) dX6_isWorse_11 (Nat.le_of_ble_eq_true rfl) rfl rfl ?_
  refine AW_iload_n dX6_isWorse_12 rfl ?_
  refine AW_if_eq (tgt := 26) dX6_isWorse_13 (by decide) (fun q11 => ?_) (fun q11 => ?_)
  · have h9 := h6.1 q11
    refine AW_aload_n dX6_isWorse_26 rfl ?_
    refine AW_iload_n dX6_isWorse_27 rfl ?_
    refine AW_iconst (v := 1) dX6_isWorse_28 (by decide) ?_
    obtain ⟨r15, m12, h14, h13⟩ := h9
    refine AW_callVI [aI a1, aI 1] dX6_isWorse_29 cv_X6_118 rfl rfl rfl (by decide) rfl (by decide) (Nat.le_of_ble_eq_true rfl) h14 ?_
    refine AW_aload_n dX6_isWorse_32 rfl ?_
    refine AW_iload_n dX6_isWorse_33 rfl ?_
    refine AW_iconst (v := 1) dX6_isWorse_34 (by decide) ?_
    obtain ⟨r19, m16, h18, h17⟩ := h13
    refine AW_callVI [aI a2, aI 1] dX6_isWorse_35 cv_X6_118 rfl rfl rfl (by decide) rfl (by decide) (Nat.le_of_ble_eq_true rfl) h18 ?_
    refine AW_isub dX6_isWorse_38 ?_
    refine AW_istore (loc' := [some (aR 19 0), some (aI a1), some (aI a2), some (aI (r4 - r8)), some (aI (r15 - r19))]) dX6_isWorse_39 (Nat.le_of_ble_eq_true rfl) rfl rfl ?_
    refine AW_iload dX6_isWorse_41 rfl ?_
    refine AW_if_gt (tgt := 56) dX6_isWorse_43 (by decide) (fun q22 => ?_) (fun q22 => ?_)
    · have h20 := h17.1 q22
      refine AW_iconst (v := 1) dX6_isWorse_56 (by decide) ?_
      refine AW_goto (tgt := 61) dX6_isWorse_57 (by decide) ?_
      exact AW_ireturn (ty := .boolean) dX6_isWorse_61 rfl rfl h20
    · have h21 := h17.2 q22
      refine AW_iload dX6_isWorse_46 rfl ?_
      refine AW_if_ne (tgt := 60) dX6_isWorse_48 (by decide) (fun q25 => ?_) (fun q25 => ?_)
      · have h23 := h21.1 q25
        refine AW_iconst (v := 0) dX6_isWorse_60 (by decide) ?_
        exact AW_ireturn (ty := .boolean) dX6_isWorse_61 rfl rfl h23
      · have h24 := h21.2 q25
        refine AW_iload_n dX6_isWorse_51 rfl ?_
        refine AW_iload_n dX6_isWorse_52 rfl ?_
        refine AW_icmp_ge (tgt := 60) dX6_isWorse_53 (by decide) (fun q28 => ?_) (fun q28 => ?_)
        · have h26 := h24.1 q28
          refine AW_iconst (v := 0) dX6_isWorse_60 (by decide) ?_
          exact AW_ireturn (ty := .boolean) dX6_isWorse_61 rfl rfl h26
        · have h27 := h24.2 q28
          refine AW_iconst (v := 1) dX6_isWorse_56 (by decide) ?_
          refine AW_goto (tgt := 61) dX6_isWorse_57 (by decide) ?_
          exact AW_ireturn (ty := .boolean) dX6_isWorse_61 rfl rfl h27
  · have h10 := h6.2 q11
    refine AW_iload_n dX6_isWorse_16 rfl ?_
    refine AW_if_le (tgt := 24) dX6_isWorse_17 (by decide) (fun q31 => ?_) (fun q31 => ?_)
    · have h29 := h10.1 q31
      refine AW_iconst (v := 0) dX6_isWorse_24 (by decide) ?_
      exact AW_ireturn (ty := .boolean) dX6_isWorse_25 rfl rfl h29
    · have h30 := h10.2 q31
      refine AW_iconst (v := 1) dX6_isWorse_20 (by decide) ?_
      refine AW_goto (tgt := 25) dX6_isWorse_21 (by decide) ?_
      exact AW_ireturn (ty := .boolean) dX6_isWorse_25 rfl rfl h30
set_option maxRecDepth 100000 in
theorem B_X6_worst_0 {a1 : Int32} {μ : Mem} {P : RES → Mem → Prop}  (h : AW M_X6_worst 0 2 [some (aR 19 0), some (aI a1), some (aI 0), none, none] [] μ P) : AW M_X6_worst 0 0 [some (aR 19 0), some (aI a1), none, none, none] [] μ P := by
  refine AW_iconst (v := 0) dX6_worst_0 (by decide) ?_
  refine AW_istore_n (loc' := [some (aR 19 0), some (aI a1), some (aI 0), none, none]) dX6_worst_1 (Nat.le_of_ble_eq_true rfl) rfl rfl ?_
  exact h
set_option maxRecDepth 100000 in
theorem B_X6_worst_2 {a1 : Int32} {a2 : Int32} {μ : Mem} {P : RES → Mem → Prop}  (h : vp_in 1 240 ∧ (((μ 20 0 (1 : Int32).toNatClampNeg) ≤ a2 → ∀ m6 : Mem, m6 = mset μ 19 0 (upd (μ 19 0) 8 1) → P (.inl (some (aI 0))) m6) ∧ (¬ (μ 20 0 (1 : Int32).toNatClampNeg) ≤ a2 → AW M_X6_worst 0 17 [some (aR 19 0), some (aI a1), some (aI a2), some (aI 0), some (aI 0)] [] μ P))) : AW M_X6_worst 0 2 [some (aR 19 0), some (aI a1), some (aI a2), none, none] [] μ P := by
  refine AW_iload_n dX6_worst_2 rfl ?_
  refine AW_aload_n dX6_worst_3 rfl ?_
  refine AW_getv (t := 19) (o := 0) (k := 0) (some (20, none)) (v := aR 20 0) dX6_worst_4 ff_X6_7 rfl rfl rfl ?_
  refine AW_iconst (v := 1) dX6_worst_7 (by decide) ?_
  obtain ⟨h1, h2⟩ := h
  refine AW_iaload dX6_worst_8 rfl rfl h1 ?_
  refine AW_icmp_ge (tgt := 73) dX6_worst_9 (by decide) (fun q5 => ?_) (fun q5 => ?_)
  · have h3 := h2.1 q5
    refine AW_aload_n dX6_worst_73 rfl ?_
    refine AW_iconst (v := 1) dX6_worst_74 (by decide) ?_
    obtain ⟨m6, em6⟩ : ∃ z : Mem, z = mset μ 19 0 (upd (μ 19 0) 8 1) := ⟨_, rfl⟩
    have h7 := h3 m6 em6
    refine AW_putf (t := 19) (o := 0) (k := 8) dX6_worst_75 fp_X6_36 rfl rfl rfl rfl em6.symm ?_
    refine AW_iconst (v := 0) dX6_worst_78 (by decide) ?_
    exact AW_ireturn (ty := .int) dX6_worst_79 rfl rfl h7
  · have h4 := h2.2 q5
    refine AW_iconst (v := 0) dX6_worst_12 (by decide) ?_
    refine AW_istore_n (loc' := [some (aR 19 0), some (aI a1), some (aI a2), some (aI 0), none]) dX6_worst_13 (Nat.le_of_ble_eq_true rfl) rfl rfl ?_
    refine AW_iconst (v := 0) dX6_worst_14 (by decide) ?_
    refine AW_istore (loc' := [some (aR 19 0), some (aI a1), some (aI a2), some (aI 0), some (aI 0)]) dX6_worst_15 (Nat.le_of_ble_eq_true rfl) rfl rfl ?_
    exact h4
set_option maxRecDepth 100000 in
theorem B_X6_worst_17 {a1 : Int32} {a2 : Int32} {a3 : Int32} {a4 : Int32} {μ : Mem} {P : RES → Mem → Prop}  (h : vp_in 1 240 ∧ (((μ 20 0 (1 : Int32).toNatClampNeg) ≤ a4 → (a3 = a1 → ∀ m9 : Mem, m9 = mset μ 19 0 (upd (μ 19 0) 8 0) → P (.inl (some (aI a2))) m9) ∧ (¬ a3 = a1 → AW M_X6_worst 0 2 [some (aR 19 0), some (aI a1), some (aI (a2 + 1)), none, none] [] μ P)) ∧ (¬ (μ 20 0 (1 : Int32).toNatClampNeg) ≤ a4 → ∃ (r15 : Int32) (m12 : Mem), MetA M_X6_isWorse [aR 19 0, aI a4, aI a2] μ (rI r15 m12) ∧ ((r15 = 0 → AW M_X6_worst 0 17 [some (aR 19 0), some (aI a1), some (aI a2), some (aI (a3 + 0)), some (aI (a4 + 1))] [] m12 P) ∧ (¬ r15 = 0 → AW M_X6_worst 0 17 [some (aR 19 0), some (aI a1), some (aI a2), some (aI (a3 + 1)), some (aI (a4 + 1))] [] m12 P))))) : AW M_X6_worst 0 17 [some (aR 19 0), some (aI a1), some (aI a2), some (aI a3), some (aI a4)] [] μ P := by
  refine AW_iload dX6_worst_17 rfl ?_
  refine AW_aload_n dX6_worst_19 rfl ?_
  refine AW_getv (t := 19) (o := 0) (k := 0) (some (20, none)) (v := aR 20 0) dX6_worst_20 ff_X6_7 rfl rfl rfl ?_
  refine AW_iconst (v := 1) dX6_worst_23 (by decide) ?_
  obtain ⟨h1, h2⟩ := h
  refine AW_iaload dX6_worst_24 rfl rfl h1 ?_
  refine AW_icmp_ge (tgt := 52) dX6_worst_25 (by decide) (fun q5 => ?_) (fun q5 => ?_)
  · have h3 := h2.1 q5
    refine AW_iload_n dX6_worst_52 rfl ?_
    refine AW_iload_n dX6_worst_53 rfl ?_
    refine AW_icmp_eq (tgt := 60) dX6_worst_54 (by decide) (fun q8 => ?_) (fun q8 => ?_)
    · have h6 := h3.1 q8
      refine AW_aload_n dX6_worst_60 rfl ?_
      refine AW_iconst (v := 0) dX6_worst_61 (by decide) ?_
      obtain ⟨m9, em9⟩ : ∃ z : Mem, z = mset μ 19 0 (upd (μ 19 0) 8 0) := ⟨_, rfl⟩
      have h10 := h6 m9 em9
      refine AW_putf (t := 19) (o := 0) (k := 8) dX6_worst_62 fp_X6_36 rfl rfl rfl rfl em9.symm ?_
      refine AW_iload_n dX6_worst_65 rfl ?_
      exact AW_ireturn (ty := .int) dX6_worst_66 rfl rfl h10
    · have h7 := h3.2 q8
      refine AW_goto (tgt := 67) dX6_worst_57 (by decide) ?_
      refine AW_iinc (v := a2 + 1) (loc' := [some (aR 19 0), some (aI a1), some (aI (a2 + 1)), some (aI a3), some (aI a4)]) dX6_worst_67 rfl rfl (Nat.le_of_ble_eq_true rfl) rfl rfl ?_
      refine AW_goto (tgt := 2) dX6_worst_70 (by decide) ?_
      exact AW_mask [true, true, true, false, false] h7
  · have h4 := h2.2 q5
    refine AW_iload_n dX6_worst_28 rfl ?_
    refine AW_aload_n dX6_worst_29 rfl ?_
    refine AW_iload dX6_worst_30 rfl ?_
    refine AW_iload_n dX6_worst_32 rfl ?_
    obtain ⟨r15, m12, h14, h13⟩ := h4
    refine AW_callVI [aI a4, aI a2] dX6_worst_33 cv_X6_170 rfl rfl rfl (by decide) rfl (by decide) (Nat.le_of_ble_eq_true rfl) h14 ?_
    refine AW_if_eq (tgt := 43) dX6_worst_36 (by decide) (fun q18 => ?_) (fun q18 => ?_)
    · have h16 := h13.1 q18
      refine AW_iconst (v := 0) dX6_worst_43 (by decide) ?_
      refine AW_iadd dX6_worst_44 ?_
      refine AW_istore_n (loc' := [some (aR 19 0), some (aI a1), some (aI a2), some (aI (a3 + 0)), some (aI a4)]) dX6_worst_45 (Nat.le_of_ble_eq_true rfl) rfl rfl ?_
      refine AW_iinc (v := a4 + 1) (loc' := [some (aR 19 0), some (aI a1), some (aI a2), some (aI (a3 + 0)), some (aI (a4 + 1))]) dX6_worst_46 rfl rfl (Nat.le_of_ble_eq_true rfl) rfl rfl ?_
      refine AW_goto (tgt := 17) dX6_worst_49 (by decide) ?_
      exact h16
    · have h17 := h13.2 q18
      refine AW_iconst (v := 1) dX6_worst_39 (by decide) ?_
      refine AW_goto (tgt := 44) dX6_worst_40 (by decide) ?_
      refine AW_iadd dX6_worst_44 ?_
      refine AW_istore_n (loc' := [some (aR 19 0), some (aI a1), some (aI a2), some (aI (a3 + 1)), some (aI a4)]) dX6_worst_45 (Nat.le_of_ble_eq_true rfl) rfl rfl ?_
      refine AW_iinc (v := a4 + 1) (loc' := [some (aR 19 0), some (aI a1), some (aI a2), some (aI (a3 + 1)), some (aI (a4 + 1))]) dX6_worst_46 rfl rfl (Nat.le_of_ble_eq_true rfl) rfl rfl ?_
      refine AW_goto (tgt := 17) dX6_worst_49 (by decide) ?_
      exact h17
set_option maxRecDepth 100000 in
theorem B_X6_writes_0 {a1 : Int32} {μ : Mem} {P : RES → Mem → Prop}  (h : vp_in (μ 19 0 17) 40 ∧ (∀ m1 : Mem, m1 = mset μ 25 0 (upd (μ 25 0) (μ 19 0 17).toNatClampNeg (vp_nar .char ((a1.toUInt32 % 65536).toInt32))) → ∀ m5 : Mem, m5 = mset m1 19 0 (upd (m1 19 0) 17 ((m1 19 0 17) + 1)) → P (.inl none) m5)) : AW M_X6_writes 0 0 [some (aR 19 0), some (aI a1)] [] μ P := by
  refine AW_aload_n dX6_writes_0 rfl ?_
  refine AW_getv (t := 19) (o := 0) (k := 16) (some (25, none)) (v := aR 25 0) dX6_writes_1 ff_X6_29 rfl rfl rfl ?_
  refine AW_aload_n dX6_writes_4 rfl ?_
  refine AW_getv (t := 19) (o := 0) (k := 17) none (v := aI (μ 19 0 17)) dX6_writes_5 ff_X6_173 rfl rfl rfl ?_
  refine AW_iload_n dX6_writes_8 rfl ?_
  refine AW_i2c (v := (a1.toUInt32 % 65536).toInt32) dX6_writes_9 rfl ?_
  obtain ⟨h2, h4⟩ := h
  obtain ⟨m1, em1⟩ : ∃ z : Mem, z = mset μ 25 0 (upd (μ 25 0) (μ 19 0 17).toNatClampNeg (vp_nar .char ((a1.toUInt32 % 65536).toInt32))) := ⟨_, rfl⟩
  have h3 := h4 m1 em1
  refine AW_castore dX6_writes_10 rfl rfl h2 rfl em1.symm ?_
  refine AW_aload_n dX6_writes_11 rfl ?_
  refine AW_dup dX6_writes_12 rfl ?_
  refine AW_getv (t := 19) (o := 0) (k := 17) none (v := aI (m1 19 0 17)) dX6_writes_13 ff_X6_173 rfl rfl rfl ?_
  refine AW_iconst (v := 1) dX6_writes_16 (by decide) ?_
  refine AW_iadd dX6_writes_17 ?_
  obtain ⟨m5, em5⟩ : ∃ z : Mem, z = mset m1 19 0 (upd (m1 19 0) 17 ((m1 19 0 17) + 1)) := ⟨_, rfl⟩
  have h6 := h3 m5 em5
  refine AW_putf (t := 19) (o := 0) (k := 17) dX6_writes_18 fp_X6_173 rfl rfl rfl rfl em5.symm ?_
  exact AW_return dX6_writes_21 rfl h6
set_option maxRecDepth 100000 in
theorem B_X6_writesNumber_0 {a1 : Int32} {μ : Mem} {P : RES → Mem → Prop}  (h : (a1 ≤ 9 → ∃ m4 : Mem, MetA M_X6_writes [aR 19 0, aI (48 + (a1 - a1 / 10 * 10))] μ (rV m4) ∧ (P (.inl none) m4)) ∧ (¬ a1 ≤ 9 → ∃ m7 : Mem, MetA M_X6_writes [aR 19 0, aI (48 + (a1 / 10))] μ (rV m7) ∧ (∃ m10 : Mem, MetA M_X6_writes [aR 19 0, aI (48 + (a1 - a1 / 10 * 10))] m7 (rV m10) ∧ (P (.inl none) m10)))) : AW M_X6_writesNumber 0 0 [some (aR 19 0), some (aI a1)] [] μ P := by
  refine AW_iload_n dX6_writesNumber_0 rfl ?_
  refine AW_bipush (v := 9) dX6_writesNumber_1 (by decide) ?_
  refine AW_icmp_le (tgt := 17) dX6_writesNumber_3 (by decide) (fun q3 => ?_) (fun q3 => ?_)
  · have h1 := h.1 q3
    refine AW_aload_n dX6_writesNumber_17 rfl ?_
    refine AW_bipush (v := 48) dX6_writesNumber_18 (by decide) ?_
    refine AW_iload_n dX6_writesNumber_20 rfl ?_
    refine AW_bipush (v := 10) dX6_writesNumber_21 (by decide) ?_
    refine AW_irem dX6_writesNumber_23 (by decide) ?_
    refine AW_iadd dX6_writesNumber_24 ?_
    obtain ⟨m4, h6, h5⟩ := h1
    refine AW_callVV [aI (48 + (a1 - a1 / 10 * 10))] dX6_writesNumber_25 cv_X6_176 rfl rfl rfl (by decide) rfl (by decide) (Nat.le_of_ble_eq_true rfl) h6 ?_
    exact AW_return dX6_writesNumber_28 rfl h5
  · have h2 := h.2 q3
    refine AW_aload_n dX6_writesNumber_6 rfl ?_
    refine AW_bipush (v := 48) dX6_writesNumber_7 (by decide) ?_
    refine AW_iload_n dX6_writesNumber_9 rfl ?_
    refine AW_bipush (v := 10) dX6_writesNumber_10 (by decide) ?_
    refine AW_idiv dX6_writesNumber_12 (by decide) ?_
    refine AW_iadd dX6_writesNumber_13 ?_
    obtain ⟨m7, h9, h8⟩ := h2
    refine AW_callVV [aI (48 + (a1 / 10))] dX6_writesNumber_14 cv_X6_176 rfl rfl rfl (by decide) rfl (by decide) (Nat.le_of_ble_eq_true rfl) h9 ?_
    refine AW_aload_n dX6_writesNumber_17 rfl ?_
    refine AW_bipush (v := 48) dX6_writesNumber_18 (by decide) ?_
    refine AW_iload_n dX6_writesNumber_20 rfl ?_
    refine AW_bipush (v := 10) dX6_writesNumber_21 (by decide) ?_
    refine AW_irem dX6_writesNumber_23 (by decide) ?_
    refine AW_iadd dX6_writesNumber_24 ?_
    obtain ⟨m10, h12, h11⟩ := h8
    refine AW_callVV [aI (48 + (a1 - a1 / 10 * 10))] dX6_writesNumber_25 cv_X6_176 rfl rfl rfl (by decide) rfl (by decide) (Nat.le_of_ble_eq_true rfl) h12 ?_
    exact AW_return dX6_writesNumber_28 rfl h11
set_option maxRecDepth 100000 in
theorem B_X6_line_0 {a1 : Int32} {μ : Mem} {P : RES → Mem → Prop}  (h : ∃ (r4 : Int32) (m1 : Mem), MetA M_X6_isSheet [aR 19 0, aI a1] μ (rI r4 m1) ∧ ((r4 = 0 → ∃ (r11 : Int32) (m8 : Mem), MetA M_X6_fails [aR 19 0, aI 1] m1 (rI r11 m8) ∧ ((r11 = 0 → ∀ m15 : Mem, m15 = mset m8 19 0 (upd (m8 19 0) 17 0) → ∃ (r21 : Int32) (m18 : Mem), MetA M_X6_of [aR 19 0, aI a1, aI 0] m15 (rI r21 m18) ∧ (∃ m22 : Mem, MetA M_X6_writesNumber [aR 19 0, aI r21] m18 (rV m22) ∧ (∃ m25 : Mem, MetA M_X6_writes [aR 19 0, aI 58] m22 (rV m25) ∧ (AW M_X6_line 0 45 [some (aR 19 0), some (aI a1), some (aI 0), none] [] m25 P)))) ∧ (¬ r11 = 0 → P (.inl (some (aI 0))) m8))) ∧ (¬ r4 = 0 → ∃ (r31 : Int32) (m28 : Mem), MetA M_X6_fails [aR 19 0, aI 0] m1 (rI r31 m28) ∧ ((r31 = 0 → ∀ m35 : Mem, m35 = mset m28 19 0 (upd (m28 19 0) 17 0) → ∃ (r41 : Int32) (m38 : Mem), MetA M_X6_of [aR 19 0, aI a1, aI 0] m35 (rI r41 m38) ∧ (∃ m42 : Mem, MetA M_X6_writesNumber [aR 19 0, aI r41] m38 (rV m42) ∧ (∃ m45 : Mem, MetA M_X6_writes [aR 19 0, aI 58] m42 (rV m45) ∧ (AW M_X6_line 0 45 [some (aR 19 0), some (aI a1), some (aI 0), none] [] m45 P)))) ∧ (¬ r31 = 0 → P (.inl (some (aI 0))) m28))))) : AW M_X6_line 0 0 [some (aR 19 0), some (aI a1), none, none] [] μ P := by
  refine AW_aload_n dX6_line_0 rfl ?_
  refine AW_aload_n dX6_line_1 rfl ?_
  refine AW_iload_n dX6_line_2 rfl ?_
  obtain ⟨r4, m1, h3, h2⟩ := h
  refine AW_callVI [aI a1] dX6_line_3 cv_X6_76 rfl rfl rfl (by decide) rfl (by decide) (Nat.le_of_ble_eq_true rfl) h3 ?_
  refine AW_if_eq (tgt := 13) dX6_line_6 (by decide) (fun q7 => ?_) (fun q7 => ?_)
  · have h5 := h2.1 q7
    refine AW_iconst (v := 1) dX6_line_13 (by decide) ?_
    obtain ⟨r11, m8, h10, h9⟩ := h5
    refine AW_callVI [aI 1] dX6_line_14 cv_X6_86 rfl rfl rfl (by decide) rfl (by decide) (Nat.le_of_ble_eq_true rfl) h10 ?_
    refine AW_if_eq (tgt := 22) dX6_line_17 (by decide) (fun q14 => ?_) (fun q14 => ?_)
    · have h12 := h9.1 q14
      refine AW_aload_n dX6_line_22 rfl ?_
      refine AW_iconst (v := 0) dX6_line_23 (by decide) ?_
      obtain ⟨m15, em15⟩ : ∃ z : Mem, z = mset m8 19 0 (upd (m8 19 0) 17 0) := ⟨_, rfl⟩
      have h16 := h12 m15 em15
      refine AW_putf (t := 19) (o := 0) (k := 17) dX6_line_24 fp_X6_173 rfl rfl rfl rfl em15.symm ?_
      refine AW_aload_n dX6_line_27 rfl ?_
      refine AW_aload_n dX6_line_28 rfl ?_
      refine AW_iload_n dX6_line_29 rfl ?_
      refine AW_iconst (v := 0) dX6_line_30 (by decide) ?_
      obtain ⟨r21, m18, h20, h19⟩ := h16
      refine AW_callVI [aI a1, aI 0] dX6_line_31 cv_X6_80 rfl rfl rfl (by decide) rfl (by decide) (Nat.le_of_ble_eq_true rfl) h20 ?_
      obtain ⟨m22, h24, h23⟩ := h19
      refine AW_callVV [aI r21] dX6_line_34 cv_X6_180 rfl rfl rfl (by decide) rfl (by decide) (Nat.le_of_ble_eq_true rfl) h24 ?_
      refine AW_aload_n dX6_line_37 rfl ?_
      refine AW_bipush (v := 58) dX6_line_38 (by decide) ?_
      obtain ⟨m25, h27, h26⟩ := h23
      refine AW_callVV [aI 58] dX6_line_40 cv_X6_176 rfl rfl rfl (by decide) rfl (by decide) (Nat.le_of_ble_eq_true rfl) h27 ?_
      refine AW_iconst (v := 0) dX6_line_43 (by decide) ?_
      refine AW_istore_n (loc' := [some (aR 19 0), some (aI a1), some (aI 0), none]) dX6_line_44 (Nat.le_of_ble_eq_true rfl) rfl rfl ?_
      exact h26
    · have h13 := h9.2 q14
      refine AW_iconst (v := 0) dX6_line_20 (by decide) ?_
      exact AW_ireturn (ty := .int) dX6_line_21 rfl rfl h13
  · have h6 := h2.2 q7
    refine AW_iconst (v := 0) dX6_line_9 (by decide) ?_
    refine AW_goto (tgt := 14) dX6_line_10 (by decide) ?_
    obtain ⟨r31, m28, h30, h29⟩ := h6
    refine AW_callVI [aI 0] dX6_line_14 cv_X6_86 rfl rfl rfl (by decide) rfl (by decide) (Nat.le_of_ble_eq_true rfl) h30 ?_
    refine AW_if_eq (tgt := 22) dX6_line_17 (by decide) (fun q34 => ?_) (fun q34 => ?_)
    · have h32 := h29.1 q34
      refine AW_aload_n dX6_line_22 rfl ?_
      refine AW_iconst (v := 0) dX6_line_23 (by decide) ?_
      obtain ⟨m35, em35⟩ : ∃ z : Mem, z = mset m28 19 0 (upd (m28 19 0) 17 0) := ⟨_, rfl⟩
      have h36 := h32 m35 em35
      refine AW_putf (t := 19) (o := 0) (k := 17) dX6_line_24 fp_X6_173 rfl rfl rfl rfl em35.symm ?_
      refine AW_aload_n dX6_line_27 rfl ?_
      refine AW_aload_n dX6_line_28 rfl ?_
      refine AW_iload_n dX6_line_29 rfl ?_
      refine AW_iconst (v := 0) dX6_line_30 (by decide) ?_
      obtain ⟨r41, m38, h40, h39⟩ := h36
      refine AW_callVI [aI a1, aI 0] dX6_line_31 cv_X6_80 rfl rfl rfl (by decide) rfl (by decide) (Nat.le_of_ble_eq_true rfl) h40 ?_
      obtain ⟨m42, h44, h43⟩ := h39
      refine AW_callVV [aI r41] dX6_line_34 cv_X6_180 rfl rfl rfl (by decide) rfl (by decide) (Nat.le_of_ble_eq_true rfl) h44 ?_
      refine AW_aload_n dX6_line_37 rfl ?_
      refine AW_bipush (v := 58) dX6_line_38 (by decide) ?_
      obtain ⟨m45, h47, h46⟩ := h43
      refine AW_callVV [aI 58] dX6_line_40 cv_X6_176 rfl rfl rfl (by decide) rfl (by decide) (Nat.le_of_ble_eq_true rfl) h47 ?_
      refine AW_iconst (v := 0) dX6_line_43 (by decide) ?_
      refine AW_istore_n (loc' := [some (aR 19 0), some (aI a1), some (aI 0), none]) dX6_line_44 (Nat.le_of_ble_eq_true rfl) rfl rfl ?_
      exact h46
    · have h33 := h29.2 q34
      refine AW_iconst (v := 0) dX6_line_20 (by decide) ?_
      exact AW_ireturn (ty := .int) dX6_line_21 rfl rfl h33
set_option maxRecDepth 100000 in
theorem B_X6_line_45 {a1 : Int32} {a2 : Int32} {μ : Mem} {P : RES → Mem → Prop}  (h : ∃ (r4 : Int32) (m1 : Mem), MetA M_X6_of [aR 19 0, aI a1, aI 1] μ (rI r4 m1) ∧ ((r4 ≤ a2 → P (.inl (some (aI (m1 19 0 17)))) m1) ∧ (¬ r4 ≤ a2 → ∃ (r11 : Int32) (m8 : Mem), MetA M_X6_mark [aR 19 0, aI a1, aI a2] m1 (rI r11 m8) ∧ ((¬ r11 = 0 → ∃ (r18 : Int32) (m15 : Mem), MetA M_X6_of [aR 19 0, aI a1, aI (10 + a2)] m8 (rI r18 m15) ∧ (∃ m19 : Mem, MetA M_X6_writes [aR 19 0, aI ((65 - 1) + r18)] m15 (rV m19) ∧ ((r11 ≤ 1 → AW M_X6_line 0 45 [some (aR 19 0), some (aI a1), some (aI (a2 + 1)), none] [] m19 P) ∧ (¬ r11 ≤ 1 → (¬ r11 = 2 → ∃ m28 : Mem, MetA M_X6_writes [aR 19 0, aI 33] m19 (rV m28) ∧ (AW M_X6_line 0 45 [some (aR 19 0), some (aI a1), some (aI (a2 + 1)), none] [] m28 P)) ∧ (r11 = 2 → ∃ m31 : Mem, MetA M_X6_writes [aR 19 0, aI 39] m19 (rV m31) ∧ (AW M_X6_line 0 45 [some (aR 19 0), some (aI a1), some (aI (a2 + 1)), none] [] m31 P)))))) ∧ (r11 = 0 → ∃ (r37 : Int32) (m34 : Mem), MetA M_X6_of [aR 19 0, aI a1, aI (10 + a2)] m8 (rI r37 m34) ∧ (∃ m38 : Mem, MetA M_X6_writes [aR 19 0, aI ((97 - 1) + r37)] m34 (rV m38) ∧ ((r11 ≤ 1 → AW M_X6_line 0 45 [some (aR 19 0), some (aI a1), some (aI (a2 + 1)), none] [] m38 P) ∧ (¬ r11 ≤ 1 → (¬ r11 = 2 → ∃ m47 : Mem, MetA M_X6_writes [aR 19 0, aI 33] m38 (rV m47) ∧ (AW M_X6_line 0 45 [some (aR 19 0), some (aI a1), some (aI (a2 + 1)), none] [] m47 P)) ∧ (r11 = 2 → ∃ m50 : Mem, MetA M_X6_writes [aR 19 0, aI 39] m38 (rV m50) ∧ (AW M_X6_line 0 45 [some (aR 19 0), some (aI a1), some (aI (a2 + 1)), none] [] m50 P)))))))))) : AW M_X6_line 0 45 [some (aR 19 0), some (aI a1), some (aI a2), none] [] μ P := by
  refine AW_iload_n dX6_line_45 rfl ?_
  refine AW_aload_n dX6_line_46 rfl ?_
  refine AW_iload_n dX6_line_47 rfl ?_
  refine AW_iconst (v := 1) dX6_line_48 (by decide) ?_
  obtain ⟨r4, m1, h3, h2⟩ := h
  refine AW_callVI [aI a1, aI 1] dX6_line_49 cv_X6_80 rfl rfl rfl (by decide) rfl (by decide) (Nat.le_of_ble_eq_true rfl) h3 ?_
  refine AW_icmp_ge (tgt := 116) dX6_line_52 (by decide) (fun q7 => ?_) (fun q7 => ?_)
  · have h5 := h2.1 q7
    refine AW_aload_n dX6_line_116 rfl ?_
    refine AW_getv (t := 19) (o := 0) (k := 17) none (v := aI (m1 19 0 17)) dX6_line_117 ff_X6_173 rfl rfl rfl ?_
    exact AW_ireturn (ty := .int) dX6_line_120 rfl rfl h5
  · have h6 := h2.2 q7
    refine AW_aload_n dX6_line_55 rfl ?_
    refine AW_iload_n dX6_line_56 rfl ?_
    refine AW_iload_n dX6_line_57 rfl ?_
    obtain ⟨r11, m8, h10, h9⟩ := h6
    refine AW_callVI [aI a1, aI a2] dX6_line_58 cv_X6_111 rfl rfl rfl (by decide) rfl (by decide) (Nat.le_of_ble_eq_true rfl) h10 ?_
    refine AW_istore_n (loc' := [some (aR 19 0), some (aI a1), some (aI a2), some (aI r11)]) dX6_line_61 (Nat.le_of_ble_eq_true rfl) rfl rfl ?_
    refine AW_aload_n dX6_line_62 rfl ?_
    refine AW_iload_n dX6_line_63 rfl ?_
    refine AW_if_ne (tgt := 72) dX6_line_64 (by decide) (fun q14 => ?_) (fun q14 => ?_)
    · have h12 := h9.1 q14
      refine AW_bipush (v := 65) dX6_line_72 (by decide) ?_
      refine AW_iconst (v := 1) dX6_line_74 (by decide) ?_
      refine AW_isub dX6_line_75 ?_
      refine AW_aload_n dX6_line_76 rfl ?_
      refine AW_iload_n dX6_line_77 rfl ?_
      refine AW_bipush (v := 10) dX6_line_78 (by decide) ?_
      refine AW_iload_n dX6_line_80 rfl ?_
      refine AW_iadd dX6_line_81 ?_
      obtain ⟨r18, m15, h17, h16⟩ := h12
      refine AW_callVI [aI a1, aI (10 + a2)] dX6_line_82 cv_X6_80 rfl rfl rfl (by decide) rfl (by decide) (Nat.le_of_ble_eq_true rfl) h17 ?_
      refine AW_iadd dX6_line_85 ?_
      obtain ⟨m19, h21, h20⟩ := h16
      refine AW_callVV [aI ((65 - 1) + r18)] dX6_line_86 cv_X6_176 rfl rfl rfl (by decide) rfl (by decide) (Nat.le_of_ble_eq_true rfl) h21 ?_
      refine AW_iload_n dX6_line_89 rfl ?_
      refine AW_iconst (v := 1) dX6_line_90 (by decide) ?_
      refine AW_icmp_le (tgt := 110) dX6_line_91 (by decide) (fun q24 => ?_) (fun q24 => ?_)
      · have h22 := h20.1 q24
        refine AW_iinc (v := a2 + 1) (loc' := [some (aR 19 0), some (aI a1), some (aI (a2 + 1)), some (aI r11)]) dX6_line_110 rfl rfl (Nat.le_of_ble_eq_true rfl) rfl rfl ?_
        refine AW_goto (tgt := 45) dX6_line_113 (by decide) ?_
        exact AW_mask [true, true, true, false] h22
      · have h23 := h20.2 q24
        refine AW_aload_n dX6_line_94 rfl ?_
        refine AW_iload_n dX6_line_95 rfl ?_
        refine AW_iconst (v := 2) dX6_line_96 (by decide) ?_
        refine AW_icmp_ne (tgt := 105) dX6_line_97 (by decide) (fun q27 => ?_) (fun q27 => ?_)
        · have h25 := h23.1 q27
          refine AW_bipush (v := 33) dX6_line_105 (by decide) ?_
          obtain ⟨m28, h30, h29⟩ := h25
          refine AW_callVV [aI 33] dX6_line_107 cv_X6_176 rfl rfl rfl (by decide) rfl (by decide) (Nat.le_of_ble_eq_true rfl) h30 ?_
          refine AW_iinc (v := a2 + 1) (loc' := [some (aR 19 0), some (aI a1), some (aI (a2 + 1)), some (aI r11)]) dX6_line_110 rfl rfl (Nat.le_of_ble_eq_true rfl) rfl rfl ?_
          refine AW_goto (tgt := 45) dX6_line_113 (by decide) ?_
          exact AW_mask [true, true, true, false] h29
        · have h26 := h23.2 q27
          refine AW_bipush (v := 39) dX6_line_100 (by decide) ?_
          refine AW_goto (tgt := 107) dX6_line_102 (by decide) ?_
          obtain ⟨m31, h33, h32⟩ := h26
          refine AW_callVV [aI 39] dX6_line_107 cv_X6_176 rfl rfl rfl (by decide) rfl (by decide) (Nat.le_of_ble_eq_true rfl) h33 ?_
          refine AW_iinc (v := a2 + 1) (loc' := [some (aR 19 0), some (aI a1), some (aI (a2 + 1)), some (aI r11)]) dX6_line_110 rfl rfl (Nat.le_of_ble_eq_true rfl) rfl rfl ?_
          refine AW_goto (tgt := 45) dX6_line_113 (by decide) ?_
          exact AW_mask [true, true, true, false] h32
    · have h13 := h9.2 q14
      refine AW_bipush (v := 97) dX6_line_67 (by decide) ?_
      refine AW_goto (tgt := 74) dX6_line_69 (by decide) ?_
      refine AW_iconst (v := 1) dX6_line_74 (by decide) ?_
      refine AW_isub dX6_line_75 ?_
      refine AW_aload_n dX6_line_76 rfl ?_
      refine AW_iload_n dX6_line_77 rfl ?_
      refine AW_bipush (v := 10) dX6_line_78 (by decide) ?_
      refine AW_iload_n dX6_line_80 rfl ?_
      refine AW_iadd dX6_line_81 ?_
      obtain ⟨r37, m34, h36, h35⟩ := h13
      refine AW_callVI [aI a1, aI (10 + a2)] dX6_line_82 cv_X6_80 rfl rfl rfl (by decide) rfl (by decide) (Nat.le_of_ble_eq_true rfl) h36 ?_
      refine AW_iadd dX6_line_85 ?_
      obtain ⟨m38, h40, h39⟩ := h35
      refine AW_callVV [aI ((97 - 1) + r37)] dX6_line_86 cv_X6_176 rfl rfl rfl (by decide) rfl (by decide) (Nat.le_of_ble_eq_true rfl) h40 ?_
      refine AW_iload_n dX6_line_89 rfl ?_
      refine AW_iconst (v := 1) dX6_line_90 (by decide) ?_
      refine AW_icmp_le (tgt := 110) dX6_line_91 (by decide) (fun q43 => ?_) (fun q43 => ?_)
      · have h41 := h39.1 q43
        refine AW_iinc (v := a2 + 1) (loc' := [some (aR 19 0), some (aI a1), some (aI (a2 + 1)), some (aI r11)]) dX6_line_110 rfl rfl (Nat.le_of_ble_eq_true rfl) rfl rfl ?_
        refine AW_goto (tgt := 45) dX6_line_113 (by decide) ?_
        exact AW_mask [true, true, true, false] h41
      · have h42 := h39.2 q43
        refine AW_aload_n dX6_line_94 rfl ?_
        refine AW_iload_n dX6_line_95 rfl ?_
        refine AW_iconst (v := 2) dX6_line_96 (by decide) ?_
        refine AW_icmp_ne (tgt := 105) dX6_line_97 (by decide) (fun q46 => ?_) (fun q46 => ?_)
        · have h44 := h42.1 q46
          refine AW_bipush (v := 33) dX6_line_105 (by decide) ?_
          obtain ⟨m47, h49, h48⟩ := h44
          refine AW_callVV [aI 33] dX6_line_107 cv_X6_176 rfl rfl rfl (by decide) rfl (by decide) (Nat.le_of_ble_eq_true rfl) h49 ?_
          refine AW_iinc (v := a2 + 1) (loc' := [some (aR 19 0), some (aI a1), some (aI (a2 + 1)), some (aI r11)]) dX6_line_110 rfl rfl (Nat.le_of_ble_eq_true rfl) rfl rfl ?_
          refine AW_goto (tgt := 45) dX6_line_113 (by decide) ?_
          exact AW_mask [true, true, true, false] h48
        · have h45 := h42.2 q46
          refine AW_bipush (v := 39) dX6_line_100 (by decide) ?_
          refine AW_goto (tgt := 107) dX6_line_102 (by decide) ?_
          obtain ⟨m50, h52, h51⟩ := h45
          refine AW_callVV [aI 39] dX6_line_107 cv_X6_176 rfl rfl rfl (by decide) rfl (by decide) (Nat.le_of_ble_eq_true rfl) h52 ?_
          refine AW_iinc (v := a2 + 1) (loc' := [some (aR 19 0), some (aI a1), some (aI (a2 + 1)), some (aI r11)]) dX6_line_110 rfl rfl (Nat.le_of_ble_eq_true rfl) rfl rfl ?_
          refine AW_goto (tgt := 45) dX6_line_113 (by decide) ?_
          exact AW_mask [true, true, true, false] h51
set_option maxRecDepth 100000 in
theorem B_X6_houseLine_0 {a1 : Int32} {μ : Mem} {P : RES → Mem → Prop}  (h : ∃ (r4 : Int32) (m1 : Mem), MetA M_X6_isHouse [aR 19 0, aI a1] μ (rI r4 m1) ∧ ((r4 = 0 → AW M_X6_houseLine 0 14 [some (aR 19 0), some (aI a1)] [aI 1, aR 19 0] m1 P) ∧ (¬ r4 = 0 → AW M_X6_houseLine 0 14 [some (aR 19 0), some (aI a1)] [aI 0, aR 19 0] m1 P))) : AW M_X6_houseLine 0 0 [some (aR 19 0), some (aI a1)] [] μ P := by
  refine AW_aload_n dX6_houseLine_0 rfl ?_
  refine AW_aload_n dX6_houseLine_1 rfl ?_
  refine AW_iload_n dX6_houseLine_2 rfl ?_
  obtain ⟨r4, m1, h3, h2⟩ := h
  refine AW_callVI [aI a1] dX6_houseLine_3 cv_X6_101 rfl rfl rfl (by decide) rfl (by decide) (Nat.le_of_ble_eq_true rfl) h3 ?_
  refine AW_if_eq (tgt := 13) dX6_houseLine_6 (by decide) (fun q7 => ?_) (fun q7 => ?_)
  · have h5 := h2.1 q7
    refine AW_iconst (v := 1) dX6_houseLine_13 (by decide) ?_
    exact h5
  · have h6 := h2.2 q7
    refine AW_iconst (v := 0) dX6_houseLine_9 (by decide) ?_
    refine AW_goto (tgt := 14) dX6_houseLine_10 (by decide) ?_
    exact h6
set_option maxRecDepth 100000 in
theorem B_X6_houseLine_14 {a1 : Int32} {s0 : Int32} {μ : Mem} {P : RES → Mem → Prop}  (h : ∃ (r4 : Int32) (m1 : Mem), MetA M_X6_fails [aR 19 0, aI s0] μ (rI r4 m1) ∧ ((r4 = 0 → ∀ m8 : Mem, m8 = mset m1 19 0 (upd (m1 19 0) 17 0) → ∃ m11 : Mem, MetA M_X6_writesNumber [aR 19 0, aI a1] m8 (rV m11) ∧ (∃ m14 : Mem, MetA M_X6_writes [aR 19 0, aI 36] m11 (rV m14) ∧ (∃ (r20 : Int32) (m17 : Mem), MetA M_X6_by [aR 19 0, aI a1, aI 0] m14 (rI r20 m17) ∧ (∃ m21 : Mem, MetA M_X6_writesNumber [aR 19 0, aI r20] m17 (rV m21) ∧ (∃ m24 : Mem, MetA M_X6_writes [aR 19 0, aI 126] m21 (rV m24) ∧ (∃ (r30 : Int32) (m27 : Mem), MetA M_X6_by [aR 19 0, aI a1, aI 1] m24 (rI r30 m27) ∧ (∃ m31 : Mem, MetA M_X6_writesNumber [aR 19 0, aI r30] m27 (rV m31) ∧ (∃ (r37 : Int32) (m34 : Mem), MetA M_X6_isAshamed [aR 19 0, aI a1] m31 (rI r37 m34) ∧ ((r37 = 0 → P (.inl (some (aI (m34 19 0 17)))) m34) ∧ (¬ r37 = 0 → ∃ m41 : Mem, MetA M_X6_writes [aR 19 0, aI 42] m34 (rV m41) ∧ (P (.inl (some (aI (m41 19 0 17)))) m41))))))))))) ∧ (¬ r4 = 0 → P (.inl (some (aI 0))) m1))) : AW M_X6_houseLine 0 14 [some (aR 19 0), some (aI a1)] [aI s0, aR 19 0] μ P := by
  obtain ⟨r4, m1, h3, h2⟩ := h
  refine AW_callVI [aI s0] dX6_houseLine_14 cv_X6_86 rfl rfl rfl (by decide) rfl (by decide) (Nat.le_of_ble_eq_true rfl) h3 ?_
  refine AW_if_eq (tgt := 22) dX6_houseLine_17 (by decide) (fun q7 => ?_) (fun q7 => ?_)
  · have h5 := h2.1 q7
    refine AW_aload_n dX6_houseLine_22 rfl ?_
    refine AW_iconst (v := 0) dX6_houseLine_23 (by decide) ?_
    obtain ⟨m8, em8⟩ : ∃ z : Mem, z = mset m1 19 0 (upd (m1 19 0) 17 0) := ⟨_, rfl⟩
    have h9 := h5 m8 em8
    refine AW_putf (t := 19) (o := 0) (k := 17) dX6_houseLine_24 fp_X6_173 rfl rfl rfl rfl em8.symm ?_
    refine AW_aload_n dX6_houseLine_27 rfl ?_
    refine AW_iload_n dX6_houseLine_28 rfl ?_
    obtain ⟨m11, h13, h12⟩ := h9
    refine AW_callVV [aI a1] dX6_houseLine_29 cv_X6_180 rfl rfl rfl (by decide) rfl (by decide) (Nat.le_of_ble_eq_true rfl) h13 ?_
    refine AW_aload_n dX6_houseLine_32 rfl ?_
    refine AW_bipush (v := 36) dX6_houseLine_33 (by decide) ?_
    obtain ⟨m14, h16, h15⟩ := h12
    refine AW_callVV [aI 36] dX6_houseLine_35 cv_X6_176 rfl rfl rfl (by decide) rfl (by decide) (Nat.le_of_ble_eq_true rfl) h16 ?_
    refine AW_aload_n dX6_houseLine_38 rfl ?_
    refine AW_aload_n dX6_houseLine_39 rfl ?_
    refine AW_iload_n dX6_houseLine_40 rfl ?_
    refine AW_iconst (v := 0) dX6_houseLine_41 (by decide) ?_
    obtain ⟨r20, m17, h19, h18⟩ := h15
    refine AW_callVI [aI a1, aI 0] dX6_houseLine_42 cv_X6_65 rfl rfl rfl (by decide) rfl (by decide) (Nat.le_of_ble_eq_true rfl) h19 ?_
    obtain ⟨m21, h23, h22⟩ := h18
    refine AW_callVV [aI r20] dX6_houseLine_45 cv_X6_180 rfl rfl rfl (by decide) rfl (by decide) (Nat.le_of_ble_eq_true rfl) h23 ?_
    refine AW_aload_n dX6_houseLine_48 rfl ?_
    refine AW_bipush (v := 126) dX6_houseLine_49 (by decide) ?_
    obtain ⟨m24, h26, h25⟩ := h22
    refine AW_callVV [aI 126] dX6_houseLine_51 cv_X6_176 rfl rfl rfl (by decide) rfl (by decide) (Nat.le_of_ble_eq_true rfl) h26 ?_
    refine AW_aload_n dX6_houseLine_54 rfl ?_
    refine AW_aload_n dX6_houseLine_55 rfl ?_
    refine AW_iload_n dX6_houseLine_56 rfl ?_
    refine AW_iconst (v := 1) dX6_houseLine_57 (by decide) ?_
    obtain ⟨r30, m27, h29, h28⟩ := h25
    refine AW_callVI [aI a1, aI 1] dX6_houseLine_58 cv_X6_65 rfl rfl rfl (by decide) rfl (by decide) (Nat.le_of_ble_eq_true rfl) h29 ?_
    obtain ⟨m31, h33, h32⟩ := h28
    refine AW_callVV [aI r30] dX6_houseLine_61 cv_X6_180 rfl rfl rfl (by decide) rfl (by decide) (Nat.le_of_ble_eq_true rfl) h33 ?_
    refine AW_aload_n dX6_houseLine_64 rfl ?_
    refine AW_iload_n dX6_houseLine_65 rfl ?_
    obtain ⟨r37, m34, h36, h35⟩ := h32
    refine AW_callVI [aI a1] dX6_houseLine_66 cv_X6_124 rfl rfl rfl (by decide) rfl (by decide) (Nat.le_of_ble_eq_true rfl) h36 ?_
    refine AW_if_eq (tgt := 78) dX6_houseLine_69 (by decide) (fun q40 => ?_) (fun q40 => ?_)
    · have h38 := h35.1 q40
      refine AW_aload_n dX6_houseLine_78 rfl ?_
      refine AW_getv (t := 19) (o := 0) (k := 17) none (v := aI (m34 19 0 17)) dX6_houseLine_79 ff_X6_173 rfl rfl rfl ?_
      exact AW_ireturn (ty := .int) dX6_houseLine_82 rfl rfl h38
    · have h39 := h35.2 q40
      refine AW_aload_n dX6_houseLine_72 rfl ?_
      refine AW_bipush (v := 42) dX6_houseLine_73 (by decide) ?_
      obtain ⟨m41, h43, h42⟩ := h39
      refine AW_callVV [aI 42] dX6_houseLine_75 cv_X6_176 rfl rfl rfl (by decide) rfl (by decide) (Nat.le_of_ble_eq_true rfl) h43 ?_
      refine AW_aload_n dX6_houseLine_78 rfl ?_
      refine AW_getv (t := 19) (o := 0) (k := 17) none (v := aI (m41 19 0 17)) dX6_houseLine_79 ff_X6_173 rfl rfl rfl ?_
      exact AW_ireturn (ty := .int) dX6_houseLine_82 rfl rfl h42
  · have h6 := h2.2 q7
    refine AW_iconst (v := 0) dX6_houseLine_20 (by decide) ?_
    exact AW_ireturn (ty := .int) dX6_houseLine_21 rfl rfl h6
set_option maxRecDepth 100000 in
theorem B_X6_character_0 {a1 : Int32} {μ : Mem} {P : RES → Mem → Prop}  (h : ∃ (r4 : Int32) (m1 : Mem), MetA M_X6_in [aI a1, aI 0, aI ((μ 19 0 17) - 1)] μ (rI r4 m1) ∧ ((r4 = 0 → ∃ (r11 : Int32) (m8 : Mem), MetA M_X6_fails [aR 19 0, aI 1] m1 (rI r11 m8) ∧ ((r11 = 0 → vp_in a1 40 ∧ (narrow .char (.int (m8 25 0 a1.toNatClampNeg)) = .int (m8 25 0 a1.toNatClampNeg) ∧ P (.inl (some (aI (m8 25 0 a1.toNatClampNeg)))) m8)) ∧ (¬ r11 = 0 → P (.inl (some (aI 32))) m8))) ∧ (¬ r4 = 0 → ∃ (r22 : Int32) (m19 : Mem), MetA M_X6_fails [aR 19 0, aI 0] m1 (rI r22 m19) ∧ ((r22 = 0 → vp_in a1 40 ∧ (narrow .char (.int (m19 25 0 a1.toNatClampNeg)) = .int (m19 25 0 a1.toNatClampNeg) ∧ P (.inl (some (aI (m19 25 0 a1.toNatClampNeg)))) m19)) ∧ (¬ r22 = 0 → P (.inl (some (aI 32))) m19))))) : AW M_X6_character 0 0 [some (aR 19 0), some (aI a1)] [] μ P := by
  refine AW_aload_n dX6_character_0 rfl ?_
  refine AW_iload_n dX6_character_1 rfl ?_
  refine AW_iconst (v := 0) dX6_character_2 (by decide) ?_
  refine AW_aload_n dX6_character_3 rfl ?_
  refine AW_getv (t := 19) (o := 0) (k := 17) none (v := aI (μ 19 0 17)) dX6_character_4 ff_X6_173 rfl rfl rfl ?_
  refine AW_iconst (v := 1) dX6_character_7 (by decide) ?_
  refine AW_isub dX6_character_8 ?_
  obtain ⟨r4, m1, h3, h2⟩ := h
  refine AW_callSI [aI a1, aI 0, aI ((μ 19 0 17) - 1)] dX6_character_9 cs_X6_72 rfl rfl (by decide) rfl (by decide) (Nat.le_of_ble_eq_true rfl) h3 ?_
  refine AW_if_eq (tgt := 19) dX6_character_12 (by decide) (fun q7 => ?_) (fun q7 => ?_)
  · have h5 := h2.1 q7
    refine AW_iconst (v := 1) dX6_character_19 (by decide) ?_
    obtain ⟨r11, m8, h10, h9⟩ := h5
    refine AW_callVI [aI 1] dX6_character_20 cv_X6_86 rfl rfl rfl (by decide) rfl (by decide) (Nat.le_of_ble_eq_true rfl) h10 ?_
    refine AW_if_eq (tgt := 31) dX6_character_23 (by decide) (fun q14 => ?_) (fun q14 => ?_)
    · have h12 := h9.1 q14
      refine AW_aload_n dX6_character_31 rfl ?_
      refine AW_getv (t := 19) (o := 0) (k := 16) (some (25, none)) (v := aR 25 0) dX6_character_32 ff_X6_29 rfl rfl rfl ?_
      refine AW_iload_n dX6_character_35 rfl ?_
      obtain ⟨h15, h16⟩ := h12
      refine AW_caload dX6_character_36 rfl rfl h15 ?_
      obtain ⟨h17, h18⟩ := h16
      exact AW_ireturn (ty := .char) dX6_character_37 rfl h17 h18
    · have h13 := h9.2 q14
      refine AW_bipush (v := 32) dX6_character_26 (by decide) ?_
      refine AW_goto (tgt := 37) dX6_character_28 (by decide) ?_
      exact AW_ireturn (ty := .char) dX6_character_37 rfl rfl h13
  · have h6 := h2.2 q7
    refine AW_iconst (v := 0) dX6_character_15 (by decide) ?_
    refine AW_goto (tgt := 20) dX6_character_16 (by decide) ?_
    obtain ⟨r22, m19, h21, h20⟩ := h6
    refine AW_callVI [aI 0] dX6_character_20 cv_X6_86 rfl rfl rfl (by decide) rfl (by decide) (Nat.le_of_ble_eq_true rfl) h21 ?_
    refine AW_if_eq (tgt := 31) dX6_character_23 (by decide) (fun q25 => ?_) (fun q25 => ?_)
    · have h23 := h20.1 q25
      refine AW_aload_n dX6_character_31 rfl ?_
      refine AW_getv (t := 19) (o := 0) (k := 16) (some (25, none)) (v := aR 25 0) dX6_character_32 ff_X6_29 rfl rfl rfl ?_
      refine AW_iload_n dX6_character_35 rfl ?_
      obtain ⟨h26, h27⟩ := h23
      refine AW_caload dX6_character_36 rfl rfl h26 ?_
      obtain ⟨h28, h29⟩ := h27
      exact AW_ireturn (ty := .char) dX6_character_37 rfl h28 h29
    · have h24 := h20.2 q25
      refine AW_bipush (v := 32) dX6_character_26 (by decide) ?_
      refine AW_goto (tgt := 37) dX6_character_28 (by decide) ?_
      exact AW_ireturn (ty := .char) dX6_character_37 rfl rfl h24
set_option maxRecDepth 100000 in
theorem B_X6_append_0 {a1 : Int32} {μ : Mem} {P : RES → Mem → Prop}  (h : (¬ (μ 19 0 14) = 60 → ∃ (r7 : Int32) (m4 : Mem), MetA M_X6_fails [aR 19 0, aI 0] μ (rI r7 m4) ∧ ((r7 = 0 → vp_in (m4 19 0 14) 60 ∧ (∀ m11 : Mem, m11 = mset m4 24 0 (upd (m4 24 0) (m4 19 0 14).toNatClampNeg a1) → ∀ m15 : Mem, m15 = mset m11 19 0 (upd (m11 19 0) 14 ((m11 19 0 14) + 1)) → P (.inl (some (aI (m15 19 0 14)))) m15)) ∧ (¬ r7 = 0 → P (.inl (some (aI 0))) m4))) ∧ ((μ 19 0 14) = 60 → ∃ (r21 : Int32) (m18 : Mem), MetA M_X6_fails [aR 19 0, aI 1] μ (rI r21 m18) ∧ ((r21 = 0 → vp_in (m18 19 0 14) 60 ∧ (∀ m25 : Mem, m25 = mset m18 24 0 (upd (m18 24 0) (m18 19 0 14).toNatClampNeg a1) → ∀ m29 : Mem, m29 = mset m25 19 0 (upd (m25 19 0) 14 ((m25 19 0 14) + 1)) → P (.inl (some (aI (m29 19 0 14)))) m29)) ∧ (¬ r21 = 0 → P (.inl (some (aI 0))) m18)))) : AW M_X6_append 0 0 [some (aR 19 0), some (aI a1)] [] μ P := by
  refine AW_aload_n dX6_append_0 rfl ?_
  refine AW_aload_n dX6_append_1 rfl ?_
  refine AW_getv (t := 19) (o := 0) (k := 14) none (v := aI (μ 19 0 14)) dX6_append_2 ff_X6_183 rfl rfl rfl ?_
  refine AW_bipush (v := 60) dX6_append_5 (by decide) ?_
  refine AW_icmp_ne (tgt := 14) dX6_append_7 (by decide) (fun q3 => ?_) (fun q3 => ?_)
  · have h1 := h.1 q3
    refine AW_iconst (v := 0) dX6_append_14 (by decide) ?_
    obtain ⟨r7, m4, h6, h5⟩ := h1
    refine AW_callVI [aI 0] dX6_append_15 cv_X6_86 rfl rfl rfl (by decide) rfl (by decide) (Nat.le_of_ble_eq_true rfl) h6 ?_
    refine AW_if_eq (tgt := 23) dX6_append_18 (by decide) (fun q10 => ?_) (fun q10 => ?_)
    · have h8 := h5.1 q10
      refine AW_aload_n dX6_append_23 rfl ?_
      refine AW_getv (t := 19) (o := 0) (k := 13) (some (24, none)) (v := aR 24 0) dX6_append_24 ff_X6_22 rfl rfl rfl ?_
      refine AW_aload_n dX6_append_27 rfl ?_
      refine AW_getv (t := 19) (o := 0) (k := 14) none (v := aI (m4 19 0 14)) dX6_append_28 ff_X6_183 rfl rfl rfl ?_
      refine AW_iload_n dX6_append_31 rfl ?_
      obtain ⟨h12, h14⟩ := h8
      obtain ⟨m11, em11⟩ : ∃ z : Mem, z = mset m4 24 0 (upd (m4 24 0) (m4 19 0 14).toNatClampNeg a1) := ⟨_, rfl⟩
      have h13 := h14 m11 em11
      refine AW_iastore dX6_append_32 rfl rfl h12 em11.symm ?_
      refine AW_aload_n dX6_append_33 rfl ?_
      refine AW_dup dX6_append_34 rfl ?_
      refine AW_getv (t := 19) (o := 0) (k := 14) none (v := aI (m11 19 0 14)) dX6_append_35 ff_X6_183 rfl rfl rfl ?_
      refine AW_iconst (v := 1) dX6_append_38 (by decide) ?_
      refine AW_iadd dX6_append_39 ?_
      obtain ⟨m15, em15⟩ : ∃ z : Mem, z = mset m11 19 0 (upd (m11 19 0) 14 ((m11 19 0 14) + 1)) := ⟨_, rfl⟩
      have h16 := h13 m15 em15
      refine AW_putf (t := 19) (o := 0) (k := 14) dX6_append_40 fp_X6_183 rfl rfl rfl rfl em15.symm ?_
      refine AW_aload_n dX6_append_43 rfl ?_
      refine AW_getv (t := 19) (o := 0) (k := 14) none (v := aI (m15 19 0 14)) dX6_append_44 ff_X6_183 rfl rfl rfl ?_
      exact AW_ireturn (ty := .int) dX6_append_47 rfl rfl h16
    · have h9 := h5.2 q10
      refine AW_iconst (v := 0) dX6_append_21 (by decide) ?_
      exact AW_ireturn (ty := .int) dX6_append_22 rfl rfl h9
  · have h2 := h.2 q3
    refine AW_iconst (v := 1) dX6_append_10 (by decide) ?_
    refine AW_goto (tgt := 15) dX6_append_11 (by decide) ?_
    obtain ⟨r21, m18, h20, h19⟩ := h2
    refine AW_callVI [aI 1] dX6_append_15 cv_X6_86 rfl rfl rfl (by decide) rfl (by decide) (Nat.le_of_ble_eq_true rfl) h20 ?_
    refine AW_if_eq (tgt := 23) dX6_append_18 (by decide) (fun q24 => ?_) (fun q24 => ?_)
    · have h22 := h19.1 q24
      refine AW_aload_n dX6_append_23 rfl ?_
      refine AW_getv (t := 19) (o := 0) (k := 13) (some (24, none)) (v := aR 24 0) dX6_append_24 ff_X6_22 rfl rfl rfl ?_
      refine AW_aload_n dX6_append_27 rfl ?_
      refine AW_getv (t := 19) (o := 0) (k := 14) none (v := aI (m18 19 0 14)) dX6_append_28 ff_X6_183 rfl rfl rfl ?_
      refine AW_iload_n dX6_append_31 rfl ?_
      obtain ⟨h26, h28⟩ := h22
      obtain ⟨m25, em25⟩ : ∃ z : Mem, z = mset m18 24 0 (upd (m18 24 0) (m18 19 0 14).toNatClampNeg a1) := ⟨_, rfl⟩
      have h27 := h28 m25 em25
      refine AW_iastore dX6_append_32 rfl rfl h26 em25.symm ?_
      refine AW_aload_n dX6_append_33 rfl ?_
      refine AW_dup dX6_append_34 rfl ?_
      refine AW_getv (t := 19) (o := 0) (k := 14) none (v := aI (m25 19 0 14)) dX6_append_35 ff_X6_183 rfl rfl rfl ?_
      refine AW_iconst (v := 1) dX6_append_38 (by decide) ?_
      refine AW_iadd dX6_append_39 ?_
      obtain ⟨m29, em29⟩ : ∃ z : Mem, z = mset m25 19 0 (upd (m25 19 0) 14 ((m25 19 0 14) + 1)) := ⟨_, rfl⟩
      have h30 := h27 m29 em29
      refine AW_putf (t := 19) (o := 0) (k := 14) dX6_append_40 fp_X6_183 rfl rfl rfl rfl em29.symm ?_
      refine AW_aload_n dX6_append_43 rfl ?_
      refine AW_getv (t := 19) (o := 0) (k := 14) none (v := aI (m29 19 0 14)) dX6_append_44 ff_X6_183 rfl rfl rfl ?_
      exact AW_ireturn (ty := .int) dX6_append_47 rfl rfl h30
    · have h23 := h19.2 q24
      refine AW_iconst (v := 0) dX6_append_21 (by decide) ?_
      exact AW_ireturn (ty := .int) dX6_append_22 rfl rfl h23
set_option maxRecDepth 100000 in
theorem B_X6_here_0  {μ : Mem} {P : RES → Mem → Prop}  (h : ((μ 19 0 14) ≤ (μ 19 0 18) → P (.inl (some (aI (-1)))) μ) ∧ (¬ (μ 19 0 14) ≤ (μ 19 0 18) → vp_in (μ 19 0 18) 60 ∧ (P (.inl (some (aI (μ 24 0 (μ 19 0 18).toNatClampNeg)))) μ))) : AW M_X6_here 0 0 [some (aR 19 0)] [] μ P := by
  refine AW_aload_n dX6_here_0 rfl ?_
  refine AW_getv (t := 19) (o := 0) (k := 18) none (v := aI (μ 19 0 18)) dX6_here_1 ff_X6_186 rfl rfl rfl ?_
  refine AW_aload_n dX6_here_4 rfl ?_
  refine AW_getv (t := 19) (o := 0) (k := 14) none (v := aI (μ 19 0 14)) dX6_here_5 ff_X6_183 rfl rfl rfl ?_
  refine AW_icmp_ge (tgt := 23) dX6_here_8 (by decide) (fun q3 => ?_) (fun q3 => ?_)
  · have h1 := h.1 q3
    refine AW_iconst (v := (-1)) dX6_here_23 (by decide) ?_
    exact AW_ireturn (ty := .int) dX6_here_24 rfl rfl h1
  · have h2 := h.2 q3
    refine AW_aload_n dX6_here_11 rfl ?_
    refine AW_getv (t := 19) (o := 0) (k := 13) (some (24, none)) (v := aR 24 0) dX6_here_12 ff_X6_22 rfl rfl rfl ?_
    refine AW_aload_n dX6_here_15 rfl ?_
    refine AW_getv (t := 19) (o := 0) (k := 18) none (v := aI (μ 19 0 18)) dX6_here_16 ff_X6_186 rfl rfl rfl ?_
    obtain ⟨h4, h5⟩ := h2
    refine AW_iaload dX6_here_19 rfl rfl h4 ?_
    refine AW_goto (tgt := 24) dX6_here_20 (by decide) ?_
    exact AW_ireturn (ty := .int) dX6_here_24 rfl rfl h5
set_option maxRecDepth 100000 in
theorem B_X6_skips_0 {a1 : Int32} {μ : Mem} {P : RES → Mem → Prop}  (h : ∃ (r4 : Int32) (m1 : Mem), MetA M_X6_here [aR 19 0] μ (rI r4 m1) ∧ ((r4 = a1 → ∀ m8 : Mem, m8 = mset m1 19 0 (upd (m1 19 0) 18 ((m1 19 0 18) + 1)) → P (.inl (some (aI 1))) m8) ∧ (¬ r4 = a1 → P (.inl (some (aI 0))) m1))) : AW M_X6_skips 0 0 [some (aR 19 0), some (aI a1)] [] μ P := by
  refine AW_aload_n dX6_skips_0 rfl ?_
  obtain ⟨r4, m1, h3, h2⟩ := h
  refine AW_callVI [] dX6_skips_1 cv_X6_189 rfl rfl rfl (by decide) rfl (by decide) (Nat.le_of_ble_eq_true rfl) h3 ?_
  refine AW_iload_n dX6_skips_4 rfl ?_
  refine AW_icmp_eq (tgt := 10) dX6_skips_5 (by decide) (fun q7 => ?_) (fun q7 => ?_)
  · have h5 := h2.1 q7
    refine AW_aload_n dX6_skips_10 rfl ?_
    refine AW_dup dX6_skips_11 rfl ?_
    refine AW_getv (t := 19) (o := 0) (k := 18) none (v := aI (m1 19 0 18)) dX6_skips_12 ff_X6_186 rfl rfl rfl ?_
    refine AW_iconst (v := 1) dX6_skips_15 (by decide) ?_
    refine AW_iadd dX6_skips_16 ?_
    obtain ⟨m8, em8⟩ : ∃ z : Mem, z = mset m1 19 0 (upd (m1 19 0) 18 ((m1 19 0 18) + 1)) := ⟨_, rfl⟩
    have h9 := h5 m8 em8
    refine AW_putf (t := 19) (o := 0) (k := 18) dX6_skips_17 fp_X6_186 rfl rfl rfl rfl em8.symm ?_
    refine AW_iconst (v := 1) dX6_skips_20 (by decide) ?_
    exact AW_ireturn (ty := .boolean) dX6_skips_21 rfl rfl h9
  · have h6 := h2.2 q7
    refine AW_iconst (v := 0) dX6_skips_8 (by decide) ?_
    exact AW_ireturn (ty := .boolean) dX6_skips_9 rfl rfl h6
set_option maxRecDepth 100000 in
theorem B_X6_figures_0 {a1 : Int32} {a2 : Int32} {μ : Mem} {P : RES → Mem → Prop}  (h : ∃ (r4 : Int32) (m1 : Mem), MetA M_X6_here [aR 19 0] μ (rI r4 m1) ∧ (∃ (r8 : Int32) (m5 : Mem), MetA M_X6_in [aI r4, aI 48, aI 57] m1 (rI r8 m5) ∧ ((¬ r8 = 0 → vp_in a1 124 ∧ (∀ m12 : Mem, m12 = mset m5 26 0 (upd (m5 26 0) a1.toNatClampNeg 0) → AW M_X6_figures 0 25 [some (aR 19 0), some (aI a1), some (aI a2), some (aI 0)] [] m12 P)) ∧ (r8 = 0 → P (.inl (some (aI 0))) m5)))) : AW M_X6_figures 0 0 [some (aR 19 0), some (aI a1), some (aI a2), none] [] μ P := by
  refine AW_aload_n dX6_figures_0 rfl ?_
  obtain ⟨r4, m1, h3, h2⟩ := h
  refine AW_callVI [] dX6_figures_1 cv_X6_189 rfl rfl rfl (by decide) rfl (by decide) (Nat.le_of_ble_eq_true rfl) h3 ?_
  refine AW_bipush (v := 48) dX6_figures_4 (by decide) ?_
  refine AW_bipush (v := 57) dX6_figures_6 (by decide) ?_
  obtain ⟨r8, m5, h7, h6⟩ := h2
  refine AW_callSI [aI r4, aI 48, aI 57] dX6_figures_8 cs_X6_72 rfl rfl (by decide) rfl (by decide) (Nat.le_of_ble_eq_true rfl) h7 ?_
  refine AW_if_ne (tgt := 16) dX6_figures_11 (by decide) (fun q11 => ?_) (fun q11 => ?_)
  · have h9 := h6.1 q11
    refine AW_aload_n dX6_figures_16 rfl ?_
    refine AW_getv (t := 19) (o := 0) (k := 19) (some (26, none)) (v := aR 26 0) dX6_figures_17 ff_X6_33 rfl rfl rfl ?_
    refine AW_iload_n dX6_figures_20 rfl ?_
    refine AW_iconst (v := 0) dX6_figures_21 (by decide) ?_
    obtain ⟨h13, h15⟩ := h9
    obtain ⟨m12, em12⟩ : ∃ z : Mem, z = mset m5 26 0 (upd (m5 26 0) a1.toNatClampNeg 0) := ⟨_, rfl⟩
    have h14 := h15 m12 em12
    refine AW_iastore dX6_figures_22 rfl rfl h13 em12.symm ?_
    refine AW_iconst (v := 0) dX6_figures_23 (by decide) ?_
    refine AW_istore_n (loc' := [some (aR 19 0), some (aI a1), some (aI a2), some (aI 0)]) dX6_figures_24 (Nat.le_of_ble_eq_true rfl) rfl rfl ?_
    exact h14
  · have h10 := h6.2 q11
    refine AW_iconst (v := 0) dX6_figures_14 (by decide) ?_
    exact AW_ireturn (ty := .boolean) dX6_figures_15 rfl rfl h10
set_option maxRecDepth 100000 in
theorem B_X6_figures_25 {a1 : Int32} {a2 : Int32} {a3 : Int32} {μ : Mem} {P : RES → Mem → Prop}  (h : (a2 ≤ a3 → P (.inl (some (aI 1))) μ) ∧ (¬ a2 ≤ a3 → ∃ (r7 : Int32) (m4 : Mem), MetA M_X6_here [aR 19 0] μ (rI r7 m4) ∧ (∃ (r11 : Int32) (m8 : Mem), MetA M_X6_in [aI r7, aI 48, aI 57] m4 (rI r11 m8) ∧ ((r11 = 0 → P (.inl (some (aI 1))) m8) ∧ (¬ r11 = 0 → vp_in a1 124 ∧ (∃ (r20 : Int32) (m17 : Mem), MetA M_X6_here [aR 19 0] m8 (rI r20 m17) ∧ (vp_in a1 124 ∧ (∀ m21 : Mem, m21 = mset m17 26 0 (upd (m17 26 0) a1.toNatClampNeg (((10 * (m8 26 0 a1.toNatClampNeg)) + r20) - 48)) → ∀ m25 : Mem, m25 = mset m21 19 0 (upd (m21 19 0) 18 ((m21 19 0 18) + 1)) → AW M_X6_figures 0 25 [some (aR 19 0), some (aI a1), some (aI a2), some (aI (a3 + 1))] [] m25 P)))))))) : AW M_X6_figures 0 25 [some (aR 19 0), some (aI a1), some (aI a2), some (aI a3)] [] μ P := by
  refine AW_iload_n dX6_figures_25 rfl ?_
  refine AW_iload_n dX6_figures_26 rfl ?_
  refine AW_icmp_ge (tgt := 83) dX6_figures_27 (by decide) (fun q3 => ?_) (fun q3 => ?_)
  · have h1 := h.1 q3
    refine AW_iconst (v := 1) dX6_figures_83 (by decide) ?_
    exact AW_ireturn (ty := .boolean) dX6_figures_84 rfl rfl h1
  · have h2 := h.2 q3
    refine AW_aload_n dX6_figures_30 rfl ?_
    obtain ⟨r7, m4, h6, h5⟩ := h2
    refine AW_callVI [] dX6_figures_31 cv_X6_189 rfl rfl rfl (by decide) rfl (by decide) (Nat.le_of_ble_eq_true rfl) h6 ?_
    refine AW_bipush (v := 48) dX6_figures_34 (by decide) ?_
    refine AW_bipush (v := 57) dX6_figures_36 (by decide) ?_
    obtain ⟨r11, m8, h10, h9⟩ := h5
    refine AW_callSI [aI r7, aI 48, aI 57] dX6_figures_38 cs_X6_72 rfl rfl (by decide) rfl (by decide) (Nat.le_of_ble_eq_true rfl) h10 ?_
    refine AW_if_eq (tgt := 83) dX6_figures_41 (by decide) (fun q14 => ?_) (fun q14 => ?_)
    · have h12 := h9.1 q14
      refine AW_iconst (v := 1) dX6_figures_83 (by decide) ?_
      exact AW_ireturn (ty := .boolean) dX6_figures_84 rfl rfl h12
    · have h13 := h9.2 q14
      refine AW_aload_n dX6_figures_44 rfl ?_
      refine AW_getv (t := 19) (o := 0) (k := 19) (some (26, none)) (v := aR 26 0) dX6_figures_45 ff_X6_33 rfl rfl rfl ?_
      refine AW_iload_n dX6_figures_48 rfl ?_
      refine AW_bipush (v := 10) dX6_figures_49 (by decide) ?_
      refine AW_aload_n dX6_figures_51 rfl ?_
      refine AW_getv (t := 19) (o := 0) (k := 19) (some (26, none)) (v := aR 26 0) dX6_figures_52 ff_X6_33 rfl rfl rfl ?_
      refine AW_iload_n dX6_figures_55 rfl ?_
      obtain ⟨h15, h16⟩ := h13
      refine AW_iaload dX6_figures_56 rfl rfl h15 ?_
      refine AW_imul dX6_figures_57 ?_
      refine AW_aload_n dX6_figures_58 rfl ?_
      obtain ⟨r20, m17, h19, h18⟩ := h16
      refine AW_callVI [] dX6_figures_59 cv_X6_189 rfl rfl rfl (by decide) rfl (by decide) (Nat.le_of_ble_eq_true rfl) h19 ?_
      refine AW_iadd dX6_figures_62 ?_
      refine AW_bipush (v := 48) dX6_figures_63 (by decide) ?_
      refine AW_isub dX6_figures_65 ?_
      obtain ⟨h22, h24⟩ := h18
      obtain ⟨m21, em21⟩ : ∃ z : Mem, z = mset m17 26 0 (upd (m17 26 0) a1.toNatClampNeg (((10 * (m8 26 0 a1.toNatClampNeg)) + r20) - 48)) := ⟨_, rfl⟩
      have h23 := h24 m21 em21
      refine AW_iastore dX6_figures_66 rfl rfl h22 em21.symm ?_
      refine AW_aload_n dX6_figures_67 rfl ?_
      refine AW_dup dX6_figures_68 rfl ?_
      refine AW_getv (t := 19) (o := 0) (k := 18) none (v := aI (m21 19 0 18)) dX6_figures_69 ff_X6_186 rfl rfl rfl ?_
      refine AW_iconst (v := 1) dX6_figures_72 (by decide) ?_
      refine AW_iadd dX6_figures_73 ?_
      obtain ⟨m25, em25⟩ : ∃ z : Mem, z = mset m21 19 0 (upd (m21 19 0) 18 ((m21 19 0 18) + 1)) := ⟨_, rfl⟩
      have h26 := h23 m25 em25
      refine AW_putf (t := 19) (o := 0) (k := 18) dX6_figures_74 fp_X6_186 rfl rfl rfl rfl em25.symm ?_
      refine AW_iinc (v := a3 + 1) (loc' := [some (aR 19 0), some (aI a1), some (aI a2), some (aI (a3 + 1))]) dX6_figures_77 rfl rfl (Nat.le_of_ble_eq_true rfl) rfl rfl ?_
      refine AW_goto (tgt := 25) dX6_figures_80 (by decide) ?_
      exact h26
set_option maxRecDepth 100000 in
theorem B_X6_wordHere_0 {a1 : Int32} {a2 : Int32} {a3 : Int32} {μ : Mem} {P : RES → Mem → Prop}  (h : vp_in a1 124 ∧ (∀ m1 : Mem, m1 = mset μ 26 0 (upd (μ 26 0) a1.toNatClampNeg 0) → AW M_X6_wordHere 0 10 [some (aR 19 0), some (aI a1), some (aI a2), some (aI a3), some (aI 0)] [] m1 P)) : AW M_X6_wordHere 0 0 [some (aR 19 0), some (aI a1), some (aI a2), some (aI a3), none] [] μ P := by
  refine AW_iconst (v := 0) dX6_wordHere_0 (by decide) ?_
  refine AW_istore (loc' := [some (aR 19 0), some (aI a1), some (aI a2), some (aI a3), some (aI 0)]) dX6_wordHere_1 (Nat.le_of_ble_eq_true rfl) rfl rfl ?_
  refine AW_aload_n dX6_wordHere_3 rfl ?_
  refine AW_getv (t := 19) (o := 0) (k := 19) (some (26, none)) (v := aR 26 0) dX6_wordHere_4 ff_X6_33 rfl rfl rfl ?_
  refine AW_iload_n dX6_wordHere_7 rfl ?_
  refine AW_iconst (v := 0) dX6_wordHere_8 (by decide) ?_
  obtain ⟨h2, h4⟩ := h
  obtain ⟨m1, em1⟩ : ∃ z : Mem, z = mset μ 26 0 (upd (μ 26 0) a1.toNatClampNeg 0) := ⟨_, rfl⟩
  have h3 := h4 m1 em1
  refine AW_iastore dX6_wordHere_9 rfl rfl h2 em1.symm ?_
  exact h3
set_option maxRecDepth 100000 in
theorem B_X6_wordHere_10 {a1 : Int32} {a2 : Int32} {a3 : Int32} {a4 : Int32} {μ : Mem} {P : RES → Mem → Prop}  (h : (a3 ≤ a4 → (a4 < a2 → P (.inl (some (aI 0))) μ) ∧ (¬ a4 < a2 → P (.inl (some (aI 1))) μ)) ∧ (¬ a3 ≤ a4 → ∃ (r10 : Int32) (m7 : Mem), MetA M_X6_here [aR 19 0] μ (rI r10 m7) ∧ (∃ (r14 : Int32) (m11 : Mem), MetA M_X6_in [aI r10, aI 97, aI 102] m7 (rI r14 m11) ∧ ((r14 = 0 → (a4 < a2 → P (.inl (some (aI 0))) m11) ∧ (¬ a4 < a2 → P (.inl (some (aI 1))) m11)) ∧ (¬ r14 = 0 → vp_in a1 124 ∧ (∃ (r26 : Int32) (m23 : Mem), MetA M_X6_here [aR 19 0] m11 (rI r26 m23) ∧ (vp_in a1 124 ∧ (∀ m27 : Mem, m27 = mset m23 26 0 (upd (m23 26 0) a1.toNatClampNeg ((((10 * (m11 26 0 a1.toNatClampNeg)) + r26) - 97) + 1)) → ∀ m31 : Mem, m31 = mset m27 19 0 (upd (m27 19 0) 18 ((m27 19 0 18) + 1)) → AW M_X6_wordHere 0 10 [some (aR 19 0), some (aI a1), some (aI a2), some (aI a3), some (aI (a4 + 1))] [] m31 P)))))))) : AW M_X6_wordHere 0 10 [some (aR 19 0), some (aI a1), some (aI a2), some (aI a3), some (aI a4)] [] μ P := by
  refine AW_iload dX6_wordHere_10 rfl ?_
  refine AW_iload_n dX6_wordHere_12 rfl ?_
  refine AW_icmp_ge (tgt := 71) dX6_wordHere_13 (by decide) (fun q3 => ?_) (fun q3 => ?_)
  · have h1 := h.1 q3
    refine AW_iload dX6_wordHere_71 rfl ?_
    refine AW_iload_n dX6_wordHere_73 rfl ?_
    refine AW_icmp_lt (tgt := 81) dX6_wordHere_74 (by decide) (fun q6 => ?_) (fun q6 => ?_)
    · have h4 := h1.1 q6
      refine AW_iconst (v := 0) dX6_wordHere_81 (by decide) ?_
      exact AW_ireturn (ty := .boolean) dX6_wordHere_82 rfl rfl h4
    · have h5 := h1.2 q6
      refine AW_iconst (v := 1) dX6_wordHere_77 (by decide) ?_
      refine AW_goto (tgt := 82) dX6_wordHere_78 (by decide) ?_
      exact AW_ireturn (ty := .boolean) dX6_wordHere_82 rfl rfl h5
  · have h2 := h.2 q3
    refine AW_aload_n dX6_wordHere_16 rfl ?_
    obtain ⟨r10, m7, h9, h8⟩ := h2
    refine AW_callVI [] dX6_wordHere_17 cv_X6_189 rfl rfl rfl (by decide) rfl (by decide) (Nat.le_of_ble_eq_true rfl) h9 ?_
    refine AW_bipush (v := 97) dX6_wordHere_20 (by decide) ?_
    refine AW_bipush (v := 102) dX6_wordHere_22 (by decide) ?_
    obtain ⟨r14, m11, h13, h12⟩ := h8
    refine AW_callSI [aI r10, aI 97, aI 102] dX6_wordHere_24 cs_X6_72 rfl rfl (by decide) rfl (by decide) (Nat.le_of_ble_eq_true rfl) h13 ?_
    refine AW_if_eq (tgt := 71) dX6_wordHere_27 (by decide) (fun q17 => ?_) (fun q17 => ?_)
    · have h15 := h12.1 q17
      refine AW_iload dX6_wordHere_71 rfl ?_
      refine AW_iload_n dX6_wordHere_73 rfl ?_
      refine AW_icmp_lt (tgt := 81) dX6_wordHere_74 (by decide) (fun q20 => ?_) (fun q20 => ?_)
      · have h18 := h15.1 q20
        refine AW_iconst (v := 0) dX6_wordHere_81 (by decide) ?_
        exact AW_ireturn (ty := .boolean) dX6_wordHere_82 rfl rfl h18
      · have h19 := h15.2 q20
        refine AW_iconst (v := 1) dX6_wordHere_77 (by decide) ?_
        refine AW_goto (tgt := 82) dX6_wordHere_78 (by decide) ?_
        exact AW_ireturn (ty := .boolean) dX6_wordHere_82 rfl rfl h19
    · have h16 := h12.2 q17
      refine AW_aload_n dX6_wordHere_30 rfl ?_
      refine AW_getv (t := 19) (o := 0) (k := 19) (some (26, none)) (v := aR 26 0) dX6_wordHere_31 ff_X6_33 rfl rfl rfl ?_
      refine AW_iload_n dX6_wordHere_34 rfl ?_
      refine AW_bipush (v := 10) dX6_wordHere_35 (by decide) ?_
      refine AW_aload_n dX6_wordHere_37 rfl ?_
      refine AW_getv (t := 19) (o := 0) (k := 19) (some (26, none)) (v := aR 26 0) dX6_wordHere_38 ff_X6_33 rfl rfl rfl ?_
      refine AW_iload_n dX6_wordHere_41 rfl ?_
      obtain ⟨h21, h22⟩ := h16
      refine AW_iaload dX6_wordHere_42 rfl rfl h21 ?_
      refine AW_imul dX6_wordHere_43 ?_
      refine AW_aload_n dX6_wordHere_44 rfl ?_
      obtain ⟨r26, m23, h25, h24⟩ := h22
      refine AW_callVI [] dX6_wordHere_45 cv_X6_189 rfl rfl rfl (by decide) rfl (by decide) (Nat.le_of_ble_eq_true rfl) h25 ?_
      refine AW_iadd dX6_wordHere_48 ?_
      refine AW_bipush (v := 97) dX6_wordHere_49 (by decide) ?_
      refine AW_isub dX6_wordHere_51 ?_
      refine AW_iconst (v := 1) dX6_wordHere_52 (by decide) ?_
      refine AW_iadd dX6_wordHere_53 ?_
      obtain ⟨h28, h30⟩ := h24
      obtain ⟨m27, em27⟩ : ∃ z : Mem, z = mset m23 26 0 (upd (m23 26 0) a1.toNatClampNeg ((((10 * (m11 26 0 a1.toNatClampNeg)) + r26) - 97) + 1)) := ⟨_, rfl⟩
      have h29 := h30 m27 em27
      refine AW_iastore dX6_wordHere_54 rfl rfl h28 em27.symm ?_
      refine AW_aload_n dX6_wordHere_55 rfl ?_
      refine AW_dup dX6_wordHere_56 rfl ?_
      refine AW_getv (t := 19) (o := 0) (k := 18) none (v := aI (m27 19 0 18)) dX6_wordHere_57 ff_X6_186 rfl rfl rfl ?_
      refine AW_iconst (v := 1) dX6_wordHere_60 (by decide) ?_
      refine AW_iadd dX6_wordHere_61 ?_
      obtain ⟨m31, em31⟩ : ∃ z : Mem, z = mset m27 19 0 (upd (m27 19 0) 18 ((m27 19 0 18) + 1)) := ⟨_, rfl⟩
      have h32 := h29 m31 em31
      refine AW_putf (t := 19) (o := 0) (k := 18) dX6_wordHere_62 fp_X6_186 rfl rfl rfl rfl em31.symm ?_
      refine AW_iinc (v := a4 + 1) (loc' := [some (aR 19 0), some (aI a1), some (aI a2), some (aI a3), some (aI (a4 + 1))]) dX6_wordHere_65 rfl rfl (Nat.le_of_ble_eq_true rfl) rfl rfl ?_
      refine AW_goto (tgt := 10) dX6_wordHere_68 (by decide) ?_
      exact h32
set_option maxRecDepth 100000 in
theorem B_X6_orderHere_0  {μ : Mem} {P : RES → Mem → Prop}  (h : ∃ (r4 : Int32) (m1 : Mem), MetA M_X6_here [aR 19 0] μ (rI r4 m1) ∧ (vp_in (4 * (μ 19 0 20)) 124 ∧ (∀ m5 : Mem, m5 = mset m1 26 0 (upd (m1 26 0) (4 * (μ 19 0 20)).toNatClampNeg r4) → ∃ (r12 : Int32) (m9 : Mem), MetA M_X6_skips [aR 19 0, aI 101] m5 (rI r12 m9) ∧ ((¬ r12 = 0 → P (.inl (some (aI 1))) m9) ∧ (r12 = 0 → ∃ (r19 : Int32) (m16 : Mem), MetA M_X6_skips [aR 19 0, aI 100] m9 (rI r19 m16) ∧ ((r19 = 0 → ∃ (r26 : Int32) (m23 : Mem), MetA M_X6_skips [aR 19 0, aI 104] m16 (rI r26 m23) ∧ ((r26 = 0 → ∃ (r33 : Int32) (m30 : Mem), MetA M_X6_skips [aR 19 0, aI 115] m23 (rI r33 m30) ∧ ((r33 = 0 → ∃ (r40 : Int32) (m37 : Mem), MetA M_X6_skips [aR 19 0, aI 109] m30 (rI r40 m37) ∧ ((r40 = 0 → ∃ (r47 : Int32) (m44 : Mem), MetA M_X6_skips [aR 19 0, aI 108] m37 (rI r47 m44) ∧ ((¬ r47 = 0 → ∃ (r54 : Int32) (m51 : Mem), MetA M_X6_figures [aR 19 0, aI ((4 * (μ 19 0 20)) + 1), aI 1] m44 (rI r54 m51) ∧ ((r54 = 0 → P (.inl (some (aI 0))) m51) ∧ (¬ r54 = 0 → ∃ (r61 : Int32) (m58 : Mem), MetA M_X6_figures [aR 19 0, aI ((4 * (μ 19 0 20)) + 2), aI 1] m51 (rI r61 m58) ∧ ((r61 = 0 → P (.inl (some (aI 0))) m58) ∧ (¬ r61 = 0 → P (.inl (some (aI 1))) m58))))) ∧ (r47 = 0 → ∃ (r68 : Int32) (m65 : Mem), MetA M_X6_skips [aR 19 0, aI 99] m44 (rI r68 m65) ∧ ((¬ r68 = 0 → ∃ (r75 : Int32) (m72 : Mem), MetA M_X6_figures [aR 19 0, aI ((4 * (μ 19 0 20)) + 1), aI 1] m65 (rI r75 m72) ∧ ((r75 = 0 → P (.inl (some (aI 0))) m72) ∧ (¬ r75 = 0 → ∃ (r82 : Int32) (m79 : Mem), MetA M_X6_figures [aR 19 0, aI ((4 * (μ 19 0 20)) + 2), aI 1] m72 (rI r82 m79) ∧ ((r82 = 0 → P (.inl (some (aI 0))) m79) ∧ (¬ r82 = 0 → P (.inl (some (aI 1))) m79))))) ∧ (r68 = 0 → ∃ (r89 : Int32) (m86 : Mem), MetA M_X6_skips [aR 19 0, aI 114] m65 (rI r89 m86) ∧ ((r89 = 0 → ∃ (r96 : Int32) (m93 : Mem), MetA M_X6_skips [aR 19 0, aI 120] m86 (rI r96 m93) ∧ ((r96 = 0 → P (.inl (some (aI 0))) m93) ∧ (¬ r96 = 0 → ∃ (r103 : Int32) (m100 : Mem), MetA M_X6_figures [aR 19 0, aI ((4 * (μ 19 0 20)) + 1), aI 1] m93 (rI r103 m100) ∧ ((r103 = 0 → P (.inl (some (aI 0))) m100) ∧ (¬ r103 = 0 → P (.inl (some (aI 1))) m100))))) ∧ (¬ r89 = 0 → ∃ (r110 : Int32) (m107 : Mem), MetA M_X6_figures [aR 19 0, aI ((4 * (μ 19 0 20)) + 1), aI 1] m86 (rI r110 m107) ∧ ((r110 = 0 → P (.inl (some (aI 0))) m107) ∧ (¬ r110 = 0 → ∃ (r117 : Int32) (m114 : Mem), MetA M_X6_figures [aR 19 0, aI ((4 * (μ 19 0 20)) + 2), aI 1] m107 (rI r117 m114) ∧ ((r117 = 0 → P (.inl (some (aI 0))) m114) ∧ (¬ r117 = 0 → P (.inl (some (aI 1))) m114))))))))))) ∧ (¬ r40 = 0 → ∃ (r124 : Int32) (m121 : Mem), MetA M_X6_figures [aR 19 0, aI ((4 * (μ 19 0 20)) + 1), aI 1] m37 (rI r124 m121) ∧ ((r124 = 0 → P (.inl (some (aI 0))) m121) ∧ (¬ r124 = 0 → ∃ (r131 : Int32) (m128 : Mem), MetA M_X6_figures [aR 19 0, aI ((4 * (μ 19 0 20)) + 2), aI 1] m121 (rI r131 m128) ∧ ((r131 = 0 → P (.inl (some (aI 0))) m128) ∧ (¬ r131 = 0 → ∃ (r138 : Int32) (m135 : Mem), MetA M_X6_wordHere [aR 19 0, aI ((4 * (μ 19 0 20)) + 3), aI 1, aI 1] m128 (rI r138 m135) ∧ ((r138 = 0 → P (.inl (some (aI 0))) m135) ∧ (¬ r138 = 0 → P (.inl (some (aI 1))) m135))))))))) ∧ (¬ r33 = 0 → ∃ (r145 : Int32) (m142 : Mem), MetA M_X6_figures [aR 19 0, aI ((4 * (μ 19 0 20)) + 1), aI 1] m30 (rI r145 m142) ∧ ((r145 = 0 → P (.inl (some (aI 0))) m142) ∧ (¬ r145 = 0 → ∃ (r152 : Int32) (m149 : Mem), MetA M_X6_skips [aR 19 0, aI 61] m142 (rI r152 m149) ∧ ((r152 = 0 → P (.inl (some (aI 0))) m149) ∧ (¬ r152 = 0 → ∃ (r159 : Int32) (m156 : Mem), MetA M_X6_wordHere [aR 19 0, aI ((4 * (μ 19 0 20)) + 2), aI 3, aI 8] m149 (rI r159 m156) ∧ ((r159 = 0 → P (.inl (some (aI 0))) m156) ∧ (¬ r159 = 0 → P (.inl (some (aI 1))) m156))))))))) ∧ (¬ r26 = 0 → ∃ (r166 : Int32) (m163 : Mem), MetA M_X6_figures [aR 19 0, aI ((4 * (μ 19 0 20)) + 1), aI 2] m23 (rI r166 m163) ∧ (narrow .boolean (.int r166) = .int r166 ∧ P (.inl (some (aI r166))) m163)))) ∧ (¬ r19 = 0 → P (.inl (some (aI 1))) m16))))))) : AW M_X6_orderHere 0 0 [some (aR 19 0), none] [] μ P := by
  refine AW_iconst (v := 4) dX6_orderHere_0 (by decide) ?_
  refine AW_aload_n dX6_orderHere_1 rfl ?_
  refine AW_getv (t := 19) (o := 0) (k := 20) none (v := aI (μ 19 0 20)) dX6_orderHere_2 ff_X6_192 rfl rfl rfl ?_
  refine AW_imul dX6_orderHere_5 ?_
  refine AW_istore_n (loc' := [some (aR 19 0), some (aI (4 * (μ 19 0 20)))]) dX6_orderHere_6 (Nat.le_of_ble_eq_true rfl) rfl rfl ?_
  refine AW_aload_n dX6_orderHere_7 rfl ?_
  refine AW_getv (t := 19) (o := 0) (k := 19) (some (26, none)) (v := aR 26 0) dX6_orderHere_8 ff_X6_33 rfl rfl rfl ?_
  refine AW_iload_n dX6_orderHere_11 rfl ?_
  refine AW_aload_n dX6_orderHere_12 rfl ?_
  obtain ⟨r4, m1, h3, h2⟩ := h
  refine AW_callVI [] dX6_orderHere_13 cv_X6_189 rfl rfl rfl (by decide) rfl (by decide) (Nat.le_of_ble_eq_true rfl) h3 ?_
  obtain ⟨h6, h8⟩ := h2
  obtain ⟨m5, em5⟩ : ∃ z : Mem, z = mset m1 26 0 (upd (m1 26 0) (4 * (μ 19 0 20)).toNatClampNeg r4) := ⟨_, rfl⟩
  have h7 := h8 m5 em5
  refine AW_iastore dX6_orderHere_16 rfl rfl h6 em5.symm ?_
  refine AW_aload_n dX6_orderHere_17 rfl ?_
  refine AW_bipush (v := 101) dX6_orderHere_18 (by decide) ?_
  obtain ⟨r12, m9, h11, h10⟩ := h7
  refine AW_callVI [aI 101] dX6_orderHere_20 cv_X6_195 rfl rfl rfl (by decide) rfl (by decide) (Nat.le_of_ble_eq_true rfl) h11 ?_
  refine AW_if_ne (tgt := 35) dX6_orderHere_23 (by decide) (fun q15 => ?_) (fun q15 => ?_)
  · have h13 := h10.1 q15
    refine AW_iconst (v := 1) dX6_orderHere_35 (by decide) ?_
    exact AW_ireturn (ty := .boolean) dX6_orderHere_36 rfl rfl h13
  · have h14 := h10.2 q15
    refine AW_aload_n dX6_orderHere_26 rfl ?_
    refine AW_bipush (v := 100) dX6_orderHere_27 (by decide) ?_
    obtain ⟨r19, m16, h18, h17⟩ := h14
    refine AW_callVI [aI 100] dX6_orderHere_29 cv_X6_195 rfl rfl rfl (by decide) rfl (by decide) (Nat.le_of_ble_eq_true rfl) h18 ?_
    refine AW_if_eq (tgt := 37) dX6_orderHere_32 (by decide) (fun q22 => ?_) (fun q22 => ?_)
    · have h20 := h17.1 q22
      refine AW_aload_n dX6_orderHere_37 rfl ?_
      refine AW_bipush (v := 104) dX6_orderHere_38 (by decide) ?_
      obtain ⟨r26, m23, h25, h24⟩ := h20
      refine AW_callVI [aI 104] dX6_orderHere_40 cv_X6_195 rfl rfl rfl (by decide) rfl (by decide) (Nat.le_of_ble_eq_true rfl) h25 ?_
      refine AW_if_eq (tgt := 55) dX6_orderHere_43 (by decide) (fun q29 => ?_) (fun q29 => ?_)
      · have h27 := h24.1 q29
        refine AW_aload_n dX6_orderHere_55 rfl ?_
        refine AW_bipush (v := 115) dX6_orderHere_56 (by decide) ?_
        obtain ⟨r33, m30, h32, h31⟩ := h27
        refine AW_callVI [aI 115] dX6_orderHere_58 cv_X6_195 rfl rfl rfl (by decide) rfl (by decide) (Nat.le_of_ble_eq_true rfl) h32 ?_
        refine AW_if_eq (tgt := 103) dX6_orderHere_61 (by decide) (fun q36 => ?_) (fun q36 => ?_)
        · have h34 := h31.1 q36
          refine AW_aload_n dX6_orderHere_103 rfl ?_
          refine AW_bipush (v := 109) dX6_orderHere_104 (by decide) ?_
          obtain ⟨r40, m37, h39, h38⟩ := h34
          refine AW_callVI [aI 109] dX6_orderHere_106 cv_X6_195 rfl rfl rfl (by decide) rfl (by decide) (Nat.le_of_ble_eq_true rfl) h39 ?_
          refine AW_if_eq (tgt := 152) dX6_orderHere_109 (by decide) (fun q43 => ?_) (fun q43 => ?_)
          · have h41 := h38.1 q43
            refine AW_aload_n dX6_orderHere_152 rfl ?_
            refine AW_bipush (v := 108) dX6_orderHere_153 (by decide) ?_
            obtain ⟨r47, m44, h46, h45⟩ := h41
            refine AW_callVI [aI 108] dX6_orderHere_155 cv_X6_195 rfl rfl rfl (by decide) rfl (by decide) (Nat.le_of_ble_eq_true rfl) h46 ?_
            refine AW_if_ne (tgt := 179) dX6_orderHere_158 (by decide) (fun q50 => ?_) (fun q50 => ?_)
            · have h48 := h45.1 q50
              refine AW_aload_n dX6_orderHere_179 rfl ?_
              refine AW_iload_n dX6_orderHere_180 rfl ?_
              refine AW_iconst (v := 1) dX6_orderHere_181 (by decide) ?_
              refine AW_iadd dX6_orderHere_182 ?_
              refine AW_iconst (v := 1) dX6_orderHere_183 (by decide) ?_
              obtain ⟨r54, m51, h53, h52⟩ := h48
              refine AW_callVI [aI ((4 * (μ 19 0 20)) + 1), aI 1] dX6_orderHere_184 cv_X6_198 rfl rfl rfl (by decide) rfl (by decide) (Nat.le_of_ble_eq_true rfl) h53 ?_
              refine AW_if_eq (tgt := 205) dX6_orderHere_187 (by decide) (fun q57 => ?_) (fun q57 => ?_)
              · have h55 := h52.1 q57
                refine AW_iconst (v := 0) dX6_orderHere_205 (by decide) ?_
                exact AW_ireturn (ty := .boolean) dX6_orderHere_206 rfl rfl h55
              · have h56 := h52.2 q57
                refine AW_aload_n dX6_orderHere_190 rfl ?_
                refine AW_iload_n dX6_orderHere_191 rfl ?_
                refine AW_iconst (v := 2) dX6_orderHere_192 (by decide) ?_
                refine AW_iadd dX6_orderHere_193 ?_
                refine AW_iconst (v := 1) dX6_orderHere_194 (by decide) ?_
                obtain ⟨r61, m58, h60, h59⟩ := h56
                refine AW_callVI [aI ((4 * (μ 19 0 20)) + 2), aI 1] dX6_orderHere_195 cv_X6_198 rfl rfl rfl (by decide) rfl (by decide) (Nat.le_of_ble_eq_true rfl) h60 ?_
                refine AW_if_eq (tgt := 205) dX6_orderHere_198 (by decide) (fun q64 => ?_) (fun q64 => ?_)
                · have h62 := h59.1 q64
                  refine AW_iconst (v := 0) dX6_orderHere_205 (by decide) ?_
                  exact AW_ireturn (ty := .boolean) dX6_orderHere_206 rfl rfl h62
                · have h63 := h59.2 q64
                  refine AW_iconst (v := 1) dX6_orderHere_201 (by decide) ?_
                  refine AW_goto (tgt := 206) dX6_orderHere_202 (by decide) ?_
                  exact AW_ireturn (ty := .boolean) dX6_orderHere_206 rfl rfl h63
            · have h49 := h45.2 q50
              refine AW_aload_n dX6_orderHere_161 rfl ?_
              refine AW_bipush (v := 99) dX6_orderHere_162 (by decide) ?_
              obtain ⟨r68, m65, h67, h66⟩ := h49
              refine AW_callVI [aI 99] dX6_orderHere_164 cv_X6_195 rfl rfl rfl (by decide) rfl (by decide) (Nat.le_of_ble_eq_true rfl) h67 ?_
              refine AW_if_ne (tgt := 179) dX6_orderHere_167 (by decide) (fun q71 => ?_) (fun q71 => ?_)
              · have h69 := h66.1 q71
                refine AW_aload_n dX6_orderHere_179 rfl ?_
                refine AW_iload_n dX6_orderHere_180 rfl ?_
                refine AW_iconst (v := 1) dX6_orderHere_181 (by decide) ?_
                refine AW_iadd dX6_orderHere_182 ?_
                refine AW_iconst (v := 1) dX6_orderHere_183 (by decide) ?_
                obtain ⟨r75, m72, h74, h73⟩ := h69
                refine AW_callVI [aI ((4 * (μ 19 0 20)) + 1), aI 1] dX6_orderHere_184 cv_X6_198 rfl rfl rfl (by decide) rfl (by decide) (Nat.le_of_ble_eq_true rfl) h74 ?_
                refine AW_if_eq (tgt := 205) dX6_orderHere_187 (by decide) (fun q78 => ?_) (fun q78 => ?_)
                · have h76 := h73.1 q78
                  refine AW_iconst (v := 0) dX6_orderHere_205 (by decide) ?_
                  exact AW_ireturn (ty := .boolean) dX6_orderHere_206 rfl rfl h76
                · have h77 := h73.2 q78
                  refine AW_aload_n dX6_orderHere_190 rfl ?_
                  refine AW_iload_n dX6_orderHere_191 rfl ?_
                  refine AW_iconst (v := 2) dX6_orderHere_192 (by decide) ?_
                  refine AW_iadd dX6_orderHere_193 ?_
                  refine AW_iconst (v := 1) dX6_orderHere_194 (by decide) ?_
                  obtain ⟨r82, m79, h81, h80⟩ := h77
                  refine AW_callVI [aI ((4 * (μ 19 0 20)) + 2), aI 1] dX6_orderHere_195 cv_X6_198 rfl rfl rfl (by decide) rfl (by decide) (Nat.le_of_ble_eq_true rfl) h81 ?_
                  refine AW_if_eq (tgt := 205) dX6_orderHere_198 (by decide) (fun q85 => ?_) (fun q85 => ?_)
                  · have h83 := h80.1 q85
                    refine AW_iconst (v := 0) dX6_orderHere_205 (by decide) ?_
                    exact AW_ireturn (ty := .boolean) dX6_orderHere_206 rfl rfl h83
                  · have h84 := h80.2 q85
                    refine AW_iconst (v := 1) dX6_orderHere_201 (by decide) ?_
                    refine AW_goto (tgt := 206) dX6_orderHere_202 (by decide) ?_
                    exact AW_ireturn (ty := .boolean) dX6_orderHere_206 rfl rfl h84
              · have h70 := h66.2 q71
                refine AW_aload_n dX6_orderHere_170 rfl ?_
                refine AW_bipush (v := 114) dX6_orderHere_171 (by decide) ?_
                obtain ⟨r89, m86, h88, h87⟩ := h70
                refine AW_callVI [aI 114] dX6_orderHere_173 cv_X6_195 rfl rfl rfl (by decide) rfl (by decide) (Nat.le_of_ble_eq_true rfl) h88 ?_
                refine AW_if_eq (tgt := 207) dX6_orderHere_176 (by decide) (fun q92 => ?_) (fun q92 => ?_)
                · have h90 := h87.1 q92
                  refine AW_aload_n dX6_orderHere_207 rfl ?_
                  refine AW_bipush (v := 120) dX6_orderHere_208 (by decide) ?_
                  obtain ⟨r96, m93, h95, h94⟩ := h90
                  refine AW_callVI [aI 120] dX6_orderHere_210 cv_X6_195 rfl rfl rfl (by decide) rfl (by decide) (Nat.le_of_ble_eq_true rfl) h95 ?_
                  refine AW_if_eq (tgt := 231) dX6_orderHere_213 (by decide) (fun q99 => ?_) (fun q99 => ?_)
                  · have h97 := h94.1 q99
                    refine AW_iconst (v := 0) dX6_orderHere_231 (by decide) ?_
                    exact AW_ireturn (ty := .boolean) dX6_orderHere_232 rfl rfl h97
                  · have h98 := h94.2 q99
                    refine AW_aload_n dX6_orderHere_216 rfl ?_
                    refine AW_iload_n dX6_orderHere_217 rfl ?_
                    refine AW_iconst (v := 1) dX6_orderHere_218 (by decide) ?_
                    refine AW_iadd dX6_orderHere_219 ?_
                    refine AW_iconst (v := 1) dX6_orderHere_220 (by decide) ?_
                    obtain ⟨r103, m100, h102, h101⟩ := h98
                    refine AW_callVI [aI ((4 * (μ 19 0 20)) + 1), aI 1] dX6_orderHere_221 cv_X6_198 rfl rfl rfl (by decide) rfl (by decide) (Nat.le_of_ble_eq_true rfl) h102 ?_
                    refine AW_if_eq (tgt := 231) dX6_orderHere_224 (by decide) (fun q106 => ?_) (fun q106 => ?_)
                    · have h104 := h101.1 q106
                      refine AW_iconst (v := 0) dX6_orderHere_231 (by decide) ?_
                      exact AW_ireturn (ty := .boolean) dX6_orderHere_232 rfl rfl h104
                    · have h105 := h101.2 q106
                      refine AW_iconst (v := 1) dX6_orderHere_227 (by decide) ?_
                      refine AW_goto (tgt := 232) dX6_orderHere_228 (by decide) ?_
                      exact AW_ireturn (ty := .boolean) dX6_orderHere_232 rfl rfl h105
                · have h91 := h87.2 q92
                  refine AW_aload_n dX6_orderHere_179 rfl ?_
                  refine AW_iload_n dX6_orderHere_180 rfl ?_
                  refine AW_iconst (v := 1) dX6_orderHere_181 (by decide) ?_
                  refine AW_iadd dX6_orderHere_182 ?_
                  refine AW_iconst (v := 1) dX6_orderHere_183 (by decide) ?_
                  obtain ⟨r110, m107, h109, h108⟩ := h91
                  refine AW_callVI [aI ((4 * (μ 19 0 20)) + 1), aI 1] dX6_orderHere_184 cv_X6_198 rfl rfl rfl (by decide) rfl (by decide) (Nat.le_of_ble_eq_true rfl) h109 ?_
                  refine AW_if_eq (tgt := 205) dX6_orderHere_187 (by decide) (fun q113 => ?_) (fun q113 => ?_)
                  · have h111 := h108.1 q113
                    refine AW_iconst (v := 0) dX6_orderHere_205 (by decide) ?_
                    exact AW_ireturn (ty := .boolean) dX6_orderHere_206 rfl rfl h111
                  · have h112 := h108.2 q113
                    refine AW_aload_n dX6_orderHere_190 rfl ?_
                    refine AW_iload_n dX6_orderHere_191 rfl ?_
                    refine AW_iconst (v := 2) dX6_orderHere_192 (by decide) ?_
                    refine AW_iadd dX6_orderHere_193 ?_
                    refine AW_iconst (v := 1) dX6_orderHere_194 (by decide) ?_
                    obtain ⟨r117, m114, h116, h115⟩ := h112
                    refine AW_callVI [aI ((4 * (μ 19 0 20)) + 2), aI 1] dX6_orderHere_195 cv_X6_198 rfl rfl rfl (by decide) rfl (by decide) (Nat.le_of_ble_eq_true rfl) h116 ?_
                    refine AW_if_eq (tgt := 205) dX6_orderHere_198 (by decide) (fun q120 => ?_) (fun q120 => ?_)
                    · have h118 := h115.1 q120
                      refine AW_iconst (v := 0) dX6_orderHere_205 (by decide) ?_
                      exact AW_ireturn (ty := .boolean) dX6_orderHere_206 rfl rfl h118
                    · have h119 := h115.2 q120
                      refine AW_iconst (v := 1) dX6_orderHere_201 (by decide) ?_
                      refine AW_goto (tgt := 206) dX6_orderHere_202 (by decide) ?_
                      exact AW_ireturn (ty := .boolean) dX6_orderHere_206 rfl rfl h119
          · have h42 := h38.2 q43
            refine AW_aload_n dX6_orderHere_112 rfl ?_
            refine AW_iload_n dX6_orderHere_113 rfl ?_
            refine AW_iconst (v := 1) dX6_orderHere_114 (by decide) ?_
            refine AW_iadd dX6_orderHere_115 ?_
            refine AW_iconst (v := 1) dX6_orderHere_116 (by decide) ?_
            obtain ⟨r124, m121, h123, h122⟩ := h42
            refine AW_callVI [aI ((4 * (μ 19 0 20)) + 1), aI 1] dX6_orderHere_117 cv_X6_198 rfl rfl rfl (by decide) rfl (by decide) (Nat.le_of_ble_eq_true rfl) h123 ?_
            refine AW_if_eq (tgt := 150) dX6_orderHere_120 (by decide) (fun q127 => ?_) (fun q127 => ?_)
            · have h125 := h122.1 q127
              refine AW_iconst (v := 0) dX6_orderHere_150 (by decide) ?_
              exact AW_ireturn (ty := .boolean) dX6_orderHere_151 rfl rfl h125
            · have h126 := h122.2 q127
              refine AW_aload_n dX6_orderHere_123 rfl ?_
              refine AW_iload_n dX6_orderHere_124 rfl ?_
              refine AW_iconst (v := 2) dX6_orderHere_125 (by decide) ?_
              refine AW_iadd dX6_orderHere_126 ?_
              refine AW_iconst (v := 1) dX6_orderHere_127 (by decide) ?_
              obtain ⟨r131, m128, h130, h129⟩ := h126
              refine AW_callVI [aI ((4 * (μ 19 0 20)) + 2), aI 1] dX6_orderHere_128 cv_X6_198 rfl rfl rfl (by decide) rfl (by decide) (Nat.le_of_ble_eq_true rfl) h130 ?_
              refine AW_if_eq (tgt := 150) dX6_orderHere_131 (by decide) (fun q134 => ?_) (fun q134 => ?_)
              · have h132 := h129.1 q134
                refine AW_iconst (v := 0) dX6_orderHere_150 (by decide) ?_
                exact AW_ireturn (ty := .boolean) dX6_orderHere_151 rfl rfl h132
              · have h133 := h129.2 q134
                refine AW_aload_n dX6_orderHere_134 rfl ?_
                refine AW_iload_n dX6_orderHere_135 rfl ?_
                refine AW_iconst (v := 3) dX6_orderHere_136 (by decide) ?_
                refine AW_iadd dX6_orderHere_137 ?_
                refine AW_iconst (v := 1) dX6_orderHere_138 (by decide) ?_
                refine AW_iconst (v := 1) dX6_orderHere_139 (by decide) ?_
                obtain ⟨r138, m135, h137, h136⟩ := h133
                refine AW_callVI [aI ((4 * (μ 19 0 20)) + 3), aI 1, aI 1] dX6_orderHere_140 cv_X6_201 rfl rfl rfl (by decide) rfl (by decide) (Nat.le_of_ble_eq_true rfl) h137 ?_
                refine AW_if_eq (tgt := 150) dX6_orderHere_143 (by decide) (fun q141 => ?_) (fun q141 => ?_)
                · have h139 := h136.1 q141
                  refine AW_iconst (v := 0) dX6_orderHere_150 (by decide) ?_
                  exact AW_ireturn (ty := .boolean) dX6_orderHere_151 rfl rfl h139
                · have h140 := h136.2 q141
                  refine AW_iconst (v := 1) dX6_orderHere_146 (by decide) ?_
                  refine AW_goto (tgt := 151) dX6_orderHere_147 (by decide) ?_
                  exact AW_ireturn (ty := .boolean) dX6_orderHere_151 rfl rfl h140
        · have h35 := h31.2 q36
          refine AW_aload_n dX6_orderHere_64 rfl ?_
          refine AW_iload_n dX6_orderHere_65 rfl ?_
          refine AW_iconst (v := 1) dX6_orderHere_66 (by decide) ?_
          refine AW_iadd dX6_orderHere_67 ?_
          refine AW_iconst (v := 1) dX6_orderHere_68 (by decide) ?_
          obtain ⟨r145, m142, h144, h143⟩ := h35
          refine AW_callVI [aI ((4 * (μ 19 0 20)) + 1), aI 1] dX6_orderHere_69 cv_X6_198 rfl rfl rfl (by decide) rfl (by decide) (Nat.le_of_ble_eq_true rfl) h144 ?_
          refine AW_if_eq (tgt := 101) dX6_orderHere_72 (by decide) (fun q148 => ?_) (fun q148 => ?_)
          · have h146 := h143.1 q148
            refine AW_iconst (v := 0) dX6_orderHere_101 (by decide) ?_
            exact AW_ireturn (ty := .boolean) dX6_orderHere_102 rfl rfl h146
          · have h147 := h143.2 q148
            refine AW_aload_n dX6_orderHere_75 rfl ?_
            refine AW_bipush (v := 61) dX6_orderHere_76 (by decide) ?_
            obtain ⟨r152, m149, h151, h150⟩ := h147
            refine AW_callVI [aI 61] dX6_orderHere_78 cv_X6_195 rfl rfl rfl (by decide) rfl (by decide) (Nat.le_of_ble_eq_true rfl) h151 ?_
            refine AW_if_eq (tgt := 101) dX6_orderHere_81 (by decide) (fun q155 => ?_) (fun q155 => ?_)
            · have h153 := h150.1 q155
              refine AW_iconst (v := 0) dX6_orderHere_101 (by decide) ?_
              exact AW_ireturn (ty := .boolean) dX6_orderHere_102 rfl rfl h153
            · have h154 := h150.2 q155
              refine AW_aload_n dX6_orderHere_84 rfl ?_
              refine AW_iload_n dX6_orderHere_85 rfl ?_
              refine AW_iconst (v := 2) dX6_orderHere_86 (by decide) ?_
              refine AW_iadd dX6_orderHere_87 ?_
              refine AW_iconst (v := 3) dX6_orderHere_88 (by decide) ?_
              refine AW_bipush (v := 8) dX6_orderHere_89 (by decide) ?_
              obtain ⟨r159, m156, h158, h157⟩ := h154
              refine AW_callVI [aI ((4 * (μ 19 0 20)) + 2), aI 3, aI 8] dX6_orderHere_91 cv_X6_201 rfl rfl rfl (by decide) rfl (by decide) (Nat.le_of_ble_eq_true rfl) h158 ?_
              refine AW_if_eq (tgt := 101) dX6_orderHere_94 (by decide) (fun q162 => ?_) (fun q162 => ?_)
              · have h160 := h157.1 q162
                refine AW_iconst (v := 0) dX6_orderHere_101 (by decide) ?_
                exact AW_ireturn (ty := .boolean) dX6_orderHere_102 rfl rfl h160
              · have h161 := h157.2 q162
                refine AW_iconst (v := 1) dX6_orderHere_97 (by decide) ?_
                refine AW_goto (tgt := 102) dX6_orderHere_98 (by decide) ?_
                exact AW_ireturn (ty := .boolean) dX6_orderHere_102 rfl rfl h161
      · have h28 := h24.2 q29
        refine AW_aload_n dX6_orderHere_46 rfl ?_
        refine AW_iload_n dX6_orderHere_47 rfl ?_
        refine AW_iconst (v := 1) dX6_orderHere_48 (by decide) ?_
        refine AW_iadd dX6_orderHere_49 ?_
        refine AW_iconst (v := 2) dX6_orderHere_50 (by decide) ?_
        obtain ⟨r166, m163, h165, h164⟩ := h28
        refine AW_callVI [aI ((4 * (μ 19 0 20)) + 1), aI 2] dX6_orderHere_51 cv_X6_198 rfl rfl rfl (by decide) rfl (by decide) (Nat.le_of_ble_eq_true rfl) h165 ?_
        obtain ⟨h167, h168⟩ := h164
        exact AW_ireturn (ty := .boolean) dX6_orderHere_54 rfl h167 h168
    · have h21 := h17.2 q22
      refine AW_iconst (v := 1) dX6_orderHere_35 (by decide) ?_
      exact AW_ireturn (ty := .boolean) dX6_orderHere_36 rfl rfl h21
set_option maxRecDepth 100000 in
theorem B_X6_isText_0  {μ : Mem} {P : RES → Mem → Prop}  (h : ∀ m1 : Mem, m1 = mset μ 19 0 (upd (μ 19 0) 18 0) → ∀ m4 : Mem, m4 = mset m1 19 0 (upd (m1 19 0) 20 0) → AW M_X6_isText 0 10 [some (aR 19 0)] [] m4 P) : AW M_X6_isText 0 0 [some (aR 19 0)] [] μ P := by
  refine AW_aload_n dX6_isText_0 rfl ?_
  refine AW_iconst (v := 0) dX6_isText_1 (by decide) ?_
  obtain ⟨m1, em1⟩ : ∃ z : Mem, z = mset μ 19 0 (upd (μ 19 0) 18 0) := ⟨_, rfl⟩
  have h2 := h m1 em1
  refine AW_putf (t := 19) (o := 0) (k := 18) dX6_isText_2 fp_X6_186 rfl rfl rfl rfl em1.symm ?_
  refine AW_aload_n dX6_isText_5 rfl ?_
  refine AW_iconst (v := 0) dX6_isText_6 (by decide) ?_
  obtain ⟨m4, em4⟩ : ∃ z : Mem, z = mset m1 19 0 (upd (m1 19 0) 20 0) := ⟨_, rfl⟩
  have h5 := h2 m4 em4
  refine AW_putf (t := 19) (o := 0) (k := 20) dX6_isText_7 fp_X6_192 rfl rfl rfl rfl em4.symm ?_
  exact h5
set_option maxRecDepth 100000 in
theorem B_X6_isText_10  {μ : Mem} {P : RES → Mem → Prop}  (h : ∃ (r4 : Int32) (m1 : Mem), MetA M_X6_orderHere [aR 19 0] μ (rI r4 m1) ∧ ((¬ r4 = 0 → ∀ m8 : Mem, m8 = mset m1 19 0 (upd (m1 19 0) 20 ((m1 19 0 20) + 1)) → ∃ (r14 : Int32) (m11 : Mem), MetA M_X6_skips [aR 19 0, aI 59] m8 (rI r14 m11) ∧ ((¬ r14 = 0 → AW M_X6_isText 0 10 [some (aR 19 0)] [] m11 P) ∧ (r14 = 0 → (¬ (m11 19 0 18) = (m11 19 0 14) → P (.inl (some (aI 0))) m11) ∧ ((m11 19 0 18) = (m11 19 0 14) → P (.inl (some (aI 1))) m11)))) ∧ (r4 = 0 → P (.inl (some (aI 0))) m1))) : AW M_X6_isText 0 10 [some (aR 19 0)] [] μ P := by
  refine AW_aload_n dX6_isText_10 rfl ?_
  obtain ⟨r4, m1, h3, h2⟩ := h
  refine AW_callVI [] dX6_isText_11 cv_X6_204 rfl rfl rfl (by decide) rfl (by decide) (Nat.le_of_ble_eq_true rfl) h3 ?_
  refine AW_if_ne (tgt := 19) dX6_isText_14 (by decide) (fun q7 => ?_) (fun q7 => ?_)
  · have h5 := h2.1 q7
    refine AW_aload_n dX6_isText_19 rfl ?_
    refine AW_dup dX6_isText_20 rfl ?_
    refine AW_getv (t := 19) (o := 0) (k := 20) none (v := aI (m1 19 0 20)) dX6_isText_21 ff_X6_192 rfl rfl rfl ?_
    refine AW_iconst (v := 1) dX6_isText_24 (by decide) ?_
    refine AW_iadd dX6_isText_25 ?_
    obtain ⟨m8, em8⟩ : ∃ z : Mem, z = mset m1 19 0 (upd (m1 19 0) 20 ((m1 19 0 20) + 1)) := ⟨_, rfl⟩
    have h9 := h5 m8 em8
    refine AW_putf (t := 19) (o := 0) (k := 20) dX6_isText_26 fp_X6_192 rfl rfl rfl rfl em8.symm ?_
    refine AW_aload_n dX6_isText_29 rfl ?_
    refine AW_bipush (v := 59) dX6_isText_30 (by decide) ?_
    obtain ⟨r14, m11, h13, h12⟩ := h9
    refine AW_callVI [aI 59] dX6_isText_32 cv_X6_195 rfl rfl rfl (by decide) rfl (by decide) (Nat.le_of_ble_eq_true rfl) h13 ?_
    refine AW_if_ne (tgt := 10) dX6_isText_35 (by decide) (fun q17 => ?_) (fun q17 => ?_)
    · have h15 := h12.1 q17
      exact h15
    · have h16 := h12.2 q17
      refine AW_aload_n dX6_isText_38 rfl ?_
      refine AW_getv (t := 19) (o := 0) (k := 18) none (v := aI (m11 19 0 18)) dX6_isText_39 ff_X6_186 rfl rfl rfl ?_
      refine AW_aload_n dX6_isText_42 rfl ?_
      refine AW_getv (t := 19) (o := 0) (k := 14) none (v := aI (m11 19 0 14)) dX6_isText_43 ff_X6_183 rfl rfl rfl ?_
      refine AW_icmp_ne (tgt := 53) dX6_isText_46 (by decide) (fun q20 => ?_) (fun q20 => ?_)
      · have h18 := h16.1 q20
        refine AW_iconst (v := 0) dX6_isText_53 (by decide) ?_
        exact AW_ireturn (ty := .boolean) dX6_isText_54 rfl rfl h18
      · have h19 := h16.2 q20
        refine AW_iconst (v := 1) dX6_isText_49 (by decide) ?_
        refine AW_goto (tgt := 54) dX6_isText_50 (by decide) ?_
        exact AW_ireturn (ty := .boolean) dX6_isText_54 rfl rfl h19
  · have h6 := h2.2 q7
    refine AW_iconst (v := 0) dX6_isText_17 (by decide) ?_
    exact AW_ireturn (ty := .boolean) dX6_isText_18 rfl rfl h6
set_option maxRecDepth 100000 in
theorem B_X6_carries_0 {a1 : Int32} {μ : Mem} {P : RES → Mem → Prop}  (h : vp_in (a1 + 1) 124 ∧ (vp_in (a1 + 2) 124 ∧ (vp_in a1 124 ∧ (((μ 26 0 a1.toNatClampNeg).toInt = 99 → ∃ (r12 : Int32) (m9 : Mem), MetA M_X6_correct [aR 19 0, aI (μ 26 0 (a1 + 1).toNatClampNeg), aI (μ 26 0 (a1 + 2).toNatClampNeg)] μ (rI r12 m9) ∧ (P (.inl (some (aI r12))) m9)) ∧ ((μ 26 0 a1.toNatClampNeg).toInt = 101 → ∃ (r17 : Int32) (m14 : Mem), MetA M_X6_edition [aR 19 0] μ (rI r17 m14) ∧ (P (.inl (some (aI r17))) m14)) ∧ ((μ 26 0 a1.toNatClampNeg).toInt = 104 → ∃ (r22 : Int32) (m19 : Mem), MetA M_X6_house [aR 19 0, aI (μ 26 0 (a1 + 1).toNatClampNeg)] μ (rI r22 m19) ∧ (P (.inl (some (aI r22))) m19)) ∧ ((μ 26 0 a1.toNatClampNeg).toInt = 108 → ∃ (r27 : Int32) (m24 : Mem), MetA M_X6_license [aR 19 0, aI (μ 26 0 (a1 + 1).toNatClampNeg), aI (μ 26 0 (a1 + 2).toNatClampNeg)] μ (rI r27 m24) ∧ (P (.inl (some (aI r27))) m24)) ∧ ((μ 26 0 a1.toNatClampNeg).toInt = 109 → vp_in (a1 + 3) 124 ∧ (∃ (r34 : Int32) (m31 : Mem), MetA M_X6_set [aR 19 0, aI (μ 26 0 (a1 + 1).toNatClampNeg), aI (μ 26 0 (a1 + 2).toNatClampNeg), aI (((96 + (μ 26 0 (a1 + 3).toNatClampNeg)).toUInt32 % 65536).toInt32)] μ (rI r34 m31) ∧ (P (.inl (some (aI r34))) m31))) ∧ ((μ 26 0 a1.toNatClampNeg).toInt = 114 → ∃ (r39 : Int32) (m36 : Mem), MetA M_X6_reader [aR 19 0, aI (μ 26 0 (a1 + 1).toNatClampNeg), aI (μ 26 0 (a1 + 2).toNatClampNeg)] μ (rI r39 m36) ∧ (P (.inl (some (aI r39))) m36)) ∧ ((μ 26 0 a1.toNatClampNeg).toInt = 115 → ∃ (r44 : Int32) (m41 : Mem), MetA M_X6_sheet [aR 19 0, aI (μ 26 0 (a1 + 1).toNatClampNeg), aI (μ 26 0 (a1 + 2).toNatClampNeg)] μ (rI r44 m41) ∧ (P (.inl (some (aI r44))) m41)) ∧ ((μ 26 0 a1.toNatClampNeg).toInt = 120 → ∃ (r49 : Int32) (m46 : Mem), MetA M_X6_take [aR 19 0, aI (μ 26 0 (a1 + 1).toNatClampNeg)] μ (rI r49 m46) ∧ (P (.inl (some (aI r49))) m46)) ∧ (¬ (μ 26 0 a1.toNatClampNeg).toInt = 99 → ¬ (μ 26 0 a1.toNatClampNeg).toInt = 101 → ¬ (μ 26 0 a1.toNatClampNeg).toInt = 104 → ¬ (μ 26 0 a1.toNatClampNeg).toInt = 108 → ¬ (μ 26 0 a1.toNatClampNeg).toInt = 109 → ¬ (μ 26 0 a1.toNatClampNeg).toInt = 114 → ¬ (μ 26 0 a1.toNatClampNeg).toInt = 115 → ¬ (μ 26 0 a1.toNatClampNeg).toInt = 120 → ∃ (r54 : Int32) (m51 : Mem), MetA M_X6_day [aR 19 0] μ (rI r54 m51) ∧ (P (.inl (some (aI r54))) m51)))))) : AW M_X6_carries 0 0 [some (aR 19 0), some (aI a1), none, none] [] μ P := by
  refine AW_aload_n dX6_carries_0 rfl ?_
  refine AW_getv (t := 19) (o := 0) (k := 19) (some (26, none)) (v := aR 26 0) dX6_carries_1 ff_X6_33 rfl rfl rfl ?_
  refine AW_iload_n dX6_carries_4 rfl ?_
  refine AW_iconst (v := 1) dX6_carries_5 (by decide) ?_
  refine AW_iadd dX6_carries_6 ?_
  obtain ⟨h1, h2⟩ := h
  refine AW_iaload dX6_carries_7 rfl rfl h1 ?_
  refine AW_istore_n (loc' := [some (aR 19 0), some (aI a1), some (aI (μ 26 0 (a1 + 1).toNatClampNeg)), none]) dX6_carries_8 (Nat.le_of_ble_eq_true rfl) rfl rfl ?_
  refine AW_aload_n dX6_carries_9 rfl ?_
  refine AW_getv (t := 19) (o := 0) (k := 19) (some (26, none)) (v := aR 26 0) dX6_carries_10 ff_X6_33 rfl rfl rfl ?_
  refine AW_iload_n dX6_carries_13 rfl ?_
  refine AW_iconst (v := 2) dX6_carries_14 (by decide) ?_
  refine AW_iadd dX6_carries_15 ?_
  obtain ⟨h3, h4⟩ := h2
  refine AW_iaload dX6_carries_16 rfl rfl h3 ?_
  refine AW_istore_n (loc' := [some (aR 19 0), some (aI a1), some (aI (μ 26 0 (a1 + 1).toNatClampNeg)), some (aI (μ 26 0 (a1 + 2).toNatClampNeg))]) dX6_carries_17 (Nat.le_of_ble_eq_true rfl) rfl rfl ?_
  refine AW_aload_n dX6_carries_18 rfl ?_
  refine AW_getv (t := 19) (o := 0) (k := 19) (some (26, none)) (v := aR 26 0) dX6_carries_19 ff_X6_33 rfl rfl rfl ?_
  refine AW_iload_n dX6_carries_22 rfl ?_
  obtain ⟨h5, h6⟩ := h4
  refine AW_iaload dX6_carries_23 rfl rfl h5 ?_
  obtain ⟨g55, g56, g57, g58, g59, g60, g61, g62, g63⟩ := h6
  have hdf : (¬ (μ 26 0 a1.toNatClampNeg).toInt = 99 → ¬ (μ 26 0 a1.toNatClampNeg).toInt = 101 → ¬ (μ 26 0 a1.toNatClampNeg).toInt = 104 → ¬ (μ 26 0 a1.toNatClampNeg).toInt = 108 → ¬ (μ 26 0 a1.toNatClampNeg).toInt = 109 → ¬ (μ 26 0 a1.toNatClampNeg).toInt = 114 → ¬ (μ 26 0 a1.toNatClampNeg).toInt = 115 → ¬ (μ 26 0 a1.toNatClampNeg).toInt = 120 → AW M_X6_carries 0 192 [some (aR 19 0), some (aI a1), some (aI (μ 26 0 (a1 + 1).toNatClampNeg)), some (aI (μ 26 0 (a1 + 2).toNatClampNeg))] [] μ P) := by
    intro z0 z1 z2 z3 z4 z5 z6 z7
    have h50 := g63 z0 z1 z2 z3 z4 z5 z6 z7
    refine AW_aload_n dX6_carries_192 rfl ?_
    obtain ⟨r54, m51, h53, h52⟩ := h50
    refine AW_callVI [] dX6_carries_193 cv_X6_233 rfl rfl rfl (by decide) rfl (by decide) (Nat.le_of_ble_eq_true rfl) h53 ?_
    exact AW_ireturn (ty := .int) dX6_carries_196 rfl rfl h52
  have ho143 : ((μ 26 0 a1.toNatClampNeg).toInt = 99 → AW M_X6_carries 0 167 [some (aR 19 0), some (aI a1), some (aI (μ 26 0 (a1 + 1).toNatClampNeg)), some (aI (μ 26 0 (a1 + 2).toNatClampNeg))] [] μ P) := by
    intro z
    have h8 := g55 z
    refine AW_aload_n dX6_carries_167 rfl ?_
    refine AW_iload_n dX6_carries_168 rfl ?_
    refine AW_iload_n dX6_carries_169 rfl ?_
    obtain ⟨r12, m9, h11, h10⟩ := h8
    refine AW_callVI [aI (μ 26 0 (a1 + 1).toNatClampNeg), aI (μ 26 0 (a1 + 2).toNatClampNeg)] dX6_carries_170 cv_X6_221 rfl rfl rfl (by decide) rfl (by decide) (Nat.le_of_ble_eq_true rfl) h11 ?_
    exact AW_ireturn (ty := .int) dX6_carries_173 rfl rfl h10
  have ho163 : ((μ 26 0 a1.toNatClampNeg).toInt = 101 → AW M_X6_carries 0 187 [some (aR 19 0), some (aI a1), some (aI (μ 26 0 (a1 + 1).toNatClampNeg)), some (aI (μ 26 0 (a1 + 2).toNatClampNeg))] [] μ P) := by
    intro z
    have h13 := g56 z
    refine AW_aload_n dX6_carries_187 rfl ?_
    obtain ⟨r17, m14, h16, h15⟩ := h13
    refine AW_callVI [] dX6_carries_188 cv_X6_230 rfl rfl rfl (by decide) rfl (by decide) (Nat.le_of_ble_eq_true rfl) h16 ?_
    exact AW_ireturn (ty := .int) dX6_carries_191 rfl rfl h15
  have ho104 : ((μ 26 0 a1.toNatClampNeg).toInt = 104 → AW M_X6_carries 0 128 [some (aR 19 0), some (aI a1), some (aI (μ 26 0 (a1 + 1).toNatClampNeg)), some (aI (μ 26 0 (a1 + 2).toNatClampNeg))] [] μ P) := by
    intro z
    have h18 := g57 z
    refine AW_aload_n dX6_carries_128 rfl ?_
    refine AW_iload_n dX6_carries_129 rfl ?_
    obtain ⟨r22, m19, h21, h20⟩ := h18
    refine AW_callVI [aI (μ 26 0 (a1 + 1).toNatClampNeg)] dX6_carries_130 cv_X6_208 rfl rfl rfl (by decide) rfl (by decide) (Nat.le_of_ble_eq_true rfl) h21 ?_
    exact AW_ireturn (ty := .int) dX6_carries_133 rfl rfl h20
  have ho136 : ((μ 26 0 a1.toNatClampNeg).toInt = 108 → AW M_X6_carries 0 160 [some (aR 19 0), some (aI a1), some (aI (μ 26 0 (a1 + 1).toNatClampNeg)), some (aI (μ 26 0 (a1 + 2).toNatClampNeg))] [] μ P) := by
    intro z
    have h23 := g58 z
    refine AW_aload_n dX6_carries_160 rfl ?_
    refine AW_iload_n dX6_carries_161 rfl ?_
    refine AW_iload_n dX6_carries_162 rfl ?_
    obtain ⟨r27, m24, h26, h25⟩ := h23
    refine AW_callVI [aI (μ 26 0 (a1 + 1).toNatClampNeg), aI (μ 26 0 (a1 + 2).toNatClampNeg)] dX6_carries_163 cv_X6_218 rfl rfl rfl (by decide) rfl (by decide) (Nat.le_of_ble_eq_true rfl) h26 ?_
    exact AW_ireturn (ty := .int) dX6_carries_166 rfl rfl h25
  have ho117 : ((μ 26 0 a1.toNatClampNeg).toInt = 109 → AW M_X6_carries 0 141 [some (aR 19 0), some (aI a1), some (aI (μ 26 0 (a1 + 1).toNatClampNeg)), some (aI (μ 26 0 (a1 + 2).toNatClampNeg))] [] μ P) := by
    intro z
    have h28 := g59 z
    refine AW_aload_n dX6_carries_141 rfl ?_
    refine AW_iload_n dX6_carries_142 rfl ?_
    refine AW_iload_n dX6_carries_143 rfl ?_
    refine AW_bipush (v := 96) dX6_carries_144 (by decide) ?_
    refine AW_aload_n dX6_carries_146 rfl ?_
    refine AW_getv (t := 19) (o := 0) (k := 19) (some (26, none)) (v := aR 26 0) dX6_carries_147 ff_X6_33 rfl rfl rfl ?_
    refine AW_iload_n dX6_carries_150 rfl ?_
    refine AW_iconst (v := 3) dX6_carries_151 (by decide) ?_
    refine AW_iadd dX6_carries_152 ?_
    obtain ⟨h29, h30⟩ := h28
    refine AW_iaload dX6_carries_153 rfl rfl h29 ?_
    refine AW_iadd dX6_carries_154 ?_
    refine AW_i2c (v := ((96 + (μ 26 0 (a1 + 3).toNatClampNeg)).toUInt32 % 65536).toInt32) dX6_carries_155 rfl ?_
    obtain ⟨r34, m31, h33, h32⟩ := h30
    refine AW_callVI [aI (μ 26 0 (a1 + 1).toNatClampNeg), aI (μ 26 0 (a1 + 2).toNatClampNeg), aI (((96 + (μ 26 0 (a1 + 3).toNatClampNeg)).toUInt32 % 65536).toInt32)] dX6_carries_156 cv_X6_214 rfl rfl rfl (by decide) rfl (by decide) (Nat.le_of_ble_eq_true rfl) h33 ?_
    exact AW_ireturn (ty := .int) dX6_carries_159 rfl rfl h32
  have ho150 : ((μ 26 0 a1.toNatClampNeg).toInt = 114 → AW M_X6_carries 0 174 [some (aR 19 0), some (aI a1), some (aI (μ 26 0 (a1 + 1).toNatClampNeg)), some (aI (μ 26 0 (a1 + 2).toNatClampNeg))] [] μ P) := by
    intro z
    have h35 := g60 z
    refine AW_aload_n dX6_carries_174 rfl ?_
    refine AW_iload_n dX6_carries_175 rfl ?_
    refine AW_iload_n dX6_carries_176 rfl ?_
    obtain ⟨r39, m36, h38, h37⟩ := h35
    refine AW_callVI [aI (μ 26 0 (a1 + 1).toNatClampNeg), aI (μ 26 0 (a1 + 2).toNatClampNeg)] dX6_carries_177 cv_X6_224 rfl rfl rfl (by decide) rfl (by decide) (Nat.le_of_ble_eq_true rfl) h38 ?_
    exact AW_ireturn (ty := .int) dX6_carries_180 rfl rfl h37
  have ho110 : ((μ 26 0 a1.toNatClampNeg).toInt = 115 → AW M_X6_carries 0 134 [some (aR 19 0), some (aI a1), some (aI (μ 26 0 (a1 + 1).toNatClampNeg)), some (aI (μ 26 0 (a1 + 2).toNatClampNeg))] [] μ P) := by
    intro z
    have h40 := g61 z
    refine AW_aload_n dX6_carries_134 rfl ?_
    refine AW_iload_n dX6_carries_135 rfl ?_
    refine AW_iload_n dX6_carries_136 rfl ?_
    obtain ⟨r44, m41, h43, h42⟩ := h40
    refine AW_callVI [aI (μ 26 0 (a1 + 1).toNatClampNeg), aI (μ 26 0 (a1 + 2).toNatClampNeg)] dX6_carries_137 cv_X6_211 rfl rfl rfl (by decide) rfl (by decide) (Nat.le_of_ble_eq_true rfl) h43 ?_
    exact AW_ireturn (ty := .int) dX6_carries_140 rfl rfl h42
  have ho157 : ((μ 26 0 a1.toNatClampNeg).toInt = 120 → AW M_X6_carries 0 181 [some (aR 19 0), some (aI a1), some (aI (μ 26 0 (a1 + 1).toNatClampNeg)), some (aI (μ 26 0 (a1 + 2).toNatClampNeg))] [] μ P) := by
    intro z
    have h45 := g62 z
    refine AW_aload_n dX6_carries_181 rfl ?_
    refine AW_iload_n dX6_carries_182 rfl ?_
    obtain ⟨r49, m46, h48, h47⟩ := h45
    refine AW_callVI [aI (μ 26 0 (a1 + 1).toNatClampNeg)] dX6_carries_183 cv_X6_227 rfl rfl rfl (by decide) rfl (by decide) (Nat.le_of_ble_eq_true rfl) h48 ?_
    exact AW_ireturn (ty := .int) dX6_carries_186 rfl rfl h47
  exact AW_tsw dX6_carries_24 (by decide) (fun q64 => ⟨192, by decide, hdf (by omega) (by omega) (by omega) (by omega) (by omega) (by omega) (by omega) (by omega)⟩) ⟨fun q64 => ⟨167, by decide, ho143 (by omega)⟩, fun q64 => ⟨192, by decide, hdf (by omega) (by omega) (by omega) (by omega) (by omega) (by omega) (by omega) (by omega)⟩, fun q64 => ⟨187, by decide, ho163 (by omega)⟩, fun q64 => ⟨192, by decide, hdf (by omega) (by omega) (by omega) (by omega) (by omega) (by omega) (by omega) (by omega)⟩, fun q64 => ⟨192, by decide, hdf (by omega) (by omega) (by omega) (by omega) (by omega) (by omega) (by omega) (by omega)⟩, fun q64 => ⟨128, by decide, ho104 (by omega)⟩, fun q64 => ⟨192, by decide, hdf (by omega) (by omega) (by omega) (by omega) (by omega) (by omega) (by omega) (by omega)⟩, fun q64 => ⟨192, by decide, hdf (by omega) (by omega) (by omega) (by omega) (by omega) (by omega) (by omega) (by omega)⟩, fun q64 => ⟨192, by decide, hdf (by omega) (by omega) (by omega) (by omega) (by omega) (by omega) (by omega) (by omega)⟩, fun q64 => ⟨160, by decide, ho136 (by omega)⟩, fun q64 => ⟨141, by decide, ho117 (by omega)⟩, fun q64 => ⟨192, by decide, hdf (by omega) (by omega) (by omega) (by omega) (by omega) (by omega) (by omega) (by omega)⟩, fun q64 => ⟨192, by decide, hdf (by omega) (by omega) (by omega) (by omega) (by omega) (by omega) (by omega) (by omega)⟩, fun q64 => ⟨192, by decide, hdf (by omega) (by omega) (by omega) (by omega) (by omega) (by omega) (by omega) (by omega)⟩, fun q64 => ⟨192, by decide, hdf (by omega) (by omega) (by omega) (by omega) (by omega) (by omega) (by omega) (by omega)⟩, fun q64 => ⟨174, by decide, ho150 (by omega)⟩, fun q64 => ⟨134, by decide, ho110 (by omega)⟩, fun q64 => ⟨192, by decide, hdf (by omega) (by omega) (by omega) (by omega) (by omega) (by omega) (by omega) (by omega)⟩, fun q64 => ⟨192, by decide, hdf (by omega) (by omega) (by omega) (by omega) (by omega) (by omega) (by omega) (by omega)⟩, fun q64 => ⟨192, by decide, hdf (by omega) (by omega) (by omega) (by omega) (by omega) (by omega) (by omega) (by omega)⟩, fun q64 => ⟨192, by decide, hdf (by omega) (by omega) (by omega) (by omega) (by omega) (by omega) (by omega) (by omega)⟩, fun q64 => ⟨181, by decide, ho157 (by omega)⟩, trivial⟩
set_option maxRecDepth 100000 in
theorem B_X6_refusesRun_0 {a1 : Int32} {μ : Mem} {P : RES → Mem → Prop}  (h : ∃ (r4 : Int32) (m1 : Mem), MetA M_X6_refuses [aR 19 0, aI 2, aI 9, aI a1] μ (rI r4 m1) ∧ (∀ m5 : Mem, m5 = mset m1 19 0 (upd (m1 19 0) 11 (μ 19 0 9)) → ∀ m8 : Mem, m8 = mset m5 19 0 (upd (m5 19 0) 12 (μ 19 0 10)) → P (.inl (some (aI 0))) m8)) : AW M_X6_refusesRun 0 0 [some (aR 19 0), some (aI a1), none, none] [] μ P := by
  refine AW_aload_n dX6_refusesRun_0 rfl ?_
  refine AW_getv (t := 19) (o := 0) (k := 9) none (v := aI (μ 19 0 9)) dX6_refusesRun_1 ff_X6_43 rfl rfl rfl ?_
  refine AW_istore_n (loc' := [some (aR 19 0), some (aI a1), some (aI (μ 19 0 9)), none]) dX6_refusesRun_4 (Nat.le_of_ble_eq_true rfl) rfl rfl ?_
  refine AW_aload_n dX6_refusesRun_5 rfl ?_
  refine AW_getv (t := 19) (o := 0) (k := 10) none (v := aI (μ 19 0 10)) dX6_refusesRun_6 ff_X6_46 rfl rfl rfl ?_
  refine AW_istore_n (loc' := [some (aR 19 0), some (aI a1), some (aI (μ 19 0 9)), some (aI (μ 19 0 10))]) dX6_refusesRun_9 (Nat.le_of_ble_eq_true rfl) rfl rfl ?_
  refine AW_aload_n dX6_refusesRun_10 rfl ?_
  refine AW_iconst (v := 2) dX6_refusesRun_11 (by decide) ?_
  refine AW_bipush (v := 9) dX6_refusesRun_12 (by decide) ?_
  refine AW_iload_n dX6_refusesRun_14 rfl ?_
  obtain ⟨r4, m1, h3, h2⟩ := h
  refine AW_callVI [aI 2, aI 9, aI a1] dX6_refusesRun_15 cv_X6_89 rfl rfl rfl (by decide) rfl (by decide) (Nat.le_of_ble_eq_true rfl) h3 ?_
  refine AW_pop dX6_refusesRun_18 rfl ?_
  refine AW_aload_n dX6_refusesRun_19 rfl ?_
  refine AW_iload_n dX6_refusesRun_20 rfl ?_
  obtain ⟨m5, em5⟩ : ∃ z : Mem, z = mset m1 19 0 (upd (m1 19 0) 11 (μ 19 0 9)) := ⟨_, rfl⟩
  have h6 := h2 m5 em5
  refine AW_putf (t := 19) (o := 0) (k := 11) dX6_refusesRun_21 fp_X6_49 rfl rfl rfl rfl em5.symm ?_
  refine AW_aload_n dX6_refusesRun_24 rfl ?_
  refine AW_iload_n dX6_refusesRun_25 rfl ?_
  obtain ⟨m8, em8⟩ : ∃ z : Mem, z = mset m5 19 0 (upd (m5 19 0) 12 (μ 19 0 10)) := ⟨_, rfl⟩
  have h9 := h6 m8 em8
  refine AW_putf (t := 19) (o := 0) (k := 12) dX6_refusesRun_26 fp_X6_52 rfl rfl rfl rfl em8.symm ?_
  refine AW_iconst (v := 0) dX6_refusesRun_29 (by decide) ?_
  exact AW_ireturn (ty := .int) dX6_refusesRun_30 rfl rfl h9
set_option maxRecDepth 100000 in
theorem B_X6_run_0  {μ : Mem} {P : RES → Mem → Prop}  (h : ∃ (r4 : Int32) (m1 : Mem), MetA M_X6_isText [aR 19 0] μ (rI r4 m1) ∧ ((r4 = 0 → AW M_X6_run 0 18 [some (aR 19 0), some (aI r4), none, none] [aI (m1 19 0 18), aR 19 0] m1 P) ∧ (¬ r4 = 0 → AW M_X6_run 0 18 [some (aR 19 0), some (aI r4), none, none] [aI (-1), aR 19 0] m1 P))) : AW M_X6_run 0 0 [some (aR 19 0), none, none, none] [] μ P := by
  refine AW_aload_n dX6_run_0 rfl ?_
  obtain ⟨r4, m1, h3, h2⟩ := h
  refine AW_callVI [] dX6_run_1 cv_X6_236 rfl rfl rfl (by decide) rfl (by decide) (Nat.le_of_ble_eq_true rfl) h3 ?_
  refine AW_istore_n (loc' := [some (aR 19 0), some (aI r4), none, none]) dX6_run_4 (Nat.le_of_ble_eq_true rfl) rfl rfl ?_
  refine AW_aload_n dX6_run_5 rfl ?_
  refine AW_iload_n dX6_run_6 rfl ?_
  refine AW_if_eq (tgt := 14) dX6_run_7 (by decide) (fun q7 => ?_) (fun q7 => ?_)
  · have h5 := h2.1 q7
    refine AW_aload_n dX6_run_14 rfl ?_
    refine AW_getv (t := 19) (o := 0) (k := 18) none (v := aI (m1 19 0 18)) dX6_run_15 ff_X6_186 rfl rfl rfl ?_
    exact h5
  · have h6 := h2.2 q7
    refine AW_iconst (v := (-1)) dX6_run_10 (by decide) ?_
    refine AW_goto (tgt := 18) dX6_run_11 (by decide) ?_
    exact h6
set_option maxRecDepth 100000 in
theorem B_X6_run_18 {a1 : Int32} {s0 : Int32} {μ : Mem} {P : RES → Mem → Prop}  (h : ∀ m1 : Mem, m1 = mset μ 19 0 (upd (μ 19 0) 15 s0) → ∀ m4 : Mem, m4 = mset m1 19 0 (upd (m1 19 0) 14 0) → (a1 = 0 → ∃ (r13 : Int32) (m10 : Mem), MetA M_X6_fails [aR 19 0, aI 1] m4 (rI r13 m10) ∧ ((r13 = 0 → ∃ m17 : Mem, MetA M_X6_copies [aR 20 0, aI 0, aR 23 0, aI 0] m10 (rV m17) ∧ (∀ m20 : Mem, m20 = mset m17 19 0 (upd (m17 19 0) 6 1) → AW M_X6_run 0 66 [some (aR 19 0), some (aI a1), some (aI 0), some (aI 0)] [] m20 P)) ∧ (¬ r13 = 0 → P (.inl (some (aI 0))) m10))) ∧ (¬ a1 = 0 → ∃ (r26 : Int32) (m23 : Mem), MetA M_X6_fails [aR 19 0, aI 0] m4 (rI r26 m23) ∧ ((r26 = 0 → ∃ m30 : Mem, MetA M_X6_copies [aR 20 0, aI 0, aR 23 0, aI 0] m23 (rV m30) ∧ (∀ m33 : Mem, m33 = mset m30 19 0 (upd (m30 19 0) 6 1) → AW M_X6_run 0 66 [some (aR 19 0), some (aI a1), some (aI 0), some (aI 0)] [] m33 P)) ∧ (¬ r26 = 0 → P (.inl (some (aI 0))) m23)))) : AW M_X6_run 0 18 [some (aR 19 0), some (aI a1), none, none] [aI s0, aR 19 0] μ P := by
  obtain ⟨m1, em1⟩ : ∃ z : Mem, z = mset μ 19 0 (upd (μ 19 0) 15 s0) := ⟨_, rfl⟩
  have h2 := h m1 em1
  refine AW_putf (t := 19) (o := 0) (k := 15) dX6_run_18 fp_X6_25 rfl rfl rfl rfl em1.symm ?_
  refine AW_aload_n dX6_run_21 rfl ?_
  refine AW_iconst (v := 0) dX6_run_22 (by decide) ?_
  obtain ⟨m4, em4⟩ : ∃ z : Mem, z = mset m1 19 0 (upd (m1 19 0) 14 0) := ⟨_, rfl⟩
  have h5 := h2 m4 em4
  refine AW_putf (t := 19) (o := 0) (k := 14) dX6_run_23 fp_X6_183 rfl rfl rfl rfl em4.symm ?_
  refine AW_aload_n dX6_run_26 rfl ?_
  refine AW_iload_n dX6_run_27 rfl ?_
  refine AW_if_eq (tgt := 35) dX6_run_28 (by decide) (fun q9 => ?_) (fun q9 => ?_)
  · have h7 := h5.1 q9
    refine AW_iconst (v := 1) dX6_run_35 (by decide) ?_
    obtain ⟨r13, m10, h12, h11⟩ := h7
    refine AW_callVI [aI 1] dX6_run_36 cv_X6_86 rfl rfl rfl (by decide) rfl (by decide) (Nat.le_of_ble_eq_true rfl) h12 ?_
    refine AW_if_eq (tgt := 44) dX6_run_39 (by decide) (fun q16 => ?_) (fun q16 => ?_)
    · have h14 := h11.1 q16
      refine AW_aload_n dX6_run_44 rfl ?_
      refine AW_getv (t := 19) (o := 0) (k := 0) (some (20, none)) (v := aR 20 0) dX6_run_45 ff_X6_7 rfl rfl rfl ?_
      refine AW_iconst (v := 0) dX6_run_48 (by decide) ?_
      refine AW_aload_n dX6_run_49 rfl ?_
      refine AW_getv (t := 19) (o := 0) (k := 3) (some (23, none)) (v := aR 23 0) dX6_run_50 ff_X6_19 rfl rfl rfl ?_
      refine AW_iconst (v := 0) dX6_run_53 (by decide) ?_
      obtain ⟨m17, h19, h18⟩ := h14
      refine AW_callSV [aR 20 0, aI 0, aR 23 0, aI 0] dX6_run_54 cs_X6_61 rfl rfl (by decide) rfl (by decide) (Nat.le_of_ble_eq_true rfl) h19 ?_
      refine AW_aload_n dX6_run_57 rfl ?_
      refine AW_iconst (v := 1) dX6_run_58 (by decide) ?_
      obtain ⟨m20, em20⟩ : ∃ z : Mem, z = mset m17 19 0 (upd (m17 19 0) 6 1) := ⟨_, rfl⟩
      have h21 := h18 m20 em20
      refine AW_putf (t := 19) (o := 0) (k := 6) dX6_run_59 fp_X6_55 rfl rfl rfl rfl em20.symm ?_
      refine AW_iconst (v := 0) dX6_run_62 (by decide) ?_
      refine AW_istore_n (loc' := [some (aR 19 0), some (aI a1), some (aI 0), none]) dX6_run_63 (Nat.le_of_ble_eq_true rfl) rfl rfl ?_
      refine AW_iconst (v := 0) dX6_run_64 (by decide) ?_
      refine AW_istore_n (loc' := [some (aR 19 0), some (aI a1), some (aI 0), some (aI 0)]) dX6_run_65 (Nat.le_of_ble_eq_true rfl) rfl rfl ?_
      exact h21
    · have h15 := h11.2 q16
      refine AW_iconst (v := 0) dX6_run_42 (by decide) ?_
      exact AW_ireturn (ty := .int) dX6_run_43 rfl rfl h15
  · have h8 := h5.2 q9
    refine AW_iconst (v := 0) dX6_run_31 (by decide) ?_
    refine AW_goto (tgt := 36) dX6_run_32 (by decide) ?_
    obtain ⟨r26, m23, h25, h24⟩ := h8
    refine AW_callVI [aI 0] dX6_run_36 cv_X6_86 rfl rfl rfl (by decide) rfl (by decide) (Nat.le_of_ble_eq_true rfl) h25 ?_
    refine AW_if_eq (tgt := 44) dX6_run_39 (by decide) (fun q29 => ?_) (fun q29 => ?_)
    · have h27 := h24.1 q29
      refine AW_aload_n dX6_run_44 rfl ?_
      refine AW_getv (t := 19) (o := 0) (k := 0) (some (20, none)) (v := aR 20 0) dX6_run_45 ff_X6_7 rfl rfl rfl ?_
      refine AW_iconst (v := 0) dX6_run_48 (by decide) ?_
      refine AW_aload_n dX6_run_49 rfl ?_
      refine AW_getv (t := 19) (o := 0) (k := 3) (some (23, none)) (v := aR 23 0) dX6_run_50 ff_X6_19 rfl rfl rfl ?_
      refine AW_iconst (v := 0) dX6_run_53 (by decide) ?_
      obtain ⟨m30, h32, h31⟩ := h27
      refine AW_callSV [aR 20 0, aI 0, aR 23 0, aI 0] dX6_run_54 cs_X6_61 rfl rfl (by decide) rfl (by decide) (Nat.le_of_ble_eq_true rfl) h32 ?_
      refine AW_aload_n dX6_run_57 rfl ?_
      refine AW_iconst (v := 1) dX6_run_58 (by decide) ?_
      obtain ⟨m33, em33⟩ : ∃ z : Mem, z = mset m30 19 0 (upd (m30 19 0) 6 1) := ⟨_, rfl⟩
      have h34 := h31 m33 em33
      refine AW_putf (t := 19) (o := 0) (k := 6) dX6_run_59 fp_X6_55 rfl rfl rfl rfl em33.symm ?_
      refine AW_iconst (v := 0) dX6_run_62 (by decide) ?_
      refine AW_istore_n (loc' := [some (aR 19 0), some (aI a1), some (aI 0), none]) dX6_run_63 (Nat.le_of_ble_eq_true rfl) rfl rfl ?_
      refine AW_iconst (v := 0) dX6_run_64 (by decide) ?_
      refine AW_istore_n (loc' := [some (aR 19 0), some (aI a1), some (aI 0), some (aI 0)]) dX6_run_65 (Nat.le_of_ble_eq_true rfl) rfl rfl ?_
      exact h34
    · have h28 := h24.2 q29
      refine AW_iconst (v := 0) dX6_run_42 (by decide) ?_
      exact AW_ireturn (ty := .int) dX6_run_43 rfl rfl h28
set_option maxRecDepth 100000 in
theorem B_X6_run_66 {a1 : Int32} {a2 : Int32} {a3 : Int32} {μ : Mem} {P : RES → Mem → Prop}  (h : ((μ 19 0 20) ≤ a2 → ∀ m4 : Mem, m4 = mset μ 19 0 (upd (μ 19 0) 6 0) → ((m4 19 0 8) ≤ 0 → ∃ m10 : Mem, MetA M_X6_keeps [aR 19 0, aR 23 0] m4 (rV m10) ∧ (P (.inl (some (aI (m10 19 0 20)))) m10)) ∧ (¬ (m4 19 0 8) ≤ 0 → ∃ m13 : Mem, MetA M_X6_copies [aR 23 0, aI 0, aR 20 0, aI 0] m4 (rV m13) ∧ (((m13 19 0 7) = 0 → ∀ m19 : Mem, m19 = mset m13 19 0 (upd (m13 19 0) 8 1) → (a3 ≤ 0 → P (.inl (some (aI a3))) m19) ∧ (¬ a3 ≤ 0 → P (.inl (some (aI 0))) m19)) ∧ (¬ (m13 19 0 7) = 0 → ∃ (r28 : Int32) (m25 : Mem), MetA M_X6_refusesRun [aR 19 0, aI a2] m13 (rI r28 m25) ∧ (P (.inl (some (aI r28))) m25))))) ∧ (¬ (μ 19 0 20) ≤ a2 → (¬ (μ 19 0 8) = 0 → ∀ m32 : Mem, m32 = mset μ 19 0 (upd (μ 19 0) 6 0) → ((m32 19 0 8) ≤ 0 → ∃ m38 : Mem, MetA M_X6_keeps [aR 19 0, aR 23 0] m32 (rV m38) ∧ (P (.inl (some (aI (m38 19 0 20)))) m38)) ∧ (¬ (m32 19 0 8) ≤ 0 → ∃ m41 : Mem, MetA M_X6_copies [aR 23 0, aI 0, aR 20 0, aI 0] m32 (rV m41) ∧ (((m41 19 0 7) = 0 → ∀ m47 : Mem, m47 = mset m41 19 0 (upd (m41 19 0) 8 1) → (a3 ≤ 0 → P (.inl (some (aI a3))) m47) ∧ (¬ a3 ≤ 0 → P (.inl (some (aI 0))) m47)) ∧ (¬ (m41 19 0 7) = 0 → ∃ (r56 : Int32) (m53 : Mem), MetA M_X6_refusesRun [aR 19 0, aI a2] m41 (rI r56 m53) ∧ (P (.inl (some (aI r56))) m53))))) ∧ ((μ 19 0 8) = 0 → ∃ (r60 : Int32) (m57 : Mem), MetA M_X6_carries [aR 19 0, aI (4 * a2)] μ (rI r60 m57) ∧ ((¬ (m57 19 0 8) = 0 → AW M_X6_run 0 66 [some (aR 19 0), some (aI a1), some (aI a2), some (aI r60)] [] m57 P) ∧ ((m57 19 0 8) = 0 → AW M_X6_run 0 66 [some (aR 19 0), some (aI a1), some (aI (a2 + 1)), some (aI r60)] [] m57 P))))) : AW M_X6_run 0 66 [some (aR 19 0), some (aI a1), some (aI a2), some (aI a3)] [] μ P := by
  refine AW_iload_n dX6_run_66 rfl ?_
  refine AW_aload_n dX6_run_67 rfl ?_
  refine AW_getv (t := 19) (o := 0) (k := 20) none (v := aI (μ 19 0 20)) dX6_run_68 ff_X6_192 rfl rfl rfl ?_
  refine AW_icmp_ge (tgt := 102) dX6_run_71 (by decide) (fun q3 => ?_) (fun q3 => ?_)
  · have h1 := h.1 q3
    refine AW_aload_n dX6_run_102 rfl ?_
    refine AW_iconst (v := 0) dX6_run_103 (by decide) ?_
    obtain ⟨m4, em4⟩ : ∃ z : Mem, z = mset μ 19 0 (upd (μ 19 0) 6 0) := ⟨_, rfl⟩
    have h5 := h1 m4 em4
    refine AW_putf (t := 19) (o := 0) (k := 6) dX6_run_104 fp_X6_55 rfl rfl rfl rfl em4.symm ?_
    refine AW_aload_n dX6_run_107 rfl ?_
    refine AW_getv (t := 19) (o := 0) (k := 8) none (v := aI (m4 19 0 8)) dX6_run_108 ff_X6_36 rfl rfl rfl ?_
    refine AW_if_le (tgt := 155) dX6_run_111 (by decide) (fun q9 => ?_) (fun q9 => ?_)
    · have h7 := h5.1 q9
      refine AW_aload_n dX6_run_155 rfl ?_
      refine AW_aload_n dX6_run_156 rfl ?_
      refine AW_getv (t := 19) (o := 0) (k := 3) (some (23, none)) (v := aR 23 0) dX6_run_157 ff_X6_19 rfl rfl rfl ?_
      obtain ⟨m10, h12, h11⟩ := h7
      refine AW_callVV [aR 23 0] dX6_run_160 cv_X6_93 rfl rfl rfl (by decide) rfl (by decide) (Nat.le_of_ble_eq_true rfl) h12 ?_
      refine AW_aload_n dX6_run_163 rfl ?_
      refine AW_getv (t := 19) (o := 0) (k := 20) none (v := aI (m10 19 0 20)) dX6_run_164 ff_X6_192 rfl rfl rfl ?_
      exact AW_ireturn (ty := .int) dX6_run_167 rfl rfl h11
    · have h8 := h5.2 q9
      refine AW_aload_n dX6_run_114 rfl ?_
      refine AW_getv (t := 19) (o := 0) (k := 3) (some (23, none)) (v := aR 23 0) dX6_run_115 ff_X6_19 rfl rfl rfl ?_
      refine AW_iconst (v := 0) dX6_run_118 (by decide) ?_
      refine AW_aload_n dX6_run_119 rfl ?_
      refine AW_getv (t := 19) (o := 0) (k := 0) (some (20, none)) (v := aR 20 0) dX6_run_120 ff_X6_7 rfl rfl rfl ?_
      refine AW_iconst (v := 0) dX6_run_123 (by decide) ?_
      obtain ⟨m13, h15, h14⟩ := h8
      refine AW_callSV [aR 23 0, aI 0, aR 20 0, aI 0] dX6_run_124 cs_X6_61 rfl rfl (by decide) rfl (by decide) (Nat.le_of_ble_eq_true rfl) h15 ?_
      refine AW_aload_n dX6_run_127 rfl ?_
      refine AW_getv (t := 19) (o := 0) (k := 7) none (v := aI (m13 19 0 7)) dX6_run_128 ff_X6_39 rfl rfl rfl ?_
      refine AW_if_eq (tgt := 140) dX6_run_131 (by decide) (fun q18 => ?_) (fun q18 => ?_)
      · have h16 := h14.1 q18
        refine AW_aload_n dX6_run_140 rfl ?_
        refine AW_iconst (v := 1) dX6_run_141 (by decide) ?_
        obtain ⟨m19, em19⟩ : ∃ z : Mem, z = mset m13 19 0 (upd (m13 19 0) 8 1) := ⟨_, rfl⟩
        have h20 := h16 m19 em19
        refine AW_putf (t := 19) (o := 0) (k := 8) dX6_run_142 fp_X6_36 rfl rfl rfl rfl em19.symm ?_
        refine AW_iload_n dX6_run_145 rfl ?_
        refine AW_if_le (tgt := 153) dX6_run_146 (by decide) (fun q24 => ?_) (fun q24 => ?_)
        · have h22 := h20.1 q24
          refine AW_iload_n dX6_run_153 rfl ?_
          exact AW_ireturn (ty := .int) dX6_run_154 rfl rfl h22
        · have h23 := h20.2 q24
          refine AW_iconst (v := 0) dX6_run_149 (by decide) ?_
          refine AW_goto (tgt := 154) dX6_run_150 (by decide) ?_
          exact AW_ireturn (ty := .int) dX6_run_154 rfl rfl h23
      · have h17 := h14.2 q18
        refine AW_aload_n dX6_run_134 rfl ?_
        refine AW_iload_n dX6_run_135 rfl ?_
        obtain ⟨r28, m25, h27, h26⟩ := h17
        refine AW_callVI [aI a2] dX6_run_136 cv_X6_242 rfl rfl rfl (by decide) rfl (by decide) (Nat.le_of_ble_eq_true rfl) h27 ?_
        exact AW_ireturn (ty := .int) dX6_run_139 rfl rfl h26
  · have h2 := h.2 q3
    refine AW_aload_n dX6_run_74 rfl ?_
    refine AW_getv (t := 19) (o := 0) (k := 8) none (v := aI (μ 19 0 8)) dX6_run_75 ff_X6_36 rfl rfl rfl ?_
    refine AW_if_ne (tgt := 102) dX6_run_78 (by decide) (fun q31 => ?_) (fun q31 => ?_)
    · have h29 := h2.1 q31
      refine AW_aload_n dX6_run_102 rfl ?_
      refine AW_iconst (v := 0) dX6_run_103 (by decide) ?_
      obtain ⟨m32, em32⟩ : ∃ z : Mem, z = mset μ 19 0 (upd (μ 19 0) 6 0) := ⟨_, rfl⟩
      have h33 := h29 m32 em32
      refine AW_putf (t := 19) (o := 0) (k := 6) dX6_run_104 fp_X6_55 rfl rfl rfl rfl em32.symm ?_
      refine AW_aload_n dX6_run_107 rfl ?_
      refine AW_getv (t := 19) (o := 0) (k := 8) none (v := aI (m32 19 0 8)) dX6_run_108 ff_X6_36 rfl rfl rfl ?_
      refine AW_if_le (tgt := 155) dX6_run_111 (by decide) (fun q37 => ?_) (fun q37 => ?_)
      · have h35 := h33.1 q37
        refine AW_aload_n dX6_run_155 rfl ?_
        refine AW_aload_n dX6_run_156 rfl ?_
        refine AW_getv (t := 19) (o := 0) (k := 3) (some (23, none)) (v := aR 23 0) dX6_run_157 ff_X6_19 rfl rfl rfl ?_
        obtain ⟨m38, h40, h39⟩ := h35
        refine AW_callVV [aR 23 0] dX6_run_160 cv_X6_93 rfl rfl rfl (by decide) rfl (by decide) (Nat.le_of_ble_eq_true rfl) h40 ?_
        refine AW_aload_n dX6_run_163 rfl ?_
        refine AW_getv (t := 19) (o := 0) (k := 20) none (v := aI (m38 19 0 20)) dX6_run_164 ff_X6_192 rfl rfl rfl ?_
        exact AW_ireturn (ty := .int) dX6_run_167 rfl rfl h39
      · have h36 := h33.2 q37
        refine AW_aload_n dX6_run_114 rfl ?_
        refine AW_getv (t := 19) (o := 0) (k := 3) (some (23, none)) (v := aR 23 0) dX6_run_115 ff_X6_19 rfl rfl rfl ?_
        refine AW_iconst (v := 0) dX6_run_118 (by decide) ?_
        refine AW_aload_n dX6_run_119 rfl ?_
        refine AW_getv (t := 19) (o := 0) (k := 0) (some (20, none)) (v := aR 20 0) dX6_run_120 ff_X6_7 rfl rfl rfl ?_
        refine AW_iconst (v := 0) dX6_run_123 (by decide) ?_
        obtain ⟨m41, h43, h42⟩ := h36
        refine AW_callSV [aR 23 0, aI 0, aR 20 0, aI 0] dX6_run_124 cs_X6_61 rfl rfl (by decide) rfl (by decide) (Nat.le_of_ble_eq_true rfl) h43 ?_
        refine AW_aload_n dX6_run_127 rfl ?_
        refine AW_getv (t := 19) (o := 0) (k := 7) none (v := aI (m41 19 0 7)) dX6_run_128 ff_X6_39 rfl rfl rfl ?_
        refine AW_if_eq (tgt := 140) dX6_run_131 (by decide) (fun q46 => ?_) (fun q46 => ?_)
        · have h44 := h42.1 q46
          refine AW_aload_n dX6_run_140 rfl ?_
          refine AW_iconst (v := 1) dX6_run_141 (by decide) ?_
          obtain ⟨m47, em47⟩ : ∃ z : Mem, z = mset m41 19 0 (upd (m41 19 0) 8 1) := ⟨_, rfl⟩
          have h48 := h44 m47 em47
          refine AW_putf (t := 19) (o := 0) (k := 8) dX6_run_142 fp_X6_36 rfl rfl rfl rfl em47.symm ?_
          refine AW_iload_n dX6_run_145 rfl ?_
          refine AW_if_le (tgt := 153) dX6_run_146 (by decide) (fun q52 => ?_) (fun q52 => ?_)
          · have h50 := h48.1 q52
            refine AW_iload_n dX6_run_153 rfl ?_
            exact AW_ireturn (ty := .int) dX6_run_154 rfl rfl h50
          · have h51 := h48.2 q52
            refine AW_iconst (v := 0) dX6_run_149 (by decide) ?_
            refine AW_goto (tgt := 154) dX6_run_150 (by decide) ?_
            exact AW_ireturn (ty := .int) dX6_run_154 rfl rfl h51
        · have h45 := h42.2 q46
          refine AW_aload_n dX6_run_134 rfl ?_
          refine AW_iload_n dX6_run_135 rfl ?_
          obtain ⟨r56, m53, h55, h54⟩ := h45
          refine AW_callVI [aI a2] dX6_run_136 cv_X6_242 rfl rfl rfl (by decide) rfl (by decide) (Nat.le_of_ble_eq_true rfl) h55 ?_
          exact AW_ireturn (ty := .int) dX6_run_139 rfl rfl h54
    · have h30 := h2.2 q31
      refine AW_aload_n dX6_run_81 rfl ?_
      refine AW_iconst (v := 4) dX6_run_82 (by decide) ?_
      refine AW_iload_n dX6_run_83 rfl ?_
      refine AW_imul dX6_run_84 ?_
      obtain ⟨r60, m57, h59, h58⟩ := h30
      refine AW_callVI [aI (4 * a2)] dX6_run_85 cv_X6_239 rfl rfl rfl (by decide) rfl (by decide) (Nat.le_of_ble_eq_true rfl) h59 ?_
      refine AW_istore_n (loc' := [some (aR 19 0), some (aI a1), some (aI a2), some (aI r60)]) dX6_run_88 (Nat.le_of_ble_eq_true rfl) rfl rfl ?_
      refine AW_aload_n dX6_run_89 rfl ?_
      refine AW_getv (t := 19) (o := 0) (k := 8) none (v := aI (m57 19 0 8)) dX6_run_90 ff_X6_36 rfl rfl rfl ?_
      refine AW_if_ne (tgt := 66) dX6_run_93 (by decide) (fun q63 => ?_) (fun q63 => ?_)
      · have h61 := h58.1 q63
        exact h61
      · have h62 := h58.2 q63
        refine AW_iinc (v := a2 + 1) (loc' := [some (aR 19 0), some (aI a1), some (aI (a2 + 1)), some (aI r60)]) dX6_run_96 rfl rfl (Nat.le_of_ble_eq_true rfl) rfl rfl ?_
        refine AW_goto (tgt := 66) dX6_run_99 (by decide) ?_
        exact h62
set_option maxRecDepth 100000 in
theorem B_X6_errorPosition_0  {μ : Mem} {P : RES → Mem → Prop}  (h : ∀ m1 : Mem, m1 = mset μ 19 0 (upd (μ 19 0) 8 0) → P (.inl (some (aI (m1 19 0 15)))) m1) : AW M_X6_errorPosition 0 0 [some (aR 19 0)] [] μ P := by
  refine AW_aload_n dX6_errorPosition_0 rfl ?_
  refine AW_iconst (v := 0) dX6_errorPosition_1 (by decide) ?_
  obtain ⟨m1, em1⟩ : ∃ z : Mem, z = mset μ 19 0 (upd (μ 19 0) 8 0) := ⟨_, rfl⟩
  have h2 := h m1 em1
  refine AW_putf (t := 19) (o := 0) (k := 8) dX6_errorPosition_2 fp_X6_36 rfl rfl rfl rfl em1.symm ?_
  refine AW_aload_n dX6_errorPosition_5 rfl ?_
  refine AW_getv (t := 19) (o := 0) (k := 15) none (v := aI (m1 19 0 15)) dX6_errorPosition_6 ff_X6_25 rfl rfl rfl ?_
  exact AW_ireturn (ty := .int) dX6_errorPosition_9 rfl rfl h2
set_option maxRecDepth 100000 in
theorem B_X6_refusal_0 {a1 : Int32} {a2 : Int32} {μ : Mem} {P : RES → Mem → Prop}  (h : (a1 = 0 → AW M_X6_refusal 0 16 [some (aR 19 0), some (aI a1), some (aI a2)] [aI (μ 19 0 9), aR 19 0] μ P) ∧ (¬ a1 = 0 → AW M_X6_refusal 0 16 [some (aR 19 0), some (aI a1), some (aI a2)] [aI (μ 19 0 11), aR 19 0] μ P)) : AW M_X6_refusal 0 0 [some (aR 19 0), some (aI a1), some (aI a2)] [] μ P := by
  refine AW_aload_n dX6_refusal_0 rfl ?_
  refine AW_iload_n dX6_refusal_1 rfl ?_
  refine AW_if_eq (tgt := 12) dX6_refusal_2 (by decide) (fun q3 => ?_) (fun q3 => ?_)
  · have h1 := h.1 q3
    refine AW_aload_n dX6_refusal_12 rfl ?_
    refine AW_getv (t := 19) (o := 0) (k := 9) none (v := aI (μ 19 0 9)) dX6_refusal_13 ff_X6_43 rfl rfl rfl ?_
    exact h1
  · have h2 := h.2 q3
    refine AW_aload_n dX6_refusal_5 rfl ?_
    refine AW_getv (t := 19) (o := 0) (k := 11) none (v := aI (μ 19 0 11)) dX6_refusal_6 ff_X6_49 rfl rfl rfl ?_
    refine AW_goto (tgt := 16) dX6_refusal_9 (by decide) ?_
    exact h2
set_option maxRecDepth 100000 in
theorem B_X6_refusal_16 {a1 : Int32} {a2 : Int32} {s0 : Int32} {μ : Mem} {P : RES → Mem → Prop}  (h : (¬ s0 = 0 → ∃ (r7 : Int32) (m4 : Mem), MetA M_X6_fails [aR 19 0, aI 0] μ (rI r7 m4) ∧ ((r7 = 0 → (a1 = 0 → (a2 = 0 → P (.inl (some (aI (m4 19 0 9)))) m4) ∧ (¬ a2 = 0 → P (.inl (some (aI (m4 19 0 10)))) m4)) ∧ (¬ a1 = 0 → (a2 = 0 → P (.inl (some (aI (m4 19 0 11)))) m4) ∧ (¬ a2 = 0 → P (.inl (some (aI (m4 19 0 12)))) m4))) ∧ (¬ r7 = 0 → P (.inl (some (aI 0))) m4))) ∧ (s0 = 0 → ∃ (r23 : Int32) (m20 : Mem), MetA M_X6_fails [aR 19 0, aI 1] μ (rI r23 m20) ∧ ((r23 = 0 → (a1 = 0 → (a2 = 0 → P (.inl (some (aI (m20 19 0 9)))) m20) ∧ (¬ a2 = 0 → P (.inl (some (aI (m20 19 0 10)))) m20)) ∧ (¬ a1 = 0 → (a2 = 0 → P (.inl (some (aI (m20 19 0 11)))) m20) ∧ (¬ a2 = 0 → P (.inl (some (aI (m20 19 0 12)))) m20))) ∧ (¬ r23 = 0 → P (.inl (some (aI 0))) m20)))) : AW M_X6_refusal 0 16 [some (aR 19 0), some (aI a1), some (aI a2)] [aI s0, aR 19 0] μ P := by
  refine AW_if_ne (tgt := 23) dX6_refusal_16 (by decide) (fun q3 => ?_) (fun q3 => ?_)
  · have h1 := h.1 q3
    refine AW_iconst (v := 0) dX6_refusal_23 (by decide) ?_
    obtain ⟨r7, m4, h6, h5⟩ := h1
    refine AW_callVI [aI 0] dX6_refusal_24 cv_X6_86 rfl rfl rfl (by decide) rfl (by decide) (Nat.le_of_ble_eq_true rfl) h6 ?_
    refine AW_if_eq (tgt := 32) dX6_refusal_27 (by decide) (fun q10 => ?_) (fun q10 => ?_)
    · have h8 := h5.1 q10
      refine AW_iload_n dX6_refusal_32 rfl ?_
      refine AW_if_eq (tgt := 54) dX6_refusal_33 (by decide) (fun q13 => ?_) (fun q13 => ?_)
      · have h11 := h8.1 q13
        refine AW_iload_n dX6_refusal_54 rfl ?_
        refine AW_if_eq (tgt := 65) dX6_refusal_55 (by decide) (fun q16 => ?_) (fun q16 => ?_)
        · have h14 := h11.1 q16
          refine AW_aload_n dX6_refusal_65 rfl ?_
          refine AW_getv (t := 19) (o := 0) (k := 9) none (v := aI (m4 19 0 9)) dX6_refusal_66 ff_X6_43 rfl rfl rfl ?_
          exact AW_ireturn (ty := .int) dX6_refusal_69 rfl rfl h14
        · have h15 := h11.2 q16
          refine AW_aload_n dX6_refusal_58 rfl ?_
          refine AW_getv (t := 19) (o := 0) (k := 10) none (v := aI (m4 19 0 10)) dX6_refusal_59 ff_X6_46 rfl rfl rfl ?_
          refine AW_goto (tgt := 69) dX6_refusal_62 (by decide) ?_
          exact AW_ireturn (ty := .int) dX6_refusal_69 rfl rfl h15
      · have h12 := h8.2 q13
        refine AW_iload_n dX6_refusal_36 rfl ?_
        refine AW_if_eq (tgt := 47) dX6_refusal_37 (by decide) (fun q19 => ?_) (fun q19 => ?_)
        · have h17 := h12.1 q19
          refine AW_aload_n dX6_refusal_47 rfl ?_
          refine AW_getv (t := 19) (o := 0) (k := 11) none (v := aI (m4 19 0 11)) dX6_refusal_48 ff_X6_49 rfl rfl rfl ?_
          refine AW_goto (tgt := 69) dX6_refusal_51 (by decide) ?_
          exact AW_ireturn (ty := .int) dX6_refusal_69 rfl rfl h17
        · have h18 := h12.2 q19
          refine AW_aload_n dX6_refusal_40 rfl ?_
          refine AW_getv (t := 19) (o := 0) (k := 12) none (v := aI (m4 19 0 12)) dX6_refusal_41 ff_X6_52 rfl rfl rfl ?_
          refine AW_goto (tgt := 69) dX6_refusal_44 (by decide) ?_
          exact AW_ireturn (ty := .int) dX6_refusal_69 rfl rfl h18
    · have h9 := h5.2 q10
      refine AW_iconst (v := 0) dX6_refusal_30 (by decide) ?_
      exact AW_ireturn (ty := .int) dX6_refusal_31 rfl rfl h9
  · have h2 := h.2 q3
    refine AW_iconst (v := 1) dX6_refusal_19 (by decide) ?_
    refine AW_goto (tgt := 24) dX6_refusal_20 (by decide) ?_
    obtain ⟨r23, m20, h22, h21⟩ := h2
    refine AW_callVI [aI 1] dX6_refusal_24 cv_X6_86 rfl rfl rfl (by decide) rfl (by decide) (Nat.le_of_ble_eq_true rfl) h22 ?_
    refine AW_if_eq (tgt := 32) dX6_refusal_27 (by decide) (fun q26 => ?_) (fun q26 => ?_)
    · have h24 := h21.1 q26
      refine AW_iload_n dX6_refusal_32 rfl ?_
      refine AW_if_eq (tgt := 54) dX6_refusal_33 (by decide) (fun q29 => ?_) (fun q29 => ?_)
      · have h27 := h24.1 q29
        refine AW_iload_n dX6_refusal_54 rfl ?_
        refine AW_if_eq (tgt := 65) dX6_refusal_55 (by decide) (fun q32 => ?_) (fun q32 => ?_)
        · have h30 := h27.1 q32
          refine AW_aload_n dX6_refusal_65 rfl ?_
          refine AW_getv (t := 19) (o := 0) (k := 9) none (v := aI (m20 19 0 9)) dX6_refusal_66 ff_X6_43 rfl rfl rfl ?_
          exact AW_ireturn (ty := .int) dX6_refusal_69 rfl rfl h30
        · have h31 := h27.2 q32
          refine AW_aload_n dX6_refusal_58 rfl ?_
          refine AW_getv (t := 19) (o := 0) (k := 10) none (v := aI (m20 19 0 10)) dX6_refusal_59 ff_X6_46 rfl rfl rfl ?_
          refine AW_goto (tgt := 69) dX6_refusal_62 (by decide) ?_
          exact AW_ireturn (ty := .int) dX6_refusal_69 rfl rfl h31
      · have h28 := h24.2 q29
        refine AW_iload_n dX6_refusal_36 rfl ?_
        refine AW_if_eq (tgt := 47) dX6_refusal_37 (by decide) (fun q35 => ?_) (fun q35 => ?_)
        · have h33 := h28.1 q35
          refine AW_aload_n dX6_refusal_47 rfl ?_
          refine AW_getv (t := 19) (o := 0) (k := 11) none (v := aI (m20 19 0 11)) dX6_refusal_48 ff_X6_49 rfl rfl rfl ?_
          refine AW_goto (tgt := 69) dX6_refusal_51 (by decide) ?_
          exact AW_ireturn (ty := .int) dX6_refusal_69 rfl rfl h33
        · have h34 := h28.2 q35
          refine AW_aload_n dX6_refusal_40 rfl ?_
          refine AW_getv (t := 19) (o := 0) (k := 12) none (v := aI (m20 19 0 12)) dX6_refusal_41 ff_X6_52 rfl rfl rfl ?_
          refine AW_goto (tgt := 69) dX6_refusal_44 (by decide) ?_
          exact AW_ireturn (ty := .int) dX6_refusal_69 rfl rfl h34
    · have h25 := h21.2 q26
      refine AW_iconst (v := 0) dX6_refusal_30 (by decide) ?_
      exact AW_ireturn (ty := .int) dX6_refusal_31 rfl rfl h25
set_option maxRecDepth 100000 in
theorem B_X6_all_0 {a1 : Int32} {μ : Mem} {P : RES → Mem → Prop}  (h : AW M_X6_all 0 4 [some (aR 19 0), some (aI a1), some (aI 0), some (aI 0)] [] μ P) : AW M_X6_all 0 0 [some (aR 19 0), some (aI a1), none, none] [] μ P := by
  refine AW_iconst (v := 0) dX6_all_0 (by decide) ?_
  refine AW_istore_n (loc' := [some (aR 19 0), some (aI a1), some (aI 0), none]) dX6_all_1 (Nat.le_of_ble_eq_true rfl) rfl rfl ?_
  refine AW_iconst (v := 0) dX6_all_2 (by decide) ?_
  refine AW_istore_n (loc' := [some (aR 19 0), some (aI a1), some (aI 0), some (aI 0)]) dX6_all_3 (Nat.le_of_ble_eq_true rfl) rfl rfl ?_
  exact h
set_option maxRecDepth 100000 in
theorem B_X6_all_4 {a1 : Int32} {a2 : Int32} {a3 : Int32} {μ : Mem} {P : RES → Mem → Prop}  (h : vp_in 1 240 ∧ (((μ 20 0 (1 : Int32).toNatClampNeg) ≤ a3 → P (.inl (some (aI a2))) μ) ∧ (¬ (μ 20 0 (1 : Int32).toNatClampNeg) ≤ a3 → ∃ (r9 : Int32) (m6 : Mem), MetA M_X6_misprints [aR 19 0, aI a3, aI a1] μ (rI r9 m6) ∧ (AW M_X6_all 0 4 [some (aR 19 0), some (aI a1), some (aI (a2 + r9)), some (aI (a3 + 1))] [] m6 P)))) : AW M_X6_all 0 4 [some (aR 19 0), some (aI a1), some (aI a2), some (aI a3)] [] μ P := by
  refine AW_iload_n dX6_all_4 rfl ?_
  refine AW_aload_n dX6_all_5 rfl ?_
  refine AW_getv (t := 19) (o := 0) (k := 0) (some (20, none)) (v := aR 20 0) dX6_all_6 ff_X6_7 rfl rfl rfl ?_
  refine AW_iconst (v := 1) dX6_all_9 (by decide) ?_
  obtain ⟨h1, h2⟩ := h
  refine AW_iaload dX6_all_10 rfl rfl h1 ?_
  refine AW_icmp_ge (tgt := 29) dX6_all_11 (by decide) (fun q5 => ?_) (fun q5 => ?_)
  · have h3 := h2.1 q5
    refine AW_iload_n dX6_all_29 rfl ?_
    exact AW_ireturn (ty := .int) dX6_all_30 rfl rfl h3
  · have h4 := h2.2 q5
    refine AW_iload_n dX6_all_14 rfl ?_
    refine AW_aload_n dX6_all_15 rfl ?_
    refine AW_iload_n dX6_all_16 rfl ?_
    refine AW_iload_n dX6_all_17 rfl ?_
    obtain ⟨r9, m6, h8, h7⟩ := h4
    refine AW_callVI [aI a3, aI a1] dX6_all_18 cv_X6_118 rfl rfl rfl (by decide) rfl (by decide) (Nat.le_of_ble_eq_true rfl) h8 ?_
    refine AW_iadd dX6_all_21 ?_
    refine AW_istore_n (loc' := [some (aR 19 0), some (aI a1), some (aI (a2 + r9)), some (aI a3)]) dX6_all_22 (Nat.le_of_ble_eq_true rfl) rfl rfl ?_
    refine AW_iinc (v := a3 + 1) (loc' := [some (aR 19 0), some (aI a1), some (aI (a2 + r9)), some (aI (a3 + 1))]) dX6_all_23 rfl rfl (Nat.le_of_ble_eq_true rfl) rfl rfl ?_
    refine AW_goto (tgt := 4) dX6_all_26 (by decide) ?_
    exact h7
set_option maxRecDepth 100000 in
theorem B_X6_summed_0 {a1 : Int32} {μ : Mem} {P : RES → Mem → Prop}  (h : AW M_X6_summed 0 4 [some (aR 19 0), some (aI a1), some (aI 0), some (aI 0)] [] μ P) : AW M_X6_summed 0 0 [some (aR 19 0), some (aI a1), none, none] [] μ P := by
  refine AW_iconst (v := 0) dX6_summed_0 (by decide) ?_
  refine AW_istore_n (loc' := [some (aR 19 0), some (aI a1), some (aI 0), none]) dX6_summed_1 (Nat.le_of_ble_eq_true rfl) rfl rfl ?_
  refine AW_iconst (v := 0) dX6_summed_2 (by decide) ?_
  refine AW_istore_n (loc' := [some (aR 19 0), some (aI a1), some (aI 0), some (aI 0)]) dX6_summed_3 (Nat.le_of_ble_eq_true rfl) rfl rfl ?_
  exact h
set_option maxRecDepth 100000 in
theorem B_X6_summed_4 {a1 : Int32} {a2 : Int32} {a3 : Int32} {μ : Mem} {P : RES → Mem → Prop}  (h : vp_in 0 240 ∧ (((μ 20 0 (0 : Int32).toNatClampNeg) ≤ a3 → P (.inl (some (aI a2))) μ) ∧ (¬ (μ 20 0 (0 : Int32).toNatClampNeg) ≤ a3 → ∃ (r9 : Int32) (m6 : Mem), MetA M_X6_by [aR 19 0, aI a3, aI a1] μ (rI r9 m6) ∧ (AW M_X6_summed 0 4 [some (aR 19 0), some (aI a1), some (aI (a2 + r9)), some (aI (a3 + 1))] [] m6 P)))) : AW M_X6_summed 0 4 [some (aR 19 0), some (aI a1), some (aI a2), some (aI a3)] [] μ P := by
  refine AW_iload_n dX6_summed_4 rfl ?_
  refine AW_aload_n dX6_summed_5 rfl ?_
  refine AW_getv (t := 19) (o := 0) (k := 0) (some (20, none)) (v := aR 20 0) dX6_summed_6 ff_X6_7 rfl rfl rfl ?_
  refine AW_iconst (v := 0) dX6_summed_9 (by decide) ?_
  obtain ⟨h1, h2⟩ := h
  refine AW_iaload dX6_summed_10 rfl rfl h1 ?_
  refine AW_icmp_ge (tgt := 29) dX6_summed_11 (by decide) (fun q5 => ?_) (fun q5 => ?_)
  · have h3 := h2.1 q5
    refine AW_iload_n dX6_summed_29 rfl ?_
    exact AW_ireturn (ty := .int) dX6_summed_30 rfl rfl h3
  · have h4 := h2.2 q5
    refine AW_iload_n dX6_summed_14 rfl ?_
    refine AW_aload_n dX6_summed_15 rfl ?_
    refine AW_iload_n dX6_summed_16 rfl ?_
    refine AW_iload_n dX6_summed_17 rfl ?_
    obtain ⟨r9, m6, h8, h7⟩ := h4
    refine AW_callVI [aI a3, aI a1] dX6_summed_18 cv_X6_65 rfl rfl rfl (by decide) rfl (by decide) (Nat.le_of_ble_eq_true rfl) h8 ?_
    refine AW_iadd dX6_summed_21 ?_
    refine AW_istore_n (loc' := [some (aR 19 0), some (aI a1), some (aI (a2 + r9)), some (aI a3)]) dX6_summed_22 (Nat.le_of_ble_eq_true rfl) rfl rfl ?_
    refine AW_iinc (v := a3 + 1) (loc' := [some (aR 19 0), some (aI a1), some (aI (a2 + r9)), some (aI (a3 + 1))]) dX6_summed_23 rfl rfl (Nat.le_of_ble_eq_true rfl) rfl rfl ?_
    refine AW_goto (tgt := 4) dX6_summed_26 (by decide) ?_
    exact h7
set_option maxRecDepth 100000 in
theorem B_X6_account_0 {a1 : Int32} {μ : Mem} {P : RES → Mem → Prop}  (h : ∃ (r4 : Int32) (m1 : Mem), MetA M_X6_in [aI a1, aI 0, aI 14] μ (rI r4 m1) ∧ ((r4 = 0 → AW M_X6_account 0 16 [some (aR 19 0), some (aI a1)] [aI 1, aR 19 0] m1 P) ∧ (¬ r4 = 0 → AW M_X6_account 0 16 [some (aR 19 0), some (aI a1)] [aI 0, aR 19 0] m1 P))) : AW M_X6_account 0 0 [some (aR 19 0), some (aI a1)] [] μ P := by
  refine AW_aload_n dX6_account_0 rfl ?_
  refine AW_iload_n dX6_account_1 rfl ?_
  refine AW_iconst (v := 0) dX6_account_2 (by decide) ?_
  refine AW_bipush (v := 14) dX6_account_3 (by decide) ?_
  obtain ⟨r4, m1, h3, h2⟩ := h
  refine AW_callSI [aI a1, aI 0, aI 14] dX6_account_5 cs_X6_72 rfl rfl (by decide) rfl (by decide) (Nat.le_of_ble_eq_true rfl) h3 ?_
  refine AW_if_eq (tgt := 15) dX6_account_8 (by decide) (fun q7 => ?_) (fun q7 => ?_)
  · have h5 := h2.1 q7
    refine AW_iconst (v := 1) dX6_account_15 (by decide) ?_
    exact h5
  · have h6 := h2.2 q7
    refine AW_iconst (v := 0) dX6_account_11 (by decide) ?_
    refine AW_goto (tgt := 16) dX6_account_12 (by decide) ?_
    exact h6
set_option maxRecDepth 100000 in
theorem B_X6_account_16 {a1 : Int32} {s0 : Int32} {μ : Mem} {P : RES → Mem → Prop}  (h : ∃ (r4 : Int32) (m1 : Mem), MetA M_X6_fails [aR 19 0, aI s0] μ (rI r4 m1) ∧ ((r4 = 0 → (a1.toInt = 5 ∨ a1.toInt = 6 ∨ a1.toInt = 7 → ∃ (r13 : Int32) (m10 : Mem), MetA M_X6_all [aR 19 0, aI (a1 - 4)] m1 (rI r13 m10) ∧ (P (.inl (some (aI r13))) m10)) ∧ (a1.toInt = 8 → vp_in 5 240 ∧ (P (.inl (some (aI (m1 20 0 (5 : Int32).toNatClampNeg)))) m1)) ∧ (a1.toInt = 9 → vp_in 6 240 ∧ (P (.inl (some (aI (m1 20 0 (6 : Int32).toNatClampNeg)))) m1)) ∧ (a1.toInt = 10 → vp_in 7 240 ∧ (P (.inl (some (aI (m1 20 0 (7 : Int32).toNatClampNeg)))) m1)) ∧ (a1.toInt = 11 → vp_in 8 240 ∧ (P (.inl (some (aI (m1 20 0 (8 : Int32).toNatClampNeg)))) m1)) ∧ (a1.toInt = 12 → ∃ (r30 : Int32) (m27 : Mem), MetA M_X6_summed [aR 19 0, aI 0] m1 (rI r30 m27) ∧ (P (.inl (some (aI r30))) m27)) ∧ (a1.toInt = 13 → P (.inl (some (aI (m1 19 0 14)))) m1) ∧ (a1.toInt = 14 → P (.inl (some (aI (m1 19 0 5)))) m1) ∧ (¬ a1.toInt = 5 → ¬ a1.toInt = 6 → ¬ a1.toInt = 7 → ¬ a1.toInt = 8 → ¬ a1.toInt = 9 → ¬ a1.toInt = 10 → ¬ a1.toInt = 11 → ¬ a1.toInt = 12 → ¬ a1.toInt = 13 → ¬ a1.toInt = 14 → vp_in a1 240 ∧ (P (.inl (some (aI (m1 20 0 a1.toNatClampNeg)))) m1))) ∧ (¬ r4 = 0 → P (.inl (some (aI 0))) m1))) : AW M_X6_account 0 16 [some (aR 19 0), some (aI a1)] [aI s0, aR 19 0] μ P := by
  obtain ⟨r4, m1, h3, h2⟩ := h
  refine AW_callVI [aI s0] dX6_account_16 cv_X6_86 rfl rfl rfl (by decide) rfl (by decide) (Nat.le_of_ble_eq_true rfl) h3 ?_
  refine AW_if_eq (tgt := 24) dX6_account_19 (by decide) (fun q7 => ?_) (fun q7 => ?_)
  · have h5 := h2.1 q7
    refine AW_iload_n dX6_account_24 rfl ?_
    obtain ⟨g36, g37, g38, g39, g40, g41, g42, g43, g44⟩ := h5
    have hdf : (¬ a1.toInt = 5 → ¬ a1.toInt = 6 → ¬ a1.toInt = 7 → ¬ a1.toInt = 8 → ¬ a1.toInt = 9 → ¬ a1.toInt = 10 → ¬ a1.toInt = 11 → ¬ a1.toInt = 12 → ¬ a1.toInt = 13 → ¬ a1.toInt = 14 → AW M_X6_account 0 135 [some (aR 19 0), some (aI a1)] [] m1 P) := by
      intro z0 z1 z2 z3 z4 z5 z6 z7 z8 z9
      have h33 := g44 z0 z1 z2 z3 z4 z5 z6 z7 z8 z9
      refine AW_aload_n dX6_account_135 rfl ?_
      refine AW_getv (t := 19) (o := 0) (k := 0) (some (20, none)) (v := aR 20 0) dX6_account_136 ff_X6_7 rfl rfl rfl ?_
      refine AW_iload_n dX6_account_139 rfl ?_
      obtain ⟨h34, h35⟩ := h33
      refine AW_iaload dX6_account_140 rfl rfl h34 ?_
      exact AW_ireturn (ty := .int) dX6_account_141 rfl rfl h35
    have ho55 : (a1.toInt = 5 ∨ a1.toInt = 6 ∨ a1.toInt = 7 → AW M_X6_account 0 80 [some (aR 19 0), some (aI a1)] [] m1 P) := by
      intro z
      have h9 := g36 z
      refine AW_aload_n dX6_account_80 rfl ?_
      refine AW_iload_n dX6_account_81 rfl ?_
      refine AW_iconst (v := 4) dX6_account_82 (by decide) ?_
      refine AW_isub dX6_account_83 ?_
      obtain ⟨r13, m10, h12, h11⟩ := h9
      refine AW_callVI [aI (a1 - 4)] dX6_account_84 cv_X6_245 rfl rfl rfl (by decide) rfl (by decide) (Nat.le_of_ble_eq_true rfl) h12 ?_
      exact AW_ireturn (ty := .int) dX6_account_87 rfl rfl h11
    have ho63 : (a1.toInt = 8 → AW M_X6_account 0 88 [some (aR 19 0), some (aI a1)] [] m1 P) := by
      intro z
      have h14 := g37 z
      refine AW_aload_n dX6_account_88 rfl ?_
      refine AW_getv (t := 19) (o := 0) (k := 0) (some (20, none)) (v := aR 20 0) dX6_account_89 ff_X6_7 rfl rfl rfl ?_
      refine AW_iconst (v := 5) dX6_account_92 (by decide) ?_
      obtain ⟨h15, h16⟩ := h14
      refine AW_iaload dX6_account_93 rfl rfl h15 ?_
      exact AW_ireturn (ty := .int) dX6_account_94 rfl rfl h16
    have ho70 : (a1.toInt = 9 → AW M_X6_account 0 95 [some (aR 19 0), some (aI a1)] [] m1 P) := by
      intro z
      have h17 := g38 z
      refine AW_aload_n dX6_account_95 rfl ?_
      refine AW_getv (t := 19) (o := 0) (k := 0) (some (20, none)) (v := aR 20 0) dX6_account_96 ff_X6_7 rfl rfl rfl ?_
      refine AW_bipush (v := 6) dX6_account_99 (by decide) ?_
      obtain ⟨h18, h19⟩ := h17
      refine AW_iaload dX6_account_101 rfl rfl h18 ?_
      exact AW_ireturn (ty := .int) dX6_account_102 rfl rfl h19
    have ho78 : (a1.toInt = 10 → AW M_X6_account 0 103 [some (aR 19 0), some (aI a1)] [] m1 P) := by
      intro z
      have h20 := g39 z
      refine AW_aload_n dX6_account_103 rfl ?_
      refine AW_getv (t := 19) (o := 0) (k := 0) (some (20, none)) (v := aR 20 0) dX6_account_104 ff_X6_7 rfl rfl rfl ?_
      refine AW_bipush (v := 7) dX6_account_107 (by decide) ?_
      obtain ⟨h21, h22⟩ := h20
      refine AW_iaload dX6_account_109 rfl rfl h21 ?_
      exact AW_ireturn (ty := .int) dX6_account_110 rfl rfl h22
    have ho86 : (a1.toInt = 11 → AW M_X6_account 0 111 [some (aR 19 0), some (aI a1)] [] m1 P) := by
      intro z
      have h23 := g40 z
      refine AW_aload_n dX6_account_111 rfl ?_
      refine AW_getv (t := 19) (o := 0) (k := 0) (some (20, none)) (v := aR 20 0) dX6_account_112 ff_X6_7 rfl rfl rfl ?_
      refine AW_bipush (v := 8) dX6_account_115 (by decide) ?_
      obtain ⟨h24, h25⟩ := h23
      refine AW_iaload dX6_account_117 rfl rfl h24 ?_
      exact AW_ireturn (ty := .int) dX6_account_118 rfl rfl h25
    have ho94 : (a1.toInt = 12 → AW M_X6_account 0 119 [some (aR 19 0), some (aI a1)] [] m1 P) := by
      intro z
      have h26 := g41 z
      refine AW_aload_n dX6_account_119 rfl ?_
      refine AW_iconst (v := 0) dX6_account_120 (by decide) ?_
      obtain ⟨r30, m27, h29, h28⟩ := h26
      refine AW_callVI [aI 0] dX6_account_121 cv_X6_248 rfl rfl rfl (by decide) rfl (by decide) (Nat.le_of_ble_eq_true rfl) h29 ?_
      exact AW_ireturn (ty := .int) dX6_account_124 rfl rfl h28
    have ho100 : (a1.toInt = 13 → AW M_X6_account 0 125 [some (aR 19 0), some (aI a1)] [] m1 P) := by
      intro z
      have h31 := g42 z
      refine AW_aload_n dX6_account_125 rfl ?_
      refine AW_getv (t := 19) (o := 0) (k := 14) none (v := aI (m1 19 0 14)) dX6_account_126 ff_X6_183 rfl rfl rfl ?_
      exact AW_ireturn (ty := .int) dX6_account_129 rfl rfl h31
    have ho105 : (a1.toInt = 14 → AW M_X6_account 0 130 [some (aR 19 0), some (aI a1)] [] m1 P) := by
      intro z
      have h32 := g43 z
      refine AW_aload_n dX6_account_130 rfl ?_
      refine AW_getv (t := 19) (o := 0) (k := 5) none (v := aI (m1 19 0 5)) dX6_account_131 ff_X6_58 rfl rfl rfl ?_
      exact AW_ireturn (ty := .int) dX6_account_134 rfl rfl h32
    exact AW_tsw dX6_account_25 (by decide) (fun q45 => ⟨135, by decide, hdf (by omega) (by omega) (by omega) (by omega) (by omega) (by omega) (by omega) (by omega) (by omega) (by omega)⟩) ⟨fun q45 => ⟨80, by decide, ho55 (by omega)⟩, fun q45 => ⟨80, by decide, ho55 (by omega)⟩, fun q45 => ⟨80, by decide, ho55 (by omega)⟩, fun q45 => ⟨88, by decide, ho63 (by omega)⟩, fun q45 => ⟨95, by decide, ho70 (by omega)⟩, fun q45 => ⟨103, by decide, ho78 (by omega)⟩, fun q45 => ⟨111, by decide, ho86 (by omega)⟩, fun q45 => ⟨119, by decide, ho94 (by omega)⟩, fun q45 => ⟨125, by decide, ho100 (by omega)⟩, fun q45 => ⟨130, by decide, ho105 (by omega)⟩, trivial⟩
  · have h6 := h2.2 q7
    refine AW_iconst (v := 0) dX6_account_22 (by decide) ?_
    exact AW_ireturn (ty := .int) dX6_account_23 rfl rfl h6
set_option maxRecDepth 100000 in
theorem B_X6_isWell_0  {μ : Mem} {P : RES → Mem → Prop}  (h : ∀ m1 : Mem, m1 = mset μ 19 0 (upd (μ 19 0) 8 0) → AW M_X6_isWell 0 7 [some (aR 19 0), some (aI 0), none] [] m1 P) : AW M_X6_isWell 0 0 [some (aR 19 0), none, none] [] μ P := by
  refine AW_aload_n dX6_isWell_0 rfl ?_
  refine AW_iconst (v := 0) dX6_isWell_1 (by decide) ?_
  obtain ⟨m1, em1⟩ : ∃ z : Mem, z = mset μ 19 0 (upd (μ 19 0) 8 0) := ⟨_, rfl⟩
  have h2 := h m1 em1
  refine AW_putf (t := 19) (o := 0) (k := 8) dX6_isWell_2 fp_X6_36 rfl rfl rfl rfl em1.symm ?_
  refine AW_iconst (v := 0) dX6_isWell_5 (by decide) ?_
  refine AW_istore_n (loc' := [some (aR 19 0), some (aI 0), none]) dX6_isWell_6 (Nat.le_of_ble_eq_true rfl) rfl rfl ?_
  exact h2
set_option maxRecDepth 100000 in
theorem B_X6_isWell_7 {a1 : Int32} {μ : Mem} {P : RES → Mem → Prop}  (h : vp_in 1 240 ∧ (((μ 20 0 (1 : Int32).toNatClampNeg) ≤ a1 → P (.inl (some (aI 1))) μ) ∧ (¬ (μ 20 0 (1 : Int32).toNatClampNeg) ≤ a1 → AW M_X6_isWell 0 19 [some (aR 19 0), some (aI a1), some (aI 0)] [] μ P))) : AW M_X6_isWell 0 7 [some (aR 19 0), some (aI a1), none] [] μ P := by
  refine AW_iload_n dX6_isWell_7 rfl ?_
  refine AW_aload_n dX6_isWell_8 rfl ?_
  refine AW_getv (t := 19) (o := 0) (k := 0) (some (20, none)) (v := aR 20 0) dX6_isWell_9 ff_X6_7 rfl rfl rfl ?_
  refine AW_iconst (v := 1) dX6_isWell_12 (by decide) ?_
  obtain ⟨h1, h2⟩ := h
  refine AW_iaload dX6_isWell_13 rfl rfl h1 ?_
  refine AW_icmp_ge (tgt := 74) dX6_isWell_14 (by decide) (fun q5 => ?_) (fun q5 => ?_)
  · have h3 := h2.1 q5
    refine AW_iconst (v := 1) dX6_isWell_74 (by decide) ?_
    exact AW_ireturn (ty := .boolean) dX6_isWell_75 rfl rfl h3
  · have h4 := h2.2 q5
    refine AW_iconst (v := 0) dX6_isWell_17 (by decide) ?_
    refine AW_istore_n (loc' := [some (aR 19 0), some (aI a1), some (aI 0)]) dX6_isWell_18 (Nat.le_of_ble_eq_true rfl) rfl rfl ?_
    exact h4
set_option maxRecDepth 100000 in
theorem B_X6_isWell_19 {a1 : Int32} {a2 : Int32} {μ : Mem} {P : RES → Mem → Prop}  (h : ∃ (r4 : Int32) (m1 : Mem), MetA M_X6_of [aR 19 0, aI a1, aI 1] μ (rI r4 m1) ∧ ((r4 ≤ a2 → AW M_X6_isWell 0 7 [some (aR 19 0), some (aI (a1 + 1)), none] [] m1 P) ∧ (¬ r4 ≤ a2 → ∃ (r11 : Int32) (m8 : Mem), MetA M_X6_mark [aR 19 0, aI a1, aI a2] m1 (rI r11 m8) ∧ ((r11 ≤ 0 → ∃ (r18 : Int32) (m15 : Mem), MetA M_X6_bad [aR 19 0, aI a1, aI a2] m8 (rI r18 m15) ∧ ((r18 ≤ 0 → ((0 : Int32) = 0 → AW M_X6_isWell 0 19 [some (aR 19 0), some (aI a1), some (aI (a2 + 1))] [] m15 P) ∧ (¬ (0 : Int32) = 0 → P (.inl (some (aI 0))) m15)) ∧ (¬ r18 ≤ 0 → ((0 : Int32) = 1 → AW M_X6_isWell 0 19 [some (aR 19 0), some (aI a1), some (aI (a2 + 1))] [] m15 P) ∧ (¬ (0 : Int32) = 1 → P (.inl (some (aI 0))) m15)))) ∧ (¬ r11 ≤ 0 → ∃ (r31 : Int32) (m28 : Mem), MetA M_X6_bad [aR 19 0, aI a1, aI a2] m8 (rI r31 m28) ∧ ((r31 ≤ 0 → ((1 : Int32) = 0 → AW M_X6_isWell 0 19 [some (aR 19 0), some (aI a1), some (aI (a2 + 1))] [] m28 P) ∧ (¬ (1 : Int32) = 0 → P (.inl (some (aI 0))) m28)) ∧ (¬ r31 ≤ 0 → ((1 : Int32) = 1 → AW M_X6_isWell 0 19 [some (aR 19 0), some (aI a1), some (aI (a2 + 1))] [] m28 P) ∧ (¬ (1 : Int32) = 1 → P (.inl (some (aI 0))) m28)))))))) : AW M_X6_isWell 0 19 [some (aR 19 0), some (aI a1), some (aI a2)] [] μ P := by
  refine AW_iload_n dX6_isWell_19 rfl ?_
  refine AW_aload_n dX6_isWell_20 rfl ?_
  refine AW_iload_n dX6_isWell_21 rfl ?_
  refine AW_iconst (v := 1) dX6_isWell_22 (by decide) ?_
  obtain ⟨r4, m1, h3, h2⟩ := h
  refine AW_callVI [aI a1, aI 1] dX6_isWell_23 cv_X6_80 rfl rfl rfl (by decide) rfl (by decide) (Nat.le_of_ble_eq_true rfl) h3 ?_
  refine AW_icmp_ge (tgt := 68) dX6_isWell_26 (by decide) (fun q7 => ?_) (fun q7 => ?_)
  · have h5 := h2.1 q7
    refine AW_iinc (v := a1 + 1) (loc' := [some (aR 19 0), some (aI (a1 + 1)), some (aI a2)]) dX6_isWell_68 rfl rfl (Nat.le_of_ble_eq_true rfl) rfl rfl ?_
    refine AW_goto (tgt := 7) dX6_isWell_71 (by decide) ?_
    exact AW_mask [true, true, false] h5
  · have h6 := h2.2 q7
    refine AW_aload_n dX6_isWell_29 rfl ?_
    refine AW_iload_n dX6_isWell_30 rfl ?_
    refine AW_iload_n dX6_isWell_31 rfl ?_
    obtain ⟨r11, m8, h10, h9⟩ := h6
    refine AW_callVI [aI a1, aI a2] dX6_isWell_32 cv_X6_111 rfl rfl rfl (by decide) rfl (by decide) (Nat.le_of_ble_eq_true rfl) h10 ?_
    refine AW_if_le (tgt := 42) dX6_isWell_35 (by decide) (fun q14 => ?_) (fun q14 => ?_)
    · have h12 := h9.1 q14
      refine AW_iconst (v := 0) dX6_isWell_42 (by decide) ?_
      refine AW_aload_n dX6_isWell_43 rfl ?_
      refine AW_iload_n dX6_isWell_44 rfl ?_
      refine AW_iload_n dX6_isWell_45 rfl ?_
      obtain ⟨r18, m15, h17, h16⟩ := h12
      refine AW_callVI [aI a1, aI a2] dX6_isWell_46 cv_X6_130 rfl rfl rfl (by decide) rfl (by decide) (Nat.le_of_ble_eq_true rfl) h17 ?_
      refine AW_if_le (tgt := 56) dX6_isWell_49 (by decide) (fun q21 => ?_) (fun q21 => ?_)
      · have h19 := h16.1 q21
        refine AW_iconst (v := 0) dX6_isWell_56 (by decide) ?_
        refine AW_icmp_eq (tgt := 62) dX6_isWell_57 (by decide) (fun q24 => ?_) (fun q24 => ?_)
        · have h22 := h19.1 q24
          refine AW_iinc (v := a2 + 1) (loc' := [some (aR 19 0), some (aI a1), some (aI (a2 + 1))]) dX6_isWell_62 rfl rfl (Nat.le_of_ble_eq_true rfl) rfl rfl ?_
          refine AW_goto (tgt := 19) dX6_isWell_65 (by decide) ?_
          exact h22
        · have h23 := h19.2 q24
          refine AW_iconst (v := 0) dX6_isWell_60 (by decide) ?_
          exact AW_ireturn (ty := .boolean) dX6_isWell_61 rfl rfl h23
      · have h20 := h16.2 q21
        refine AW_iconst (v := 1) dX6_isWell_52 (by decide) ?_
        refine AW_goto (tgt := 57) dX6_isWell_53 (by decide) ?_
        refine AW_icmp_eq (tgt := 62) dX6_isWell_57 (by decide) (fun q27 => ?_) (fun q27 => ?_)
        · have h25 := h20.1 q27
          refine AW_iinc (v := a2 + 1) (loc' := [some (aR 19 0), some (aI a1), some (aI (a2 + 1))]) dX6_isWell_62 rfl rfl (Nat.le_of_ble_eq_true rfl) rfl rfl ?_
          refine AW_goto (tgt := 19) dX6_isWell_65 (by decide) ?_
          exact h25
        · have h26 := h20.2 q27
          refine AW_iconst (v := 0) dX6_isWell_60 (by decide) ?_
          exact AW_ireturn (ty := .boolean) dX6_isWell_61 rfl rfl h26
    · have h13 := h9.2 q14
      refine AW_iconst (v := 1) dX6_isWell_38 (by decide) ?_
      refine AW_goto (tgt := 43) dX6_isWell_39 (by decide) ?_
      refine AW_aload_n dX6_isWell_43 rfl ?_
      refine AW_iload_n dX6_isWell_44 rfl ?_
      refine AW_iload_n dX6_isWell_45 rfl ?_
      obtain ⟨r31, m28, h30, h29⟩ := h13
      refine AW_callVI [aI a1, aI a2] dX6_isWell_46 cv_X6_130 rfl rfl rfl (by decide) rfl (by decide) (Nat.le_of_ble_eq_true rfl) h30 ?_
      refine AW_if_le (tgt := 56) dX6_isWell_49 (by decide) (fun q34 => ?_) (fun q34 => ?_)
      · have h32 := h29.1 q34
        refine AW_iconst (v := 0) dX6_isWell_56 (by decide) ?_
        refine AW_icmp_eq (tgt := 62) dX6_isWell_57 (by decide) (fun q37 => ?_) (fun q37 => ?_)
        · have h35 := h32.1 q37
          refine AW_iinc (v := a2 + 1) (loc' := [some (aR 19 0), some (aI a1), some (aI (a2 + 1))]) dX6_isWell_62 rfl rfl (Nat.le_of_ble_eq_true rfl) rfl rfl ?_
          refine AW_goto (tgt := 19) dX6_isWell_65 (by decide) ?_
          exact h35
        · have h36 := h32.2 q37
          refine AW_iconst (v := 0) dX6_isWell_60 (by decide) ?_
          exact AW_ireturn (ty := .boolean) dX6_isWell_61 rfl rfl h36
      · have h33 := h29.2 q34
        refine AW_iconst (v := 1) dX6_isWell_52 (by decide) ?_
        refine AW_goto (tgt := 57) dX6_isWell_53 (by decide) ?_
        refine AW_icmp_eq (tgt := 62) dX6_isWell_57 (by decide) (fun q40 => ?_) (fun q40 => ?_)
        · have h38 := h33.1 q40
          refine AW_iinc (v := a2 + 1) (loc' := [some (aR 19 0), some (aI a1), some (aI (a2 + 1))]) dX6_isWell_62 rfl rfl (Nat.le_of_ble_eq_true rfl) rfl rfl ?_
          refine AW_goto (tgt := 19) dX6_isWell_65 (by decide) ?_
          exact h38
        · have h39 := h33.2 q40
          refine AW_iconst (v := 0) dX6_isWell_60 (by decide) ?_
          exact AW_ireturn (ty := .boolean) dX6_isWell_61 rfl rfl h39
set_option maxRecDepth 100000 in
theorem B_X6_meanShame_0  {μ : Mem} {P : RES → Mem → Prop}  (h : vp_in 0 240 ∧ ((¬ (μ 20 0 (0 : Int32).toNatClampNeg) = 0 → ∃ (r9 : Int32) (m6 : Mem), MetA M_X6_fails [aR 19 0, aI 0] μ (rI r9 m6) ∧ ((r9 = 0 → ∃ (r16 : Int32) (m13 : Mem), MetA M_X6_summed [aR 19 0, aI 1] m6 (rI r16 m13) ∧ (vp_in 0 240 ∧ (vf_n64 (FP.ddiv (FP.i2d r16) (FP.i2d (m13 20 0 (0 : Int32).toNatClampNeg))) ∧ (P (.inl (some (aD (FP.ddiv (FP.i2d r16) (FP.i2d (m13 20 0 (0 : Int32).toNatClampNeg)))))) m13)))) ∧ (¬ r9 = 0 → P (.inl (some (aD 0))) m6))) ∧ ((μ 20 0 (0 : Int32).toNatClampNeg) = 0 → ∃ (r24 : Int32) (m21 : Mem), MetA M_X6_fails [aR 19 0, aI 1] μ (rI r24 m21) ∧ ((r24 = 0 → ∃ (r31 : Int32) (m28 : Mem), MetA M_X6_summed [aR 19 0, aI 1] m21 (rI r31 m28) ∧ (vp_in 0 240 ∧ (vf_n64 (FP.ddiv (FP.i2d r31) (FP.i2d (m28 20 0 (0 : Int32).toNatClampNeg))) ∧ (P (.inl (some (aD (FP.ddiv (FP.i2d r31) (FP.i2d (m28 20 0 (0 : Int32).toNatClampNeg)))))) m28)))) ∧ (¬ r24 = 0 → P (.inl (some (aD 0))) m21))))) : AW M_X6_meanShame 0 0 [some (aR 19 0)] [] μ P := by
  refine AW_aload_n dX6_meanShame_0 rfl ?_
  refine AW_aload_n dX6_meanShame_1 rfl ?_
  refine AW_getv (t := 19) (o := 0) (k := 0) (some (20, none)) (v := aR 20 0) dX6_meanShame_2 ff_X6_7 rfl rfl rfl ?_
  refine AW_iconst (v := 0) dX6_meanShame_5 (by decide) ?_
  obtain ⟨h1, h2⟩ := h
  refine AW_iaload dX6_meanShame_6 rfl rfl h1 ?_
  refine AW_if_ne (tgt := 14) dX6_meanShame_7 (by decide) (fun q5 => ?_) (fun q5 => ?_)
  · have h3 := h2.1 q5
    refine AW_iconst (v := 0) dX6_meanShame_14 (by decide) ?_
    obtain ⟨r9, m6, h8, h7⟩ := h3
    refine AW_callVI [aI 0] dX6_meanShame_15 cv_X6_86 rfl rfl rfl (by decide) rfl (by decide) (Nat.le_of_ble_eq_true rfl) h8 ?_
    refine AW_if_eq (tgt := 25) dX6_meanShame_18 (by decide) (fun q12 => ?_) (fun q12 => ?_)
    · have h10 := h7.1 q12
      refine AW_aload_n dX6_meanShame_25 rfl ?_
      refine AW_iconst (v := 1) dX6_meanShame_26 (by decide) ?_
      obtain ⟨r16, m13, h15, h14⟩ := h10
      refine AW_callVI [aI 1] dX6_meanShame_27 cv_X6_248 rfl rfl rfl (by decide) rfl (by decide) (Nat.le_of_ble_eq_true rfl) h15 ?_
      refine AW_i2d dX6_meanShame_30 ?_
      refine AW_aload_n dX6_meanShame_31 rfl ?_
      refine AW_getv (t := 19) (o := 0) (k := 0) (some (20, none)) (v := aR 20 0) dX6_meanShame_32 ff_X6_7 rfl rfl rfl ?_
      refine AW_iconst (v := 0) dX6_meanShame_35 (by decide) ?_
      obtain ⟨h17, h18⟩ := h14
      refine AW_iaload dX6_meanShame_36 rfl rfl h17 ?_
      refine AW_i2d dX6_meanShame_37 ?_
      obtain ⟨h20, h19⟩ := h18
      refine AW_ddiv dX6_meanShame_38 h20 ?_
      exact AW_dreturn dX6_meanShame_39 rfl h19
    · have h11 := h7.2 q12
      refine AW_dconst0 dX6_meanShame_21 ?_
      refine AW_goto (tgt := 39) dX6_meanShame_22 (by decide) ?_
      exact AW_dreturn dX6_meanShame_39 rfl h11
  · have h4 := h2.2 q5
    refine AW_iconst (v := 1) dX6_meanShame_10 (by decide) ?_
    refine AW_goto (tgt := 15) dX6_meanShame_11 (by decide) ?_
    obtain ⟨r24, m21, h23, h22⟩ := h4
    refine AW_callVI [aI 1] dX6_meanShame_15 cv_X6_86 rfl rfl rfl (by decide) rfl (by decide) (Nat.le_of_ble_eq_true rfl) h23 ?_
    refine AW_if_eq (tgt := 25) dX6_meanShame_18 (by decide) (fun q27 => ?_) (fun q27 => ?_)
    · have h25 := h22.1 q27
      refine AW_aload_n dX6_meanShame_25 rfl ?_
      refine AW_iconst (v := 1) dX6_meanShame_26 (by decide) ?_
      obtain ⟨r31, m28, h30, h29⟩ := h25
      refine AW_callVI [aI 1] dX6_meanShame_27 cv_X6_248 rfl rfl rfl (by decide) rfl (by decide) (Nat.le_of_ble_eq_true rfl) h30 ?_
      refine AW_i2d dX6_meanShame_30 ?_
      refine AW_aload_n dX6_meanShame_31 rfl ?_
      refine AW_getv (t := 19) (o := 0) (k := 0) (some (20, none)) (v := aR 20 0) dX6_meanShame_32 ff_X6_7 rfl rfl rfl ?_
      refine AW_iconst (v := 0) dX6_meanShame_35 (by decide) ?_
      obtain ⟨h32, h33⟩ := h29
      refine AW_iaload dX6_meanShame_36 rfl rfl h32 ?_
      refine AW_i2d dX6_meanShame_37 ?_
      obtain ⟨h35, h34⟩ := h33
      refine AW_ddiv dX6_meanShame_38 h35 ?_
      exact AW_dreturn dX6_meanShame_39 rfl h34
    · have h26 := h22.2 q27
      refine AW_dconst0 dX6_meanShame_21 ?_
      refine AW_goto (tgt := 39) dX6_meanShame_22 (by decide) ?_
      exact AW_dreturn dX6_meanShame_39 rfl h26
set_option maxRecDepth 100000 in
theorem B_X6_errorShare_0  {μ : Mem} {P : RES → Mem → Prop}  (h : vp_in 1 240 ∧ ((¬ (μ 20 0 (1 : Int32).toNatClampNeg) = 0 → ∃ (r9 : Int32) (m6 : Mem), MetA M_X6_fails [aR 19 0, aI 0] μ (rI r9 m6) ∧ ((r9 = 0 → AW M_X6_errorShare 0 27 [some (aR 19 0), some (aI 0), some (aI 0)] [] m6 P) ∧ (¬ r9 = 0 → P (.inl (some (aF 0))) m6))) ∧ ((μ 20 0 (1 : Int32).toNatClampNeg) = 0 → ∃ (r16 : Int32) (m13 : Mem), MetA M_X6_fails [aR 19 0, aI 1] μ (rI r16 m13) ∧ ((r16 = 0 → AW M_X6_errorShare 0 27 [some (aR 19 0), some (aI 0), some (aI 0)] [] m13 P) ∧ (¬ r16 = 0 → P (.inl (some (aF 0))) m13))))) : AW M_X6_errorShare 0 0 [some (aR 19 0), none, none] [] μ P := by
  refine AW_aload_n dX6_errorShare_0 rfl ?_
  refine AW_aload_n dX6_errorShare_1 rfl ?_
  refine AW_getv (t := 19) (o := 0) (k := 0) (some (20, none)) (v := aR 20 0) dX6_errorShare_2 ff_X6_7 rfl rfl rfl ?_
  refine AW_iconst (v := 1) dX6_errorShare_5 (by decide) ?_
  obtain ⟨h1, h2⟩ := h
  refine AW_iaload dX6_errorShare_6 rfl rfl h1 ?_
  refine AW_if_ne (tgt := 14) dX6_errorShare_7 (by decide) (fun q5 => ?_) (fun q5 => ?_)
  · have h3 := h2.1 q5
    refine AW_iconst (v := 0) dX6_errorShare_14 (by decide) ?_
    obtain ⟨r9, m6, h8, h7⟩ := h3
    refine AW_callVI [aI 0] dX6_errorShare_15 cv_X6_86 rfl rfl rfl (by decide) rfl (by decide) (Nat.le_of_ble_eq_true rfl) h8 ?_
    refine AW_if_eq (tgt := 23) dX6_errorShare_18 (by decide) (fun q12 => ?_) (fun q12 => ?_)
    · have h10 := h7.1 q12
      refine AW_iconst (v := 0) dX6_errorShare_23 (by decide) ?_
      refine AW_istore_n (loc' := [some (aR 19 0), some (aI 0), none]) dX6_errorShare_24 (Nat.le_of_ble_eq_true rfl) rfl rfl ?_
      refine AW_iconst (v := 0) dX6_errorShare_25 (by decide) ?_
      refine AW_istore_n (loc' := [some (aR 19 0), some (aI 0), some (aI 0)]) dX6_errorShare_26 (Nat.le_of_ble_eq_true rfl) rfl rfl ?_
      exact h10
    · have h11 := h7.2 q12
      refine AW_fconst0 dX6_errorShare_21 ?_
      exact AW_freturn dX6_errorShare_22 rfl h11
  · have h4 := h2.2 q5
    refine AW_iconst (v := 1) dX6_errorShare_10 (by decide) ?_
    refine AW_goto (tgt := 15) dX6_errorShare_11 (by decide) ?_
    obtain ⟨r16, m13, h15, h14⟩ := h4
    refine AW_callVI [aI 1] dX6_errorShare_15 cv_X6_86 rfl rfl rfl (by decide) rfl (by decide) (Nat.le_of_ble_eq_true rfl) h15 ?_
    refine AW_if_eq (tgt := 23) dX6_errorShare_18 (by decide) (fun q19 => ?_) (fun q19 => ?_)
    · have h17 := h14.1 q19
      refine AW_iconst (v := 0) dX6_errorShare_23 (by decide) ?_
      refine AW_istore_n (loc' := [some (aR 19 0), some (aI 0), none]) dX6_errorShare_24 (Nat.le_of_ble_eq_true rfl) rfl rfl ?_
      refine AW_iconst (v := 0) dX6_errorShare_25 (by decide) ?_
      refine AW_istore_n (loc' := [some (aR 19 0), some (aI 0), some (aI 0)]) dX6_errorShare_26 (Nat.le_of_ble_eq_true rfl) rfl rfl ?_
      exact h17
    · have h18 := h14.2 q19
      refine AW_fconst0 dX6_errorShare_21 ?_
      exact AW_freturn dX6_errorShare_22 rfl h18
set_option maxRecDepth 100000 in
theorem B_X6_errorShare_27 {a1 : Int32} {a2 : Int32} {μ : Mem} {P : RES → Mem → Prop}  (h : vp_in 1 240 ∧ (((μ 20 0 (1 : Int32).toNatClampNeg) ≤ a2 → ∃ (r9 : Int32) (m6 : Mem), MetA M_X6_all [aR 19 0, aI 1] μ (rI r9 m6) ∧ (vf_n32 (FP.fdiv (FP.i2f r9) (FP.i2f a1)) ∧ (P (.inl (some (aF (FP.fdiv (FP.i2f r9) (FP.i2f a1))))) m6))) ∧ (¬ (μ 20 0 (1 : Int32).toNatClampNeg) ≤ a2 → ∃ (r15 : Int32) (m12 : Mem), MetA M_X6_of [aR 19 0, aI a2, aI 1] μ (rI r15 m12) ∧ (AW M_X6_errorShare 0 27 [some (aR 19 0), some (aI (a1 + r15)), some (aI (a2 + 1))] [] m12 P)))) : AW M_X6_errorShare 0 27 [some (aR 19 0), some (aI a1), some (aI a2)] [] μ P := by
  refine AW_iload_n dX6_errorShare_27 rfl ?_
  refine AW_aload_n dX6_errorShare_28 rfl ?_
  refine AW_getv (t := 19) (o := 0) (k := 0) (some (20, none)) (v := aR 20 0) dX6_errorShare_29 ff_X6_7 rfl rfl rfl ?_
  refine AW_iconst (v := 1) dX6_errorShare_32 (by decide) ?_
  obtain ⟨h1, h2⟩ := h
  refine AW_iaload dX6_errorShare_33 rfl rfl h1 ?_
  refine AW_icmp_ge (tgt := 52) dX6_errorShare_34 (by decide) (fun q5 => ?_) (fun q5 => ?_)
  · have h3 := h2.1 q5
    refine AW_aload_n dX6_errorShare_52 rfl ?_
    refine AW_iconst (v := 1) dX6_errorShare_53 (by decide) ?_
    obtain ⟨r9, m6, h8, h7⟩ := h3
    refine AW_callVI [aI 1] dX6_errorShare_54 cv_X6_245 rfl rfl rfl (by decide) rfl (by decide) (Nat.le_of_ble_eq_true rfl) h8 ?_
    refine AW_i2f dX6_errorShare_57 ?_
    refine AW_iload_n dX6_errorShare_58 rfl ?_
    refine AW_i2f dX6_errorShare_59 ?_
    obtain ⟨h11, h10⟩ := h7
    refine AW_fdiv dX6_errorShare_60 h11 ?_
    exact AW_freturn dX6_errorShare_61 rfl h10
  · have h4 := h2.2 q5
    refine AW_iload_n dX6_errorShare_37 rfl ?_
    refine AW_aload_n dX6_errorShare_38 rfl ?_
    refine AW_iload_n dX6_errorShare_39 rfl ?_
    refine AW_iconst (v := 1) dX6_errorShare_40 (by decide) ?_
    obtain ⟨r15, m12, h14, h13⟩ := h4
    refine AW_callVI [aI a2, aI 1] dX6_errorShare_41 cv_X6_80 rfl rfl rfl (by decide) rfl (by decide) (Nat.le_of_ble_eq_true rfl) h14 ?_
    refine AW_iadd dX6_errorShare_44 ?_
    refine AW_istore_n (loc' := [some (aR 19 0), some (aI (a1 + r15)), some (aI a2)]) dX6_errorShare_45 (Nat.le_of_ble_eq_true rfl) rfl rfl ?_
    refine AW_iinc (v := a2 + 1) (loc' := [some (aR 19 0), some (aI (a1 + r15)), some (aI (a2 + 1))]) dX6_errorShare_46 rfl rfl (Nat.le_of_ble_eq_true rfl) rfl rfl ?_
    refine AW_goto (tgt := 27) dX6_errorShare_49 (by decide) ?_
    exact h13
set_option maxRecDepth 100000 in
theorem B_X6_undo_0  {μ : Mem} {P : RES → Mem → Prop}  (h : (¬ (μ 19 0 5) = 0 → ∃ (r7 : Int32) (m4 : Mem), MetA M_X6_fails [aR 19 0, aI 0] μ (rI r7 m4) ∧ ((r7 = 0 → ∀ m11 : Mem, m11 = mset m4 19 0 (upd (m4 19 0) 5 ((m4 19 0 5) - 1)) → ∃ m14 : Mem, MetA M_X6_copies [aR 21 0, aI (240 * (m11 19 0 5)), aR 20 0, aI 0] m11 (rV m14) ∧ (P (.inl (some (aI (m14 19 0 5)))) m14)) ∧ (¬ r7 = 0 → P (.inl (some (aI 0))) m4))) ∧ ((μ 19 0 5) = 0 → ∃ (r20 : Int32) (m17 : Mem), MetA M_X6_fails [aR 19 0, aI 1] μ (rI r20 m17) ∧ ((r20 = 0 → ∀ m24 : Mem, m24 = mset m17 19 0 (upd (m17 19 0) 5 ((m17 19 0 5) - 1)) → ∃ m27 : Mem, MetA M_X6_copies [aR 21 0, aI (240 * (m24 19 0 5)), aR 20 0, aI 0] m24 (rV m27) ∧ (P (.inl (some (aI (m27 19 0 5)))) m27)) ∧ (¬ r20 = 0 → P (.inl (some (aI 0))) m17)))) : AW M_X6_undo 0 0 [some (aR 19 0)] [] μ P := by
  refine AW_aload_n dX6_undo_0 rfl ?_
  refine AW_aload_n dX6_undo_1 rfl ?_
  refine AW_getv (t := 19) (o := 0) (k := 5) none (v := aI (μ 19 0 5)) dX6_undo_2 ff_X6_58 rfl rfl rfl ?_
  refine AW_if_ne (tgt := 12) dX6_undo_5 (by decide) (fun q3 => ?_) (fun q3 => ?_)
  · have h1 := h.1 q3
    refine AW_iconst (v := 0) dX6_undo_12 (by decide) ?_
    obtain ⟨r7, m4, h6, h5⟩ := h1
    refine AW_callVI [aI 0] dX6_undo_13 cv_X6_86 rfl rfl rfl (by decide) rfl (by decide) (Nat.le_of_ble_eq_true rfl) h6 ?_
    refine AW_if_eq (tgt := 21) dX6_undo_16 (by decide) (fun q10 => ?_) (fun q10 => ?_)
    · have h8 := h5.1 q10
      refine AW_aload_n dX6_undo_21 rfl ?_
      refine AW_dup dX6_undo_22 rfl ?_
      refine AW_getv (t := 19) (o := 0) (k := 5) none (v := aI (m4 19 0 5)) dX6_undo_23 ff_X6_58 rfl rfl rfl ?_
      refine AW_iconst (v := 1) dX6_undo_26 (by decide) ?_
      refine AW_isub dX6_undo_27 ?_
      obtain ⟨m11, em11⟩ : ∃ z : Mem, z = mset m4 19 0 (upd (m4 19 0) 5 ((m4 19 0 5) - 1)) := ⟨_, rfl⟩
      have h12 := h8 m11 em11
      refine AW_putf (t := 19) (o := 0) (k := 5) dX6_undo_28 fp_X6_58 rfl rfl rfl rfl em11.symm ?_
      refine AW_aload_n dX6_undo_31 rfl ?_
      refine AW_getv (t := 19) (o := 0) (k := 1) (some (21, none)) (v := aR 21 0) dX6_undo_32 ff_X6_13 rfl rfl rfl ?_
      refine AW_sipush (v := 240) dX6_undo_35 (by decide) ?_
      refine AW_aload_n dX6_undo_38 rfl ?_
      refine AW_getv (t := 19) (o := 0) (k := 5) none (v := aI (m11 19 0 5)) dX6_undo_39 ff_X6_58 rfl rfl rfl ?_
      refine AW_imul dX6_undo_42 ?_
      refine AW_aload_n dX6_undo_43 rfl ?_
      refine AW_getv (t := 19) (o := 0) (k := 0) (some (20, none)) (v := aR 20 0) dX6_undo_44 ff_X6_7 rfl rfl rfl ?_
      refine AW_iconst (v := 0) dX6_undo_47 (by decide) ?_
      obtain ⟨m14, h16, h15⟩ := h12
      refine AW_callSV [aR 21 0, aI (240 * (m11 19 0 5)), aR 20 0, aI 0] dX6_undo_48 cs_X6_61 rfl rfl (by decide) rfl (by decide) (Nat.le_of_ble_eq_true rfl) h16 ?_
      refine AW_aload_n dX6_undo_51 rfl ?_
      refine AW_getv (t := 19) (o := 0) (k := 5) none (v := aI (m14 19 0 5)) dX6_undo_52 ff_X6_58 rfl rfl rfl ?_
      exact AW_ireturn (ty := .int) dX6_undo_55 rfl rfl h15
    · have h9 := h5.2 q10
      refine AW_iconst (v := 0) dX6_undo_19 (by decide) ?_
      exact AW_ireturn (ty := .int) dX6_undo_20 rfl rfl h9
  · have h2 := h.2 q3
    refine AW_iconst (v := 1) dX6_undo_8 (by decide) ?_
    refine AW_goto (tgt := 13) dX6_undo_9 (by decide) ?_
    obtain ⟨r20, m17, h19, h18⟩ := h2
    refine AW_callVI [aI 1] dX6_undo_13 cv_X6_86 rfl rfl rfl (by decide) rfl (by decide) (Nat.le_of_ble_eq_true rfl) h19 ?_
    refine AW_if_eq (tgt := 21) dX6_undo_16 (by decide) (fun q23 => ?_) (fun q23 => ?_)
    · have h21 := h18.1 q23
      refine AW_aload_n dX6_undo_21 rfl ?_
      refine AW_dup dX6_undo_22 rfl ?_
      refine AW_getv (t := 19) (o := 0) (k := 5) none (v := aI (m17 19 0 5)) dX6_undo_23 ff_X6_58 rfl rfl rfl ?_
      refine AW_iconst (v := 1) dX6_undo_26 (by decide) ?_
      refine AW_isub dX6_undo_27 ?_
      obtain ⟨m24, em24⟩ : ∃ z : Mem, z = mset m17 19 0 (upd (m17 19 0) 5 ((m17 19 0 5) - 1)) := ⟨_, rfl⟩
      have h25 := h21 m24 em24
      refine AW_putf (t := 19) (o := 0) (k := 5) dX6_undo_28 fp_X6_58 rfl rfl rfl rfl em24.symm ?_
      refine AW_aload_n dX6_undo_31 rfl ?_
      refine AW_getv (t := 19) (o := 0) (k := 1) (some (21, none)) (v := aR 21 0) dX6_undo_32 ff_X6_13 rfl rfl rfl ?_
      refine AW_sipush (v := 240) dX6_undo_35 (by decide) ?_
      refine AW_aload_n dX6_undo_38 rfl ?_
      refine AW_getv (t := 19) (o := 0) (k := 5) none (v := aI (m24 19 0 5)) dX6_undo_39 ff_X6_58 rfl rfl rfl ?_
      refine AW_imul dX6_undo_42 ?_
      refine AW_aload_n dX6_undo_43 rfl ?_
      refine AW_getv (t := 19) (o := 0) (k := 0) (some (20, none)) (v := aR 20 0) dX6_undo_44 ff_X6_7 rfl rfl rfl ?_
      refine AW_iconst (v := 0) dX6_undo_47 (by decide) ?_
      obtain ⟨m27, h29, h28⟩ := h25
      refine AW_callSV [aR 21 0, aI (240 * (m24 19 0 5)), aR 20 0, aI 0] dX6_undo_48 cs_X6_61 rfl rfl (by decide) rfl (by decide) (Nat.le_of_ble_eq_true rfl) h29 ?_
      refine AW_aload_n dX6_undo_51 rfl ?_
      refine AW_getv (t := 19) (o := 0) (k := 5) none (v := aI (m27 19 0 5)) dX6_undo_52 ff_X6_58 rfl rfl rfl ?_
      exact AW_ireturn (ty := .int) dX6_undo_55 rfl rfl h28
    · have h22 := h18.2 q23
      refine AW_iconst (v := 0) dX6_undo_19 (by decide) ?_
      exact AW_ireturn (ty := .int) dX6_undo_20 rfl rfl h22
set_option maxRecDepth 100000 in
theorem B_X6_save_0  {μ : Mem} {P : RES → Mem → Prop}  (h : ∀ m1 : Mem, m1 = mset μ 19 0 (upd (μ 19 0) 8 0) → ∀ m4 : Mem, m4 = mset m1 19 0 (upd (m1 19 0) 4 1) → ∃ m7 : Mem, MetA M_X6_copies [aR 20 0, aI 0, aR 22 0, aI 0] m4 (rV m7) ∧ (vp_in 1 240 ∧ (P (.inl (some (aI (m7 20 0 (1 : Int32).toNatClampNeg)))) m7))) : AW M_X6_save 0 0 [some (aR 19 0)] [] μ P := by
  refine AW_aload_n dX6_save_0 rfl ?_
  refine AW_iconst (v := 0) dX6_save_1 (by decide) ?_
  obtain ⟨m1, em1⟩ : ∃ z : Mem, z = mset μ 19 0 (upd (μ 19 0) 8 0) := ⟨_, rfl⟩
  have h2 := h m1 em1
  refine AW_putf (t := 19) (o := 0) (k := 8) dX6_save_2 fp_X6_36 rfl rfl rfl rfl em1.symm ?_
  refine AW_aload_n dX6_save_5 rfl ?_
  refine AW_iconst (v := 1) dX6_save_6 (by decide) ?_
  obtain ⟨m4, em4⟩ : ∃ z : Mem, z = mset m1 19 0 (upd (m1 19 0) 4 1) := ⟨_, rfl⟩
  have h5 := h2 m4 em4
  refine AW_putf (t := 19) (o := 0) (k := 4) dX6_save_7 fp_X6_251 rfl rfl rfl rfl em4.symm ?_
  refine AW_aload_n dX6_save_10 rfl ?_
  refine AW_getv (t := 19) (o := 0) (k := 0) (some (20, none)) (v := aR 20 0) dX6_save_11 ff_X6_7 rfl rfl rfl ?_
  refine AW_iconst (v := 0) dX6_save_14 (by decide) ?_
  refine AW_aload_n dX6_save_15 rfl ?_
  refine AW_getv (t := 19) (o := 0) (k := 2) (some (22, none)) (v := aR 22 0) dX6_save_16 ff_X6_16 rfl rfl rfl ?_
  refine AW_iconst (v := 0) dX6_save_19 (by decide) ?_
  obtain ⟨m7, h9, h8⟩ := h5
  refine AW_callSV [aR 20 0, aI 0, aR 22 0, aI 0] dX6_save_20 cs_X6_61 rfl rfl (by decide) rfl (by decide) (Nat.le_of_ble_eq_true rfl) h9 ?_
  refine AW_aload_n dX6_save_23 rfl ?_
  refine AW_getv (t := 19) (o := 0) (k := 0) (some (20, none)) (v := aR 20 0) dX6_save_24 ff_X6_7 rfl rfl rfl ?_
  refine AW_iconst (v := 1) dX6_save_27 (by decide) ?_
  obtain ⟨h10, h11⟩ := h8
  refine AW_iaload dX6_save_28 rfl rfl h10 ?_
  exact AW_ireturn (ty := .int) dX6_save_29 rfl rfl h11
set_option maxRecDepth 100000 in
theorem B_X6_restore_0  {μ : Mem} {P : RES → Mem → Prop}  (h : ((μ 19 0 4) = 0 → ∃ (r7 : Int32) (m4 : Mem), MetA M_X6_fails [aR 19 0, aI 1] μ (rI r7 m4) ∧ ((r7 = 0 → ∃ m11 : Mem, MetA M_X6_copies [aR 22 0, aI 0, aR 20 0, aI 0] m4 (rV m11) ∧ (∀ m14 : Mem, m14 = mset m11 19 0 (upd (m11 19 0) 5 0) → vp_in 1 240 ∧ (P (.inl (some (aI (m14 20 0 (1 : Int32).toNatClampNeg)))) m14))) ∧ (¬ r7 = 0 → P (.inl (some (aI 0))) m4))) ∧ (¬ (μ 19 0 4) = 0 → ∃ (r22 : Int32) (m19 : Mem), MetA M_X6_fails [aR 19 0, aI 0] μ (rI r22 m19) ∧ ((r22 = 0 → ∃ m26 : Mem, MetA M_X6_copies [aR 22 0, aI 0, aR 20 0, aI 0] m19 (rV m26) ∧ (∀ m29 : Mem, m29 = mset m26 19 0 (upd (m26 19 0) 5 0) → vp_in 1 240 ∧ (P (.inl (some (aI (m29 20 0 (1 : Int32).toNatClampNeg)))) m29))) ∧ (¬ r22 = 0 → P (.inl (some (aI 0))) m19)))) : AW M_X6_restore 0 0 [some (aR 19 0)] [] μ P := by
  refine AW_aload_n dX6_restore_0 rfl ?_
  refine AW_aload_n dX6_restore_1 rfl ?_
  refine AW_getv (t := 19) (o := 0) (k := 4) none (v := aI (μ 19 0 4)) dX6_restore_2 ff_X6_251 rfl rfl rfl ?_
  refine AW_if_eq (tgt := 12) dX6_restore_5 (by decide) (fun q3 => ?_) (fun q3 => ?_)
  · have h1 := h.1 q3
    refine AW_iconst (v := 1) dX6_restore_12 (by decide) ?_
    obtain ⟨r7, m4, h6, h5⟩ := h1
    refine AW_callVI [aI 1] dX6_restore_13 cv_X6_86 rfl rfl rfl (by decide) rfl (by decide) (Nat.le_of_ble_eq_true rfl) h6 ?_
    refine AW_if_eq (tgt := 21) dX6_restore_16 (by decide) (fun q10 => ?_) (fun q10 => ?_)
    · have h8 := h5.1 q10
      refine AW_aload_n dX6_restore_21 rfl ?_
      refine AW_getv (t := 19) (o := 0) (k := 2) (some (22, none)) (v := aR 22 0) dX6_restore_22 ff_X6_16 rfl rfl rfl ?_
      refine AW_iconst (v := 0) dX6_restore_25 (by decide) ?_
      refine AW_aload_n dX6_restore_26 rfl ?_
      refine AW_getv (t := 19) (o := 0) (k := 0) (some (20, none)) (v := aR 20 0) dX6_restore_27 ff_X6_7 rfl rfl rfl ?_
      refine AW_iconst (v := 0) dX6_restore_30 (by decide) ?_
      obtain ⟨m11, h13, h12⟩ := h8
      refine AW_callSV [aR 22 0, aI 0, aR 20 0, aI 0] dX6_restore_31 cs_X6_61 rfl rfl (by decide) rfl (by decide) (Nat.le_of_ble_eq_true rfl) h13 ?_
      refine AW_aload_n dX6_restore_34 rfl ?_
      refine AW_iconst (v := 0) dX6_restore_35 (by decide) ?_
      obtain ⟨m14, em14⟩ : ∃ z : Mem, z = mset m11 19 0 (upd (m11 19 0) 5 0) := ⟨_, rfl⟩
      have h15 := h12 m14 em14
      refine AW_putf (t := 19) (o := 0) (k := 5) dX6_restore_36 fp_X6_58 rfl rfl rfl rfl em14.symm ?_
      refine AW_aload_n dX6_restore_39 rfl ?_
      refine AW_getv (t := 19) (o := 0) (k := 0) (some (20, none)) (v := aR 20 0) dX6_restore_40 ff_X6_7 rfl rfl rfl ?_
      refine AW_iconst (v := 1) dX6_restore_43 (by decide) ?_
      obtain ⟨h17, h18⟩ := h15
      refine AW_iaload dX6_restore_44 rfl rfl h17 ?_
      exact AW_ireturn (ty := .int) dX6_restore_45 rfl rfl h18
    · have h9 := h5.2 q10
      refine AW_iconst (v := 0) dX6_restore_19 (by decide) ?_
      exact AW_ireturn (ty := .int) dX6_restore_20 rfl rfl h9
  · have h2 := h.2 q3
    refine AW_iconst (v := 0) dX6_restore_8 (by decide) ?_
    refine AW_goto (tgt := 13) dX6_restore_9 (by decide) ?_
    obtain ⟨r22, m19, h21, h20⟩ := h2
    refine AW_callVI [aI 0] dX6_restore_13 cv_X6_86 rfl rfl rfl (by decide) rfl (by decide) (Nat.le_of_ble_eq_true rfl) h21 ?_
    refine AW_if_eq (tgt := 21) dX6_restore_16 (by decide) (fun q25 => ?_) (fun q25 => ?_)
    · have h23 := h20.1 q25
      refine AW_aload_n dX6_restore_21 rfl ?_
      refine AW_getv (t := 19) (o := 0) (k := 2) (some (22, none)) (v := aR 22 0) dX6_restore_22 ff_X6_16 rfl rfl rfl ?_
      refine AW_iconst (v := 0) dX6_restore_25 (by decide) ?_
      refine AW_aload_n dX6_restore_26 rfl ?_
      refine AW_getv (t := 19) (o := 0) (k := 0) (some (20, none)) (v := aR 20 0) dX6_restore_27 ff_X6_7 rfl rfl rfl ?_
      refine AW_iconst (v := 0) dX6_restore_30 (by decide) ?_
      obtain ⟨m26, h28, h27⟩ := h23
      refine AW_callSV [aR 22 0, aI 0, aR 20 0, aI 0] dX6_restore_31 cs_X6_61 rfl rfl (by decide) rfl (by decide) (Nat.le_of_ble_eq_true rfl) h28 ?_
      refine AW_aload_n dX6_restore_34 rfl ?_
      refine AW_iconst (v := 0) dX6_restore_35 (by decide) ?_
      obtain ⟨m29, em29⟩ : ∃ z : Mem, z = mset m26 19 0 (upd (m26 19 0) 5 0) := ⟨_, rfl⟩
      have h30 := h27 m29 em29
      refine AW_putf (t := 19) (o := 0) (k := 5) dX6_restore_36 fp_X6_58 rfl rfl rfl rfl em29.symm ?_
      refine AW_aload_n dX6_restore_39 rfl ?_
      refine AW_getv (t := 19) (o := 0) (k := 0) (some (20, none)) (v := aR 20 0) dX6_restore_40 ff_X6_7 rfl rfl rfl ?_
      refine AW_iconst (v := 1) dX6_restore_43 (by decide) ?_
      obtain ⟨h32, h33⟩ := h30
      refine AW_iaload dX6_restore_44 rfl rfl h32 ?_
      exact AW_ireturn (ty := .int) dX6_restore_45 rfl rfl h33
    · have h24 := h20.2 q25
      refine AW_iconst (v := 0) dX6_restore_19 (by decide) ?_
      exact AW_ireturn (ty := .int) dX6_restore_20 rfl rfl h24
