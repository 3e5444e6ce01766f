/-! constructors -/
def rf4 : Nat → Int32 := upd (upd (upd (upd (upd (upd (upd (upd (upd (upd (fun _ => 0) 8 1) 9 1) 10 1) 11 1) 12 1) 13 1) 14 1) 15 1) 16 1) 17 1
theorem c_init4 {μ : Mem} {j : Nat} (hj : j < 12) (h : ∀ t, t < 11 → μ t j = fun _ => 0) : MetB M_X4_init [aR 0 j] μ (idf 0 j + 1) (mset μ 0 j rf4) (idf 0 j + 11) := by
  have hc : hasC 0 j = true := decide_eq_true hj
  have h0 := h 0 (by decide)
  have h1 := h 1 (by decide)
  have h2 := h 2 (by decide)
  have h3 := h 3 (by decide)
  have h4 := h 4 (by decide)
  have h5 := h 5 (by decide)
  have h6 := h 6 (by decide)
  have h7 := h 7 (by decide)
  have h8 := h 8 (by decide)
  have h9 := h 9 (by decide)
  have h10 := h 10 (by decide)
  have hz : ∀ t, t < 11 → idf t j = idf 0 j + t := fun t ht => by unfold idf; rw [if_pos ht, if_pos (show 0 < 11 by decide)]; split <;> omega
  have ho : ∀ t, t < 11 → ordf (idf 0 j + t) = (t, j) := fun t ht => by rw [← hz t ht]; exact (idf_ok (t := t) (o := j) (by unfold hasC; rw [if_pos ht]; exact decide_eq_true hj)).1
  have hb : idf 0 j + 10 < 150 := by rw [← hz 10 (by decide)]; exact (idf_ok (t := 10) (o := j) (decide_eq_true hj)).2
  have key : BW M_X4_init 0 [some (aR 0 j)] [] (mset μ 0 j (fun _ => 0)) (idf 0 j + 1) 0 0 (79, [some (aR 0 j)], [], mset μ 0 j rf4, idf 0 j + 11, 10, 230) := by
    refine BW_aload_n dX4_init_0 rfl ?_
    refine BW_init dX4_init_1 w_35 (by decide) (by decide) ?_
    refine BW_aload_n dX4_init_4 rfl ?_
    refine BW_iconst (v := 4) dX4_init_5 (by decide) ?_
    refine BW_newa (t := 1) (o := j) (j := 0) (N := 4) (ty := .int) (a0 := (4, .inl (fun _ => 0))) dX4_init_6 gw_ac_int rfl (fun _ _ h => h) (fun _ => rfl) (ho 1 (by decide)) (by omega) (fun G => by show (Sum.inl (gcy G 1, 4, .inl (mset μ 0 j _ 1 j)) : va_E) = _; rw [mset_t (by decide), h1]) (fun _ => rfl) (by decide) (by decide) (Nat.le_of_ble_eq_true rfl) (Nat.le_of_ble_eq_true rfl) (Nat.le_of_ble_eq_true rfl) ?_
    refine BW_putF (t := 0) (o := j) (k := 8) (t2 := 1) (o2 := j) dX4_init_8 fpf_X4_9 rfl rfl hc (by omega) rfl ?_
    rw [mset_s, mset_mset]
    refine BW_aload_n dX4_init_11 rfl ?_
    refine BW_iconst (v := 4) dX4_init_12 (by decide) ?_
    refine BW_newa (t := 2) (o := j) (j := 0) (N := 4) (ty := .int) (a0 := (4, .inl (fun _ => 0))) dX4_init_13 gw_ac_int rfl (fun _ _ h => h) (fun _ => rfl) (ho 2 (by decide)) (by omega) (fun G => by show (Sum.inl (gcy G 1, 4, .inl (mset μ 0 j _ 2 j)) : va_E) = _; rw [mset_t (by decide), h2]) (fun _ => rfl) (by decide) (by decide) (Nat.le_of_ble_eq_true rfl) (Nat.le_of_ble_eq_true rfl) (Nat.le_of_ble_eq_true rfl) ?_
    refine BW_putF (t := 0) (o := j) (k := 9) (t2 := 2) (o2 := j) dX4_init_15 fpf_X4_15 rfl rfl hc (by omega) rfl ?_
    rw [mset_s, mset_mset]
    refine BW_aload_n dX4_init_18 rfl ?_
    refine BW_iconst (v := 4) dX4_init_19 (by decide) ?_
    refine BW_newa (t := 3) (o := j) (j := 0) (N := 4) (ty := .int) (a0 := (4, .inl (fun _ => 0))) dX4_init_20 gw_ac_int rfl (fun _ _ h => h) (fun _ => rfl) (ho 3 (by decide)) (by omega) (fun G => by show (Sum.inl (gcy G 1, 4, .inl (mset μ 0 j _ 3 j)) : va_E) = _; rw [mset_t (by decide), h3]) (fun _ => rfl) (by decide) (by decide) (Nat.le_of_ble_eq_true rfl) (Nat.le_of_ble_eq_true rfl) (Nat.le_of_ble_eq_true rfl) ?_
    refine BW_putF (t := 0) (o := j) (k := 10) (t2 := 3) (o2 := j) dX4_init_22 fpf_X4_18 rfl rfl hc (by omega) rfl ?_
    rw [mset_s, mset_mset]
    refine BW_aload_n dX4_init_25 rfl ?_
    refine BW_bipush (v := 8) dX4_init_26 (by decide) ?_
    refine BW_newa (t := 4) (o := j) (j := 0) (N := 8) (ty := .int) (a0 := (8, .inl (fun _ => 0))) dX4_init_28 gw_ac_int rfl (fun _ _ h => h) (fun _ => rfl) (ho 4 (by decide)) (by omega) (fun G => by show (Sum.inl (gcy G 1, 8, .inl (mset μ 0 j _ 4 j)) : va_E) = _; rw [mset_t (by decide), h4]) (fun _ => rfl) (by decide) (by decide) (Nat.le_of_ble_eq_true rfl) (Nat.le_of_ble_eq_true rfl) (Nat.le_of_ble_eq_true rfl) ?_
    refine BW_putF (t := 0) (o := j) (k := 11) (t2 := 4) (o2 := j) dX4_init_30 fpf_X4_21 rfl rfl hc (by omega) rfl ?_
    rw [mset_s, mset_mset]
    refine BW_aload_n dX4_init_33 rfl ?_
    refine BW_bipush (v := 8) dX4_init_34 (by decide) ?_
    refine BW_newa (t := 5) (o := j) (j := 0) (N := 8) (ty := .int) (a0 := (8, .inl (fun _ => 0))) dX4_init_36 gw_ac_int rfl (fun _ _ h => h) (fun _ => rfl) (ho 5 (by decide)) (by omega) (fun G => by show (Sum.inl (gcy G 1, 8, .inl (mset μ 0 j _ 5 j)) : va_E) = _; rw [mset_t (by decide), h5]) (fun _ => rfl) (by decide) (by decide) (Nat.le_of_ble_eq_true rfl) (Nat.le_of_ble_eq_true rfl) (Nat.le_of_ble_eq_true rfl) ?_
    refine BW_putF (t := 0) (o := j) (k := 12) (t2 := 5) (o2 := j) dX4_init_38 fpf_X4_24 rfl rfl hc (by omega) rfl ?_
    rw [mset_s, mset_mset]
    refine BW_aload_n dX4_init_41 rfl ?_
    refine BW_bipush (v := 64) dX4_init_42 (by decide) ?_
    refine BW_newa (t := 6) (o := j) (j := 0) (N := 64) (ty := .int) (a0 := (64, .inl (fun _ => 0))) dX4_init_44 gw_ac_int rfl (fun _ _ h => h) (fun _ => rfl) (ho 6 (by decide)) (by omega) (fun G => by show (Sum.inl (gcy G 1, 64, .inl (mset μ 0 j _ 6 j)) : va_E) = _; rw [mset_t (by decide), h6]) (fun _ => rfl) (by decide) (by decide) (Nat.le_of_ble_eq_true rfl) (Nat.le_of_ble_eq_true rfl) (Nat.le_of_ble_eq_true rfl) ?_
    refine BW_putF (t := 0) (o := j) (k := 13) (t2 := 6) (o2 := j) dX4_init_46 fpf_X4_27 rfl rfl hc (by omega) rfl ?_
    rw [mset_s, mset_mset]
    refine BW_aload_n dX4_init_49 rfl ?_
    refine BW_bipush (v := 64) dX4_init_50 (by decide) ?_
    refine BW_newa (t := 7) (o := j) (j := 0) (N := 64) (ty := .int) (a0 := (64, .inl (fun _ => 0))) dX4_init_52 gw_ac_int rfl (fun _ _ h => h) (fun _ => rfl) (ho 7 (by decide)) (by omega) (fun G => by show (Sum.inl (gcy G 1, 64, .inl (mset μ 0 j _ 7 j)) : va_E) = _; rw [mset_t (by decide), h7]) (fun _ => rfl) (by decide) (by decide) (Nat.le_of_ble_eq_true rfl) (Nat.le_of_ble_eq_true rfl) (Nat.le_of_ble_eq_true rfl) ?_
    refine BW_putF (t := 0) (o := j) (k := 14) (t2 := 7) (o2 := j) dX4_init_54 fpf_X4_30 rfl rfl hc (by omega) rfl ?_
    rw [mset_s, mset_mset]
    refine BW_aload_n dX4_init_57 rfl ?_
    refine BW_bipush (v := 64) dX4_init_58 (by decide) ?_
    refine BW_newa (t := 8) (o := j) (j := 0) (N := 64) (ty := .int) (a0 := (64, .inl (fun _ => 0))) dX4_init_60 gw_ac_int rfl (fun _ _ h => h) (fun _ => rfl) (ho 8 (by decide)) (by omega) (fun G => by show (Sum.inl (gcy G 1, 64, .inl (mset μ 0 j _ 8 j)) : va_E) = _; rw [mset_t (by decide), h8]) (fun _ => rfl) (by decide) (by decide) (Nat.le_of_ble_eq_true rfl) (Nat.le_of_ble_eq_true rfl) (Nat.le_of_ble_eq_true rfl) ?_
    refine BW_putF (t := 0) (o := j) (k := 15) (t2 := 8) (o2 := j) dX4_init_62 fpf_X4_33 rfl rfl hc (by omega) rfl ?_
    rw [mset_s, mset_mset]
    refine BW_aload_n dX4_init_65 rfl ?_
    refine BW_iconst (v := 5) dX4_init_66 (by decide) ?_
    refine BW_newa (t := 9) (o := j) (j := 0) (N := 5) (ty := .int) (a0 := (5, .inl (fun _ => 0))) dX4_init_67 gw_ac_int rfl (fun _ _ h => h) (fun _ => rfl) (ho 9 (by decide)) (by omega) (fun G => by show (Sum.inl (gcy G 1, 5, .inl (mset μ 0 j _ 9 j)) : va_E) = _; rw [mset_t (by decide), h9]) (fun _ => rfl) (by decide) (by decide) (Nat.le_of_ble_eq_true rfl) (Nat.le_of_ble_eq_true rfl) (Nat.le_of_ble_eq_true rfl) ?_
    refine BW_putF (t := 0) (o := j) (k := 16) (t2 := 9) (o2 := j) dX4_init_69 fpf_X4_36 rfl rfl hc (by omega) rfl ?_
    rw [mset_s, mset_mset]
    refine BW_aload_n dX4_init_72 rfl ?_
    refine BW_iconst (v := 5) dX4_init_73 (by decide) ?_
    refine BW_newa (t := 10) (o := j) (j := 0) (N := 5) (ty := .int) (a0 := (5, .inl (fun _ => 0))) dX4_init_74 gw_ac_int rfl (fun _ _ h => h) (fun _ => rfl) (ho 10 (by decide)) (by omega) (fun G => by show (Sum.inl (gcy G 1, 5, .inl (mset μ 0 j _ 10 j)) : va_E) = _; rw [mset_t (by decide), h10]) (fun _ => rfl) (by decide) (by decide) (Nat.le_of_ble_eq_true rfl) (Nat.le_of_ble_eq_true rfl) (Nat.le_of_ble_eq_true rfl) ?_
    refine BW_putF (t := 0) (o := j) (k := 17) (t2 := 10) (o2 := j) dX4_init_76 fpf_X4_39 rfl rfl hc (by omega) rfl ?_
    rw [mset_s, mset_mset]
    exact BW_end
  rw [← h0, mset_id] at key
  exact MetB.of ci_X4 (by decide) dX4_init_79 (by decide) (by decide) rfl key
def rf3 : Nat → Int32 := upd (upd (fun _ => 0) 0 0) 2 0
theorem c_init3 {μ : Mem} (h14 : μ 14 0 = fun _ => 0) : MetB M_X3_init [aR 14 0] μ 136 (mset μ 14 0 rf3) 136 := by
  have hc : hasC 14 0 = true := rfl
  have hi : idf 14 0 = 135 := rfl
  have key : BW M_X3_init 0 [some (aR 14 0)] [] (mset μ 14 0 (fun _ => 0)) 136 0 0 (14, [some (aR 14 0)], [], mset μ 14 0 rf3, 136, 0, 0) := by
    refine BW_aload_n dX3_init_0 rfl ?_
    refine BW_init dX3_init_1 w_129 (by decide) (by decide) ?_
    refine BW_aload_n dX3_init_4 rfl ?_
    refine BW_iconst (v := 0) dX3_init_5 (by decide) ?_
    refine BW_put (t := 14) (o := 0) (k := 0) (v := 0) dX3_init_6 fp_X3_9 rfl hc (by omega) ?_
    rw [mset_s, mset_mset]
    refine BW_aload_n dX3_init_9 rfl ?_
    refine BW_iconst (v := 0) dX3_init_10 (by decide) ?_
    refine BW_put (t := 14) (o := 0) (k := 2) (v := 0) dX3_init_11 fp_X3_15 rfl hc (by omega) ?_
    rw [mset_s, mset_mset]
    exact BW_end
  rw [← h14, mset_id] at key
  exact MetB.of ci_X3 (by decide) dX3_init_14 (by decide) (by decide) rfl key
def rf2 : Nat → Int32 := upd (fun _ => 0) 0 1
theorem c_init2 {μ : Mem} (h15 : μ 15 0 = fun _ => 0) (h16 : μ 16 0 = fun _ => 0) : MetB M_X2_init [aR 15 0] μ 137 (mset μ 15 0 rf2) 138 := by
  have hc : hasC 15 0 = true := rfl
  have hi : idf 15 0 = 136 := rfl
  have key : BW M_X2_init 0 [some (aR 15 0)] [] (mset μ 15 0 (fun _ => 0)) 137 0 0 (12, [some (aR 15 0)], [], mset μ 15 0 rf2, 138, 1, 60) := by
    refine BW_aload_n dX2_init_0 rfl ?_
    refine BW_init dX2_init_1 w_152 (by decide) (by decide) ?_
    refine BW_aload_n dX2_init_4 rfl ?_
    refine BW_bipush (v := 60) dX2_init_5 (by decide) ?_
    refine BW_newa (t := 16) (o := 0) (j := 1) (N := 60) (ty := .char) (a0 := (60, .inl (fun _ => 0))) dX2_init_7 gw_ac_char rfl (fun _ _ h => h) (fun _ => rfl) rfl (by omega) (fun G => by show (Sum.inl (gcy G 2, 60, .inl (mset μ 15 0 _ 16 0)) : va_E) = _; rw [mset_t (by decide), h16]) (fun _ => rfl) (by decide) (by decide) (Nat.le_of_ble_eq_true rfl) (Nat.le_of_ble_eq_true rfl) (Nat.le_of_ble_eq_true rfl) ?_
    refine BW_putF (t := 15) (o := 0) (k := 0) (t2 := 16) (o2 := 0) dX2_init_9 fpf_X2_9 rfl rfl hc (by omega) rfl ?_
    rw [mset_s, mset_mset]
    exact BW_end
  rw [← h15, mset_id] at key
  exact MetB.of ci_X2 (by decide) dX2_init_12 (by decide) (by decide) rfl key
def rf1 : Nat → Int32 := upd (fun _ => 0) 0 1
theorem c_init1 {μ : Mem} (h17 : μ 17 0 = fun _ => 0) (h18 : μ 18 0 = fun _ => 0) : MetB M_X1_init [aR 17 0] μ 139 (mset μ 17 0 rf1) 140 := by
  have hc : hasC 17 0 = true := rfl
  have hi : idf 17 0 = 138 := rfl
  have key : BW M_X1_init 0 [some (aR 17 0)] [] (mset μ 17 0 (fun _ => 0)) 139 0 0 (12, [some (aR 17 0)], [], mset μ 17 0 rf1, 140, 1, 18) := by
    refine BW_aload_n dX1_init_0 rfl ?_
    refine BW_init dX1_init_1 w_188 (by decide) (by decide) ?_
    refine BW_aload_n dX1_init_4 rfl ?_
    refine BW_bipush (v := 18) dX1_init_5 (by decide) ?_
    refine BW_newa (t := 18) (o := 0) (j := 1) (N := 18) (ty := .char) (a0 := (18, .inl (fun _ => 0))) dX1_init_7 gw_ac_char rfl (fun _ _ h => h) (fun _ => rfl) rfl (by omega) (fun G => by show (Sum.inl (gcy G 2, 18, .inl (mset μ 17 0 _ 18 0)) : va_E) = _; rw [mset_t (by decide), h18]) (fun _ => rfl) (by decide) (by decide) (Nat.le_of_ble_eq_true rfl) (Nat.le_of_ble_eq_true rfl) (Nat.le_of_ble_eq_true rfl) ?_
    refine BW_putF (t := 17) (o := 0) (k := 0) (t2 := 18) (o2 := 0) dX1_init_9 fpf_X1_9 rfl rfl hc (by omega) rfl ?_
    rw [mset_s, mset_mset]
    exact BW_end
  rw [← h17, mset_id] at key
  exact MetB.of ci_X1 (by decide) dX1_init_12 (by decide) (by decide) rfl key
def rf6 : Nat → Int32 := upd (upd (upd (upd (upd (upd (upd (upd (fun _ => 0) 0 1) 1 1) 2 1) 3 1) 13 1) 15 (-1)) 16 1) 19 1
theorem c_init6 {μ : Mem} (h19 : μ 19 0 = fun _ => 0) (h20 : μ 20 0 = fun _ => 0) (h21 : μ 21 0 = fun _ => 0) (h22 : μ 22 0 = fun _ => 0) (h23 : μ 23 0 = fun _ => 0) (h24 : μ 24 0 = fun _ => 0) (h25 : μ 25 0 = fun _ => 0) (h26 : μ 26 0 = fun _ => 0) : MetB M_X6_init [aR 19 0] μ 141 (mset μ 19 0 rf6) 148 := by
  have hc : hasC 19 0 = true := rfl
  have hi : idf 19 0 = 140 := rfl
  have key : BW M_X6_init 0 [some (aR 19 0)] [] (mset μ 19 0 (fun _ => 0)) 141 0 0 (69, [some (aR 19 0)], [], mset μ 19 0 rf6, 148, 7, 2864) := by
    refine BW_aload_n dX6_init_0 rfl ?_
    refine BW_init dX6_init_1 w_1026 (by decide) (by decide) ?_
    refine BW_aload_n dX6_init_4 rfl ?_
    refine BW_sipush (v := 240) dX6_init_5 (by decide) ?_
    refine BW_newa (t := 20) (o := 0) (j := 0) (N := 240) (ty := .int) (a0 := (240, .inl (fun _ => 0))) dX6_init_8 gw_ac_int rfl (fun _ _ h => h) (fun _ => rfl) rfl (by omega) (fun G => by show (Sum.inl (gcy G 1, 240, .inl (mset μ 19 0 _ 20 0)) : va_E) = _; rw [mset_t (by decide), h20]) (fun _ => rfl) (by decide) (by decide) (Nat.le_of_ble_eq_true rfl) (Nat.le_of_ble_eq_true rfl) (Nat.le_of_ble_eq_true rfl) ?_
    refine BW_putF (t := 19) (o := 0) (k := 0) (t2 := 20) (o2 := 0) dX6_init_10 fpf_X6_7 rfl rfl hc (by omega) rfl ?_
    rw [mset_s, mset_mset]
    refine BW_aload_n dX6_init_13 rfl ?_
    refine BW_sipush (v := 1920) dX6_init_14 (by decide) ?_
    refine BW_newa (t := 21) (o := 0) (j := 0) (N := 1920) (ty := .int) (a0 := (1920, .inl (fun _ => 0))) dX6_init_17 gw_ac_int rfl (fun _ _ h => h) (fun _ => rfl) rfl (by omega) (fun G => by show (Sum.inl (gcy G 1, 1920, .inl (mset μ 19 0 _ 21 0)) : va_E) = _; rw [mset_t (by decide), h21]) (fun _ => rfl) (by decide) (by decide) (Nat.le_of_ble_eq_true rfl) (Nat.le_of_ble_eq_true rfl) (Nat.le_of_ble_eq_true rfl) ?_
    refine BW_putF (t := 19) (o := 0) (k := 1) (t2 := 21) (o2 := 0) dX6_init_19 fpf_X6_13 rfl rfl hc (by omega) rfl ?_
    rw [mset_s, mset_mset]
    refine BW_aload_n dX6_init_22 rfl ?_
    refine BW_sipush (v := 240) dX6_init_23 (by decide) ?_
    refine BW_newa (t := 22) (o := 0) (j := 0) (N := 240) (ty := .int) (a0 := (240, .inl (fun _ => 0))) dX6_init_26 gw_ac_int rfl (fun _ _ h => h) (fun _ => rfl) rfl (by omega) (fun G => by show (Sum.inl (gcy G 1, 240, .inl (mset μ 19 0 _ 22 0)) : va_E) = _; rw [mset_t (by decide), h22]) (fun _ => rfl) (by decide) (by decide) (Nat.le_of_ble_eq_true rfl) (Nat.le_of_ble_eq_true rfl) (Nat.le_of_ble_eq_true rfl) ?_
    refine BW_putF (t := 19) (o := 0) (k := 2) (t2 := 22) (o2 := 0) dX6_init_28 fpf_X6_16 rfl rfl hc (by omega) rfl ?_
    rw [mset_s, mset_mset]
    refine BW_aload_n dX6_init_31 rfl ?_
    refine BW_sipush (v := 240) dX6_init_32 (by decide) ?_
    refine BW_newa (t := 23) (o := 0) (j := 0) (N := 240) (ty := .int) (a0 := (240, .inl (fun _ => 0))) dX6_init_35 gw_ac_int rfl (fun _ _ h => h) (fun _ => rfl) rfl (by omega) (fun G => by show (Sum.inl (gcy G 1, 240, .inl (mset μ 19 0 _ 23 0)) : va_E) = _; rw [mset_t (by decide), h23]) (fun _ => rfl) (by decide) (by decide) (Nat.le_of_ble_eq_true rfl) (Nat.le_of_ble_eq_true rfl) (Nat.le_of_ble_eq_true rfl) ?_
    refine BW_putF (t := 19) (o := 0) (k := 3) (t2 := 23) (o2 := 0) dX6_init_37 fpf_X6_19 rfl rfl hc (by omega) rfl ?_
    rw [mset_s, mset_mset]
    refine BW_aload_n dX6_init_40 rfl ?_
    refine BW_bipush (v := 60) dX6_init_41 (by decide) ?_
    refine BW_newa (t := 24) (o := 0) (j := 0) (N := 60) (ty := .int) (a0 := (60, .inl (fun _ => 0))) dX6_init_43 gw_ac_int rfl (fun _ _ h => h) (fun _ => rfl) rfl (by omega) (fun G => by show (Sum.inl (gcy G 1, 60, .inl (mset μ 19 0 _ 24 0)) : va_E) = _; rw [mset_t (by decide), h24]) (fun _ => rfl) (by decide) (by decide) (Nat.le_of_ble_eq_true rfl) (Nat.le_of_ble_eq_true rfl) (Nat.le_of_ble_eq_true rfl) ?_
    refine BW_putF (t := 19) (o := 0) (k := 13) (t2 := 24) (o2 := 0) dX6_init_45 fpf_X6_22 rfl rfl hc (by omega) rfl ?_
    rw [mset_s, mset_mset]
    refine BW_aload_n dX6_init_48 rfl ?_
    refine BW_iconst (v := (-1)) dX6_init_49 (by decide) ?_
    refine BW_put (t := 19) (o := 0) (k := 15) (v := (-1)) dX6_init_50 fp_X6_25 rfl hc (by omega) ?_
    rw [mset_s, mset_mset]
    refine BW_aload_n dX6_init_53 rfl ?_
    refine BW_bipush (v := 40) dX6_init_54 (by decide) ?_
    refine BW_newa (t := 25) (o := 0) (j := 1) (N := 40) (ty := .char) (a0 := (40, .inl (fun _ => 0))) dX6_init_56 gw_ac_char rfl (fun _ _ h => h) (fun _ => rfl) rfl (by omega) (fun G => by show (Sum.inl (gcy G 2, 40, .inl (mset μ 19 0 _ 25 0)) : va_E) = _; rw [mset_t (by decide), h25]) (fun _ => rfl) (by decide) (by decide) (Nat.le_of_ble_eq_true rfl) (Nat.le_of_ble_eq_true rfl) (Nat.le_of_ble_eq_true rfl) ?_
    refine BW_putF (t := 19) (o := 0) (k := 16) (t2 := 25) (o2 := 0) dX6_init_58 fpf_X6_29 rfl rfl hc (by omega) rfl ?_
    rw [mset_s, mset_mset]
    refine BW_aload_n dX6_init_61 rfl ?_
    refine BW_bipush (v := 124) dX6_init_62 (by decide) ?_
    refine BW_newa (t := 26) (o := 0) (j := 0) (N := 124) (ty := .int) (a0 := (124, .inl (fun _ => 0))) dX6_init_64 gw_ac_int rfl (fun _ _ h => h) (fun _ => rfl) rfl (by omega) (fun G => by show (Sum.inl (gcy G 1, 124, .inl (mset μ 19 0 _ 26 0)) : va_E) = _; rw [mset_t (by decide), h26]) (fun _ => rfl) (by decide) (by decide) (Nat.le_of_ble_eq_true rfl) (Nat.le_of_ble_eq_true rfl) (Nat.le_of_ble_eq_true rfl) ?_
    refine BW_putF (t := 19) (o := 0) (k := 19) (t2 := 26) (o2 := 0) dX6_init_66 fpf_X6_33 rfl rfl hc (by omega) rfl ?_
    rw [mset_s, mset_mset]
    exact BW_end
  rw [← h19, mset_id] at key
  exact MetB.of ci_X6 (by decide) dX6_init_69 (by decide) (by decide) rfl key
def rfh : Nat → Int32 := upd (fun _ => 0) 0 1
def hisM (μ : Mem) (i : Nat) : Mem := fun t o => if t = 12 ∧ o = 0 then rfh else if t = 13 ∧ o = 0 then (fun k => if k < i then 1 else 0) else if t = 0 ∧ 4 ≤ o ∧ o < 4 + i then rf4 else μ t o
theorem c_init0 {μ : Mem} (h12 : μ 12 0 = fun _ => 0) (h13 : μ 13 0 = fun _ => 0) (hs : ∀ t j, t < 11 → 4 ≤ j → j < 12 → μ t j = fun _ => 0) : MetB M_X0_init [aR 12 0] μ 46 (hisM μ 8) 135 := by
  have key : BW M_X0_init 0 [some (aR 12 0), none] [] (mset μ 12 0 (fun _ => 0)) 46 0 0 (40, [some (aR 12 0), some (aI (nI 8))], [], hisM μ 8, 135, 89, 1992) := by
    refine BW_aload_n dX0_init_0 rfl ?_
    refine BW_init dX0_init_1 w_109 (by decide) (by decide) ?_
    refine BW_aload_n dX0_init_4 rfl ?_
    refine BW_bipush (v := 8) dX0_init_5 (by decide) ?_
    refine BW_anew dX0_init_7 w_110 rfl (by decide) (by rw [mset_t (by decide)]; exact h13) (by decide) (by decide) ?_
    refine BW_putF (t := 12) (o := 0) (k := 0) (t2 := 13) (o2 := 0) dX0_init_10 fpf_X0_11 rfl rfl rfl (by decide) rfl ?_
    rw [mset_s, mset_mset]
    refine BW_iconst (v := 0) dX0_init_13 (by decide) ?_
    refine BW_istore_n (loc' := [some (aR 12 0), some (aI (nI 0))]) dX0_init_14 (by decide) rfl rfl ?_
    have e0 : mset μ 12 0 (upd (fun _ => 0) 0 1) = hisM μ 0 := by
      funext t o
      unfold hisM
      rw [mget]
      by_cases c : t = 12 ∧ o = 0
      · rw [if_pos c, if_pos c]
        rfl
      · rw [if_neg c, if_neg c]
        by_cases c2 : t = 13 ∧ o = 0
        · rw [if_pos c2, c2.1, c2.2, h13]
          funext k
          rw [if_neg (Nat.not_lt_zero k)]
        · rw [if_neg c2, if_neg (by omega)]
    rw [e0]
    refine loopN 8 (fun i => BW M_X0_init 15 [some (aR 12 0), some (aI (nI i))] [] (hisM μ i) (47 + 11 * i) (1 + 11 * i) (8 + 248 * i) (40, [some (aR 12 0), some (aI (nI 8))], [], hisM μ 8, 135, 89, 1992)) ?_ ?_
    · refine BW_iload_n dX0_init_15 rfl ?_
      refine BW_bipush (v := 8) dX0_init_16 (by decide) ?_
      exact BW_icmp_ge (tgt := 40) dX0_init_18 (by decide) (fun _ => BW_end) (fun q => absurd (by decide) q)
    · intro i hi ih
      have hc4 : hasC 0 (4 + i) = true := decide_eq_true (by omega)
      have hid : idf 0 (4 + i) = 47 + 11 * i := by unfold idf; rw [if_pos (by decide), if_neg (by omega)]; omega
      have hor : ordf (47 + 11 * i) = (0, 4 + i) := by rw [← hid]; exact (idf_ok hc4).1
      have g0 : ∀ t, t < 11 → hisM μ i t (4 + i) = fun _ => 0 := fun t ht => by
        unfold hisM
        rw [if_neg (by omega), if_neg (by omega), if_neg (by omega)]
        exact hs t (4 + i) ht (by omega) (by omega)
      have ci := c_init4 (μ := hisM μ i) (j := 4 + i) (by omega) g0
      rw [hid] at ci
      refine BW_iload_n dX0_init_15 rfl ?_
      refine BW_bipush (v := 8) dX0_init_16 (by decide) ?_
      refine BW_icmp_ge (tgt := 40) dX0_init_18 (by decide) (fun q => absurd (show nI 8 ≤ nI i from q) (nI_ge hi (by decide))) (fun _ => ?_)
      refine BW_aload_n dX0_init_21 rfl ?_
      refine BW_getf (t := 12) (o := 0) (k := 0) (t2 := 13) (o2 := 0) dX0_init_22 ff_X0_11 rfl rfl rfl (by show 45 < _; omega) (by show ¬ (1 : Int32) = 0; decide) ?_
      refine BW_iload_n dX0_init_25 rfl ?_
      refine BW_new (t := 0) (o := 4 + i) dX0_init_26 fn_X0_9 hor (by omega) (g0 0 (by decide)) (by show _ ≤ 89; omega) (by show _ ≤ 1992; omega) ?_
      refine BW_dup dX0_init_29 ?_
      refine BW_callIN dX0_init_30 cfn_X0_17 (by decide) (by show 1 + 11 * i + 1 + 10 ≤ 89; omega) (by show 8 + 248 * i + 18 + 230 ≤ 1992; omega) (Nat.le_of_ble_eq_true rfl) ci ?_
      have st := BW_aastore (M := M_X0_init) (pc := 33) (i := nI i) (n := 47 + 11 * i + 11) (kc := 1 + 11 * i + 1 + 10) (ks := 8 + 248 * i + 18 + 230) (loc := [some (aR 12 0), some (aI (nI i))]) (st := []) (μ := mset (hisM μ i) 0 (4 + i) rf4) (X := (40, [some (aR 12 0), some (aI (nI 8))], [], hisM μ 8, 135, 89, 1992)) dX0_init_33 (vp_in_nI hi (by decide)) (by omega) (by rw [nI_clamp (by omega), hid]; omega)
      rw [nI_clamp (show i < 2 ^ 31 by omega)] at st
      refine st ?_
      have e1 : mset (mset (hisM μ i) 0 (4 + i) rf4) 13 0 (upd (mset (hisM μ i) 0 (4 + i) rf4 13 0) i 1) = hisM μ (i + 1) := by
        rw [mset_t (show (13 : Nat) ≠ 0 by decide)]
        funext t o
        rw [mget, mget]
        unfold hisM
        by_cases c2 : t = 13 ∧ o = 0
        · rw [if_pos c2, if_neg (show ¬ (t = 12 ∧ o = 0) by omega), if_pos c2]
          funext k
          rw [uget]
          by_cases c : k = i
          · rw [if_pos c, if_pos (by omega)]
          · rw [if_neg c]
            show (if k < i then (1 : Int32) else 0) = _
            by_cases d : k < i
            · rw [if_pos d, if_pos (by omega)]
            · rw [if_neg d, if_neg (by omega)]
        · rw [if_neg c2]
          by_cases c : t = 12 ∧ o = 0
          · rw [if_pos c, if_neg (by omega), if_pos c]
          · rw [if_neg c, if_neg c2, if_neg c, if_neg c2]
            by_cases d : t = 0 ∧ o = 4 + i
            · rw [if_pos d, if_pos (by omega)]
            · rw [if_neg d]
              by_cases d2 : t = 0 ∧ 4 ≤ o ∧ o < 4 + i
              · rw [if_pos d2, if_pos (by omega)]
              · rw [if_neg d2, if_neg (by omega)]
      rw [e1]
      refine BW_iinc (v := nI (i + 1)) (loc' := [some (aR 12 0), some (aI (nI (i + 1)))]) dX0_init_34 rfl (by rw [show Int32.ofInt 1 = nI 1 from rfl, nI_add]) (by decide) rfl rfl ?_
      refine BW_goto (tgt := 15) dX0_init_37 (by decide) ?_
      rw [show 47 + 11 * i + 11 = 47 + 11 * (i + 1) by omega, show 1 + 11 * i + 1 + 10 = 1 + 11 * (i + 1) by omega, show 8 + 248 * i + 18 + 230 = 8 + 248 * (i + 1) by omega]
      exact ih
  rw [← h12, mset_id] at key
  exact MetB.of ci_X0 (by decide) dX0_init_40 (by decide) (by decide) rfl key
def rf5 : Nat → Int32 := upd (upd (upd (upd (upd (upd (upd (upd (upd (fun _ => 0) 0 1) 1 1) 2 1) 3 1) 4 1) 5 1) 6 1) 7 1) 9 (-1)
theorem c_init5 {μ : Mem} (h : ∀ t o, t < 19 → μ t o = fun _ => 0) : ∃ μ', MetB M_X5_init [aR 11 0] μ 1 μ' 140 ∧ (∀ j, j < 12 → μ' 0 j = rf4) ∧ (∀ t j, 0 < t → t < 11 → μ' t j = fun _ => 0) ∧ μ' 11 0 = rf5 ∧ μ' 12 0 = rfh ∧ (μ' 13 0 = fun k => if k < 8 then 1 else 0) ∧ μ' 14 0 = rf3 ∧ μ' 15 0 = rf2 ∧ μ' 17 0 = rf1 ∧ (μ' 16 0 = fun _ => 0) ∧ (μ' 18 0 = fun _ => 0) ∧ ∀ t, 19 ≤ t → μ' t = μ t := by
  obtain ⟨m1, e1⟩ : ∃ m : Mem, m = mset μ 0 0 rf4 := ⟨_, rfl⟩
  obtain ⟨m2, e2⟩ : ∃ m : Mem, m = mset m1 11 0 (upd (m1 11 0) 0 1) := ⟨_, rfl⟩
  obtain ⟨m3, e3⟩ : ∃ m : Mem, m = mset m2 0 1 rf4 := ⟨_, rfl⟩
  obtain ⟨m4, e4⟩ : ∃ m : Mem, m = mset m3 11 0 (upd (m3 11 0) 1 1) := ⟨_, rfl⟩
  obtain ⟨m5, e5⟩ : ∃ m : Mem, m = mset m4 0 2 rf4 := ⟨_, rfl⟩
  obtain ⟨m6, e6⟩ : ∃ m : Mem, m = mset m5 11 0 (upd (m5 11 0) 2 1) := ⟨_, rfl⟩
  obtain ⟨m7, e7⟩ : ∃ m : Mem, m = mset m6 0 3 rf4 := ⟨_, rfl⟩
  obtain ⟨m8, e8⟩ : ∃ m : Mem, m = mset m7 11 0 (upd (m7 11 0) 3 1) := ⟨_, rfl⟩
  obtain ⟨m9, e9⟩ : ∃ m : Mem, m = hisM m8 8 := ⟨_, rfl⟩
  obtain ⟨m10, e10⟩ : ∃ m : Mem, m = mset m9 11 0 (upd (m9 11 0) 4 1) := ⟨_, rfl⟩
  obtain ⟨m11, e11⟩ : ∃ m : Mem, m = mset m10 14 0 rf3 := ⟨_, rfl⟩
  obtain ⟨m12, e12⟩ : ∃ m : Mem, m = mset m11 11 0 (upd (m11 11 0) 5 1) := ⟨_, rfl⟩
  obtain ⟨m13, e13⟩ : ∃ m : Mem, m = mset m12 15 0 rf2 := ⟨_, rfl⟩
  obtain ⟨m14, e14⟩ : ∃ m : Mem, m = mset m13 11 0 (upd (m13 11 0) 6 1) := ⟨_, rfl⟩
  obtain ⟨m15, e15⟩ : ∃ m : Mem, m = mset m14 17 0 rf1 := ⟨_, rfl⟩
  obtain ⟨m16, e16⟩ : ∃ m : Mem, m = mset m15 11 0 (upd (m15 11 0) 7 1) := ⟨_, rfl⟩
  obtain ⟨m17, e17⟩ : ∃ m : Mem, m = mset m16 11 0 (upd (m16 11 0) 9 (-1)) := ⟨_, rfl⟩
  have w1 : ∀ t o, ¬ (t = 0 ∧ o = 0) → m1 t o = μ t o := fun t o q => by rw [e1]; exact mset_n q
  have w2 : ∀ t o, ¬ (t = 11 ∧ o = 0) → m2 t o = m1 t o := fun t o q => by rw [e2]; exact mset_n q
  have w3 : ∀ t o, ¬ (t = 0 ∧ o = 1) → m3 t o = m2 t o := fun t o q => by rw [e3]; exact mset_n q
  have w4 : ∀ t o, ¬ (t = 11 ∧ o = 0) → m4 t o = m3 t o := fun t o q => by rw [e4]; exact mset_n q
  have w5 : ∀ t o, ¬ (t = 0 ∧ o = 2) → m5 t o = m4 t o := fun t o q => by rw [e5]; exact mset_n q
  have w6 : ∀ t o, ¬ (t = 11 ∧ o = 0) → m6 t o = m5 t o := fun t o q => by rw [e6]; exact mset_n q
  have w7 : ∀ t o, ¬ (t = 0 ∧ o = 3) → m7 t o = m6 t o := fun t o q => by rw [e7]; exact mset_n q
  have w8 : ∀ t o, ¬ (t = 11 ∧ o = 0) → m8 t o = m7 t o := fun t o q => by rw [e8]; exact mset_n q
  have w9 : ∀ t o, ¬ (t = 12 ∧ o = 0) → ¬ (t = 13 ∧ o = 0) → ¬ (t = 0 ∧ 4 ≤ o ∧ o < 12) → m9 t o = m8 t o := fun t o q1 q2 q3 => by rw [e9]; unfold hisM; rw [if_neg q1, if_neg q2, if_neg q3]
  have w10 : ∀ t o, ¬ (t = 11 ∧ o = 0) → m10 t o = m9 t o := fun t o q => by rw [e10]; exact mset_n q
  have w11 : ∀ t o, ¬ (t = 14 ∧ o = 0) → m11 t o = m10 t o := fun t o q => by rw [e11]; exact mset_n q
  have w12 : ∀ t o, ¬ (t = 11 ∧ o = 0) → m12 t o = m11 t o := fun t o q => by rw [e12]; exact mset_n q
  have w13 : ∀ t o, ¬ (t = 15 ∧ o = 0) → m13 t o = m12 t o := fun t o q => by rw [e13]; exact mset_n q
  have w14 : ∀ t o, ¬ (t = 11 ∧ o = 0) → m14 t o = m13 t o := fun t o q => by rw [e14]; exact mset_n q
  have w15 : ∀ t o, ¬ (t = 17 ∧ o = 0) → m15 t o = m14 t o := fun t o q => by rw [e15]; exact mset_n q
  have w16 : ∀ t o, ¬ (t = 11 ∧ o = 0) → m16 t o = m15 t o := fun t o q => by rw [e16]; exact mset_n q
  have w17 : ∀ t o, ¬ (t = 11 ∧ o = 0) → m17 t o = m16 t o := fun t o q => by rw [e17]; exact mset_n q
  have z0_0 : ∀ t, t < 11 → μ t 0 = fun _ => 0 := fun t ht => by rw [h t 0 (by omega)]
  have z2_1 : ∀ t, t < 11 → m2 t 1 = fun _ => 0 := fun t ht => by rw [w2 _ _ (by omega), w1 _ _ (by omega), h t 1 (by omega)]
  have z4_2 : ∀ t, t < 11 → m4 t 2 = fun _ => 0 := fun t ht => by rw [w4 _ _ (by omega), w3 _ _ (by omega), w2 _ _ (by omega), w1 _ _ (by omega), h t 2 (by omega)]
  have z6_3 : ∀ t, t < 11 → m6 t 3 = fun _ => 0 := fun t ht => by rw [w6 _ _ (by omega), w5 _ _ (by omega), w4 _ _ (by omega), w3 _ _ (by omega), w2 _ _ (by omega), w1 _ _ (by omega), h t 3 (by omega)]
  have z8_12 : m8 12 0 = fun _ => 0 := by rw [w8 _ _ (by omega), w7 _ _ (by omega), w6 _ _ (by omega), w5 _ _ (by omega), w4 _ _ (by omega), w3 _ _ (by omega), w2 _ _ (by omega), w1 _ _ (by omega), h 12 0 (by decide)]
  have z8_13 : m8 13 0 = fun _ => 0 := by rw [w8 _ _ (by omega), w7 _ _ (by omega), w6 _ _ (by omega), w5 _ _ (by omega), w4 _ _ (by omega), w3 _ _ (by omega), w2 _ _ (by omega), w1 _ _ (by omega), h 13 0 (by decide)]
  have z8_s : ∀ t j, t < 11 → 4 ≤ j → j < 12 → m8 t j = fun _ => 0 := fun t j ht h1 h2 => by rw [w8 _ _ (by omega), w7 _ _ (by omega), w6 _ _ (by omega), w5 _ _ (by omega), w4 _ _ (by omega), w3 _ _ (by omega), w2 _ _ (by omega), w1 _ _ (by omega), h t j (by omega)]
  have z10_14 : m10 14 0 = fun _ => 0 := by rw [w10 _ _ (by omega), w9 _ _ (by omega) (by omega) (by omega), w8 _ _ (by omega), w7 _ _ (by omega), w6 _ _ (by omega), w5 _ _ (by omega), w4 _ _ (by omega), w3 _ _ (by omega), w2 _ _ (by omega), w1 _ _ (by omega), h 14 0 (by decide)]
  have z12_15 : m12 15 0 = fun _ => 0 := by rw [w12 _ _ (by omega), w11 _ _ (by omega), w10 _ _ (by omega), w9 _ _ (by omega) (by omega) (by omega), w8 _ _ (by omega), w7 _ _ (by omega), w6 _ _ (by omega), w5 _ _ (by omega), w4 _ _ (by omega), w3 _ _ (by omega), w2 _ _ (by omega), w1 _ _ (by omega), h 15 0 (by decide)]
  have z12_16 : m12 16 0 = fun _ => 0 := by rw [w12 _ _ (by omega), w11 _ _ (by omega), w10 _ _ (by omega), w9 _ _ (by omega) (by omega) (by omega), w8 _ _ (by omega), w7 _ _ (by omega), w6 _ _ (by omega), w5 _ _ (by omega), w4 _ _ (by omega), w3 _ _ (by omega), w2 _ _ (by omega), w1 _ _ (by omega), h 16 0 (by decide)]
  have z14_17 : m14 17 0 = fun _ => 0 := by rw [w14 _ _ (by omega), w13 _ _ (by omega), w12 _ _ (by omega), w11 _ _ (by omega), w10 _ _ (by omega), w9 _ _ (by omega) (by omega) (by omega), w8 _ _ (by omega), w7 _ _ (by omega), w6 _ _ (by omega), w5 _ _ (by omega), w4 _ _ (by omega), w3 _ _ (by omega), w2 _ _ (by omega), w1 _ _ (by omega), h 17 0 (by decide)]
  have z14_18 : m14 18 0 = fun _ => 0 := by rw [w14 _ _ (by omega), w13 _ _ (by omega), w12 _ _ (by omega), w11 _ _ (by omega), w10 _ _ (by omega), w9 _ _ (by omega) (by omega) (by omega), w8 _ _ (by omega), w7 _ _ (by omega), w6 _ _ (by omega), w5 _ _ (by omega), w4 _ _ (by omega), w3 _ _ (by omega), w2 _ _ (by omega), w1 _ _ (by omega), h 18 0 (by decide)]
  have key : BW M_X5_init 0 [some (aR 11 0)] [] μ 1 0 0 (97, [some (aR 11 0)], [], m17, 140, 139, 3078) := by
    refine BW_aload_n dX5_init_0 rfl ?_
    refine BW_init dX5_init_1 w_27 (by decide) (by decide) ?_
    refine BW_aload_n dX5_init_4 rfl ?_
    refine BW_new (t := 0) (o := 0) dX5_init_5 fn_X5_9 rfl (by decide) (z0_0 0 (by decide)) (Nat.le_of_ble_eq_true rfl) (Nat.le_of_ble_eq_true rfl) ?_
    refine BW_dup dX5_init_8 ?_
    refine BW_callIN dX5_init_9 cfn_X5_11 (by decide) (Nat.le_of_ble_eq_true rfl) (Nat.le_of_ble_eq_true rfl) (Nat.le_of_ble_eq_true rfl) (c_init4 (μ := μ) (j := 0) (by decide) (fun t ht => z0_0 t ht)) ?_
    rw [← e1]
    refine BW_putF (t := 11) (o := 0) (k := 0) (t2 := 0) (o2 := 0) dX5_init_12 fpf_X5_12 rfl rfl rfl (by decide) rfl ?_
    rw [← e2]
    refine BW_aload_n dX5_init_15 rfl ?_
    refine BW_new (t := 0) (o := 1) dX5_init_16 fn_X5_9 rfl (by decide) (z2_1 0 (by decide)) (Nat.le_of_ble_eq_true rfl) (Nat.le_of_ble_eq_true rfl) ?_
    refine BW_dup dX5_init_19 ?_
    refine BW_callIN dX5_init_20 cfn_X5_11 (by decide) (Nat.le_of_ble_eq_true rfl) (Nat.le_of_ble_eq_true rfl) (Nat.le_of_ble_eq_true rfl) (c_init4 (μ := m2) (j := 1) (by decide) (fun t ht => z2_1 t ht)) ?_
    rw [← e3]
    refine BW_putF (t := 11) (o := 0) (k := 1) (t2 := 0) (o2 := 1) dX5_init_23 fpf_X5_16 rfl rfl rfl (by decide) rfl ?_
    rw [← e4]
    refine BW_aload_n dX5_init_26 rfl ?_
    refine BW_new (t := 0) (o := 2) dX5_init_27 fn_X5_9 rfl (by decide) (z4_2 0 (by decide)) (Nat.le_of_ble_eq_true rfl) (Nat.le_of_ble_eq_true rfl) ?_
    refine BW_dup dX5_init_30 ?_
    refine BW_callIN dX5_init_31 cfn_X5_11 (by decide) (Nat.le_of_ble_eq_true rfl) (Nat.le_of_ble_eq_true rfl) (Nat.le_of_ble_eq_true rfl) (c_init4 (μ := m4) (j := 2) (by decide) (fun t ht => z4_2 t ht)) ?_
    rw [← e5]
    refine BW_putF (t := 11) (o := 0) (k := 2) (t2 := 0) (o2 := 2) dX5_init_34 fpf_X5_19 rfl rfl rfl (by decide) rfl ?_
    rw [← e6]
    refine BW_aload_n dX5_init_37 rfl ?_
    refine BW_new (t := 0) (o := 3) dX5_init_38 fn_X5_9 rfl (by decide) (z6_3 0 (by decide)) (Nat.le_of_ble_eq_true rfl) (Nat.le_of_ble_eq_true rfl) ?_
    refine BW_dup dX5_init_41 ?_
    refine BW_callIN dX5_init_42 cfn_X5_11 (by decide) (Nat.le_of_ble_eq_true rfl) (Nat.le_of_ble_eq_true rfl) (Nat.le_of_ble_eq_true rfl) (c_init4 (μ := m6) (j := 3) (by decide) (fun t ht => z6_3 t ht)) ?_
    rw [← e7]
    refine BW_putF (t := 11) (o := 0) (k := 3) (t2 := 0) (o2 := 3) dX5_init_45 fpf_X5_22 rfl rfl rfl (by decide) rfl ?_
    rw [← e8]
    refine BW_aload_n dX5_init_48 rfl ?_
    refine BW_new (t := 12) (o := 0) dX5_init_49 fn_X5_25 rfl (by decide) z8_12 (Nat.le_of_ble_eq_true rfl) (Nat.le_of_ble_eq_true rfl) ?_
    refine BW_dup dX5_init_52 ?_
    refine BW_callI dX5_init_53 cfi_X5_27 (by decide) (Nat.le_of_ble_eq_true rfl) (Nat.le_of_ble_eq_true rfl) (Nat.le_of_ble_eq_true rfl) (c_init0 (μ := m8) z8_12 z8_13 z8_s) ?_
    rw [← e9]
    refine BW_putF (t := 11) (o := 0) (k := 4) (t2 := 12) (o2 := 0) dX5_init_56 fpf_X5_28 rfl rfl rfl (by decide) rfl ?_
    rw [← e10]
    refine BW_aload_n dX5_init_59 rfl ?_
    refine BW_new (t := 14) (o := 0) dX5_init_60 fn_X5_32 rfl (by decide) z10_14 (Nat.le_of_ble_eq_true rfl) (Nat.le_of_ble_eq_true rfl) ?_
    refine BW_dup dX5_init_63 ?_
    refine BW_callIN dX5_init_64 cfn_X5_34 (by decide) (Nat.le_of_ble_eq_true rfl) (Nat.le_of_ble_eq_true rfl) (Nat.le_of_ble_eq_true rfl) (c_init3 (μ := m10) z10_14) ?_
    rw [← e11]
    refine BW_putF (t := 11) (o := 0) (k := 5) (t2 := 14) (o2 := 0) dX5_init_67 fpf_X5_35 rfl rfl rfl (by decide) rfl ?_
    rw [← e12]
    refine BW_aload_n dX5_init_70 rfl ?_
    refine BW_new (t := 15) (o := 0) dX5_init_71 fn_X5_39 rfl (by decide) z12_15 (Nat.le_of_ble_eq_true rfl) (Nat.le_of_ble_eq_true rfl) ?_
    refine BW_dup dX5_init_74 ?_
    refine BW_callIN dX5_init_75 cfn_X5_41 (by decide) (Nat.le_of_ble_eq_true rfl) (Nat.le_of_ble_eq_true rfl) (Nat.le_of_ble_eq_true rfl) (c_init2 (μ := m12) z12_15 z12_16) ?_
    rw [← e13]
    refine BW_putF (t := 11) (o := 0) (k := 6) (t2 := 15) (o2 := 0) dX5_init_78 fpf_X5_42 rfl rfl rfl (by decide) rfl ?_
    rw [← e14]
    refine BW_aload_n dX5_init_81 rfl ?_
    refine BW_new (t := 17) (o := 0) dX5_init_82 fn_X5_46 rfl (by decide) z14_17 (Nat.le_of_ble_eq_true rfl) (Nat.le_of_ble_eq_true rfl) ?_
    refine BW_dup dX5_init_85 ?_
    refine BW_callIN dX5_init_86 cfn_X5_48 (by decide) (Nat.le_of_ble_eq_true rfl) (Nat.le_of_ble_eq_true rfl) (Nat.le_of_ble_eq_true rfl) (c_init1 (μ := m14) z14_17 z14_18) ?_
    rw [← e15]
    refine BW_putF (t := 11) (o := 0) (k := 7) (t2 := 17) (o2 := 0) dX5_init_89 fpf_X5_49 rfl rfl rfl (by decide) rfl ?_
    rw [← e16]
    refine BW_aload_n dX5_init_92 rfl ?_
    refine BW_iconst (v := -1) dX5_init_93 (by decide) ?_
    refine BW_put (t := 11) (o := 0) (k := 9) (v := -1) dX5_init_94 fp_X5_53 rfl rfl (by decide) ?_
    rw [← e17]
    exact BW_end
  refine ⟨m17, MetB.of ci_X5 (by decide) dX5_init_97 (by decide) (by decide) rfl key, ?_, ?_, ?_, ?_, ?_, ?_, ?_, ?_, ?_, ?_, ?_⟩
  · intro j hj
    rcases (show j = 0 ∨ j = 1 ∨ j = 2 ∨ j = 3 ∨ 4 ≤ j by omega) with rfl | rfl | rfl | rfl | h4
    · rw [w17 _ _ (by omega), w16 _ _ (by omega), w15 _ _ (by omega), w14 _ _ (by omega), w13 _ _ (by omega), w12 _ _ (by omega), w11 _ _ (by omega), w10 _ _ (by omega), w9 _ _ (by omega) (by omega) (by omega), w8 _ _ (by omega), w7 _ _ (by omega), w6 _ _ (by omega), w5 _ _ (by omega), w4 _ _ (by omega), w3 _ _ (by omega), w2 _ _ (by omega), e1]; exact mset_s _ _ _ _
    · rw [w17 _ _ (by omega), w16 _ _ (by omega), w15 _ _ (by omega), w14 _ _ (by omega), w13 _ _ (by omega), w12 _ _ (by omega), w11 _ _ (by omega), w10 _ _ (by omega), w9 _ _ (by omega) (by omega) (by omega), w8 _ _ (by omega), w7 _ _ (by omega), w6 _ _ (by omega), w5 _ _ (by omega), w4 _ _ (by omega), e3]; exact mset_s _ _ _ _
    · rw [w17 _ _ (by omega), w16 _ _ (by omega), w15 _ _ (by omega), w14 _ _ (by omega), w13 _ _ (by omega), w12 _ _ (by omega), w11 _ _ (by omega), w10 _ _ (by omega), w9 _ _ (by omega) (by omega) (by omega), w8 _ _ (by omega), w7 _ _ (by omega), w6 _ _ (by omega), e5]; exact mset_s _ _ _ _
    · rw [w17 _ _ (by omega), w16 _ _ (by omega), w15 _ _ (by omega), w14 _ _ (by omega), w13 _ _ (by omega), w12 _ _ (by omega), w11 _ _ (by omega), w10 _ _ (by omega), w9 _ _ (by omega) (by omega) (by omega), w8 _ _ (by omega), e7]; exact mset_s _ _ _ _
    · rw [w17 _ _ (by omega), w16 _ _ (by omega), w15 _ _ (by omega), w14 _ _ (by omega), w13 _ _ (by omega), w12 _ _ (by omega), w11 _ _ (by omega), w10 _ _ (by omega), e9]; unfold hisM; rw [if_neg (by omega), if_neg (by omega), if_pos ⟨rfl, h4, hj⟩]
  · intro t j h0 ht
    rw [w17 _ _ (by omega), w16 _ _ (by omega), w15 _ _ (by omega), w14 _ _ (by omega), w13 _ _ (by omega), w12 _ _ (by omega), w11 _ _ (by omega), w10 _ _ (by omega), w9 _ _ (by omega) (by omega) (by omega), w8 _ _ (by omega), w7 _ _ (by omega), w6 _ _ (by omega), w5 _ _ (by omega), w4 _ _ (by omega), w3 _ _ (by omega), w2 _ _ (by omega), w1 _ _ (by omega)]
    exact h t j (by omega)
  · have g0 : μ 11 0 = fun _ => 0 := h 11 0 (by decide)
    have g1 : m1 11 0 = fun _ => 0 := by rw [w1 _ _ (by omega)]; exact g0
    have g2 : m2 11 0 = upd (fun _ => 0) 0 1 := by rw [e2, mset_s, g1]
    have g3 : m3 11 0 = upd (fun _ => 0) 0 1 := by rw [w3 _ _ (by omega)]; exact g2
    have g4 : m4 11 0 = upd (upd (fun _ => 0) 0 1) 1 1 := by rw [e4, mset_s, g3]
    have g5 : m5 11 0 = upd (upd (fun _ => 0) 0 1) 1 1 := by rw [w5 _ _ (by omega)]; exact g4
    have g6 : m6 11 0 = upd (upd (upd (fun _ => 0) 0 1) 1 1) 2 1 := by rw [e6, mset_s, g5]
    have g7 : m7 11 0 = upd (upd (upd (fun _ => 0) 0 1) 1 1) 2 1 := by rw [w7 _ _ (by omega)]; exact g6
    have g8 : m8 11 0 = upd (upd (upd (upd (fun _ => 0) 0 1) 1 1) 2 1) 3 1 := by rw [e8, mset_s, g7]
    have g9 : m9 11 0 = upd (upd (upd (upd (fun _ => 0) 0 1) 1 1) 2 1) 3 1 := by rw [w9 _ _ (by omega) (by omega) (by omega)]; exact g8
    have g10 : m10 11 0 = upd (upd (upd (upd (upd (fun _ => 0) 0 1) 1 1) 2 1) 3 1) 4 1 := by rw [e10, mset_s, g9]
    have g11 : m11 11 0 = upd (upd (upd (upd (upd (fun _ => 0) 0 1) 1 1) 2 1) 3 1) 4 1 := by rw [w11 _ _ (by omega)]; exact g10
    have g12 : m12 11 0 = upd (upd (upd (upd (upd (upd (fun _ => 0) 0 1) 1 1) 2 1) 3 1) 4 1) 5 1 := by rw [e12, mset_s, g11]
    have g13 : m13 11 0 = upd (upd (upd (upd (upd (upd (fun _ => 0) 0 1) 1 1) 2 1) 3 1) 4 1) 5 1 := by rw [w13 _ _ (by omega)]; exact g12
    have g14 : m14 11 0 = upd (upd (upd (upd (upd (upd (upd (fun _ => 0) 0 1) 1 1) 2 1) 3 1) 4 1) 5 1) 6 1 := by rw [e14, mset_s, g13]
    have g15 : m15 11 0 = upd (upd (upd (upd (upd (upd (upd (fun _ => 0) 0 1) 1 1) 2 1) 3 1) 4 1) 5 1) 6 1 := by rw [w15 _ _ (by omega)]; exact g14
    have g16 : m16 11 0 = upd (upd (upd (upd (upd (upd (upd (upd (fun _ => 0) 0 1) 1 1) 2 1) 3 1) 4 1) 5 1) 6 1) 7 1 := by rw [e16, mset_s, g15]
    have g17 : m17 11 0 = upd (upd (upd (upd (upd (upd (upd (upd (upd (fun _ => 0) 0 1) 1 1) 2 1) 3 1) 4 1) 5 1) 6 1) 7 1) 9 (-1) := by rw [e17, mset_s, g16]
    exact g17
  · rw [w17 _ _ (by omega), w16 _ _ (by omega), w15 _ _ (by omega), w14 _ _ (by omega), w13 _ _ (by omega), w12 _ _ (by omega), w11 _ _ (by omega), w10 _ _ (by omega), e9]; exact if_pos ⟨rfl, rfl⟩
  · rw [w17 _ _ (by omega), w16 _ _ (by omega), w15 _ _ (by omega), w14 _ _ (by omega), w13 _ _ (by omega), w12 _ _ (by omega), w11 _ _ (by omega), w10 _ _ (by omega), e9]; unfold hisM; rw [if_neg (by omega), if_pos ⟨rfl, rfl⟩]
  · rw [w17 _ _ (by omega), w16 _ _ (by omega), w15 _ _ (by omega), w14 _ _ (by omega), w13 _ _ (by omega), w12 _ _ (by omega), e11]; exact mset_s _ _ _ _
  · rw [w17 _ _ (by omega), w16 _ _ (by omega), w15 _ _ (by omega), w14 _ _ (by omega), e13]; exact mset_s _ _ _ _
  · rw [w17 _ _ (by omega), w16 _ _ (by omega), e15]; exact mset_s _ _ _ _
  · rw [w17 _ _ (by omega), w16 _ _ (by omega), w15 _ _ (by omega), w14 _ _ (by omega), w13 _ _ (by omega), w12 _ _ (by omega), w11 _ _ (by omega), w10 _ _ (by omega), w9 _ _ (by omega) (by omega) (by omega), w8 _ _ (by omega), w7 _ _ (by omega), w6 _ _ (by omega), w5 _ _ (by omega), w4 _ _ (by omega), w3 _ _ (by omega), w2 _ _ (by omega), w1 _ _ (by omega)]; exact h 16 0 (by decide)
  · rw [w17 _ _ (by omega), w16 _ _ (by omega), w15 _ _ (by omega), w14 _ _ (by omega), w13 _ _ (by omega), w12 _ _ (by omega), w11 _ _ (by omega), w10 _ _ (by omega), w9 _ _ (by omega) (by omega) (by omega), w8 _ _ (by omega), w7 _ _ (by omega), w6 _ _ (by omega), w5 _ _ (by omega), w4 _ _ (by omega), w3 _ _ (by omega), w2 _ _ (by omega), w1 _ _ (by omega)]; exact h 18 0 (by decide)
  · intro t ht
    funext o
    rw [w17 _ _ (by omega), w16 _ _ (by omega), w15 _ _ (by omega), w14 _ _ (by omega), w13 _ _ (by omega), w12 _ _ (by omega), w11 _ _ (by omega), w10 _ _ (by omega), w9 _ _ (by omega) (by omega) (by omega), w8 _ _ (by omega), w7 _ _ (by omega), w6 _ _ (by omega), w5 _ _ (by omega), w4 _ _ (by omega), w3 _ _ (by omega), w2 _ _ (by omega), w1 _ _ (by omega)]
