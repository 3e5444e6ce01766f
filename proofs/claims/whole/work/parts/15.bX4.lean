set_option maxRecDepth 100000 in
theorem B_X4_copyFrom_0 {j : Nat} {o1 : Nat} {μ : Mem} {P : RES → Mem → Prop} (hj : j < 12) (ho1 : o1 < 12) (h : ∀ m1 : Mem, m1 = mset μ 0 j (upd (μ 0 j) 0 (μ 0 o1 0)) → ∀ m4 : Mem, m4 = mset m1 0 j (upd (m1 0 j) 1 (m1 0 o1 1)) → ∀ m7 : Mem, m7 = mset m4 0 j (upd (m4 0 j) 2 (m4 0 o1 2)) → ∀ m10 : Mem, m10 = mset m7 0 j (upd (m7 0 j) 3 (m7 0 o1 3)) → ∀ m13 : Mem, m13 = mset m10 0 j (upd (m10 0 j) 4 (m10 0 o1 4)) → ∀ m16 : Mem, m16 = mset m13 0 j (upd (m13 0 j) 5 (m13 0 o1 5)) → ∀ m19 : Mem, m19 = mset m16 0 j (upd (m16 0 j) 6 (m16 0 o1 6)) → ∀ m22 : Mem, m22 = mset m19 0 j (upd (m19 0 j) 7 (m19 0 o1 7)) → ∀ m25 : Mem, m25 = mset m22 1 j (va_cpy (m22 1 o1) (m22 1 j) (0 : Int32).toNatClampNeg (0 : Int32).toNatClampNeg (4 : Int32).toNatClampNeg) → ∀ m33 : Mem, m33 = mset m25 2 j (va_cpy (m25 2 o1) (m25 2 j) (0 : Int32).toNatClampNeg (0 : Int32).toNatClampNeg (4 : Int32).toNatClampNeg) → ∀ m41 : Mem, m41 = mset m33 3 j (va_cpy (m33 3 o1) (m33 3 j) (0 : Int32).toNatClampNeg (0 : Int32).toNatClampNeg (4 : Int32).toNatClampNeg) → ∀ m49 : Mem, m49 = mset m41 4 j (va_cpy (m41 4 o1) (m41 4 j) (0 : Int32).toNatClampNeg (0 : Int32).toNatClampNeg (8 : Int32).toNatClampNeg) → ∀ m57 : Mem, m57 = mset m49 5 j (va_cpy (m49 5 o1) (m49 5 j) (0 : Int32).toNatClampNeg (0 : Int32).toNatClampNeg (8 : Int32).toNatClampNeg) → ∀ m65 : Mem, m65 = mset m57 6 j (va_cpy (m57 6 o1) (m57 6 j) (0 : Int32).toNatClampNeg (0 : Int32).toNatClampNeg (64 : Int32).toNatClampNeg) → ∀ m73 : Mem, m73 = mset m65 7 j (va_cpy (m65 7 o1) (m65 7 j) (0 : Int32).toNatClampNeg (0 : Int32).toNatClampNeg (64 : Int32).toNatClampNeg) → ∀ m81 : Mem, m81 = mset m73 8 j (va_cpy (m73 8 o1) (m73 8 j) (0 : Int32).toNatClampNeg (0 : Int32).toNatClampNeg (64 : Int32).toNatClampNeg) → ∀ m89 : Mem, m89 = mset m81 9 j (va_cpy (m81 9 o1) (m81 9 j) (0 : Int32).toNatClampNeg (0 : Int32).toNatClampNeg (5 : Int32).toNatClampNeg) → ∀ m97 : Mem, m97 = mset m89 10 j (va_cpy (m89 10 o1) (m89 10 j) (0 : Int32).toNatClampNeg (0 : Int32).toNatClampNeg (5 : Int32).toNatClampNeg) → P (.inl none) m97) : AW M_X4_copyFrom 0 0 [some (aR 0 j), some (aR 0 o1)] [] μ P := by
  refine AW_aload_n dX4_copyFrom_0 rfl ?_
  refine AW_aload_n dX4_copyFrom_1 rfl ?_
  refine AW_getv (t := 0) (o := o1) (k := 0) none (v := aI (μ 0 o1 0)) dX4_copyFrom_2 ff_X4_42 rfl (decide_eq_true ho1) rfl ?_
  obtain ⟨m1, em1⟩ : ∃ z : Mem, z = mset μ 0 j (upd (μ 0 j) 0 (μ 0 o1 0)) := ⟨_, rfl⟩
  have h2 := h m1 em1
  refine AW_putf (t := 0) (o := j) (k := 0) dX4_copyFrom_5 fp_X4_42 rfl (decide_eq_true hj) rfl rfl em1.symm ?_
  refine AW_aload_n dX4_copyFrom_8 rfl ?_
  refine AW_aload_n dX4_copyFrom_9 rfl ?_
  refine AW_getv (t := 0) (o := o1) (k := 1) none (v := aI (m1 0 o1 1)) dX4_copyFrom_10 ff_X4_46 rfl (decide_eq_true ho1) rfl ?_
  obtain ⟨m4, em4⟩ : ∃ z : Mem, z = mset m1 0 j (upd (m1 0 j) 1 (m1 0 o1 1)) := ⟨_, rfl⟩
  have h5 := h2 m4 em4
  refine AW_putf (t := 0) (o := j) (k := 1) dX4_copyFrom_13 fp_X4_46 rfl (decide_eq_true hj) rfl rfl em4.symm ?_
  refine AW_aload_n dX4_copyFrom_16 rfl ?_
  refine AW_aload_n dX4_copyFrom_17 rfl ?_
  refine AW_getv (t := 0) (o := o1) (k := 2) none (v := aI (m4 0 o1 2)) dX4_copyFrom_18 ff_X4_49 rfl (decide_eq_true ho1) rfl ?_
  obtain ⟨m7, em7⟩ : ∃ z : Mem, z = mset m4 0 j (upd (m4 0 j) 2 (m4 0 o1 2)) := ⟨_, rfl⟩
  have h8 := h5 m7 em7
  refine AW_putf (t := 0) (o := j) (k := 2) dX4_copyFrom_21 fp_X4_49 rfl (decide_eq_true hj) rfl rfl em7.symm ?_
  refine AW_aload_n dX4_copyFrom_24 rfl ?_
  refine AW_aload_n dX4_copyFrom_25 rfl ?_
  refine AW_getv (t := 0) (o := o1) (k := 3) none (v := aI (m7 0 o1 3)) dX4_copyFrom_26 ff_X4_52 rfl (decide_eq_true ho1) rfl ?_
  obtain ⟨m10, em10⟩ : ∃ z : Mem, z = mset m7 0 j (upd (m7 0 j) 3 (m7 0 o1 3)) := ⟨_, rfl⟩
  have h11 := h8 m10 em10
  refine AW_putf (t := 0) (o := j) (k := 3) dX4_copyFrom_29 fp_X4_52 rfl (decide_eq_true hj) rfl rfl em10.symm ?_
  refine AW_aload_n dX4_copyFrom_32 rfl ?_
  refine AW_aload_n dX4_copyFrom_33 rfl ?_
  refine AW_getv (t := 0) (o := o1) (k := 4) none (v := aI (m10 0 o1 4)) dX4_copyFrom_34 ff_X4_55 rfl (decide_eq_true ho1) rfl ?_
  obtain ⟨m13, em13⟩ : ∃ z : Mem, z = mset m10 0 j (upd (m10 0 j) 4 (m10 0 o1 4)) := ⟨_, rfl⟩
  have h14 := h11 m13 em13
  refine AW_putf (t := 0) (o := j) (k := 4) dX4_copyFrom_37 fp_X4_55 rfl (decide_eq_true hj) rfl rfl em13.symm ?_
  refine AW_aload_n dX4_copyFrom_40 rfl ?_
  refine AW_aload_n dX4_copyFrom_41 rfl ?_
  refine AW_getv (t := 0) (o := o1) (k := 5) none (v := aI (m13 0 o1 5)) dX4_copyFrom_42 ff_X4_58 rfl (decide_eq_true ho1) rfl ?_
  obtain ⟨m16, em16⟩ : ∃ z : Mem, z = mset m13 0 j (upd (m13 0 j) 5 (m13 0 o1 5)) := ⟨_, rfl⟩
  have h17 := h14 m16 em16
  refine AW_putf (t := 0) (o := j) (k := 5) dX4_copyFrom_45 fp_X4_58 rfl (decide_eq_true hj) rfl rfl em16.symm ?_
  refine AW_aload_n dX4_copyFrom_48 rfl ?_
  refine AW_aload_n dX4_copyFrom_49 rfl ?_
  refine AW_getv (t := 0) (o := o1) (k := 6) none (v := aI (m16 0 o1 6)) dX4_copyFrom_50 ff_X4_61 rfl (decide_eq_true ho1) rfl ?_
  obtain ⟨m19, em19⟩ : ∃ z : Mem, z = mset m16 0 j (upd (m16 0 j) 6 (m16 0 o1 6)) := ⟨_, rfl⟩
  have h20 := h17 m19 em19
  refine AW_putf (t := 0) (o := j) (k := 6) dX4_copyFrom_53 fp_X4_61 rfl (decide_eq_true hj) rfl rfl em19.symm ?_
  refine AW_aload_n dX4_copyFrom_56 rfl ?_
  refine AW_aload_n dX4_copyFrom_57 rfl ?_
  refine AW_getv (t := 0) (o := o1) (k := 7) none (v := aI (m19 0 o1 7)) dX4_copyFrom_58 ff_X4_64 rfl (decide_eq_true ho1) rfl ?_
  obtain ⟨m22, em22⟩ : ∃ z : Mem, z = mset m19 0 j (upd (m19 0 j) 7 (m19 0 o1 7)) := ⟨_, rfl⟩
  have h23 := h20 m22 em22
  refine AW_putf (t := 0) (o := j) (k := 7) dX4_copyFrom_61 fp_X4_64 rfl (decide_eq_true hj) rfl rfl em22.symm ?_
  refine AW_aload_n dX4_copyFrom_64 rfl ?_
  refine AW_getv (t := 0) (o := o1) (k := 8) (some (1, none)) (v := aR 1 o1) dX4_copyFrom_65 ff_X4_9 rfl (decide_eq_true ho1) rfl ?_
  refine AW_iconst (v := 0) dX4_copyFrom_68 (by decide) ?_
  refine AW_aload_n dX4_copyFrom_69 rfl ?_
  refine AW_getv (t := 0) (o := j) (k := 8) (some (1, none)) (v := aR 1 j) dX4_copyFrom_70 ff_X4_9 rfl (decide_eq_true hj) rfl ?_
  refine AW_iconst (v := 0) dX4_copyFrom_73 (by decide) ?_
  refine AW_iconst (v := 4) dX4_copyFrom_74 (by decide) ?_
  obtain ⟨m25, em25⟩ : ∃ z : Mem, z = mset m22 1 j (va_cpy (m22 1 o1) (m22 1 j) (0 : Int32).toNatClampNeg (0 : Int32).toNatClampNeg (4 : Int32).toNatClampNeg) := ⟨_, rfl⟩
  have h32 := h23 m25 em25
  refine AW_copy dX4_copyFrom_75 w_237 rfl (decide_eq_true ho1) rfl (decide_eq_true hj) (by decide) (by decide) (by decide) (by decide) (by decide) (by decide) (Nat.le_of_ble_eq_true rfl) em25.symm ?_
  refine AW_aload_n dX4_copyFrom_78 rfl ?_
  refine AW_getv (t := 0) (o := o1) (k := 9) (some (2, none)) (v := aR 2 o1) dX4_copyFrom_79 ff_X4_15 rfl (decide_eq_true ho1) rfl ?_
  refine AW_iconst (v := 0) dX4_copyFrom_82 (by decide) ?_
  refine AW_aload_n dX4_copyFrom_83 rfl ?_
  refine AW_getv (t := 0) (o := j) (k := 9) (some (2, none)) (v := aR 2 j) dX4_copyFrom_84 ff_X4_15 rfl (decide_eq_true hj) rfl ?_
  refine AW_iconst (v := 0) dX4_copyFrom_87 (by decide) ?_
  refine AW_iconst (v := 4) dX4_copyFrom_88 (by decide) ?_
  obtain ⟨m33, em33⟩ : ∃ z : Mem, z = mset m25 2 j (va_cpy (m25 2 o1) (m25 2 j) (0 : Int32).toNatClampNeg (0 : Int32).toNatClampNeg (4 : Int32).toNatClampNeg) := ⟨_, rfl⟩
  have h40 := h32 m33 em33
  refine AW_copy dX4_copyFrom_89 w_237 rfl (decide_eq_true ho1) rfl (decide_eq_true hj) (by decide) (by decide) (by decide) (by decide) (by decide) (by decide) (Nat.le_of_ble_eq_true rfl) em33.symm ?_
  refine AW_aload_n dX4_copyFrom_92 rfl ?_
  refine AW_getv (t := 0) (o := o1) (k := 10) (some (3, none)) (v := aR 3 o1) dX4_copyFrom_93 ff_X4_18 rfl (decide_eq_true ho1) rfl ?_
  refine AW_iconst (v := 0) dX4_copyFrom_96 (by decide) ?_
  refine AW_aload_n dX4_copyFrom_97 rfl ?_
  refine AW_getv (t := 0) (o := j) (k := 10) (some (3, none)) (v := aR 3 j) dX4_copyFrom_98 ff_X4_18 rfl (decide_eq_true hj) rfl ?_
  refine AW_iconst (v := 0) dX4_copyFrom_101 (by decide) ?_
  refine AW_iconst (v := 4) dX4_copyFrom_102 (by decide) ?_
  obtain ⟨m41, em41⟩ : ∃ z : Mem, z = mset m33 3 j (va_cpy (m33 3 o1) (m33 3 j) (0 : Int32).toNatClampNeg (0 : Int32).toNatClampNeg (4 : Int32).toNatClampNeg) := ⟨_, rfl⟩
  have h48 := h40 m41 em41
  refine AW_copy dX4_copyFrom_103 w_237 rfl (decide_eq_true ho1) rfl (decide_eq_true hj) (by decide) (by decide) (by decide) (by decide) (by decide) (by decide) (Nat.le_of_ble_eq_true rfl) em41.symm ?_
  refine AW_aload_n dX4_copyFrom_106 rfl ?_
  refine AW_getv (t := 0) (o := o1) (k := 11) (some (4, none)) (v := aR 4 o1) dX4_copyFrom_107 ff_X4_21 rfl (decide_eq_true ho1) rfl ?_
  refine AW_iconst (v := 0) dX4_copyFrom_110 (by decide) ?_
  refine AW_aload_n dX4_copyFrom_111 rfl ?_
  refine AW_getv (t := 0) (o := j) (k := 11) (some (4, none)) (v := aR 4 j) dX4_copyFrom_112 ff_X4_21 rfl (decide_eq_true hj) rfl ?_
  refine AW_iconst (v := 0) dX4_copyFrom_115 (by decide) ?_
  refine AW_bipush (v := 8) dX4_copyFrom_116 (by decide) ?_
  obtain ⟨m49, em49⟩ : ∃ z : Mem, z = mset m41 4 j (va_cpy (m41 4 o1) (m41 4 j) (0 : Int32).toNatClampNeg (0 : Int32).toNatClampNeg (8 : Int32).toNatClampNeg) := ⟨_, rfl⟩
  have h56 := h48 m49 em49
  refine AW_copy dX4_copyFrom_118 w_237 rfl (decide_eq_true ho1) rfl (decide_eq_true hj) (by decide) (by decide) (by decide) (by decide) (by decide) (by decide) (Nat.le_of_ble_eq_true rfl) em49.symm ?_
  refine AW_aload_n dX4_copyFrom_121 rfl ?_
  refine AW_getv (t := 0) (o := o1) (k := 12) (some (5, none)) (v := aR 5 o1) dX4_copyFrom_122 ff_X4_24 rfl (decide_eq_true ho1) rfl ?_
  refine AW_iconst (v := 0) dX4_copyFrom_125 (by decide) ?_
  refine AW_aload_n dX4_copyFrom_126 rfl ?_
  refine AW_getv (t := 0) (o := j) (k := 12) (some (5, none)) (v := aR 5 j) dX4_copyFrom_127 ff_X4_24 rfl (decide_eq_true hj) rfl ?_
  refine AW_iconst (v := 0) dX4_copyFrom_130 (by decide) ?_
  refine AW_bipush (v := 8) dX4_copyFrom_131 (by decide) ?_
  obtain ⟨m57, em57⟩ : ∃ z : Mem, z = mset m49 5 j (va_cpy (m49 5 o1) (m49 5 j) (0 : Int32).toNatClampNeg (0 : Int32).toNatClampNeg (8 : Int32).toNatClampNeg) := ⟨_, rfl⟩
  have h64 := h56 m57 em57
  refine AW_copy dX4_copyFrom_133 w_237 rfl (decide_eq_true ho1) rfl (decide_eq_true hj) (by decide) (by decide) (by decide) (by decide) (by decide) (by decide) (Nat.le_of_ble_eq_true rfl) em57.symm ?_
  refine AW_aload_n dX4_copyFrom_136 rfl ?_
  refine AW_getv (t := 0) (o := o1) (k := 13) (some (6, none)) (v := aR 6 o1) dX4_copyFrom_137 ff_X4_27 rfl (decide_eq_true ho1) rfl ?_
  refine AW_iconst (v := 0) dX4_copyFrom_140 (by decide) ?_
  refine AW_aload_n dX4_copyFrom_141 rfl ?_
  refine AW_getv (t := 0) (o := j) (k := 13) (some (6, none)) (v := aR 6 j) dX4_copyFrom_142 ff_X4_27 rfl (decide_eq_true hj) rfl ?_
  refine AW_iconst (v := 0) dX4_copyFrom_145 (by decide) ?_
  refine AW_bipush (v := 64) dX4_copyFrom_146 (by decide) ?_
  obtain ⟨m65, em65⟩ : ∃ z : Mem, z = mset m57 6 j (va_cpy (m57 6 o1) (m57 6 j) (0 : Int32).toNatClampNeg (0 : Int32).toNatClampNeg (64 : Int32).toNatClampNeg) := ⟨_, rfl⟩
  have h72 := h64 m65 em65
  refine AW_copy dX4_copyFrom_148 w_237 rfl (decide_eq_true ho1) rfl (decide_eq_true hj) (by decide) (by decide) (by decide) (by decide) (by decide) (by decide) (Nat.le_of_ble_eq_true rfl) em65.symm ?_
  refine AW_aload_n dX4_copyFrom_151 rfl ?_
  refine AW_getv (t := 0) (o := o1) (k := 14) (some (7, none)) (v := aR 7 o1) dX4_copyFrom_152 ff_X4_30 rfl (decide_eq_true ho1) rfl ?_
  refine AW_iconst (v := 0) dX4_copyFrom_155 (by decide) ?_
  refine AW_aload_n dX4_copyFrom_156 rfl ?_
  refine AW_getv (t := 0) (o := j) (k := 14) (some (7, none)) (v := aR 7 j) dX4_copyFrom_157 ff_X4_30 rfl (decide_eq_true hj) rfl ?_
  refine AW_iconst (v := 0) dX4_copyFrom_160 (by decide) ?_
  refine AW_bipush (v := 64) dX4_copyFrom_161 (by decide) ?_
  obtain ⟨m73, em73⟩ : ∃ z : Mem, z = mset m65 7 j (va_cpy (m65 7 o1) (m65 7 j) (0 : Int32).toNatClampNeg (0 : Int32).toNatClampNeg (64 : Int32).toNatClampNeg) := ⟨_, rfl⟩
  have h80 := h72 m73 em73
  refine AW_copy dX4_copyFrom_163 w_237 rfl (decide_eq_true ho1) rfl (decide_eq_true hj) (by decide) (by decide) (by decide) (by decide) (by decide) (by decide) (Nat.le_of_ble_eq_true rfl) em73.symm ?_
  refine AW_aload_n dX4_copyFrom_166 rfl ?_
  refine AW_getv (t := 0) (o := o1) (k := 15) (some (8, none)) (v := aR 8 o1) dX4_copyFrom_167 ff_X4_33 rfl (decide_eq_true ho1) rfl ?_
  refine AW_iconst (v := 0) dX4_copyFrom_170 (by decide) ?_
  refine AW_aload_n dX4_copyFrom_171 rfl ?_
  refine AW_getv (t := 0) (o := j) (k := 15) (some (8, none)) (v := aR 8 j) dX4_copyFrom_172 ff_X4_33 rfl (decide_eq_true hj) rfl ?_
  refine AW_iconst (v := 0) dX4_copyFrom_175 (by decide) ?_
  refine AW_bipush (v := 64) dX4_copyFrom_176 (by decide) ?_
  obtain ⟨m81, em81⟩ : ∃ z : Mem, z = mset m73 8 j (va_cpy (m73 8 o1) (m73 8 j) (0 : Int32).toNatClampNeg (0 : Int32).toNatClampNeg (64 : Int32).toNatClampNeg) := ⟨_, rfl⟩
  have h88 := h80 m81 em81
  refine AW_copy dX4_copyFrom_178 w_237 rfl (decide_eq_true ho1) rfl (decide_eq_true hj) (by decide) (by decide) (by decide) (by decide) (by decide) (by decide) (Nat.le_of_ble_eq_true rfl) em81.symm ?_
  refine AW_aload_n dX4_copyFrom_181 rfl ?_
  refine AW_getv (t := 0) (o := o1) (k := 16) (some (9, none)) (v := aR 9 o1) dX4_copyFrom_182 ff_X4_36 rfl (decide_eq_true ho1) rfl ?_
  refine AW_iconst (v := 0) dX4_copyFrom_185 (by decide) ?_
  refine AW_aload_n dX4_copyFrom_186 rfl ?_
  refine AW_getv (t := 0) (o := j) (k := 16) (some (9, none)) (v := aR 9 j) dX4_copyFrom_187 ff_X4_36 rfl (decide_eq_true hj) rfl ?_
  refine AW_iconst (v := 0) dX4_copyFrom_190 (by decide) ?_
  refine AW_iconst (v := 5) dX4_copyFrom_191 (by decide) ?_
  obtain ⟨m89, em89⟩ : ∃ z : Mem, z = mset m81 9 j (va_cpy (m81 9 o1) (m81 9 j) (0 : Int32).toNatClampNeg (0 : Int32).toNatClampNeg (5 : Int32).toNatClampNeg) := ⟨_, rfl⟩
  have h96 := h88 m89 em89
  refine AW_copy dX4_copyFrom_192 w_237 rfl (decide_eq_true ho1) rfl (decide_eq_true hj) (by decide) (by decide) (by decide) (by decide) (by decide) (by decide) (Nat.le_of_ble_eq_true rfl) em89.symm ?_
  refine AW_aload_n dX4_copyFrom_195 rfl ?_
  refine AW_getv (t := 0) (o := o1) (k := 17) (some (10, none)) (v := aR 10 o1) dX4_copyFrom_196 ff_X4_39 rfl (decide_eq_true ho1) rfl ?_
  refine AW_iconst (v := 0) dX4_copyFrom_199 (by decide) ?_
  refine AW_aload_n dX4_copyFrom_200 rfl ?_
  refine AW_getv (t := 0) (o := j) (k := 17) (some (10, none)) (v := aR 10 j) dX4_copyFrom_201 ff_X4_39 rfl (decide_eq_true hj) rfl ?_
  refine AW_iconst (v := 0) dX4_copyFrom_204 (by decide) ?_
  refine AW_iconst (v := 5) dX4_copyFrom_205 (by decide) ?_
  obtain ⟨m97, em97⟩ : ∃ z : Mem, z = mset m89 10 j (va_cpy (m89 10 o1) (m89 10 j) (0 : Int32).toNatClampNeg (0 : Int32).toNatClampNeg (5 : Int32).toNatClampNeg) := ⟨_, rfl⟩
  have h104 := h96 m97 em97
  refine AW_copy dX4_copyFrom_206 w_237 rfl (decide_eq_true ho1) rfl (decide_eq_true hj) (by decide) (by decide) (by decide) (by decide) (by decide) (by decide) (Nat.le_of_ble_eq_true rfl) em97.symm ?_
  exact AW_return dX4_copyFrom_209 rfl h104
set_option maxRecDepth 100000 in
theorem B_X4_hasHouse_0 {j : Nat} {a1 : Int32} {μ : Mem} {P : RES → Mem → Prop} (hj : j < 12) (h : (a1 < 0 → P (.inl (some (aI 0))) μ) ∧ (¬ a1 < 0 → ((μ 0 j 0) ≤ a1 → P (.inl (some (aI 0))) μ) ∧ (¬ (μ 0 j 0) ≤ a1 → P (.inl (some (aI 1))) μ))) : AW M_X4_hasHouse 0 0 [some (aR 0 j), some (aI a1)] [] μ P := by
  refine AW_iload_n dX4_hasHouse_0 rfl ?_
  refine AW_if_lt (tgt := 16) dX4_hasHouse_1 (by decide) (fun q3 => ?_) (fun q3 => ?_)
  · have h1 := h.1 q3
    refine AW_iconst (v := 0) dX4_hasHouse_16 (by decide) ?_
    exact AW_ireturn (ty := .boolean) dX4_hasHouse_17 rfl rfl h1
  · have h2 := h.2 q3
    refine AW_iload_n dX4_hasHouse_4 rfl ?_
    refine AW_aload_n dX4_hasHouse_5 rfl ?_
    refine AW_getv (t := 0) (o := j) (k := 0) none (v := aI (μ 0 j 0)) dX4_hasHouse_6 ff_X4_42 rfl (decide_eq_true hj) rfl ?_
    refine AW_icmp_ge (tgt := 16) dX4_hasHouse_9 (by decide) (fun q6 => ?_) (fun q6 => ?_)
    · have h4 := h2.1 q6
      refine AW_iconst (v := 0) dX4_hasHouse_16 (by decide) ?_
      exact AW_ireturn (ty := .boolean) dX4_hasHouse_17 rfl rfl h4
    · have h5 := h2.2 q6
      refine AW_iconst (v := 1) dX4_hasHouse_12 (by decide) ?_
      refine AW_goto (tgt := 17) dX4_hasHouse_13 (by decide) ?_
      exact AW_ireturn (ty := .boolean) dX4_hasHouse_17 rfl rfl h5
set_option maxRecDepth 100000 in
theorem B_X4_hasSheet_0 {j : Nat} {a1 : Int32} {μ : Mem} {P : RES → Mem → Prop} (hj : j < 12) (h : (a1 < 0 → P (.inl (some (aI 0))) μ) ∧ (¬ a1 < 0 → ((μ 0 j 1) ≤ a1 → P (.inl (some (aI 0))) μ) ∧ (¬ (μ 0 j 1) ≤ a1 → P (.inl (some (aI 1))) μ))) : AW M_X4_hasSheet 0 0 [some (aR 0 j), some (aI a1)] [] μ P := by
  refine AW_iload_n dX4_hasSheet_0 rfl ?_
  refine AW_if_lt (tgt := 16) dX4_hasSheet_1 (by decide) (fun q3 => ?_) (fun q3 => ?_)
  · have h1 := h.1 q3
    refine AW_iconst (v := 0) dX4_hasSheet_16 (by decide) ?_
    exact AW_ireturn (ty := .boolean) dX4_hasSheet_17 rfl rfl h1
  · have h2 := h.2 q3
    refine AW_iload_n dX4_hasSheet_4 rfl ?_
    refine AW_aload_n dX4_hasSheet_5 rfl ?_
    refine AW_getv (t := 0) (o := j) (k := 1) none (v := aI (μ 0 j 1)) dX4_hasSheet_6 ff_X4_46 rfl (decide_eq_true hj) rfl ?_
    refine AW_icmp_ge (tgt := 16) dX4_hasSheet_9 (by decide) (fun q6 => ?_) (fun q6 => ?_)
    · have h4 := h2.1 q6
      refine AW_iconst (v := 0) dX4_hasSheet_16 (by decide) ?_
      exact AW_ireturn (ty := .boolean) dX4_hasSheet_17 rfl rfl h4
    · have h5 := h2.2 q6
      refine AW_iconst (v := 1) dX4_hasSheet_12 (by decide) ?_
      refine AW_goto (tgt := 17) dX4_hasSheet_13 (by decide) ?_
      exact AW_ireturn (ty := .boolean) dX4_hasSheet_17 rfl rfl h5
set_option maxRecDepth 100000 in
theorem B_X4_hasPlace_0 {j : Nat} {a1 : Int32} {a2 : Int32} {μ : Mem} {P : RES → Mem → Prop} (hj : j < 12) (h : ∃ (r4 : Int32) (m1 : Mem), MetA M_X4_hasSheet [aR 0 j, aI a1] μ (rI r4 m1) ∧ ((r4 = 0 → P (.inl (some (aI 0))) m1) ∧ (¬ r4 = 0 → (a2 < 0 → P (.inl (some (aI 0))) m1) ∧ (¬ a2 < 0 → vp_in a1 8 ∧ (((m1 5 j a1.toNatClampNeg) ≤ a2 → P (.inl (some (aI 0))) m1) ∧ (¬ (m1 5 j a1.toNatClampNeg) ≤ a2 → P (.inl (some (aI 1))) m1)))))) : AW M_X4_hasPlace 0 0 [some (aR 0 j), some (aI a1), some (aI a2)] [] μ P := by
  refine AW_aload_n dX4_hasPlace_0 rfl ?_
  refine AW_iload_n dX4_hasPlace_1 rfl ?_
  obtain ⟨r4, m1, h3, h2⟩ := h
  refine AW_callVI [aI a1] dX4_hasPlace_2 cv_X4_73 rfl rfl (decide_eq_true hj) (by decide) rfl (by decide) (Nat.le_of_ble_eq_true rfl) h3 ?_
  refine AW_if_eq (tgt := 26) dX4_hasPlace_5 (by decide) (fun q7 => ?_) (fun q7 => ?_)
  · have h5 := h2.1 q7
    refine AW_iconst (v := 0) dX4_hasPlace_26 (by decide) ?_
    exact AW_ireturn (ty := .boolean) dX4_hasPlace_27 rfl rfl h5
  · have h6 := h2.2 q7
    refine AW_iload_n dX4_hasPlace_8 rfl ?_
    refine AW_if_lt (tgt := 26) dX4_hasPlace_9 (by decide) (fun q10 => ?_) (fun q10 => ?_)
    · have h8 := h6.1 q10
      refine AW_iconst (v := 0) dX4_hasPlace_26 (by decide) ?_
      exact AW_ireturn (ty := .boolean) dX4_hasPlace_27 rfl rfl h8
    · have h9 := h6.2 q10
      refine AW_iload_n dX4_hasPlace_12 rfl ?_
      refine AW_aload_n dX4_hasPlace_13 rfl ?_
      refine AW_getv (t := 0) (o := j) (k := 12) (some (5, none)) (v := aR 5 j) dX4_hasPlace_14 ff_X4_24 rfl (decide_eq_true hj) rfl ?_
      refine AW_iload_n dX4_hasPlace_17 rfl ?_
      obtain ⟨h11, h12⟩ := h9
      refine AW_iaload dX4_hasPlace_18 rfl (decide_eq_true hj) h11 ?_
      refine AW_icmp_ge (tgt := 26) dX4_hasPlace_19 (by decide) (fun q15 => ?_) (fun q15 => ?_)
      · have h13 := h12.1 q15
        refine AW_iconst (v := 0) dX4_hasPlace_26 (by decide) ?_
        exact AW_ireturn (ty := .boolean) dX4_hasPlace_27 rfl rfl h13
      · have h14 := h12.2 q15
        refine AW_iconst (v := 1) dX4_hasPlace_22 (by decide) ?_
        refine AW_goto (tgt := 27) dX4_hasPlace_23 (by decide) ?_
        exact AW_ireturn (ty := .boolean) dX4_hasPlace_27 rfl rfl h14
set_option maxRecDepth 100000 in
theorem B_X4_rightAt_0 {j : Nat} {a1 : Int32} {a2 : Int32} {μ : Mem} {P : RES → Mem → Prop} (hj : j < 12) (h : vp_in ((a1 * 8) + a2) 64 ∧ (P (.inl (some (aI (μ 6 j ((a1 * 8) + a2).toNatClampNeg)))) μ)) : AW M_X4_rightAt 0 0 [some (aR 0 j), some (aI a1), some (aI a2)] [] μ P := by
  refine AW_aload_n dX4_rightAt_0 rfl ?_
  refine AW_getv (t := 0) (o := j) (k := 13) (some (6, none)) (v := aR 6 j) dX4_rightAt_1 ff_X4_27 rfl (decide_eq_true hj) rfl ?_
  refine AW_iload_n dX4_rightAt_4 rfl ?_
  refine AW_bipush (v := 8) dX4_rightAt_5 (by decide) ?_
  refine AW_imul dX4_rightAt_7 ?_
  refine AW_iload_n dX4_rightAt_8 rfl ?_
  refine AW_iadd dX4_rightAt_9 ?_
  obtain ⟨h1, h2⟩ := h
  refine AW_iaload dX4_rightAt_10 rfl (decide_eq_true hj) h1 ?_
  exact AW_ireturn (ty := .int) dX4_rightAt_11 rfl rfl h2
set_option maxRecDepth 100000 in
theorem B_X4_placedAt_0 {j : Nat} {a1 : Int32} {a2 : Int32} {μ : Mem} {P : RES → Mem → Prop} (hj : j < 12) (h : vp_in ((a1 * 8) + a2) 64 ∧ (P (.inl (some (aI (μ 7 j ((a1 * 8) + a2).toNatClampNeg)))) μ)) : AW M_X4_placedAt 0 0 [some (aR 0 j), some (aI a1), some (aI a2)] [] μ P := by
  refine AW_aload_n dX4_placedAt_0 rfl ?_
  refine AW_getv (t := 0) (o := j) (k := 14) (some (7, none)) (v := aR 7 j) dX4_placedAt_1 ff_X4_30 rfl (decide_eq_true hj) rfl ?_
  refine AW_iload_n dX4_placedAt_4 rfl ?_
  refine AW_bipush (v := 8) dX4_placedAt_5 (by decide) ?_
  refine AW_imul dX4_placedAt_7 ?_
  refine AW_iload_n dX4_placedAt_8 rfl ?_
  refine AW_iadd dX4_placedAt_9 ?_
  obtain ⟨h1, h2⟩ := h
  refine AW_iaload dX4_placedAt_10 rfl (decide_eq_true hj) h1 ?_
  exact AW_ireturn (ty := .int) dX4_placedAt_11 rfl rfl h2
set_option maxRecDepth 100000 in
theorem B_X4_isMisprint_0 {j : Nat} {a1 : Int32} {a2 : Int32} {μ : Mem} {P : RES → Mem → Prop} (hj : j < 12) (h : ∃ (r4 : Int32) (m1 : Mem), MetA M_X4_placedAt [aR 0 j, aI a1, aI a2] μ (rI r4 m1) ∧ (∃ (r8 : Int32) (m5 : Mem), MetA M_X4_rightAt [aR 0 j, aI a1, aI a2] m1 (rI r8 m5) ∧ ((r4 = r8 → P (.inl (some (aI 0))) m5) ∧ (¬ r4 = r8 → P (.inl (some (aI 1))) m5)))) : AW M_X4_isMisprint 0 0 [some (aR 0 j), some (aI a1), some (aI a2)] [] μ P := by
  refine AW_aload_n dX4_isMisprint_0 rfl ?_
  refine AW_iload_n dX4_isMisprint_1 rfl ?_
  refine AW_iload_n dX4_isMisprint_2 rfl ?_
  obtain ⟨r4, m1, h3, h2⟩ := h
  refine AW_callVI [aI a1, aI a2] dX4_isMisprint_3 cv_X4_77 rfl rfl (decide_eq_true hj) (by decide) rfl (by decide) (Nat.le_of_ble_eq_true rfl) h3 ?_
  refine AW_aload_n dX4_isMisprint_6 rfl ?_
  refine AW_iload_n dX4_isMisprint_7 rfl ?_
  refine AW_iload_n dX4_isMisprint_8 rfl ?_
  obtain ⟨r8, m5, h7, h6⟩ := h2
  refine AW_callVI [aI a1, aI a2] dX4_isMisprint_9 cv_X4_81 rfl rfl (decide_eq_true hj) (by decide) rfl (by decide) (Nat.le_of_ble_eq_true rfl) h7 ?_
  refine AW_icmp_eq (tgt := 19) dX4_isMisprint_12 (by decide) (fun q11 => ?_) (fun q11 => ?_)
  · have h9 := h6.1 q11
    refine AW_iconst (v := 0) dX4_isMisprint_19 (by decide) ?_
    exact AW_ireturn (ty := .boolean) dX4_isMisprint_20 rfl rfl h9
  · have h10 := h6.2 q11
    refine AW_iconst (v := 1) dX4_isMisprint_15 (by decide) ?_
    refine AW_goto (tgt := 20) dX4_isMisprint_16 (by decide) ?_
    exact AW_ireturn (ty := .boolean) dX4_isMisprint_20 rfl rfl h10
set_option maxRecDepth 100000 in
theorem B_X4_levelAt_0 {j : Nat} {a1 : Int32} {a2 : Int32} {μ : Mem} {P : RES → Mem → Prop} (hj : j < 12) (h : vp_in ((a1 * 8) + a2) 64 ∧ (P (.inl (some (aI (μ 8 j ((a1 * 8) + a2).toNatClampNeg)))) μ)) : AW M_X4_levelAt 0 0 [some (aR 0 j), some (aI a1), some (aI a2)] [] μ P := by
  refine AW_aload_n dX4_levelAt_0 rfl ?_
  refine AW_getv (t := 0) (o := j) (k := 15) (some (8, none)) (v := aR 8 j) dX4_levelAt_1 ff_X4_33 rfl (decide_eq_true hj) rfl ?_
  refine AW_iload_n dX4_levelAt_4 rfl ?_
  refine AW_bipush (v := 8) dX4_levelAt_5 (by decide) ?_
  refine AW_imul dX4_levelAt_7 ?_
  refine AW_iload_n dX4_levelAt_8 rfl ?_
  refine AW_iadd dX4_levelAt_9 ?_
  obtain ⟨h1, h2⟩ := h
  refine AW_iaload dX4_levelAt_10 rfl (decide_eq_true hj) h1 ?_
  exact AW_ireturn (ty := .int) dX4_levelAt_11 rfl rfl h2
set_option maxRecDepth 100000 in
theorem B_X4_howBad_0 {j : Nat} {a1 : Int32} {a2 : Int32} {μ : Mem} {P : RES → Mem → Prop} (hj : j < 12) (h : vp_in ((a1 * 8) + a2) 64 ∧ (vp_in ((a1 * 8) + a2) 64 ∧ (∀ r5 : Int32, r5 = (if 0 ≤ ((μ 7 j ((a1 * 8) + a2).toNatClampNeg) - (μ 6 j ((a1 * 8) + a2).toNatClampNeg)) then ((μ 7 j ((a1 * 8) + a2).toNatClampNeg) - (μ 6 j ((a1 * 8) + a2).toNatClampNeg)) else 0 - ((μ 7 j ((a1 * 8) + a2).toNatClampNeg) - (μ 6 j ((a1 * 8) + a2).toNatClampNeg))) → P (.inl (some (aI r5))) μ))) : AW M_X4_howBad 0 0 [some (aR 0 j), some (aI a1), some (aI a2), none] [] μ P := by
  refine AW_iload_n dX4_howBad_0 rfl ?_
  refine AW_bipush (v := 8) dX4_howBad_1 (by decide) ?_
  refine AW_imul dX4_howBad_3 ?_
  refine AW_iload_n dX4_howBad_4 rfl ?_
  refine AW_iadd dX4_howBad_5 ?_
  refine AW_istore_n (loc' := [some (aR 0 j), some (aI a1), some (aI a2), some (aI ((a1 * 8) + a2))]) dX4_howBad_6 (Nat.le_of_ble_eq_true rfl) rfl rfl ?_
  refine AW_aload_n dX4_howBad_7 rfl ?_
  refine AW_getv (t := 0) (o := j) (k := 14) (some (7, none)) (v := aR 7 j) dX4_howBad_8 ff_X4_30 rfl (decide_eq_true hj) rfl ?_
  refine AW_iload_n dX4_howBad_11 rfl ?_
  obtain ⟨h1, h2⟩ := h
  refine AW_iaload dX4_howBad_12 rfl (decide_eq_true hj) h1 ?_
  refine AW_aload_n dX4_howBad_13 rfl ?_
  refine AW_getv (t := 0) (o := j) (k := 13) (some (6, none)) (v := aR 6 j) dX4_howBad_14 ff_X4_27 rfl (decide_eq_true hj) rfl ?_
  refine AW_iload_n dX4_howBad_17 rfl ?_
  obtain ⟨h3, h4⟩ := h2
  refine AW_iaload dX4_howBad_18 rfl (decide_eq_true hj) h3 ?_
  refine AW_isub dX4_howBad_19 ?_
  obtain ⟨r5, er5⟩ : ∃ z : Int32, z = (if 0 ≤ ((μ 7 j ((a1 * 8) + a2).toNatClampNeg) - (μ 6 j ((a1 * 8) + a2).toNatClampNeg)) then ((μ 7 j ((a1 * 8) + a2).toNatClampNeg) - (μ 6 j ((a1 * 8) + a2).toNatClampNeg)) else 0 - ((μ 7 j ((a1 * 8) + a2).toNatClampNeg) - (μ 6 j ((a1 * 8) + a2).toNatClampNeg))) := ⟨_, rfl⟩
  have h6 := h4 r5 er5
  refine AW_mabs dX4_howBad_20 w_399 (by decide) (Nat.le_of_ble_eq_true rfl) er5.symm ?_
  exact AW_ireturn (ty := .int) dX4_howBad_23 rfl rfl h6
set_option maxRecDepth 100000 in
theorem B_X4_isAshamed_0 {j : Nat} {a1 : Int32} {μ : Mem} {P : RES → Mem → Prop} (hj : j < 12) (h : vp_in a1 4 ∧ (((μ 2 j a1.toNatClampNeg) ≤ 20 → P (.inl (some (aI 0))) μ) ∧ (¬ (μ 2 j a1.toNatClampNeg) ≤ 20 → P (.inl (some (aI 1))) μ))) : AW M_X4_isAshamed 0 0 [some (aR 0 j), some (aI a1)] [] μ P := by
  refine AW_aload_n dX4_isAshamed_0 rfl ?_
  refine AW_getv (t := 0) (o := j) (k := 9) (some (2, none)) (v := aR 2 j) dX4_isAshamed_1 ff_X4_15 rfl (decide_eq_true hj) rfl ?_
  refine AW_iload_n dX4_isAshamed_4 rfl ?_
  obtain ⟨h1, h2⟩ := h
  refine AW_iaload dX4_isAshamed_5 rfl (decide_eq_true hj) h1 ?_
  refine AW_bipush (v := 20) dX4_isAshamed_6 (by decide) ?_
  refine AW_icmp_le (tgt := 15) dX4_isAshamed_8 (by decide) (fun q5 => ?_) (fun q5 => ?_)
  · have h3 := h2.1 q5
    refine AW_iconst (v := 0) dX4_isAshamed_15 (by decide) ?_
    exact AW_ireturn (ty := .boolean) dX4_isAshamed_16 rfl rfl h3
  · have h4 := h2.2 q5
    refine AW_iconst (v := 1) dX4_isAshamed_11 (by decide) ?_
    refine AW_goto (tgt := 16) dX4_isAshamed_12 (by decide) ?_
    exact AW_ireturn (ty := .boolean) dX4_isAshamed_16 rfl rfl h4
set_option maxRecDepth 100000 in
theorem B_X4_countOnSheet_0 {j : Nat} {a1 : Int32} {a2 : Int32} {μ : Mem} {P : RES → Mem → Prop} (hj : j < 12) (h : AW M_X4_countOnSheet 0 5 [some (aR 0 j), some (aI a1), some (aI a2), some (aI 0), some (aI 0)] [] μ P) : AW M_X4_countOnSheet 0 0 [some (aR 0 j), some (aI a1), some (aI a2), none, none] [] μ P := by
  refine AW_iconst (v := 0) dX4_countOnSheet_0 (by decide) ?_
  refine AW_istore_n (loc' := [some (aR 0 j), some (aI a1), some (aI a2), some (aI 0), none]) dX4_countOnSheet_1 (Nat.le_of_ble_eq_true rfl) rfl rfl ?_
  refine AW_iconst (v := 0) dX4_countOnSheet_2 (by decide) ?_
  refine AW_istore (loc' := [some (aR 0 j), some (aI a1), some (aI a2), some (aI 0), some (aI 0)]) dX4_countOnSheet_3 (Nat.le_of_ble_eq_true rfl) rfl rfl ?_
  exact h
set_option maxRecDepth 100000 in
theorem B_X4_countOnSheet_5 {j : Nat} {a1 : Int32} {a2 : Int32} {a3 : Int32} {a4 : Int32} {μ : Mem} {P : RES → Mem → Prop} (hj : j < 12) (h : vp_in a1 8 ∧ (((μ 5 j a1.toNatClampNeg) ≤ a4 → P (.inl (some (aI a3))) μ) ∧ (¬ (μ 5 j a1.toNatClampNeg) ≤ a4 → vp_in ((a1 * 8) + a4) 64 ∧ (((μ 8 j ((a1 * 8) + a4).toNatClampNeg) < a2 → AW M_X4_countOnSheet 0 5 [some (aR 0 j), some (aI a1), some (aI a2), some (aI a3), some (aI (a4 + 1))] [] μ P) ∧ (¬ (μ 8 j ((a1 * 8) + a4).toNatClampNeg) < a2 → AW M_X4_countOnSheet 0 5 [some (aR 0 j), some (aI a1), some (aI a2), some (aI (a3 + 1)), some (aI (a4 + 1))] [] μ P))))) : AW M_X4_countOnSheet 0 5 [some (aR 0 j), some (aI a1), some (aI a2), some (aI a3), some (aI a4)] [] μ P := by
  refine AW_iload dX4_countOnSheet_5 rfl ?_
  refine AW_aload_n dX4_countOnSheet_7 rfl ?_
  refine AW_getv (t := 0) (o := j) (k := 12) (some (5, none)) (v := aR 5 j) dX4_countOnSheet_8 ff_X4_24 rfl (decide_eq_true hj) rfl ?_
  refine AW_iload_n dX4_countOnSheet_11 rfl ?_
  obtain ⟨h1, h2⟩ := h
  refine AW_iaload dX4_countOnSheet_12 rfl (decide_eq_true hj) h1 ?_
  refine AW_icmp_ge (tgt := 41) dX4_countOnSheet_13 (by decide) (fun q5 => ?_) (fun q5 => ?_)
  · have h3 := h2.1 q5
    refine AW_iload_n dX4_countOnSheet_41 rfl ?_
    exact AW_ireturn (ty := .int) dX4_countOnSheet_42 rfl rfl h3
  · have h4 := h2.2 q5
    refine AW_aload_n dX4_countOnSheet_16 rfl ?_
    refine AW_getv (t := 0) (o := j) (k := 15) (some (8, none)) (v := aR 8 j) dX4_countOnSheet_17 ff_X4_33 rfl (decide_eq_true hj) rfl ?_
    refine AW_iload_n dX4_countOnSheet_20 rfl ?_
    refine AW_bipush (v := 8) dX4_countOnSheet_21 (by decide) ?_
    refine AW_imul dX4_countOnSheet_23 ?_
    refine AW_iload dX4_countOnSheet_24 rfl ?_
    refine AW_iadd dX4_countOnSheet_26 ?_
    obtain ⟨h6, h7⟩ := h4
    refine AW_iaload dX4_countOnSheet_27 rfl (decide_eq_true hj) h6 ?_
    refine AW_iload_n dX4_countOnSheet_28 rfl ?_
    refine AW_icmp_lt (tgt := 35) dX4_countOnSheet_29 (by decide) (fun q10 => ?_) (fun q10 => ?_)
    · have h8 := h7.1 q10
      refine AW_iinc (v := a4 + 1) (loc' := [some (aR 0 j), some (aI a1), some (aI a2), some (aI a3), some (aI (a4 + 1))]) dX4_countOnSheet_35 rfl rfl (Nat.le_of_ble_eq_true rfl) rfl rfl ?_
      refine AW_goto (tgt := 5) dX4_countOnSheet_38 (by decide) ?_
      exact h8
    · have h9 := h7.2 q10
      refine AW_iinc (v := a3 + 1) (loc' := [some (aR 0 j), some (aI a1), some (aI a2), some (aI (a3 + 1)), some (aI a4)]) dX4_countOnSheet_32 rfl rfl (Nat.le_of_ble_eq_true rfl) rfl rfl ?_
      refine AW_iinc (v := a4 + 1) (loc' := [some (aR 0 j), some (aI a1), some (aI a2), some (aI (a3 + 1)), some (aI (a4 + 1))]) dX4_countOnSheet_35 rfl rfl (Nat.le_of_ble_eq_true rfl) rfl rfl ?_
      refine AW_goto (tgt := 5) dX4_countOnSheet_38 (by decide) ?_
      exact h9
set_option maxRecDepth 100000 in
theorem B_X4_countOfHouse_0 {j : Nat} {a1 : Int32} {a2 : Int32} {μ : Mem} {P : RES → Mem → Prop} (hj : j < 12) (h : AW M_X4_countOfHouse 0 5 [some (aR 0 j), some (aI a1), some (aI a2), some (aI 0), some (aI 0)] [] μ P) : AW M_X4_countOfHouse 0 0 [some (aR 0 j), some (aI a1), some (aI a2), none, none] [] μ P := by
  refine AW_iconst (v := 0) dX4_countOfHouse_0 (by decide) ?_
  refine AW_istore_n (loc' := [some (aR 0 j), some (aI a1), some (aI a2), some (aI 0), none]) dX4_countOfHouse_1 (Nat.le_of_ble_eq_true rfl) rfl rfl ?_
  refine AW_iconst (v := 0) dX4_countOfHouse_2 (by decide) ?_
  refine AW_istore (loc' := [some (aR 0 j), some (aI a1), some (aI a2), some (aI 0), some (aI 0)]) dX4_countOfHouse_3 (Nat.le_of_ble_eq_true rfl) rfl rfl ?_
  exact h
set_option maxRecDepth 100000 in
theorem B_X4_countOfHouse_5 {j : Nat} {a1 : Int32} {a2 : Int32} {a3 : Int32} {a4 : Int32} {μ : Mem} {P : RES → Mem → Prop} (hj : j < 12) (h : ((μ 0 j 1) ≤ a4 → P (.inl (some (aI a3))) μ) ∧ (¬ (μ 0 j 1) ≤ a4 → vp_in a4 8 ∧ ((¬ (μ 4 j a4.toNatClampNeg) = a1 → AW M_X4_countOfHouse 0 5 [some (aR 0 j), some (aI a1), some (aI a2), some (aI a3), some (aI (a4 + 1))] [] μ P) ∧ ((μ 4 j a4.toNatClampNeg) = a1 → ∃ (r12 : Int32) (m9 : Mem), MetA M_X4_countOnSheet [aR 0 j, aI a4, aI a2] μ (rI r12 m9) ∧ (AW M_X4_countOfHouse 0 5 [some (aR 0 j), some (aI a1), some (aI a2), some (aI (a3 + r12)), some (aI (a4 + 1))] [] m9 P))))) : AW M_X4_countOfHouse 0 5 [some (aR 0 j), some (aI a1), some (aI a2), some (aI a3), some (aI a4)] [] μ P := by
  refine AW_iload dX4_countOfHouse_5 rfl ?_
  refine AW_aload_n dX4_countOfHouse_7 rfl ?_
  refine AW_getv (t := 0) (o := j) (k := 1) none (v := aI (μ 0 j 1)) dX4_countOfHouse_8 ff_X4_46 rfl (decide_eq_true hj) rfl ?_
  refine AW_icmp_ge (tgt := 41) dX4_countOfHouse_11 (by decide) (fun q3 => ?_) (fun q3 => ?_)
  · have h1 := h.1 q3
    refine AW_iload_n dX4_countOfHouse_41 rfl ?_
    exact AW_ireturn (ty := .int) dX4_countOfHouse_42 rfl rfl h1
  · have h2 := h.2 q3
    refine AW_aload_n dX4_countOfHouse_14 rfl ?_
    refine AW_getv (t := 0) (o := j) (k := 11) (some (4, none)) (v := aR 4 j) dX4_countOfHouse_15 ff_X4_21 rfl (decide_eq_true hj) rfl ?_
    refine AW_iload dX4_countOfHouse_18 rfl ?_
    obtain ⟨h4, h5⟩ := h2
    refine AW_iaload dX4_countOfHouse_20 rfl (decide_eq_true hj) h4 ?_
    refine AW_iload_n dX4_countOfHouse_21 rfl ?_
    refine AW_icmp_ne (tgt := 35) dX4_countOfHouse_22 (by decide) (fun q8 => ?_) (fun q8 => ?_)
    · have h6 := h5.1 q8
      refine AW_iinc (v := a4 + 1) (loc' := [some (aR 0 j), some (aI a1), some (aI a2), some (aI a3), some (aI (a4 + 1))]) dX4_countOfHouse_35 rfl rfl (Nat.le_of_ble_eq_true rfl) rfl rfl ?_
      refine AW_goto (tgt := 5) dX4_countOfHouse_38 (by decide) ?_
      exact h6
    · have h7 := h5.2 q8
      refine AW_iload_n dX4_countOfHouse_25 rfl ?_
      refine AW_aload_n dX4_countOfHouse_26 rfl ?_
      refine AW_iload dX4_countOfHouse_27 rfl ?_
      refine AW_iload_n dX4_countOfHouse_29 rfl ?_
      obtain ⟨r12, m9, h11, h10⟩ := h7
      refine AW_callVI [aI a4, aI a2] dX4_countOfHouse_30 cv_X4_90 rfl rfl (decide_eq_true hj) (by decide) rfl (by decide) (Nat.le_of_ble_eq_true rfl) h11 ?_
      refine AW_iadd dX4_countOfHouse_33 ?_
      refine AW_istore_n (loc' := [some (aR 0 j), some (aI a1), some (aI a2), some (aI (a3 + r12)), some (aI a4)]) dX4_countOfHouse_34 (Nat.le_of_ble_eq_true rfl) rfl rfl ?_
      refine AW_iinc (v := a4 + 1) (loc' := [some (aR 0 j), some (aI a1), some (aI a2), some (aI (a3 + r12)), some (aI (a4 + 1))]) dX4_countOfHouse_35 rfl rfl (Nat.le_of_ble_eq_true rfl) rfl rfl ?_
      refine AW_goto (tgt := 5) dX4_countOfHouse_38 (by decide) ?_
      exact h10
set_option maxRecDepth 100000 in
theorem B_X4_countInAll_0 {j : Nat} {a1 : Int32} {μ : Mem} {P : RES → Mem → Prop} (hj : j < 12) (h : AW M_X4_countInAll 0 4 [some (aR 0 j), some (aI a1), some (aI 0), some (aI 0)] [] μ P) : AW M_X4_countInAll 0 0 [some (aR 0 j), some (aI a1), none, none] [] μ P := by
  refine AW_iconst (v := 0) dX4_countInAll_0 (by decide) ?_
  refine AW_istore_n (loc' := [some (aR 0 j), some (aI a1), some (aI 0), none]) dX4_countInAll_1 (Nat.le_of_ble_eq_true rfl) rfl rfl ?_
  refine AW_iconst (v := 0) dX4_countInAll_2 (by decide) ?_
  refine AW_istore_n (loc' := [some (aR 0 j), some (aI a1), some (aI 0), some (aI 0)]) dX4_countInAll_3 (Nat.le_of_ble_eq_true rfl) rfl rfl ?_
  exact h
set_option maxRecDepth 100000 in
theorem B_X4_countInAll_4 {j : Nat} {a1 : Int32} {a2 : Int32} {a3 : Int32} {μ : Mem} {P : RES → Mem → Prop} (hj : j < 12) (h : ((μ 0 j 1) ≤ a3 → P (.inl (some (aI a2))) μ) ∧ (¬ (μ 0 j 1) ≤ a3 → ∃ (r7 : Int32) (m4 : Mem), MetA M_X4_countOnSheet [aR 0 j, aI a3, aI a1] μ (rI r7 m4) ∧ (AW M_X4_countInAll 0 4 [some (aR 0 j), some (aI a1), some (aI (a2 + r7)), some (aI (a3 + 1))] [] m4 P))) : AW M_X4_countInAll 0 4 [some (aR 0 j), some (aI a1), some (aI a2), some (aI a3)] [] μ P := by
  refine AW_iload_n dX4_countInAll_4 rfl ?_
  refine AW_aload_n dX4_countInAll_5 rfl ?_
  refine AW_getv (t := 0) (o := j) (k := 1) none (v := aI (μ 0 j 1)) dX4_countInAll_6 ff_X4_46 rfl (decide_eq_true hj) rfl ?_
  refine AW_icmp_ge (tgt := 27) dX4_countInAll_9 (by decide) (fun q3 => ?_) (fun q3 => ?_)
  · have h1 := h.1 q3
    refine AW_iload_n dX4_countInAll_27 rfl ?_
    exact AW_ireturn (ty := .int) dX4_countInAll_28 rfl rfl h1
  · have h2 := h.2 q3
    refine AW_iload_n dX4_countInAll_12 rfl ?_
    refine AW_aload_n dX4_countInAll_13 rfl ?_
    refine AW_iload_n dX4_countInAll_14 rfl ?_
    refine AW_iload_n dX4_countInAll_15 rfl ?_
    obtain ⟨r7, m4, h6, h5⟩ := h2
    refine AW_callVI [aI a3, aI a1] dX4_countInAll_16 cv_X4_90 rfl rfl (decide_eq_true hj) (by decide) rfl (by decide) (Nat.le_of_ble_eq_true rfl) h6 ?_
    refine AW_iadd dX4_countInAll_19 ?_
    refine AW_istore_n (loc' := [some (aR 0 j), some (aI a1), some (aI (a2 + r7)), some (aI a3)]) dX4_countInAll_20 (Nat.le_of_ble_eq_true rfl) rfl rfl ?_
    refine AW_iinc (v := a3 + 1) (loc' := [some (aR 0 j), some (aI a1), some (aI (a2 + r7)), some (aI (a3 + 1))]) dX4_countInAll_21 rfl rfl (Nat.le_of_ble_eq_true rfl) rfl rfl ?_
    refine AW_goto (tgt := 4) dX4_countInAll_24 (by decide) ?_
    exact h5
set_option maxRecDepth 100000 in
theorem B_X4_badness_0 {j : Nat} {a1 : Int32} {μ : Mem} {P : RES → Mem → Prop} (hj : j < 12) (h : AW M_X4_badness 0 4 [some (aR 0 j), some (aI a1), some (aI 0), some (aI 0)] [] μ P) : AW M_X4_badness 0 0 [some (aR 0 j), some (aI a1), none, none] [] μ P := by
  refine AW_iconst (v := 0) dX4_badness_0 (by decide) ?_
  refine AW_istore_n (loc' := [some (aR 0 j), some (aI a1), some (aI 0), none]) dX4_badness_1 (Nat.le_of_ble_eq_true rfl) rfl rfl ?_
  refine AW_iconst (v := 0) dX4_badness_2 (by decide) ?_
  refine AW_istore_n (loc' := [some (aR 0 j), some (aI a1), some (aI 0), some (aI 0)]) dX4_badness_3 (Nat.le_of_ble_eq_true rfl) rfl rfl ?_
  exact h
set_option maxRecDepth 100000 in
theorem B_X4_badness_4 {j : Nat} {a1 : Int32} {a2 : Int32} {a3 : Int32} {μ : Mem} {P : RES → Mem → Prop} (hj : j < 12) (h : vp_in a1 8 ∧ (((μ 5 j a1.toNatClampNeg) ≤ a3 → P (.inl (some (aI a2))) μ) ∧ (¬ (μ 5 j a1.toNatClampNeg) ≤ a3 → ∃ (r9 : Int32) (m6 : Mem), MetA M_X4_howBad [aR 0 j, aI a1, aI a3] μ (rI r9 m6) ∧ (AW M_X4_badness 0 4 [some (aR 0 j), some (aI a1), some (aI (a2 + r9)), some (aI (a3 + 1))] [] m6 P)))) : AW M_X4_badness 0 4 [some (aR 0 j), some (aI a1), some (aI a2), some (aI a3)] [] μ P := by
  refine AW_iload_n dX4_badness_4 rfl ?_
  refine AW_aload_n dX4_badness_5 rfl ?_
  refine AW_getv (t := 0) (o := j) (k := 12) (some (5, none)) (v := aR 5 j) dX4_badness_6 ff_X4_24 rfl (decide_eq_true hj) rfl ?_
  refine AW_iload_n dX4_badness_9 rfl ?_
  obtain ⟨h1, h2⟩ := h
  refine AW_iaload dX4_badness_10 rfl (decide_eq_true hj) h1 ?_
  refine AW_icmp_ge (tgt := 29) dX4_badness_11 (by decide) (fun q5 => ?_) (fun q5 => ?_)
  · have h3 := h2.1 q5
    refine AW_iload_n dX4_badness_29 rfl ?_
    exact AW_ireturn (ty := .int) dX4_badness_30 rfl rfl h3
  · have h4 := h2.2 q5
    refine AW_iload_n dX4_badness_14 rfl ?_
    refine AW_aload_n dX4_badness_15 rfl ?_
    refine AW_iload_n dX4_badness_16 rfl ?_
    refine AW_iload_n dX4_badness_17 rfl ?_
    obtain ⟨r9, m6, h8, h7⟩ := h4
    refine AW_callVI [aI a1, aI a3] dX4_badness_18 cv_X4_93 rfl rfl (decide_eq_true hj) (by decide) rfl (by decide) (Nat.le_of_ble_eq_true rfl) h8 ?_
    refine AW_iadd dX4_badness_21 ?_
    refine AW_istore_n (loc' := [some (aR 0 j), some (aI a1), some (aI (a2 + r9)), some (aI a3)]) dX4_badness_22 (Nat.le_of_ble_eq_true rfl) rfl rfl ?_
    refine AW_iinc (v := a3 + 1) (loc' := [some (aR 0 j), some (aI a1), some (aI (a2 + r9)), some (aI (a3 + 1))]) dX4_badness_23 rfl rfl (Nat.le_of_ble_eq_true rfl) rfl rfl ?_
    refine AW_goto (tgt := 4) dX4_badness_26 (by decide) ?_
    exact h7
set_option maxRecDepth 100000 in
theorem B_X4_sheetsOf_0 {j : Nat} {a1 : Int32} {μ : Mem} {P : RES → Mem → Prop} (hj : j < 12) (h : AW M_X4_sheetsOf 0 4 [some (aR 0 j), some (aI a1), some (aI 0), some (aI 0)] [] μ P) : AW M_X4_sheetsOf 0 0 [some (aR 0 j), some (aI a1), none, none] [] μ P := by
  refine AW_iconst (v := 0) dX4_sheetsOf_0 (by decide) ?_
  refine AW_istore_n (loc' := [some (aR 0 j), some (aI a1), some (aI 0), none]) dX4_sheetsOf_1 (Nat.le_of_ble_eq_true rfl) rfl rfl ?_
  refine AW_iconst (v := 0) dX4_sheetsOf_2 (by decide) ?_
  refine AW_istore_n (loc' := [some (aR 0 j), some (aI a1), some (aI 0), some (aI 0)]) dX4_sheetsOf_3 (Nat.le_of_ble_eq_true rfl) rfl rfl ?_
  exact h
set_option maxRecDepth 100000 in
theorem B_X4_sheetsOf_4 {j : Nat} {a1 : Int32} {a2 : Int32} {a3 : Int32} {μ : Mem} {P : RES → Mem → Prop} (hj : j < 12) (h : ((μ 0 j 1) ≤ a3 → P (.inl (some (aI a2))) μ) ∧ (¬ (μ 0 j 1) ≤ a3 → vp_in a3 8 ∧ ((¬ (μ 4 j a3.toNatClampNeg) = a1 → AW M_X4_sheetsOf 0 4 [some (aR 0 j), some (aI a1), some (aI a2), some (aI (a3 + 1))] [] μ P) ∧ ((μ 4 j a3.toNatClampNeg) = a1 → AW M_X4_sheetsOf 0 4 [some (aR 0 j), some (aI a1), some (aI (a2 + 1)), some (aI (a3 + 1))] [] μ P)))) : AW M_X4_sheetsOf 0 4 [some (aR 0 j), some (aI a1), some (aI a2), some (aI a3)] [] μ P := by
  refine AW_iload_n dX4_sheetsOf_4 rfl ?_
  refine AW_aload_n dX4_sheetsOf_5 rfl ?_
  refine AW_getv (t := 0) (o := j) (k := 1) none (v := aI (μ 0 j 1)) dX4_sheetsOf_6 ff_X4_46 rfl (decide_eq_true hj) rfl ?_
  refine AW_icmp_ge (tgt := 31) dX4_sheetsOf_9 (by decide) (fun q3 => ?_) (fun q3 => ?_)
  · have h1 := h.1 q3
    refine AW_iload_n dX4_sheetsOf_31 rfl ?_
    exact AW_ireturn (ty := .int) dX4_sheetsOf_32 rfl rfl h1
  · have h2 := h.2 q3
    refine AW_aload_n dX4_sheetsOf_12 rfl ?_
    refine AW_getv (t := 0) (o := j) (k := 11) (some (4, none)) (v := aR 4 j) dX4_sheetsOf_13 ff_X4_21 rfl (decide_eq_true hj) rfl ?_
    refine AW_iload_n dX4_sheetsOf_16 rfl ?_
    obtain ⟨h4, h5⟩ := h2
    refine AW_iaload dX4_sheetsOf_17 rfl (decide_eq_true hj) h4 ?_
    refine AW_iload_n dX4_sheetsOf_18 rfl ?_
    refine AW_icmp_ne (tgt := 25) dX4_sheetsOf_19 (by decide) (fun q8 => ?_) (fun q8 => ?_)
    · have h6 := h5.1 q8
      refine AW_iinc (v := a3 + 1) (loc' := [some (aR 0 j), some (aI a1), some (aI a2), some (aI (a3 + 1))]) dX4_sheetsOf_25 rfl rfl (Nat.le_of_ble_eq_true rfl) rfl rfl ?_
      refine AW_goto (tgt := 4) dX4_sheetsOf_28 (by decide) ?_
      exact h6
    · have h7 := h5.2 q8
      refine AW_iinc (v := a2 + 1) (loc' := [some (aR 0 j), some (aI a1), some (aI (a2 + 1)), some (aI a3)]) dX4_sheetsOf_22 rfl rfl (Nat.le_of_ble_eq_true rfl) rfl rfl ?_
      refine AW_iinc (v := a3 + 1) (loc' := [some (aR 0 j), some (aI a1), some (aI (a2 + 1)), some (aI (a3 + 1))]) dX4_sheetsOf_25 rfl rfl (Nat.le_of_ble_eq_true rfl) rfl rfl ?_
      refine AW_goto (tgt := 4) dX4_sheetsOf_28 (by decide) ?_
      exact h7
set_option maxRecDepth 100000 in
theorem B_X4_ashamedHouses_0 {j : Nat} {μ : Mem} {P : RES → Mem → Prop} (hj : j < 12) (h : AW M_X4_ashamedHouses 0 4 [some (aR 0 j), some (aI 0), some (aI 0)] [] μ P) : AW M_X4_ashamedHouses 0 0 [some (aR 0 j), none, none] [] μ P := by
  refine AW_iconst (v := 0) dX4_ashamedHouses_0 (by decide) ?_
  refine AW_istore_n (loc' := [some (aR 0 j), some (aI 0), none]) dX4_ashamedHouses_1 (Nat.le_of_ble_eq_true rfl) rfl rfl ?_
  refine AW_iconst (v := 0) dX4_ashamedHouses_2 (by decide) ?_
  refine AW_istore_n (loc' := [some (aR 0 j), some (aI 0), some (aI 0)]) dX4_ashamedHouses_3 (Nat.le_of_ble_eq_true rfl) rfl rfl ?_
  exact h
set_option maxRecDepth 100000 in
theorem B_X4_ashamedHouses_4 {j : Nat} {a1 : Int32} {a2 : Int32} {μ : Mem} {P : RES → Mem → Prop} (hj : j < 12) (h : ((μ 0 j 0) ≤ a2 → P (.inl (some (aI a1))) μ) ∧ (¬ (μ 0 j 0) ≤ a2 → ∃ (r7 : Int32) (m4 : Mem), MetA M_X4_isAshamed [aR 0 j, aI a2] μ (rI r7 m4) ∧ ((r7 = 0 → AW M_X4_ashamedHouses 0 4 [some (aR 0 j), some (aI a1), some (aI (a2 + 1))] [] m4 P) ∧ (¬ r7 = 0 → AW M_X4_ashamedHouses 0 4 [some (aR 0 j), some (aI (a1 + 1)), some (aI (a2 + 1))] [] m4 P)))) : AW M_X4_ashamedHouses 0 4 [some (aR 0 j), some (aI a1), some (aI a2)] [] μ P := by
  refine AW_iload_n dX4_ashamedHouses_4 rfl ?_
  refine AW_aload_n dX4_ashamedHouses_5 rfl ?_
  refine AW_getv (t := 0) (o := j) (k := 0) none (v := aI (μ 0 j 0)) dX4_ashamedHouses_6 ff_X4_42 rfl (decide_eq_true hj) rfl ?_
  refine AW_icmp_ge (tgt := 29) dX4_ashamedHouses_9 (by decide) (fun q3 => ?_) (fun q3 => ?_)
  · have h1 := h.1 q3
    refine AW_iload_n dX4_ashamedHouses_29 rfl ?_
    exact AW_ireturn (ty := .int) dX4_ashamedHouses_30 rfl rfl h1
  · have h2 := h.2 q3
    refine AW_aload_n dX4_ashamedHouses_12 rfl ?_
    refine AW_iload_n dX4_ashamedHouses_13 rfl ?_
    obtain ⟨r7, m4, h6, h5⟩ := h2
    refine AW_callVI [aI a2] dX4_ashamedHouses_14 cv_X4_96 rfl rfl (decide_eq_true hj) (by decide) rfl (by decide) (Nat.le_of_ble_eq_true rfl) h6 ?_
    refine AW_if_eq (tgt := 23) dX4_ashamedHouses_17 (by decide) (fun q10 => ?_) (fun q10 => ?_)
    · have h8 := h5.1 q10
      refine AW_iinc (v := a2 + 1) (loc' := [some (aR 0 j), some (aI a1), some (aI (a2 + 1))]) dX4_ashamedHouses_23 rfl rfl (Nat.le_of_ble_eq_true rfl) rfl rfl ?_
      refine AW_goto (tgt := 4) dX4_ashamedHouses_26 (by decide) ?_
      exact h8
    · have h9 := h5.2 q10
      refine AW_iinc (v := a1 + 1) (loc' := [some (aR 0 j), some (aI (a1 + 1)), some (aI a2)]) dX4_ashamedHouses_20 rfl rfl (Nat.le_of_ble_eq_true rfl) rfl rfl ?_
      refine AW_iinc (v := a2 + 1) (loc' := [some (aR 0 j), some (aI (a1 + 1)), some (aI (a2 + 1))]) dX4_ashamedHouses_23 rfl rfl (Nat.le_of_ble_eq_true rfl) rfl rfl ?_
      refine AW_goto (tgt := 4) dX4_ashamedHouses_26 (by decide) ?_
      exact h9
set_option maxRecDepth 100000 in
theorem B_X4_numberOfHouse_0 {j : Nat} {a1 : Int32} {a2 : Int32} {μ : Mem} {P : RES → Mem → Prop} (hj : j < 12) (h : (a2.toInt = 0 → vp_in a1 4 ∧ (P (.inl (some (aI (μ 1 j a1.toNatClampNeg)))) μ)) ∧ (a2.toInt = 1 → vp_in a1 4 ∧ (P (.inl (some (aI (μ 2 j a1.toNatClampNeg)))) μ)) ∧ (a2.toInt = 2 → ∃ (r12 : Int32) (m9 : Mem), MetA M_X4_sheetsOf [aR 0 j, aI a1] μ (rI r12 m9) ∧ (P (.inl (some (aI r12))) m9)) ∧ (a2.toInt = 3 → ∃ (r17 : Int32) (m14 : Mem), MetA M_X4_countOfHouse [aR 0 j, aI a1, aI 1] μ (rI r17 m14) ∧ (P (.inl (some (aI r17))) m14)) ∧ (a2.toInt = 4 → ∃ (r22 : Int32) (m19 : Mem), MetA M_X4_countOfHouse [aR 0 j, aI a1, aI 2] μ (rI r22 m19) ∧ (P (.inl (some (aI r22))) m19)) ∧ (a2.toInt = 5 → ∃ (r27 : Int32) (m24 : Mem), MetA M_X4_licenceCost [aR 0 j, aI a1] μ (rI r27 m24) ∧ (P (.inl (some (aI r27))) m24)) ∧ (¬ a2.toInt = 0 → ¬ a2.toInt = 1 → ¬ a2.toInt = 2 → ¬ a2.toInt = 3 → ¬ a2.toInt = 4 → ¬ a2.toInt = 5 → vp_in a1 4 ∧ (P (.inl (some (aI (μ 3 j a1.toNatClampNeg)))) μ))) : AW M_X4_numberOfHouse 0 0 [some (aR 0 j), some (aI a1), some (aI a2)] [] μ P := by
  refine AW_iload_n dX4_numberOfHouse_0 rfl ?_
  obtain ⟨g31, g32, g33, g34, g35, g36, g37⟩ := h
  have hdf : (¬ a2.toInt = 0 → ¬ a2.toInt = 1 → ¬ a2.toInt = 2 → ¬ a2.toInt = 3 → ¬ a2.toInt = 4 → ¬ a2.toInt = 5 → AW M_X4_numberOfHouse 0 80 [some (aR 0 j), some (aI a1), some (aI a2)] [] μ P) := by
    intro z0 z1 z2 z3 z4 z5
    have h28 := g37 z0 z1 z2 z3 z4 z5
    refine AW_aload_n dX4_numberOfHouse_80 rfl ?_
    refine AW_getv (t := 0) (o := j) (k := 10) (some (3, none)) (v := aR 3 j) dX4_numberOfHouse_81 ff_X4_18 rfl (decide_eq_true hj) rfl ?_
    refine AW_iload_n dX4_numberOfHouse_84 rfl ?_
    obtain ⟨h29, h30⟩ := h28
    refine AW_iaload dX4_numberOfHouse_85 rfl (decide_eq_true hj) h29 ?_
    exact AW_ireturn (ty := .int) dX4_numberOfHouse_86 rfl rfl h30
  have ho39 : (a2.toInt = 0 → AW M_X4_numberOfHouse 0 40 [some (aR 0 j), some (aI a1), some (aI a2)] [] μ P) := by
    intro z
    have h2 := g31 z
    refine AW_aload_n dX4_numberOfHouse_40 rfl ?_
    refine AW_getv (t := 0) (o := j) (k := 8) (some (1, none)) (v := aR 1 j) dX4_numberOfHouse_41 ff_X4_9 rfl (decide_eq_true hj) rfl ?_
    refine AW_iload_n dX4_numberOfHouse_44 rfl ?_
    obtain ⟨h3, h4⟩ := h2
    refine AW_iaload dX4_numberOfHouse_45 rfl (decide_eq_true hj) h3 ?_
    exact AW_ireturn (ty := .int) dX4_numberOfHouse_46 rfl rfl h4
  have ho46 : (a2.toInt = 1 → AW M_X4_numberOfHouse 0 47 [some (aR 0 j), some (aI a1), some (aI a2)] [] μ P) := by
    intro z
    have h5 := g32 z
    refine AW_aload_n dX4_numberOfHouse_47 rfl ?_
    refine AW_getv (t := 0) (o := j) (k := 9) (some (2, none)) (v := aR 2 j) dX4_numberOfHouse_48 ff_X4_15 rfl (decide_eq_true hj) rfl ?_
    refine AW_iload_n dX4_numberOfHouse_51 rfl ?_
    obtain ⟨h6, h7⟩ := h5
    refine AW_iaload dX4_numberOfHouse_52 rfl (decide_eq_true hj) h6 ?_
    exact AW_ireturn (ty := .int) dX4_numberOfHouse_53 rfl rfl h7
  have ho53 : (a2.toInt = 2 → AW M_X4_numberOfHouse 0 54 [some (aR 0 j), some (aI a1), some (aI a2)] [] μ P) := by
    intro z
    have h8 := g33 z
    refine AW_aload_n dX4_numberOfHouse_54 rfl ?_
    refine AW_iload_n dX4_numberOfHouse_55 rfl ?_
    obtain ⟨r12, m9, h11, h10⟩ := h8
    refine AW_callVI [aI a1] dX4_numberOfHouse_56 cv_X4_99 rfl rfl (decide_eq_true hj) (by decide) rfl (by decide) (Nat.le_of_ble_eq_true rfl) h11 ?_
    exact AW_ireturn (ty := .int) dX4_numberOfHouse_59 rfl rfl h10
  have ho59 : (a2.toInt = 3 → AW M_X4_numberOfHouse 0 60 [some (aR 0 j), some (aI a1), some (aI a2)] [] μ P) := by
    intro z
    have h13 := g34 z
    refine AW_aload_n dX4_numberOfHouse_60 rfl ?_
    refine AW_iload_n dX4_numberOfHouse_61 rfl ?_
    refine AW_iconst (v := 1) dX4_numberOfHouse_62 (by decide) ?_
    obtain ⟨r17, m14, h16, h15⟩ := h13
    refine AW_callVI [aI a1, aI 1] dX4_numberOfHouse_63 cv_X4_102 rfl rfl (decide_eq_true hj) (by decide) rfl (by decide) (Nat.le_of_ble_eq_true rfl) h16 ?_
    exact AW_ireturn (ty := .int) dX4_numberOfHouse_66 rfl rfl h15
  have ho66 : (a2.toInt = 4 → AW M_X4_numberOfHouse 0 67 [some (aR 0 j), some (aI a1), some (aI a2)] [] μ P) := by
    intro z
    have h18 := g35 z
    refine AW_aload_n dX4_numberOfHouse_67 rfl ?_
    refine AW_iload_n dX4_numberOfHouse_68 rfl ?_
    refine AW_iconst (v := 2) dX4_numberOfHouse_69 (by decide) ?_
    obtain ⟨r22, m19, h21, h20⟩ := h18
    refine AW_callVI [aI a1, aI 2] dX4_numberOfHouse_70 cv_X4_102 rfl rfl (decide_eq_true hj) (by decide) rfl (by decide) (Nat.le_of_ble_eq_true rfl) h21 ?_
    exact AW_ireturn (ty := .int) dX4_numberOfHouse_73 rfl rfl h20
  have ho73 : (a2.toInt = 5 → AW M_X4_numberOfHouse 0 74 [some (aR 0 j), some (aI a1), some (aI a2)] [] μ P) := by
    intro z
    have h23 := g36 z
    refine AW_aload_n dX4_numberOfHouse_74 rfl ?_
    refine AW_iload_n dX4_numberOfHouse_75 rfl ?_
    obtain ⟨r27, m24, h26, h25⟩ := h23
    refine AW_callVI [aI a1] dX4_numberOfHouse_76 cv_X4_105 rfl rfl (decide_eq_true hj) (by decide) rfl (by decide) (Nat.le_of_ble_eq_true rfl) h26 ?_
    exact AW_ireturn (ty := .int) dX4_numberOfHouse_79 rfl rfl h25
  exact AW_tsw dX4_numberOfHouse_1 (by decide) (fun q38 => ⟨80, by decide, hdf (by omega) (by omega) (by omega) (by omega) (by omega) (by omega)⟩) ⟨fun q38 => ⟨40, by decide, ho39 (by omega)⟩, fun q38 => ⟨47, by decide, ho46 (by omega)⟩, fun q38 => ⟨54, by decide, ho53 (by omega)⟩, fun q38 => ⟨60, by decide, ho59 (by omega)⟩, fun q38 => ⟨67, by decide, ho66 (by omega)⟩, fun q38 => ⟨74, by decide, ho73 (by omega)⟩, trivial⟩
set_option maxRecDepth 100000 in
theorem B_X4_numberOfSheet_0 {j : Nat} {a1 : Int32} {a2 : Int32} {μ : Mem} {P : RES → Mem → Prop} (hj : j < 12) (h : (a2.toInt = 0 → vp_in a1 8 ∧ (P (.inl (some (aI (μ 4 j a1.toNatClampNeg)))) μ)) ∧ (a2.toInt = 1 → vp_in a1 8 ∧ (P (.inl (some (aI (μ 5 j a1.toNatClampNeg)))) μ)) ∧ (a2.toInt = 2 → ∃ (r12 : Int32) (m9 : Mem), MetA M_X4_countOnSheet [aR 0 j, aI a1, aI 1] μ (rI r12 m9) ∧ (P (.inl (some (aI r12))) m9)) ∧ (a2.toInt = 3 → ∃ (r17 : Int32) (m14 : Mem), MetA M_X4_countOnSheet [aR 0 j, aI a1, aI 2] μ (rI r17 m14) ∧ (P (.inl (some (aI r17))) m14)) ∧ (a2.toInt = 4 → ∃ (r22 : Int32) (m19 : Mem), MetA M_X4_countOnSheet [aR 0 j, aI a1, aI 3] μ (rI r22 m19) ∧ (P (.inl (some (aI r22))) m19)) ∧ (¬ a2.toInt = 0 → ¬ a2.toInt = 1 → ¬ a2.toInt = 2 → ¬ a2.toInt = 3 → ¬ a2.toInt = 4 → ∃ (r27 : Int32) (m24 : Mem), MetA M_X4_badness [aR 0 j, aI a1] μ (rI r27 m24) ∧ (P (.inl (some (aI r27))) m24))) : AW M_X4_numberOfSheet 0 0 [some (aR 0 j), some (aI a1), some (aI a2)] [] μ P := by
  refine AW_iload_n dX4_numberOfSheet_0 rfl ?_
  obtain ⟨g28, g29, g30, g31, g32, g33⟩ := h
  have hdf : (¬ a2.toInt = 0 → ¬ a2.toInt = 1 → ¬ a2.toInt = 2 → ¬ a2.toInt = 3 → ¬ a2.toInt = 4 → AW M_X4_numberOfSheet 0 71 [some (aR 0 j), some (aI a1), some (aI a2)] [] μ P) := by
    intro z0 z1 z2 z3 z4
    have h23 := g33 z0 z1 z2 z3 z4
    refine AW_aload_n dX4_numberOfSheet_71 rfl ?_
    refine AW_iload_n dX4_numberOfSheet_72 rfl ?_
    obtain ⟨r27, m24, h26, h25⟩ := h23
    refine AW_callVI [aI a1] dX4_numberOfSheet_73 cv_X4_108 rfl rfl (decide_eq_true hj) (by decide) rfl (by decide) (Nat.le_of_ble_eq_true rfl) h26 ?_
    exact AW_ireturn (ty := .int) dX4_numberOfSheet_76 rfl rfl h25
  have ho35 : (a2.toInt = 0 → AW M_X4_numberOfSheet 0 36 [some (aR 0 j), some (aI a1), some (aI a2)] [] μ P) := by
    intro z
    have h2 := g28 z
    refine AW_aload_n dX4_numberOfSheet_36 rfl ?_
    refine AW_getv (t := 0) (o := j) (k := 11) (some (4, none)) (v := aR 4 j) dX4_numberOfSheet_37 ff_X4_21 rfl (decide_eq_true hj) rfl ?_
    refine AW_iload_n dX4_numberOfSheet_40 rfl ?_
    obtain ⟨h3, h4⟩ := h2
    refine AW_iaload dX4_numberOfSheet_41 rfl (decide_eq_true hj) h3 ?_
    exact AW_ireturn (ty := .int) dX4_numberOfSheet_42 rfl rfl h4
  have ho42 : (a2.toInt = 1 → AW M_X4_numberOfSheet 0 43 [some (aR 0 j), some (aI a1), some (aI a2)] [] μ P) := by
    intro z
    have h5 := g29 z
    refine AW_aload_n dX4_numberOfSheet_43 rfl ?_
    refine AW_getv (t := 0) (o := j) (k := 12) (some (5, none)) (v := aR 5 j) dX4_numberOfSheet_44 ff_X4_24 rfl (decide_eq_true hj) rfl ?_
    refine AW_iload_n dX4_numberOfSheet_47 rfl ?_
    obtain ⟨h6, h7⟩ := h5
    refine AW_iaload dX4_numberOfSheet_48 rfl (decide_eq_true hj) h6 ?_
    exact AW_ireturn (ty := .int) dX4_numberOfSheet_49 rfl rfl h7
  have ho49 : (a2.toInt = 2 → AW M_X4_numberOfSheet 0 50 [some (aR 0 j), some (aI a1), some (aI a2)] [] μ P) := by
    intro z
    have h8 := g30 z
    refine AW_aload_n dX4_numberOfSheet_50 rfl ?_
    refine AW_iload_n dX4_numberOfSheet_51 rfl ?_
    refine AW_iconst (v := 1) dX4_numberOfSheet_52 (by decide) ?_
    obtain ⟨r12, m9, h11, h10⟩ := h8
    refine AW_callVI [aI a1, aI 1] dX4_numberOfSheet_53 cv_X4_90 rfl rfl (decide_eq_true hj) (by decide) rfl (by decide) (Nat.le_of_ble_eq_true rfl) h11 ?_
    exact AW_ireturn (ty := .int) dX4_numberOfSheet_56 rfl rfl h10
  have ho56 : (a2.toInt = 3 → AW M_X4_numberOfSheet 0 57 [some (aR 0 j), some (aI a1), some (aI a2)] [] μ P) := by
    intro z
    have h13 := g31 z
    refine AW_aload_n dX4_numberOfSheet_57 rfl ?_
    refine AW_iload_n dX4_numberOfSheet_58 rfl ?_
    refine AW_iconst (v := 2) dX4_numberOfSheet_59 (by decide) ?_
    obtain ⟨r17, m14, h16, h15⟩ := h13
    refine AW_callVI [aI a1, aI 2] dX4_numberOfSheet_60 cv_X4_90 rfl rfl (decide_eq_true hj) (by decide) rfl (by decide) (Nat.le_of_ble_eq_true rfl) h16 ?_
    exact AW_ireturn (ty := .int) dX4_numberOfSheet_63 rfl rfl h15
  have ho63 : (a2.toInt = 4 → AW M_X4_numberOfSheet 0 64 [some (aR 0 j), some (aI a1), some (aI a2)] [] μ P) := by
    intro z
    have h18 := g32 z
    refine AW_aload_n dX4_numberOfSheet_64 rfl ?_
    refine AW_iload_n dX4_numberOfSheet_65 rfl ?_
    refine AW_iconst (v := 3) dX4_numberOfSheet_66 (by decide) ?_
    obtain ⟨r22, m19, h21, h20⟩ := h18
    refine AW_callVI [aI a1, aI 3] dX4_numberOfSheet_67 cv_X4_90 rfl rfl (decide_eq_true hj) (by decide) rfl (by decide) (Nat.le_of_ble_eq_true rfl) h21 ?_
    exact AW_ireturn (ty := .int) dX4_numberOfSheet_70 rfl rfl h20
  exact AW_tsw dX4_numberOfSheet_1 (by decide) (fun q34 => ⟨71, by decide, hdf (by omega) (by omega) (by omega) (by omega) (by omega)⟩) ⟨fun q34 => ⟨36, by decide, ho35 (by omega)⟩, fun q34 => ⟨43, by decide, ho42 (by omega)⟩, fun q34 => ⟨50, by decide, ho49 (by omega)⟩, fun q34 => ⟨57, by decide, ho56 (by omega)⟩, fun q34 => ⟨64, by decide, ho63 (by omega)⟩, trivial⟩
set_option maxRecDepth 100000 in
theorem B_X4_sumUp_0 {j : Nat} {a1 : Int32} {μ : Mem} {P : RES → Mem → Prop} (hj : j < 12) (h : (a1.toInt = 0 → P (.inl (some (aI (μ 0 j 0)))) μ) ∧ (a1.toInt = 1 → P (.inl (some (aI (μ 0 j 1)))) μ) ∧ (a1.toInt = 2 → P (.inl (some (aI (μ 0 j 2)))) μ) ∧ (a1.toInt = 3 → P (.inl (some (aI (μ 0 j 3)))) μ) ∧ (a1.toInt = 4 → P (.inl (some (aI (μ 0 j 4)))) μ) ∧ (a1.toInt = 5 → ∃ (r11 : Int32) (m8 : Mem), MetA M_X4_countInAll [aR 0 j, aI 1] μ (rI r11 m8) ∧ (P (.inl (some (aI r11))) m8)) ∧ (a1.toInt = 6 → ∃ (r16 : Int32) (m13 : Mem), MetA M_X4_countInAll [aR 0 j, aI 2] μ (rI r16 m13) ∧ (P (.inl (some (aI r16))) m13)) ∧ (a1.toInt = 7 → ∃ (r21 : Int32) (m18 : Mem), MetA M_X4_countInAll [aR 0 j, aI 3] μ (rI r21 m18) ∧ (P (.inl (some (aI r21))) m18)) ∧ (a1.toInt = 8 → P (.inl (some (aI (μ 0 j 5)))) μ) ∧ (a1.toInt = 9 → P (.inl (some (aI (μ 0 j 6)))) μ) ∧ (a1.toInt = 10 → P (.inl (some (aI (μ 0 j 7)))) μ) ∧ (a1.toInt = 11 → ∃ (r29 : Int32) (m26 : Mem), MetA M_X4_sumOfHouses [aR 0 j, aR 3 j] μ (rI r29 m26) ∧ (P (.inl (some (aI r29))) m26)) ∧ (¬ a1.toInt = 0 → ¬ a1.toInt = 1 → ¬ a1.toInt = 2 → ¬ a1.toInt = 3 → ¬ a1.toInt = 4 → ¬ a1.toInt = 5 → ¬ a1.toInt = 6 → ¬ a1.toInt = 7 → ¬ a1.toInt = 8 → ¬ a1.toInt = 9 → ¬ a1.toInt = 10 → ¬ a1.toInt = 11 → ∃ (r34 : Int32) (m31 : Mem), MetA M_X4_sumOfHouses [aR 0 j, aR 1 j] μ (rI r34 m31) ∧ (P (.inl (some (aI r34))) m31))) : AW M_X4_sumUp 0 0 [some (aR 0 j), some (aI a1)] [] μ P := by
  refine AW_iload_n dX4_sumUp_0 rfl ?_
  obtain ⟨g35, g36, g37, g38, g39, g40, g41, g42, g43, g44, g45, g46, g47⟩ := h
  have hdf : (¬ a1.toInt = 0 → ¬ a1.toInt = 1 → ¬ a1.toInt = 2 → ¬ a1.toInt = 3 → ¬ a1.toInt = 4 → ¬ a1.toInt = 5 → ¬ a1.toInt = 6 → ¬ a1.toInt = 7 → ¬ a1.toInt = 8 → ¬ a1.toInt = 9 → ¬ a1.toInt = 10 → ¬ a1.toInt = 11 → AW M_X4_sumUp 0 131 [some (aR 0 j), some (aI a1)] [] μ P) := by
    intro z0 z1 z2 z3 z4 z5 z6 z7 z8 z9 z10 z11
    have h30 := g47 z0 z1 z2 z3 z4 z5 z6 z7 z8 z9 z10 z11
    refine AW_aload_n dX4_sumUp_131 rfl ?_
    refine AW_aload_n dX4_sumUp_132 rfl ?_
    refine AW_getv (t := 0) (o := j) (k := 8) (some (1, none)) (v := aR 1 j) dX4_sumUp_133 ff_X4_9 rfl (decide_eq_true hj) rfl ?_
    obtain ⟨r34, m31, h33, h32⟩ := h30
    refine AW_callVI [aR 1 j] dX4_sumUp_136 cv_X4_114 rfl rfl (decide_eq_true hj) (by decide) rfl (by decide) (Nat.le_of_ble_eq_true rfl) h33 ?_
    exact AW_ireturn (ty := .int) dX4_sumUp_139 rfl rfl h32
  have ho63 : (a1.toInt = 0 → AW M_X4_sumUp 0 64 [some (aR 0 j), some (aI a1)] [] μ P) := by
    intro z
    have h2 := g35 z
    refine AW_aload_n dX4_sumUp_64 rfl ?_
    refine AW_getv (t := 0) (o := j) (k := 0) none (v := aI (μ 0 j 0)) dX4_sumUp_65 ff_X4_42 rfl (decide_eq_true hj) rfl ?_
    exact AW_ireturn (ty := .int) dX4_sumUp_68 rfl rfl h2
  have ho68 : (a1.toInt = 1 → AW M_X4_sumUp 0 69 [some (aR 0 j), some (aI a1)] [] μ P) := by
    intro z
    have h3 := g36 z
    refine AW_aload_n dX4_sumUp_69 rfl ?_
    refine AW_getv (t := 0) (o := j) (k := 1) none (v := aI (μ 0 j 1)) dX4_sumUp_70 ff_X4_46 rfl (decide_eq_true hj) rfl ?_
    exact AW_ireturn (ty := .int) dX4_sumUp_73 rfl rfl h3
  have ho73 : (a1.toInt = 2 → AW M_X4_sumUp 0 74 [some (aR 0 j), some (aI a1)] [] μ P) := by
    intro z
    have h4 := g37 z
    refine AW_aload_n dX4_sumUp_74 rfl ?_
    refine AW_getv (t := 0) (o := j) (k := 2) none (v := aI (μ 0 j 2)) dX4_sumUp_75 ff_X4_49 rfl (decide_eq_true hj) rfl ?_
    exact AW_ireturn (ty := .int) dX4_sumUp_78 rfl rfl h4
  have ho78 : (a1.toInt = 3 → AW M_X4_sumUp 0 79 [some (aR 0 j), some (aI a1)] [] μ P) := by
    intro z
    have h5 := g38 z
    refine AW_aload_n dX4_sumUp_79 rfl ?_
    refine AW_getv (t := 0) (o := j) (k := 3) none (v := aI (μ 0 j 3)) dX4_sumUp_80 ff_X4_52 rfl (decide_eq_true hj) rfl ?_
    exact AW_ireturn (ty := .int) dX4_sumUp_83 rfl rfl h5
  have ho83 : (a1.toInt = 4 → AW M_X4_sumUp 0 84 [some (aR 0 j), some (aI a1)] [] μ P) := by
    intro z
    have h6 := g39 z
    refine AW_aload_n dX4_sumUp_84 rfl ?_
    refine AW_getv (t := 0) (o := j) (k := 4) none (v := aI (μ 0 j 4)) dX4_sumUp_85 ff_X4_55 rfl (decide_eq_true hj) rfl ?_
    exact AW_ireturn (ty := .int) dX4_sumUp_88 rfl rfl h6
  have ho88 : (a1.toInt = 5 → AW M_X4_sumUp 0 89 [some (aR 0 j), some (aI a1)] [] μ P) := by
    intro z
    have h7 := g40 z
    refine AW_aload_n dX4_sumUp_89 rfl ?_
    refine AW_iconst (v := 1) dX4_sumUp_90 (by decide) ?_
    obtain ⟨r11, m8, h10, h9⟩ := h7
    refine AW_callVI [aI 1] dX4_sumUp_91 cv_X4_111 rfl rfl (decide_eq_true hj) (by decide) rfl (by decide) (Nat.le_of_ble_eq_true rfl) h10 ?_
    exact AW_ireturn (ty := .int) dX4_sumUp_94 rfl rfl h9
  have ho94 : (a1.toInt = 6 → AW M_X4_sumUp 0 95 [some (aR 0 j), some (aI a1)] [] μ P) := by
    intro z
    have h12 := g41 z
    refine AW_aload_n dX4_sumUp_95 rfl ?_
    refine AW_iconst (v := 2) dX4_sumUp_96 (by decide) ?_
    obtain ⟨r16, m13, h15, h14⟩ := h12
    refine AW_callVI [aI 2] dX4_sumUp_97 cv_X4_111 rfl rfl (decide_eq_true hj) (by decide) rfl (by decide) (Nat.le_of_ble_eq_true rfl) h15 ?_
    exact AW_ireturn (ty := .int) dX4_sumUp_100 rfl rfl h14
  have ho100 : (a1.toInt = 7 → AW M_X4_sumUp 0 101 [some (aR 0 j), some (aI a1)] [] μ P) := by
    intro z
    have h17 := g42 z
    refine AW_aload_n dX4_sumUp_101 rfl ?_
    refine AW_iconst (v := 3) dX4_sumUp_102 (by decide) ?_
    obtain ⟨r21, m18, h20, h19⟩ := h17
    refine AW_callVI [aI 3] dX4_sumUp_103 cv_X4_111 rfl rfl (decide_eq_true hj) (by decide) rfl (by decide) (Nat.le_of_ble_eq_true rfl) h20 ?_
    exact AW_ireturn (ty := .int) dX4_sumUp_106 rfl rfl h19
  have ho106 : (a1.toInt = 8 → AW M_X4_sumUp 0 107 [some (aR 0 j), some (aI a1)] [] μ P) := by
    intro z
    have h22 := g43 z
    refine AW_aload_n dX4_sumUp_107 rfl ?_
    refine AW_getv (t := 0) (o := j) (k := 5) none (v := aI (μ 0 j 5)) dX4_sumUp_108 ff_X4_58 rfl (decide_eq_true hj) rfl ?_
    exact AW_ireturn (ty := .int) dX4_sumUp_111 rfl rfl h22
  have ho111 : (a1.toInt = 9 → AW M_X4_sumUp 0 112 [some (aR 0 j), some (aI a1)] [] μ P) := by
    intro z
    have h23 := g44 z
    refine AW_aload_n dX4_sumUp_112 rfl ?_
    refine AW_getv (t := 0) (o := j) (k := 6) none (v := aI (μ 0 j 6)) dX4_sumUp_113 ff_X4_61 rfl (decide_eq_true hj) rfl ?_
    exact AW_ireturn (ty := .int) dX4_sumUp_116 rfl rfl h23
  have ho116 : (a1.toInt = 10 → AW M_X4_sumUp 0 117 [some (aR 0 j), some (aI a1)] [] μ P) := by
    intro z
    have h24 := g45 z
    refine AW_aload_n dX4_sumUp_117 rfl ?_
    refine AW_getv (t := 0) (o := j) (k := 7) none (v := aI (μ 0 j 7)) dX4_sumUp_118 ff_X4_64 rfl (decide_eq_true hj) rfl ?_
    exact AW_ireturn (ty := .int) dX4_sumUp_121 rfl rfl h24
  have ho121 : (a1.toInt = 11 → AW M_X4_sumUp 0 122 [some (aR 0 j), some (aI a1)] [] μ P) := by
    intro z
    have h25 := g46 z
    refine AW_aload_n dX4_sumUp_122 rfl ?_
    refine AW_aload_n dX4_sumUp_123 rfl ?_
    refine AW_getv (t := 0) (o := j) (k := 10) (some (3, none)) (v := aR 3 j) dX4_sumUp_124 ff_X4_18 rfl (decide_eq_true hj) rfl ?_
    obtain ⟨r29, m26, h28, h27⟩ := h25
    refine AW_callVI [aR 3 j] dX4_sumUp_127 cv_X4_114 rfl rfl (decide_eq_true hj) (by decide) rfl (by decide) (Nat.le_of_ble_eq_true rfl) h28 ?_
    exact AW_ireturn (ty := .int) dX4_sumUp_130 rfl rfl h27
  exact AW_tsw dX4_sumUp_1 (by decide) (fun q48 => ⟨131, by decide, hdf (by omega) (by omega) (by omega) (by omega) (by omega) (by omega) (by omega) (by omega) (by omega) (by omega) (by omega) (by omega)⟩) ⟨fun q48 => ⟨64, by decide, ho63 (by omega)⟩, fun q48 => ⟨69, by decide, ho68 (by omega)⟩, fun q48 => ⟨74, by decide, ho73 (by omega)⟩, fun q48 => ⟨79, by decide, ho78 (by omega)⟩, fun q48 => ⟨84, by decide, ho83 (by omega)⟩, fun q48 => ⟨89, by decide, ho88 (by omega)⟩, fun q48 => ⟨95, by decide, ho94 (by omega)⟩, fun q48 => ⟨101, by decide, ho100 (by omega)⟩, fun q48 => ⟨107, by decide, ho106 (by omega)⟩, fun q48 => ⟨112, by decide, ho111 (by omega)⟩, fun q48 => ⟨117, by decide, ho116 (by omega)⟩, fun q48 => ⟨122, by decide, ho121 (by omega)⟩, trivial⟩
set_option maxRecDepth 100000 in
theorem B_X4_sumOfHouses_0 {j : Nat} {t1 o1 : Nat} {μ : Mem} {P : RES → Mem → Prop} (hj : j < 12) (hk1 : kd t1 = 1) (hc1 : hasC t1 o1 = true) (h : AW M_X4_sumOfHouses 0 4 [some (aR 0 j), some (aR t1 o1), some (aI 0), some (aI 0)] [] μ P) : AW M_X4_sumOfHouses 0 0 [some (aR 0 j), some (aR t1 o1), none, none] [] μ P := by
  refine AW_iconst (v := 0) dX4_sumOfHouses_0 (by decide) ?_
  refine AW_istore_n (loc' := [some (aR 0 j), some (aR t1 o1), some (aI 0), none]) dX4_sumOfHouses_1 (Nat.le_of_ble_eq_true rfl) rfl rfl ?_
  refine AW_iconst (v := 0) dX4_sumOfHouses_2 (by decide) ?_
  refine AW_istore_n (loc' := [some (aR 0 j), some (aR t1 o1), some (aI 0), some (aI 0)]) dX4_sumOfHouses_3 (Nat.le_of_ble_eq_true rfl) rfl rfl ?_
  exact h
set_option maxRecDepth 100000 in
theorem B_X4_sumOfHouses_4 {j : Nat} {t1 o1 : Nat} {a2 : Int32} {a3 : Int32} {μ : Mem} {P : RES → Mem → Prop} (hj : j < 12) (hk1 : kd t1 = 1) (hc1 : hasC t1 o1 = true) (h : ((μ 0 j 0) ≤ a3 → P (.inl (some (aI a2))) μ) ∧ (¬ (μ 0 j 0) ≤ a3 → ((Int32.ofNat (ln t1)) ≤ a3 → P (.inl (some (aI a2))) μ) ∧ (¬ (Int32.ofNat (ln t1)) ≤ a3 → vp_in a3 (ln t1) ∧ (AW M_X4_sumOfHouses 0 4 [some (aR 0 j), some (aR t1 o1), some (aI (a2 + (μ t1 o1 a3.toNatClampNeg))), some (aI (a3 + 1))] [] μ P)))) : AW M_X4_sumOfHouses 0 4 [some (aR 0 j), some (aR t1 o1), some (aI a2), some (aI a3)] [] μ P := by
  refine AW_iload_n dX4_sumOfHouses_4 rfl ?_
  refine AW_aload_n dX4_sumOfHouses_5 rfl ?_
  refine AW_getv (t := 0) (o := j) (k := 0) none (v := aI (μ 0 j 0)) dX4_sumOfHouses_6 ff_X4_42 rfl (decide_eq_true hj) rfl ?_
  refine AW_icmp_ge (tgt := 30) dX4_sumOfHouses_9 (by decide) (fun q3 => ?_) (fun q3 => ?_)
  · have h1 := h.1 q3
    refine AW_iload_n dX4_sumOfHouses_30 rfl ?_
    exact AW_ireturn (ty := .int) dX4_sumOfHouses_31 rfl rfl h1
  · have h2 := h.2 q3
    refine AW_iload_n dX4_sumOfHouses_12 rfl ?_
    refine AW_aload_n dX4_sumOfHouses_13 rfl ?_
    refine AW_alen dX4_sumOfHouses_14 hk1 hc1 rfl ?_
    refine AW_icmp_ge (tgt := 30) dX4_sumOfHouses_15 (by decide) (fun q6 => ?_) (fun q6 => ?_)
    · have h4 := h2.1 q6
      refine AW_iload_n dX4_sumOfHouses_30 rfl ?_
      exact AW_ireturn (ty := .int) dX4_sumOfHouses_31 rfl rfl h4
    · have h5 := h2.2 q6
      refine AW_iload_n dX4_sumOfHouses_18 rfl ?_
      refine AW_aload_n dX4_sumOfHouses_19 rfl ?_
      refine AW_iload_n dX4_sumOfHouses_20 rfl ?_
      obtain ⟨h7, h8⟩ := h5
      refine AW_iaload dX4_sumOfHouses_21 hk1 hc1 h7 ?_
      refine AW_iadd dX4_sumOfHouses_22 ?_
      refine AW_istore_n (loc' := [some (aR 0 j), some (aR t1 o1), some (aI (a2 + (μ t1 o1 a3.toNatClampNeg))), some (aI a3)]) dX4_sumOfHouses_23 (Nat.le_of_ble_eq_true rfl) rfl rfl ?_
      refine AW_iinc (v := a3 + 1) (loc' := [some (aR 0 j), some (aR t1 o1), some (aI (a2 + (μ t1 o1 a3.toNatClampNeg))), some (aI (a3 + 1))]) dX4_sumOfHouses_24 rfl rfl (Nat.le_of_ble_eq_true rfl) rfl rfl ?_
      refine AW_goto (tgt := 4) dX4_sumOfHouses_27 (by decide) ?_
      exact h8
set_option maxRecDepth 100000 in
theorem B_X4_licenceCost_0 {j : Nat} {a1 : Int32} {μ : Mem} {P : RES → Mem → Prop} (hj : j < 12) (h : ∃ (r4 : Int32) (m1 : Mem), MetA M_X4_countOfHouse [aR 0 j, aI a1, aI 2] μ (rI r4 m1) ∧ (P (.inl (some (aI (2 + r4)))) m1)) : AW M_X4_licenceCost 0 0 [some (aR 0 j), some (aI a1)] [] μ P := by
  refine AW_iconst (v := 2) dX4_licenceCost_0 (by decide) ?_
  refine AW_aload_n dX4_licenceCost_1 rfl ?_
  refine AW_iload_n dX4_licenceCost_2 rfl ?_
  refine AW_iconst (v := 2) dX4_licenceCost_3 (by decide) ?_
  obtain ⟨r4, m1, h3, h2⟩ := h
  refine AW_callVI [aI a1, aI 2] dX4_licenceCost_4 cv_X4_102 rfl rfl (decide_eq_true hj) (by decide) rfl (by decide) (Nat.le_of_ble_eq_true rfl) h3 ?_
  refine AW_iadd dX4_licenceCost_7 ?_
  exact AW_ireturn (ty := .int) dX4_licenceCost_8 rfl rfl h2
set_option maxRecDepth 100000 in
theorem B_X4_canPayLicence_0 {j : Nat} {a1 : Int32} {μ : Mem} {P : RES → Mem → Prop} (hj : j < 12) (h : ∃ (r4 : Int32) (m1 : Mem), MetA M_X4_isAshamed [aR 0 j, aI a1] μ (rI r4 m1) ∧ ((¬ r4 = 0 → P (.inl (some (aI 0))) m1) ∧ (r4 = 0 → vp_in a1 4 ∧ (∃ (r13 : Int32) (m10 : Mem), MetA M_X4_licenceCost [aR 0 j, aI a1] m1 (rI r13 m10) ∧ (((m1 1 j a1.toNatClampNeg) < r13 → P (.inl (some (aI 0))) m10) ∧ (¬ (m1 1 j a1.toNatClampNeg) < r13 → P (.inl (some (aI 1))) m10)))))) : AW M_X4_canPayLicence 0 0 [some (aR 0 j), some (aI a1)] [] μ P := by
  refine AW_aload_n dX4_canPayLicence_0 rfl ?_
  refine AW_iload_n dX4_canPayLicence_1 rfl ?_
  obtain ⟨r4, m1, h3, h2⟩ := h
  refine AW_callVI [aI a1] dX4_canPayLicence_2 cv_X4_96 rfl rfl (decide_eq_true hj) (by decide) rfl (by decide) (Nat.le_of_ble_eq_true rfl) h3 ?_
  refine AW_if_ne (tgt := 26) dX4_canPayLicence_5 (by decide) (fun q7 => ?_) (fun q7 => ?_)
  · have h5 := h2.1 q7
    refine AW_iconst (v := 0) dX4_canPayLicence_26 (by decide) ?_
    exact AW_ireturn (ty := .boolean) dX4_canPayLicence_27 rfl rfl h5
  · have h6 := h2.2 q7
    refine AW_aload_n dX4_canPayLicence_8 rfl ?_
    refine AW_getv (t := 0) (o := j) (k := 8) (some (1, none)) (v := aR 1 j) dX4_canPayLicence_9 ff_X4_9 rfl (decide_eq_true hj) rfl ?_
    refine AW_iload_n dX4_canPayLicence_12 rfl ?_
    obtain ⟨h8, h9⟩ := h6
    refine AW_iaload dX4_canPayLicence_13 rfl (decide_eq_true hj) h8 ?_
    refine AW_aload_n dX4_canPayLicence_14 rfl ?_
    refine AW_iload_n dX4_canPayLicence_15 rfl ?_
    obtain ⟨r13, m10, h12, h11⟩ := h9
    refine AW_callVI [aI a1] dX4_canPayLicence_16 cv_X4_105 rfl rfl (decide_eq_true hj) (by decide) rfl (by decide) (Nat.le_of_ble_eq_true rfl) h12 ?_
    refine AW_icmp_lt (tgt := 26) dX4_canPayLicence_19 (by decide) (fun q16 => ?_) (fun q16 => ?_)
    · have h14 := h11.1 q16
      refine AW_iconst (v := 0) dX4_canPayLicence_26 (by decide) ?_
      exact AW_ireturn (ty := .boolean) dX4_canPayLicence_27 rfl rfl h14
    · have h15 := h11.2 q16
      refine AW_iconst (v := 1) dX4_canPayLicence_22 (by decide) ?_
      refine AW_goto (tgt := 27) dX4_canPayLicence_23 (by decide) ?_
      exact AW_ireturn (ty := .boolean) dX4_canPayLicence_27 rfl rfl h15
set_option maxRecDepth 100000 in
theorem B_X4_fineByRules_0 {j : Nat} {a1 : Int32} {a2 : Int32} {μ : Mem} {P : RES → Mem → Prop} (hj : j < 12) (h : ∃ (r4 : Int32) (m1 : Mem), MetA M_X4_levelAt [aR 0 j, aI a1, aI a2] μ (rI r4 m1) ∧ ((¬ r4 = 0 → ∃ (r11 : Int32) (m8 : Mem), MetA M_X4_howBad [aR 0 j, aI a1, aI a2] m1 (rI r11 m8) ∧ ((r4 < 2 → (¬ r4 = 3 → P (.inl (some (aI (1 + r11)))) m8) ∧ (r4 = 3 → P (.inl (some (aI ((1 + r11) * 2)))) m8)) ∧ (¬ r4 < 2 → (¬ r4 = 3 → P (.inl (some (aI ((1 + r11) + 2)))) m8) ∧ (r4 = 3 → P (.inl (some (aI (((1 + r11) + 2) * 2)))) m8)))) ∧ (r4 = 0 → P (.inl (some (aI 0))) m1))) : AW M_X4_fineByRules 0 0 [some (aR 0 j), some (aI a1), some (aI a2), none, none] [] μ P := by
  refine AW_aload_n dX4_fineByRules_0 rfl ?_
  refine AW_iload_n dX4_fineByRules_1 rfl ?_
  refine AW_iload_n dX4_fineByRules_2 rfl ?_
  obtain ⟨r4, m1, h3, h2⟩ := h
  refine AW_callVI [aI a1, aI a2] dX4_fineByRules_3 cv_X4_118 rfl rfl (decide_eq_true hj) (by decide) rfl (by decide) (Nat.le_of_ble_eq_true rfl) h3 ?_
  refine AW_istore_n (loc' := [some (aR 0 j), some (aI a1), some (aI a2), some (aI r4), none]) dX4_fineByRules_6 (Nat.le_of_ble_eq_true rfl) rfl rfl ?_
  refine AW_iload_n dX4_fineByRules_7 rfl ?_
  refine AW_if_ne (tgt := 13) dX4_fineByRules_8 (by decide) (fun q7 => ?_) (fun q7 => ?_)
  · have h5 := h2.1 q7
    refine AW_iconst (v := 1) dX4_fineByRules_13 (by decide) ?_
    refine AW_aload_n dX4_fineByRules_14 rfl ?_
    refine AW_iload_n dX4_fineByRules_15 rfl ?_
    refine AW_iload_n dX4_fineByRules_16 rfl ?_
    obtain ⟨r11, m8, h10, h9⟩ := h5
    refine AW_callVI [aI a1, aI a2] dX4_fineByRules_17 cv_X4_93 rfl rfl (decide_eq_true hj) (by decide) rfl (by decide) (Nat.le_of_ble_eq_true rfl) h10 ?_
    refine AW_iadd dX4_fineByRules_20 ?_
    refine AW_istore (loc' := [some (aR 0 j), some (aI a1), some (aI a2), some (aI r4), some (aI (1 + r11))]) dX4_fineByRules_21 (Nat.le_of_ble_eq_true rfl) rfl rfl ?_
    refine AW_iload_n dX4_fineByRules_23 rfl ?_
    refine AW_iconst (v := 2) dX4_fineByRules_24 (by decide) ?_
    refine AW_icmp_lt (tgt := 31) dX4_fineByRules_25 (by decide) (fun q14 => ?_) (fun q14 => ?_)
    · have h12 := h9.1 q14
      refine AW_iload_n dX4_fineByRules_31 rfl ?_
      refine AW_iconst (v := 3) dX4_fineByRules_32 (by decide) ?_
      refine AW_icmp_ne (tgt := 42) dX4_fineByRules_33 (by decide) (fun q17 => ?_) (fun q17 => ?_)
      · have h15 := h12.1 q17
        refine AW_iload dX4_fineByRules_42 rfl ?_
        exact AW_ireturn (ty := .int) dX4_fineByRules_44 rfl rfl h15
      · have h16 := h12.2 q17
        refine AW_iload dX4_fineByRules_36 rfl ?_
        refine AW_iconst (v := 2) dX4_fineByRules_38 (by decide) ?_
        refine AW_imul dX4_fineByRules_39 ?_
        refine AW_istore (loc' := [some (aR 0 j), some (aI a1), some (aI a2), some (aI r4), some (aI ((1 + r11) * 2))]) dX4_fineByRules_40 (Nat.le_of_ble_eq_true rfl) rfl rfl ?_
        refine AW_iload dX4_fineByRules_42 rfl ?_
        exact AW_ireturn (ty := .int) dX4_fineByRules_44 rfl rfl h16
    · have h13 := h9.2 q14
      refine AW_iinc (v := (1 + r11) + 2) (loc' := [some (aR 0 j), some (aI a1), some (aI a2), some (aI r4), some (aI ((1 + r11) + 2))]) dX4_fineByRules_28 rfl rfl (Nat.le_of_ble_eq_true rfl) rfl rfl ?_
      refine AW_iload_n dX4_fineByRules_31 rfl ?_
      refine AW_iconst (v := 3) dX4_fineByRules_32 (by decide) ?_
      refine AW_icmp_ne (tgt := 42) dX4_fineByRules_33 (by decide) (fun q20 => ?_) (fun q20 => ?_)
      · have h18 := h13.1 q20
        refine AW_iload dX4_fineByRules_42 rfl ?_
        exact AW_ireturn (ty := .int) dX4_fineByRules_44 rfl rfl h18
      · have h19 := h13.2 q20
        refine AW_iload dX4_fineByRules_36 rfl ?_
        refine AW_iconst (v := 2) dX4_fineByRules_38 (by decide) ?_
        refine AW_imul dX4_fineByRules_39 ?_
        refine AW_istore (loc' := [some (aR 0 j), some (aI a1), some (aI a2), some (aI r4), some (aI (((1 + r11) + 2) * 2))]) dX4_fineByRules_40 (Nat.le_of_ble_eq_true rfl) rfl rfl ?_
        refine AW_iload dX4_fineByRules_42 rfl ?_
        exact AW_ireturn (ty := .int) dX4_fineByRules_44 rfl rfl h19
  · have h6 := h2.2 q7
    refine AW_iconst (v := 0) dX4_fineByRules_11 (by decide) ?_
    exact AW_ireturn (ty := .int) dX4_fineByRules_12 rfl rfl h6
set_option maxRecDepth 100000 in
theorem B_X4_fineAtOnce_0 {j : Nat} {a1 : Int32} {a2 : Int32} {μ : Mem} {P : RES → Mem → Prop} (hj : j < 12) (h : ∃ (r4 : Int32) (m1 : Mem), MetA M_X4_levelAt [aR 0 j, aI a1, aI a2] μ (rI r4 m1) ∧ ((r4.toInt = 1 → ∃ (r10 : Int32) (m7 : Mem), MetA M_X4_howBad [aR 0 j, aI a1, aI a2] m1 (rI r10 m7) ∧ (P (.inl (some (aI (r10 + 1)))) m7)) ∧ (r4.toInt = 2 → ∃ (r15 : Int32) (m12 : Mem), MetA M_X4_howBad [aR 0 j, aI a1, aI a2] m1 (rI r15 m12) ∧ (P (.inl (some (aI (r15 + 3)))) m12)) ∧ (r4.toInt = 3 → ∃ (r20 : Int32) (m17 : Mem), MetA M_X4_howBad [aR 0 j, aI a1, aI a2] m1 (rI r20 m17) ∧ (P (.inl (some (aI ((2 * r20) + 6)))) m17)) ∧ (¬ r4.toInt = 1 → ¬ r4.toInt = 2 → ¬ r4.toInt = 3 → P (.inl (some (aI 0))) m1))) : AW M_X4_fineAtOnce 0 0 [some (aR 0 j), some (aI a1), some (aI a2)] [] μ P := by
  refine AW_aload_n dX4_fineAtOnce_0 rfl ?_
  refine AW_iload_n dX4_fineAtOnce_1 rfl ?_
  refine AW_iload_n dX4_fineAtOnce_2 rfl ?_
  obtain ⟨r4, m1, h3, h2⟩ := h
  refine AW_callVI [aI a1, aI a2] dX4_fineAtOnce_3 cv_X4_118 rfl rfl (decide_eq_true hj) (by decide) rfl (by decide) (Nat.le_of_ble_eq_true rfl) h3 ?_
  obtain ⟨g22, g23, g24, g25⟩ := h2
  have hdf : (¬ r4.toInt = 1 → ¬ r4.toInt = 2 → ¬ r4.toInt = 3 → AW M_X4_fineAtOnce 0 62 [some (aR 0 j), some (aI a1), some (aI a2)] [] m1 P) := by
    intro z0 z1 z2
    have h21 := g25 z0 z1 z2
    refine AW_iconst (v := 0) dX4_fineAtOnce_62 (by decide) ?_
    exact AW_ireturn (ty := .int) dX4_fineAtOnce_63 rfl rfl h21
  have ho26 : (r4.toInt = 1 → AW M_X4_fineAtOnce 0 32 [some (aR 0 j), some (aI a1), some (aI a2)] [] m1 P) := by
    intro z
    have h6 := g22 z
    refine AW_aload_n dX4_fineAtOnce_32 rfl ?_
    refine AW_iload_n dX4_fineAtOnce_33 rfl ?_
    refine AW_iload_n dX4_fineAtOnce_34 rfl ?_
    obtain ⟨r10, m7, h9, h8⟩ := h6
    refine AW_callVI [aI a1, aI a2] dX4_fineAtOnce_35 cv_X4_93 rfl rfl (decide_eq_true hj) (by decide) rfl (by decide) (Nat.le_of_ble_eq_true rfl) h9 ?_
    refine AW_iconst (v := 1) dX4_fineAtOnce_38 (by decide) ?_
    refine AW_iadd dX4_fineAtOnce_39 ?_
    exact AW_ireturn (ty := .int) dX4_fineAtOnce_40 rfl rfl h8
  have ho35 : (r4.toInt = 2 → AW M_X4_fineAtOnce 0 41 [some (aR 0 j), some (aI a1), some (aI a2)] [] m1 P) := by
    intro z
    have h11 := g23 z
    refine AW_aload_n dX4_fineAtOnce_41 rfl ?_
    refine AW_iload_n dX4_fineAtOnce_42 rfl ?_
    refine AW_iload_n dX4_fineAtOnce_43 rfl ?_
    obtain ⟨r15, m12, h14, h13⟩ := h11
    refine AW_callVI [aI a1, aI a2] dX4_fineAtOnce_44 cv_X4_93 rfl rfl (decide_eq_true hj) (by decide) rfl (by decide) (Nat.le_of_ble_eq_true rfl) h14 ?_
    refine AW_iconst (v := 3) dX4_fineAtOnce_47 (by decide) ?_
    refine AW_iadd dX4_fineAtOnce_48 ?_
    exact AW_ireturn (ty := .int) dX4_fineAtOnce_49 rfl rfl h13
  have ho44 : (r4.toInt = 3 → AW M_X4_fineAtOnce 0 50 [some (aR 0 j), some (aI a1), some (aI a2)] [] m1 P) := by
    intro z
    have h16 := g24 z
    refine AW_iconst (v := 2) dX4_fineAtOnce_50 (by decide) ?_
    refine AW_aload_n dX4_fineAtOnce_51 rfl ?_
    refine AW_iload_n dX4_fineAtOnce_52 rfl ?_
    refine AW_iload_n dX4_fineAtOnce_53 rfl ?_
    obtain ⟨r20, m17, h19, h18⟩ := h16
    refine AW_callVI [aI a1, aI a2] dX4_fineAtOnce_54 cv_X4_93 rfl rfl (decide_eq_true hj) (by decide) rfl (by decide) (Nat.le_of_ble_eq_true rfl) h19 ?_
    refine AW_imul dX4_fineAtOnce_57 ?_
    refine AW_bipush (v := 6) dX4_fineAtOnce_58 (by decide) ?_
    refine AW_iadd dX4_fineAtOnce_60 ?_
    exact AW_ireturn (ty := .int) dX4_fineAtOnce_61 rfl rfl h18
  exact AW_tsw dX4_fineAtOnce_6 (by decide) (fun q26 => ⟨62, by decide, hdf (by omega) (by omega) (by omega)⟩) ⟨fun q26 => ⟨32, by decide, ho26 (by omega)⟩, fun q26 => ⟨41, by decide, ho35 (by omega)⟩, fun q26 => ⟨50, by decide, ho44 (by omega)⟩, trivial⟩
set_option maxRecDepth 100000 in
theorem B_X4_finesByPlace_0 {j : Nat} {a1 : Int32} {μ : Mem} {P : RES → Mem → Prop} (hj : j < 12) (h : AW M_X4_finesByPlace 0 4 [some (aR 0 j), some (aI a1), some (aI 0), some (aI 0)] [] μ P) : AW M_X4_finesByPlace 0 0 [some (aR 0 j), some (aI a1), none, none] [] μ P := by
  refine AW_iconst (v := 0) dX4_finesByPlace_0 (by decide) ?_
  refine AW_istore_n (loc' := [some (aR 0 j), some (aI a1), some (aI 0), none]) dX4_finesByPlace_1 (Nat.le_of_ble_eq_true rfl) rfl rfl ?_
  refine AW_iconst (v := 0) dX4_finesByPlace_2 (by decide) ?_
  refine AW_istore_n (loc' := [some (aR 0 j), some (aI a1), some (aI 0), some (aI 0)]) dX4_finesByPlace_3 (Nat.le_of_ble_eq_true rfl) rfl rfl ?_
  exact h
set_option maxRecDepth 100000 in
theorem B_X4_finesByPlace_4 {j : Nat} {a1 : Int32} {a2 : Int32} {a3 : Int32} {μ : Mem} {P : RES → Mem → Prop} (hj : j < 12) (h : vp_in a1 8 ∧ (((μ 5 j a1.toNatClampNeg) ≤ a3 → P (.inl (some (aI a2))) μ) ∧ (¬ (μ 5 j a1.toNatClampNeg) ≤ a3 → ∃ (r9 : Int32) (m6 : Mem), MetA M_X4_fineByRules [aR 0 j, aI a1, aI a3] μ (rI r9 m6) ∧ (AW M_X4_finesByPlace 0 4 [some (aR 0 j), some (aI a1), some (aI (a2 + r9)), some (aI (a3 + 1))] [] m6 P)))) : AW M_X4_finesByPlace 0 4 [some (aR 0 j), some (aI a1), some (aI a2), some (aI a3)] [] μ P := by
  refine AW_iload_n dX4_finesByPlace_4 rfl ?_
  refine AW_aload_n dX4_finesByPlace_5 rfl ?_
  refine AW_getv (t := 0) (o := j) (k := 12) (some (5, none)) (v := aR 5 j) dX4_finesByPlace_6 ff_X4_24 rfl (decide_eq_true hj) rfl ?_
  refine AW_iload_n dX4_finesByPlace_9 rfl ?_
  obtain ⟨h1, h2⟩ := h
  refine AW_iaload dX4_finesByPlace_10 rfl (decide_eq_true hj) h1 ?_
  refine AW_icmp_ge (tgt := 29) dX4_finesByPlace_11 (by decide) (fun q5 => ?_) (fun q5 => ?_)
  · have h3 := h2.1 q5
    refine AW_iload_n dX4_finesByPlace_29 rfl ?_
    exact AW_ireturn (ty := .int) dX4_finesByPlace_30 rfl rfl h3
  · have h4 := h2.2 q5
    refine AW_iload_n dX4_finesByPlace_14 rfl ?_
    refine AW_aload_n dX4_finesByPlace_15 rfl ?_
    refine AW_iload_n dX4_finesByPlace_16 rfl ?_
    refine AW_iload_n dX4_finesByPlace_17 rfl ?_
    obtain ⟨r9, m6, h8, h7⟩ := h4
    refine AW_callVI [aI a1, aI a3] dX4_finesByPlace_18 cv_X4_121 rfl rfl (decide_eq_true hj) (by decide) rfl (by decide) (Nat.le_of_ble_eq_true rfl) h8 ?_
    refine AW_iadd dX4_finesByPlace_21 ?_
    refine AW_istore_n (loc' := [some (aR 0 j), some (aI a1), some (aI (a2 + r9)), some (aI a3)]) dX4_finesByPlace_22 (Nat.le_of_ble_eq_true rfl) rfl rfl ?_
    refine AW_iinc (v := a3 + 1) (loc' := [some (aR 0 j), some (aI a1), some (aI (a2 + r9)), some (aI (a3 + 1))]) dX4_finesByPlace_23 rfl rfl (Nat.le_of_ble_eq_true rfl) rfl rfl ?_
    refine AW_goto (tgt := 4) dX4_finesByPlace_26 (by decide) ?_
    exact h7
set_option maxRecDepth 100000 in
theorem B_X4_isLaughing_0 {j : Nat} {a1 : Int32} {a2 : Int32} {a3 : Int32} {μ : Mem} {P : RES → Mem → Prop} (hj : j < 12) (h : vp_in a1 5 ∧ ((¬ (μ 9 j a1.toNatClampNeg) = 0 → vp_in a1 5 ∧ ((a3 < (μ 10 j a1.toNatClampNeg) → P (.inl (some (aI 0))) μ) ∧ (¬ a3 < (μ 10 j a1.toNatClampNeg) → P (.inl (some (aI 1))) μ))) ∧ ((μ 9 j a1.toNatClampNeg) = 0 → vp_in a1 5 ∧ ((¬ a2 = (μ 10 j a1.toNatClampNeg) → P (.inl (some (aI 0))) μ) ∧ (a2 = (μ 10 j a1.toNatClampNeg) → P (.inl (some (aI 1))) μ))))) : AW M_X4_isLaughing 0 0 [some (aR 0 j), some (aI a1), some (aI a2), some (aI a3)] [] μ P := by
  refine AW_aload_n dX4_isLaughing_0 rfl ?_
  refine AW_getv (t := 0) (o := j) (k := 16) (some (9, none)) (v := aR 9 j) dX4_isLaughing_1 ff_X4_36 rfl (decide_eq_true hj) rfl ?_
  refine AW_iload_n dX4_isLaughing_4 rfl ?_
  obtain ⟨h1, h2⟩ := h
  refine AW_iaload dX4_isLaughing_5 rfl (decide_eq_true hj) h1 ?_
  refine AW_if_ne (tgt := 27) dX4_isLaughing_6 (by decide) (fun q5 => ?_) (fun q5 => ?_)
  · have h3 := h2.1 q5
    refine AW_iload_n dX4_isLaughing_27 rfl ?_
    refine AW_aload_n dX4_isLaughing_28 rfl ?_
    refine AW_getv (t := 0) (o := j) (k := 17) (some (10, none)) (v := aR 10 j) dX4_isLaughing_29 ff_X4_39 rfl (decide_eq_true hj) rfl ?_
    refine AW_iload_n dX4_isLaughing_32 rfl ?_
    obtain ⟨h6, h7⟩ := h3
    refine AW_iaload dX4_isLaughing_33 rfl (decide_eq_true hj) h6 ?_
    refine AW_icmp_lt (tgt := 41) dX4_isLaughing_34 (by decide) (fun q10 => ?_) (fun q10 => ?_)
    · have h8 := h7.1 q10
      refine AW_iconst (v := 0) dX4_isLaughing_41 (by decide) ?_
      exact AW_ireturn (ty := .boolean) dX4_isLaughing_42 rfl rfl h8
    · have h9 := h7.2 q10
      refine AW_iconst (v := 1) dX4_isLaughing_37 (by decide) ?_
      refine AW_goto (tgt := 42) dX4_isLaughing_38 (by decide) ?_
      exact AW_ireturn (ty := .boolean) dX4_isLaughing_42 rfl rfl h9
  · have h4 := h2.2 q5
    refine AW_iload_n dX4_isLaughing_9 rfl ?_
    refine AW_aload_n dX4_isLaughing_10 rfl ?_
    refine AW_getv (t := 0) (o := j) (k := 17) (some (10, none)) (v := aR 10 j) dX4_isLaughing_11 ff_X4_39 rfl (decide_eq_true hj) rfl ?_
    refine AW_iload_n dX4_isLaughing_14 rfl ?_
    obtain ⟨h11, h12⟩ := h4
    refine AW_iaload dX4_isLaughing_15 rfl (decide_eq_true hj) h11 ?_
    refine AW_icmp_ne (tgt := 23) dX4_isLaughing_16 (by decide) (fun q15 => ?_) (fun q15 => ?_)
    · have h13 := h12.1 q15
      refine AW_iconst (v := 0) dX4_isLaughing_23 (by decide) ?_
      refine AW_goto (tgt := 42) dX4_isLaughing_24 (by decide) ?_
      exact AW_ireturn (ty := .boolean) dX4_isLaughing_42 rfl rfl h13
    · have h14 := h12.2 q15
      refine AW_iconst (v := 1) dX4_isLaughing_19 (by decide) ?_
      refine AW_goto (tgt := 42) dX4_isLaughing_20 (by decide) ?_
      exact AW_ireturn (ty := .boolean) dX4_isLaughing_42 rfl rfl h14
set_option maxRecDepth 100000 in
theorem B_X4_laughersAt_0 {j : Nat} {a1 : Int32} {a2 : Int32} {μ : Mem} {P : RES → Mem → Prop} (hj : j < 12) (h : ∃ (r4 : Int32) (m1 : Mem), MetA M_X4_placedAt [aR 0 j, aI a1, aI a2] μ (rI r4 m1) ∧ (∃ (r8 : Int32) (m5 : Mem), MetA M_X4_howBad [aR 0 j, aI a1, aI a2] m1 (rI r8 m5) ∧ (AW M_X4_laughersAt 0 21 [some (aR 0 j), some (aI a1), some (aI a2), some (aI r4), some (aI r8), some (aI 0), some (aI 0)] [] m5 P))) : AW M_X4_laughersAt 0 0 [some (aR 0 j), some (aI a1), some (aI a2), none, none, none, none] [] μ P := by
  refine AW_aload_n dX4_laughersAt_0 rfl ?_
  refine AW_iload_n dX4_laughersAt_1 rfl ?_
  refine AW_iload_n dX4_laughersAt_2 rfl ?_
  obtain ⟨r4, m1, h3, h2⟩ := h
  refine AW_callVI [aI a1, aI a2] dX4_laughersAt_3 cv_X4_77 rfl rfl (decide_eq_true hj) (by decide) rfl (by decide) (Nat.le_of_ble_eq_true rfl) h3 ?_
  refine AW_istore_n (loc' := [some (aR 0 j), some (aI a1), some (aI a2), some (aI r4), none, none, none]) dX4_laughersAt_6 (Nat.le_of_ble_eq_true rfl) rfl rfl ?_
  refine AW_aload_n dX4_laughersAt_7 rfl ?_
  refine AW_iload_n dX4_laughersAt_8 rfl ?_
  refine AW_iload_n dX4_laughersAt_9 rfl ?_
  obtain ⟨r8, m5, h7, h6⟩ := h2
  refine AW_callVI [aI a1, aI a2] dX4_laughersAt_10 cv_X4_93 rfl rfl (decide_eq_true hj) (by decide) rfl (by decide) (Nat.le_of_ble_eq_true rfl) h7 ?_
  refine AW_istore (loc' := [some (aR 0 j), some (aI a1), some (aI a2), some (aI r4), some (aI r8), none, none]) dX4_laughersAt_13 (Nat.le_of_ble_eq_true rfl) rfl rfl ?_
  refine AW_iconst (v := 0) dX4_laughersAt_15 (by decide) ?_
  refine AW_istore (loc' := [some (aR 0 j), some (aI a1), some (aI a2), some (aI r4), some (aI r8), some (aI 0), none]) dX4_laughersAt_16 (Nat.le_of_ble_eq_true rfl) rfl rfl ?_
  refine AW_iconst (v := 0) dX4_laughersAt_18 (by decide) ?_
  refine AW_istore (loc' := [some (aR 0 j), some (aI a1), some (aI a2), some (aI r4), some (aI r8), some (aI 0), some (aI 0)]) dX4_laughersAt_19 (Nat.le_of_ble_eq_true rfl) rfl rfl ?_
  exact h6
set_option maxRecDepth 100000 in
theorem B_X4_laughersAt_21 {j : Nat} {a1 : Int32} {a2 : Int32} {a3 : Int32} {a4 : Int32} {a5 : Int32} {a6 : Int32} {μ : Mem} {P : RES → Mem → Prop} (hj : j < 12) (h : (a4 ≤ 0 → P (.inl (some (aI a5))) μ) ∧ (¬ a4 ≤ 0 → ((μ 0 j 2) ≤ a6 → P (.inl (some (aI a5))) μ) ∧ (¬ (μ 0 j 2) ≤ a6 → ∃ (r10 : Int32) (m7 : Mem), MetA M_X4_isLaughing [aR 0 j, aI a6, aI a3, aI a4] μ (rI r10 m7) ∧ ((r10 = 0 → AW M_X4_laughersAt 0 21 [some (aR 0 j), some (aI a1), some (aI a2), some (aI a3), some (aI a4), some (aI a5), some (aI (a6 + 1))] [] m7 P) ∧ (¬ r10 = 0 → AW M_X4_laughersAt 0 21 [some (aR 0 j), some (aI a1), some (aI a2), some (aI a3), some (aI a4), some (aI (a5 ||| (1 <<< (a6 &&& 31)))), some (aI (a6 + 1))] [] m7 P))))) : AW M_X4_laughersAt 0 21 [some (aR 0 j), some (aI a1), some (aI a2), some (aI a3), some (aI a4), some (aI a5), some (aI a6)] [] μ P := by
  refine AW_iload dX4_laughersAt_21 rfl ?_
  refine AW_if_le (tgt := 62) dX4_laughersAt_23 (by decide) (fun q3 => ?_) (fun q3 => ?_)
  · have h1 := h.1 q3
    refine AW_iload dX4_laughersAt_62 rfl ?_
    exact AW_ireturn (ty := .int) dX4_laughersAt_64 rfl rfl h1
  · have h2 := h.2 q3
    refine AW_iload dX4_laughersAt_26 rfl ?_
    refine AW_aload_n dX4_laughersAt_28 rfl ?_
    refine AW_getv (t := 0) (o := j) (k := 2) none (v := aI (μ 0 j 2)) dX4_laughersAt_29 ff_X4_49 rfl (decide_eq_true hj) rfl ?_
    refine AW_icmp_ge (tgt := 62) dX4_laughersAt_32 (by decide) (fun q6 => ?_) (fun q6 => ?_)
    · have h4 := h2.1 q6
      refine AW_iload dX4_laughersAt_62 rfl ?_
      exact AW_ireturn (ty := .int) dX4_laughersAt_64 rfl rfl h4
    · have h5 := h2.2 q6
      refine AW_aload_n dX4_laughersAt_35 rfl ?_
      refine AW_iload dX4_laughersAt_36 rfl ?_
      refine AW_iload_n dX4_laughersAt_38 rfl ?_
      refine AW_iload dX4_laughersAt_39 rfl ?_
      obtain ⟨r10, m7, h9, h8⟩ := h5
      refine AW_callVI [aI a6, aI a3, aI a4] dX4_laughersAt_41 cv_X4_124 rfl rfl (decide_eq_true hj) (by decide) rfl (by decide) (Nat.le_of_ble_eq_true rfl) h9 ?_
      refine AW_if_eq (tgt := 56) dX4_laughersAt_44 (by decide) (fun q13 => ?_) (fun q13 => ?_)
      · have h11 := h8.1 q13
        refine AW_iinc (v := a6 + 1) (loc' := [some (aR 0 j), some (aI a1), some (aI a2), some (aI a3), some (aI a4), some (aI a5), some (aI (a6 + 1))]) dX4_laughersAt_56 rfl rfl (Nat.le_of_ble_eq_true rfl) rfl rfl ?_
        refine AW_goto (tgt := 21) dX4_laughersAt_59 (by decide) ?_
        exact h11
      · have h12 := h8.2 q13
        refine AW_iload dX4_laughersAt_47 rfl ?_
        refine AW_iconst (v := 1) dX4_laughersAt_49 (by decide) ?_
        refine AW_iload dX4_laughersAt_50 rfl ?_
        refine AW_ishl dX4_laughersAt_52 ?_
        refine AW_ior dX4_laughersAt_53 ?_
        refine AW_istore (loc' := [some (aR 0 j), some (aI a1), some (aI a2), some (aI a3), some (aI a4), some (aI (a5 ||| (1 <<< (a6 &&& 31)))), some (aI a6)]) dX4_laughersAt_54 (Nat.le_of_ble_eq_true rfl) rfl rfl ?_
        refine AW_iinc (v := a6 + 1) (loc' := [some (aR 0 j), some (aI a1), some (aI a2), some (aI a3), some (aI a4), some (aI (a5 ||| (1 <<< (a6 &&& 31)))), some (aI (a6 + 1))]) dX4_laughersAt_56 rfl rfl (Nat.le_of_ble_eq_true rfl) rfl rfl ?_
        refine AW_goto (tgt := 21) dX4_laughersAt_59 (by decide) ?_
        exact h12
set_option maxRecDepth 100000 in
theorem B_X4_laughsByMisprint_0 {j : Nat} {μ : Mem} {P : RES → Mem → Prop} (hj : j < 12) (h : AW M_X4_laughsByMisprint 0 4 [some (aR 0 j), some (aI 0), some (aI 0), none] [] μ P) : AW M_X4_laughsByMisprint 0 0 [some (aR 0 j), none, none, none] [] μ P := by
  refine AW_iconst (v := 0) dX4_laughsByMisprint_0 (by decide) ?_
  refine AW_istore_n (loc' := [some (aR 0 j), some (aI 0), none, none]) dX4_laughsByMisprint_1 (Nat.le_of_ble_eq_true rfl) rfl rfl ?_
  refine AW_iconst (v := 0) dX4_laughsByMisprint_2 (by decide) ?_
  refine AW_istore_n (loc' := [some (aR 0 j), some (aI 0), some (aI 0), none]) dX4_laughsByMisprint_3 (Nat.le_of_ble_eq_true rfl) rfl rfl ?_
  exact h
set_option maxRecDepth 100000 in
theorem B_X4_laughsByMisprint_4 {j : Nat} {a1 : Int32} {a2 : Int32} {μ : Mem} {P : RES → Mem → Prop} (hj : j < 12) (h : ((μ 0 j 1) ≤ a2 → P (.inl (some (aI a1))) μ) ∧ (¬ (μ 0 j 1) ≤ a2 → AW M_X4_laughsByMisprint 0 14 [some (aR 0 j), some (aI a1), some (aI a2), some (aI 0)] [] μ P)) : AW M_X4_laughsByMisprint 0 4 [some (aR 0 j), some (aI a1), some (aI a2), none] [] μ P := by
  refine AW_iload_n dX4_laughsByMisprint_4 rfl ?_
  refine AW_aload_n dX4_laughsByMisprint_5 rfl ?_
  refine AW_getv (t := 0) (o := j) (k := 1) none (v := aI (μ 0 j 1)) dX4_laughsByMisprint_6 ff_X4_46 rfl (decide_eq_true hj) rfl ?_
  refine AW_icmp_ge (tgt := 58) dX4_laughsByMisprint_9 (by decide) (fun q3 => ?_) (fun q3 => ?_)
  · have h1 := h.1 q3
    refine AW_iload_n dX4_laughsByMisprint_58 rfl ?_
    exact AW_ireturn (ty := .int) dX4_laughsByMisprint_59 rfl rfl h1
  · have h2 := h.2 q3
    refine AW_iconst (v := 0) dX4_laughsByMisprint_12 (by decide) ?_
    refine AW_istore_n (loc' := [some (aR 0 j), some (aI a1), some (aI a2), some (aI 0)]) dX4_laughsByMisprint_13 (Nat.le_of_ble_eq_true rfl) rfl rfl ?_
    exact h2
set_option maxRecDepth 100000 in
theorem B_X4_laughsByMisprint_14 {j : Nat} {a1 : Int32} {a2 : Int32} {a3 : Int32} {μ : Mem} {P : RES → Mem → Prop} (hj : j < 12) (h : vp_in a2 8 ∧ (((μ 5 j a2.toNatClampNeg) ≤ a3 → AW M_X4_laughsByMisprint 0 4 [some (aR 0 j), some (aI a1), some (aI (a2 + 1)), none] [] μ P) ∧ (¬ (μ 5 j a2.toNatClampNeg) ≤ a3 → ∃ (r9 : Int32) (m6 : Mem), MetA M_X4_levelAt [aR 0 j, aI a2, aI a3] μ (rI r9 m6) ∧ ((¬ r9 = 2 → AW M_X4_laughsByMisprint 0 14 [some (aR 0 j), some (aI a1), some (aI a2), some (aI (a3 + 1))] [] m6 P) ∧ (r9 = 2 → ∃ (r16 : Int32) (m13 : Mem), MetA M_X4_laughersAt [aR 0 j, aI a2, aI a3] m6 (rI r16 m13) ∧ (∃ (r20 : Int32) (m17 : Mem), MetA M_J6_bitCount_0f7a4 [aI r16] m13 (rI r20 m17) ∧ (AW M_X4_laughsByMisprint 0 14 [some (aR 0 j), some (aI (a1 + r20)), some (aI a2), some (aI (a3 + 1))] [] m17 P))))))) : AW M_X4_laughsByMisprint 0 14 [some (aR 0 j), some (aI a1), some (aI a2), some (aI a3)] [] μ P := by
  refine AW_iload_n dX4_laughsByMisprint_14 rfl ?_
  refine AW_aload_n dX4_laughsByMisprint_15 rfl ?_
  refine AW_getv (t := 0) (o := j) (k := 12) (some (5, none)) (v := aR 5 j) dX4_laughsByMisprint_16 ff_X4_24 rfl (decide_eq_true hj) rfl ?_
  refine AW_iload_n dX4_laughsByMisprint_19 rfl ?_
  obtain ⟨h1, h2⟩ := h
  refine AW_iaload dX4_laughsByMisprint_20 rfl (decide_eq_true hj) h1 ?_
  refine AW_icmp_ge (tgt := 52) dX4_laughsByMisprint_21 (by decide) (fun q5 => ?_) (fun q5 => ?_)
  · have h3 := h2.1 q5
    refine AW_iinc (v := a2 + 1) (loc' := [some (aR 0 j), some (aI a1), some (aI (a2 + 1)), some (aI a3)]) dX4_laughsByMisprint_52 rfl rfl (Nat.le_of_ble_eq_true rfl) rfl rfl ?_
    refine AW_goto (tgt := 4) dX4_laughsByMisprint_55 (by decide) ?_
    exact AW_mask [true, true, true, false] h3
  · have h4 := h2.2 q5
    refine AW_aload_n dX4_laughsByMisprint_24 rfl ?_
    refine AW_iload_n dX4_laughsByMisprint_25 rfl ?_
    refine AW_iload_n dX4_laughsByMisprint_26 rfl ?_
    obtain ⟨r9, m6, h8, h7⟩ := h4
    refine AW_callVI [aI a2, aI a3] dX4_laughsByMisprint_27 cv_X4_118 rfl rfl (decide_eq_true hj) (by decide) rfl (by decide) (Nat.le_of_ble_eq_true rfl) h8 ?_
    refine AW_iconst (v := 2) dX4_laughsByMisprint_30 (by decide) ?_
    refine AW_icmp_ne (tgt := 46) dX4_laughsByMisprint_31 (by decide) (fun q12 => ?_) (fun q12 => ?_)
    · have h10 := h7.1 q12
      refine AW_iinc (v := a3 + 1) (loc' := [some (aR 0 j), some (aI a1), some (aI a2), some (aI (a3 + 1))]) dX4_laughsByMisprint_46 rfl rfl (Nat.le_of_ble_eq_true rfl) rfl rfl ?_
      refine AW_goto (tgt := 14) dX4_laughsByMisprint_49 (by decide) ?_
      exact h10
    · have h11 := h7.2 q12
      refine AW_iload_n dX4_laughsByMisprint_34 rfl ?_
      refine AW_aload_n dX4_laughsByMisprint_35 rfl ?_
      refine AW_iload_n dX4_laughsByMisprint_36 rfl ?_
      refine AW_iload_n dX4_laughsByMisprint_37 rfl ?_
      obtain ⟨r16, m13, h15, h14⟩ := h11
      refine AW_callVI [aI a2, aI a3] dX4_laughsByMisprint_38 cv_X4_128 rfl rfl (decide_eq_true hj) (by decide) rfl (by decide) (Nat.le_of_ble_eq_true rfl) h15 ?_
      obtain ⟨r20, m17, h19, h18⟩ := h14
      refine AW_callSI [aI r16] dX4_laughsByMisprint_41 cs_X4_131 rfl rfl (by decide) rfl (by decide) (Nat.le_of_ble_eq_true rfl) h19 ?_
      refine AW_iadd dX4_laughsByMisprint_44 ?_
      refine AW_istore_n (loc' := [some (aR 0 j), some (aI (a1 + r20)), some (aI a2), some (aI a3)]) dX4_laughsByMisprint_45 (Nat.le_of_ble_eq_true rfl) rfl rfl ?_
      refine AW_iinc (v := a3 + 1) (loc' := [some (aR 0 j), some (aI (a1 + r20)), some (aI a2), some (aI (a3 + 1))]) dX4_laughsByMisprint_46 rfl rfl (Nat.le_of_ble_eq_true rfl) rfl rfl ?_
      refine AW_goto (tgt := 14) dX4_laughsByMisprint_49 (by decide) ?_
      exact h18
set_option maxRecDepth 100000 in
theorem B_X4_laughsByReader_0 {j : Nat} {μ : Mem} {P : RES → Mem → Prop} (hj : j < 12) (h : AW M_X4_laughsByReader 0 4 [some (aR 0 j), some (aI 0), some (aI 0)] [] μ P) : AW M_X4_laughsByReader 0 0 [some (aR 0 j), none, none] [] μ P := by
  refine AW_iconst (v := 0) dX4_laughsByReader_0 (by decide) ?_
  refine AW_istore_n (loc' := [some (aR 0 j), some (aI 0), none]) dX4_laughsByReader_1 (Nat.le_of_ble_eq_true rfl) rfl rfl ?_
  refine AW_iconst (v := 0) dX4_laughsByReader_2 (by decide) ?_
  refine AW_istore_n (loc' := [some (aR 0 j), some (aI 0), some (aI 0)]) dX4_laughsByReader_3 (Nat.le_of_ble_eq_true rfl) rfl rfl ?_
  exact h
set_option maxRecDepth 100000 in
theorem B_X4_laughsByReader_4 {j : Nat} {a1 : Int32} {a2 : Int32} {μ : Mem} {P : RES → Mem → Prop} (hj : j < 12) (h : ((μ 0 j 2) ≤ a2 → P (.inl (some (aI a1))) μ) ∧ (¬ (μ 0 j 2) ≤ a2 → ∃ (r7 : Int32) (m4 : Mem), MetA M_X4_laughsOf [aR 0 j, aI a2] μ (rI r7 m4) ∧ (AW M_X4_laughsByReader 0 4 [some (aR 0 j), some (aI (a1 + r7)), some (aI (a2 + 1))] [] m4 P))) : AW M_X4_laughsByReader 0 4 [some (aR 0 j), some (aI a1), some (aI a2)] [] μ P := by
  refine AW_iload_n dX4_laughsByReader_4 rfl ?_
  refine AW_aload_n dX4_laughsByReader_5 rfl ?_
  refine AW_getv (t := 0) (o := j) (k := 2) none (v := aI (μ 0 j 2)) dX4_laughsByReader_6 ff_X4_49 rfl (decide_eq_true hj) rfl ?_
  refine AW_icmp_ge (tgt := 26) dX4_laughsByReader_9 (by decide) (fun q3 => ?_) (fun q3 => ?_)
  · have h1 := h.1 q3
    refine AW_iload_n dX4_laughsByReader_26 rfl ?_
    exact AW_ireturn (ty := .int) dX4_laughsByReader_27 rfl rfl h1
  · have h2 := h.2 q3
    refine AW_iload_n dX4_laughsByReader_12 rfl ?_
    refine AW_aload_n dX4_laughsByReader_13 rfl ?_
    refine AW_iload_n dX4_laughsByReader_14 rfl ?_
    obtain ⟨r7, m4, h6, h5⟩ := h2
    refine AW_callVI [aI a2] dX4_laughsByReader_15 cv_X4_136 rfl rfl (decide_eq_true hj) (by decide) rfl (by decide) (Nat.le_of_ble_eq_true rfl) h6 ?_
    refine AW_iadd dX4_laughsByReader_18 ?_
    refine AW_istore_n (loc' := [some (aR 0 j), some (aI (a1 + r7)), some (aI a2)]) dX4_laughsByReader_19 (Nat.le_of_ble_eq_true rfl) rfl rfl ?_
    refine AW_iinc (v := a2 + 1) (loc' := [some (aR 0 j), some (aI (a1 + r7)), some (aI (a2 + 1))]) dX4_laughsByReader_20 rfl rfl (Nat.le_of_ble_eq_true rfl) rfl rfl ?_
    refine AW_goto (tgt := 4) dX4_laughsByReader_23 (by decide) ?_
    exact h5
set_option maxRecDepth 100000 in
theorem B_X4_laughsOf_0 {j : Nat} {a1 : Int32} {μ : Mem} {P : RES → Mem → Prop} (hj : j < 12) (h : AW M_X4_laughsOf 0 4 [some (aR 0 j), some (aI a1), some (aI 0), some (aI 0), none, none] [] μ P) : AW M_X4_laughsOf 0 0 [some (aR 0 j), some (aI a1), none, none, none, none] [] μ P := by
  refine AW_iconst (v := 0) dX4_laughsOf_0 (by decide) ?_
  refine AW_istore_n (loc' := [some (aR 0 j), some (aI a1), some (aI 0), none, none, none]) dX4_laughsOf_1 (Nat.le_of_ble_eq_true rfl) rfl rfl ?_
  refine AW_iconst (v := 0) dX4_laughsOf_2 (by decide) ?_
  refine AW_istore_n (loc' := [some (aR 0 j), some (aI a1), some (aI 0), some (aI 0), none, none]) dX4_laughsOf_3 (Nat.le_of_ble_eq_true rfl) rfl rfl ?_
  exact h
set_option maxRecDepth 100000 in
theorem B_X4_laughsOf_4 {j : Nat} {a1 : Int32} {a2 : Int32} {a3 : Int32} {μ : Mem} {P : RES → Mem → Prop} (hj : j < 12) (h : ((μ 0 j 1) ≤ a3 → P (.inl (some (aI a2))) μ) ∧ (¬ (μ 0 j 1) ≤ a3 → AW M_X4_laughsOf 0 15 [some (aR 0 j), some (aI a1), some (aI a2), some (aI a3), some (aI 0), none] [] μ P)) : AW M_X4_laughsOf 0 4 [some (aR 0 j), some (aI a1), some (aI a2), some (aI a3), none, none] [] μ P := by
  refine AW_iload_n dX4_laughsOf_4 rfl ?_
  refine AW_aload_n dX4_laughsOf_5 rfl ?_
  refine AW_getv (t := 0) (o := j) (k := 1) none (v := aI (μ 0 j 1)) dX4_laughsOf_6 ff_X4_46 rfl (decide_eq_true hj) rfl ?_
  refine AW_icmp_ge (tgt := 86) dX4_laughsOf_9 (by decide) (fun q3 => ?_) (fun q3 => ?_)
  · have h1 := h.1 q3
    refine AW_iload_n dX4_laughsOf_86 rfl ?_
    exact AW_ireturn (ty := .int) dX4_laughsOf_87 rfl rfl h1
  · have h2 := h.2 q3
    refine AW_iconst (v := 0) dX4_laughsOf_12 (by decide) ?_
    refine AW_istore (loc' := [some (aR 0 j), some (aI a1), some (aI a2), some (aI a3), some (aI 0), none]) dX4_laughsOf_13 (Nat.le_of_ble_eq_true rfl) rfl rfl ?_
    exact h2
set_option maxRecDepth 100000 in
theorem B_X4_laughsOf_15 {j : Nat} {a1 : Int32} {a2 : Int32} {a3 : Int32} {a4 : Int32} {μ : Mem} {P : RES → Mem → Prop} (hj : j < 12) (h : vp_in a3 8 ∧ (((μ 5 j a3.toNatClampNeg) ≤ a4 → AW M_X4_laughsOf 0 4 [some (aR 0 j), some (aI a1), some (aI a2), some (aI (a3 + 1)), none, none] [] μ P) ∧ (¬ (μ 5 j a3.toNatClampNeg) ≤ a4 → ∃ (r9 : Int32) (m6 : Mem), MetA M_X4_levelAt [aR 0 j, aI a3, aI a4] μ (rI r9 m6) ∧ ((¬ r9 = 2 → AW M_X4_laughsOf 0 15 [some (aR 0 j), some (aI a1), some (aI a2), some (aI a3), some (aI (a4 + 1)), none] [] m6 P) ∧ (r9 = 2 → ∃ (r22 : Int32) (m19 : Mem), MetA M_X4_placedAt [aR 0 j, aI a3, aI a4] m6 (rI r22 m19) ∧ (∃ (r26 : Int32) (m23 : Mem), MetA M_X4_howBad [aR 0 j, aI a3, aI a4] m19 (rI r26 m23) ∧ (∃ (r30 : Int32) (m27 : Mem), MetA M_X4_isLaughing [aR 0 j, aI a1, aI r22, aI r26] m23 (rI r30 m27) ∧ ((r30 = 0 → AW M_X4_laughsOf 0 15 [some (aR 0 j), some (aI a1), some (aI a2), some (aI a3), some (aI (a4 + 1)), none] [] m27 P) ∧ (¬ r30 = 0 → AW M_X4_laughsOf 0 15 [some (aR 0 j), some (aI a1), some (aI (a2 + 1)), some (aI a3), some (aI (a4 + 1)), none] [] m27 P))))))))) : AW M_X4_laughsOf 0 15 [some (aR 0 j), some (aI a1), some (aI a2), some (aI a3), some (aI a4), none] [] μ P := by
  refine AW_iload dX4_laughsOf_15 rfl ?_
  refine AW_aload_n dX4_laughsOf_17 rfl ?_
  refine AW_getv (t := 0) (o := j) (k := 12) (some (5, none)) (v := aR 5 j) dX4_laughsOf_18 ff_X4_24 rfl (decide_eq_true hj) rfl ?_
  refine AW_iload_n dX4_laughsOf_21 rfl ?_
  obtain ⟨h1, h2⟩ := h
  refine AW_iaload dX4_laughsOf_22 rfl (decide_eq_true hj) h1 ?_
  refine AW_icmp_ge (tgt := 80) dX4_laughsOf_23 (by decide) (fun q5 => ?_) (fun q5 => ?_)
  · have h3 := h2.1 q5
    refine AW_iinc (v := a3 + 1) (loc' := [some (aR 0 j), some (aI a1), some (aI a2), some (aI (a3 + 1)), some (aI a4), none]) dX4_laughsOf_80 rfl rfl (Nat.le_of_ble_eq_true rfl) rfl rfl ?_
    refine AW_goto (tgt := 4) dX4_laughsOf_83 (by decide) ?_
    exact AW_mask [true, true, true, true, false, true] h3
  · have h4 := h2.2 q5
    refine AW_aload_n dX4_laughsOf_26 rfl ?_
    refine AW_iload_n dX4_laughsOf_27 rfl ?_
    refine AW_iload dX4_laughsOf_28 rfl ?_
    obtain ⟨r9, m6, h8, h7⟩ := h4
    refine AW_callVI [aI a3, aI a4] dX4_laughsOf_30 cv_X4_118 rfl rfl (decide_eq_true hj) (by decide) rfl (by decide) (Nat.le_of_ble_eq_true rfl) h8 ?_
    refine AW_iconst (v := 2) dX4_laughsOf_33 (by decide) ?_
    refine AW_icmp_ne (tgt := 41) dX4_laughsOf_34 (by decide) (fun q12 => ?_) (fun q12 => ?_)
    · have h10 := h7.1 q12
      refine AW_iconst (v := 0) dX4_laughsOf_41 (by decide) ?_
      refine AW_istore (loc' := [some (aR 0 j), some (aI a1), some (aI a2), some (aI a3), some (aI a4), some (aI 0)]) dX4_laughsOf_42 (Nat.le_of_ble_eq_true rfl) rfl rfl ?_
      refine AW_iload dX4_laughsOf_44 rfl ?_
      refine AW_if_eq (tgt := 74) dX4_laughsOf_46 (by decide) (fun q15 => ?_) (fun q15 => absurd q15 (by decide))
      refine AW_iinc (v := a4 + 1) (loc' := [some (aR 0 j), some (aI a1), some (aI a2), some (aI a3), some (aI (a4 + 1)), some (aI 0)]) dX4_laughsOf_74 rfl rfl (Nat.le_of_ble_eq_true rfl) rfl rfl ?_
      refine AW_goto (tgt := 15) dX4_laughsOf_77 (by decide) ?_
      exact AW_mask [true, true, true, true, true, false] h10
    · have h11 := h7.2 q12
      refine AW_iconst (v := 1) dX4_laughsOf_37 (by decide) ?_
      refine AW_goto (tgt := 42) dX4_laughsOf_38 (by decide) ?_
      refine AW_istore (loc' := [some (aR 0 j), some (aI a1), some (aI a2), some (aI a3), some (aI a4), some (aI 1)]) dX4_laughsOf_42 (Nat.le_of_ble_eq_true rfl) rfl rfl ?_
      refine AW_iload dX4_laughsOf_44 rfl ?_
      refine AW_if_eq (tgt := 74) dX4_laughsOf_46 (by decide) (fun q18 => absurd q18 (by decide)) (fun q18 => ?_)
      refine AW_aload_n dX4_laughsOf_49 rfl ?_
      refine AW_iload_n dX4_laughsOf_50 rfl ?_
      refine AW_aload_n dX4_laughsOf_51 rfl ?_
      refine AW_iload_n dX4_laughsOf_52 rfl ?_
      refine AW_iload dX4_laughsOf_53 rfl ?_
      obtain ⟨r22, m19, h21, h20⟩ := h11
      refine AW_callVI [aI a3, aI a4] dX4_laughsOf_55 cv_X4_77 rfl rfl (decide_eq_true hj) (by decide) rfl (by decide) (Nat.le_of_ble_eq_true rfl) h21 ?_
      refine AW_aload_n dX4_laughsOf_58 rfl ?_
      refine AW_iload_n dX4_laughsOf_59 rfl ?_
      refine AW_iload dX4_laughsOf_60 rfl ?_
      obtain ⟨r26, m23, h25, h24⟩ := h20
      refine AW_callVI [aI a3, aI a4] dX4_laughsOf_62 cv_X4_93 rfl rfl (decide_eq_true hj) (by decide) rfl (by decide) (Nat.le_of_ble_eq_true rfl) h25 ?_
      obtain ⟨r30, m27, h29, h28⟩ := h24
      refine AW_callVI [aI a1, aI r22, aI r26] dX4_laughsOf_65 cv_X4_124 rfl rfl (decide_eq_true hj) (by decide) rfl (by decide) (Nat.le_of_ble_eq_true rfl) h29 ?_
      refine AW_if_eq (tgt := 74) dX4_laughsOf_68 (by decide) (fun q33 => ?_) (fun q33 => ?_)
      · have h31 := h28.1 q33
        refine AW_iinc (v := a4 + 1) (loc' := [some (aR 0 j), some (aI a1), some (aI a2), some (aI a3), some (aI (a4 + 1)), some (aI 1)]) dX4_laughsOf_74 rfl rfl (Nat.le_of_ble_eq_true rfl) rfl rfl ?_
        refine AW_goto (tgt := 15) dX4_laughsOf_77 (by decide) ?_
        exact AW_mask [true, true, true, true, true, false] h31
      · have h32 := h28.2 q33
        refine AW_iinc (v := a2 + 1) (loc' := [some (aR 0 j), some (aI a1), some (aI (a2 + 1)), some (aI a3), some (aI a4), some (aI 1)]) dX4_laughsOf_71 rfl rfl (Nat.le_of_ble_eq_true rfl) rfl rfl ?_
        refine AW_iinc (v := a4 + 1) (loc' := [some (aR 0 j), some (aI a1), some (aI (a2 + 1)), some (aI a3), some (aI (a4 + 1)), some (aI 1)]) dX4_laughsOf_74 rfl rfl (Nat.le_of_ble_eq_true rfl) rfl rfl ?_
        refine AW_goto (tgt := 15) dX4_laughsOf_77 (by decide) ?_
        exact AW_mask [true, true, true, true, true, false] h32
set_option maxRecDepth 100000 in
theorem B_X4_shameToCome_0 {j : Nat} {a1 : Int32} {μ : Mem} {P : RES → Mem → Prop} (hj : j < 12) (h : AW M_X4_shameToCome 0 4 [some (aR 0 j), some (aI a1), some (aI 0), some (aI 0), none] [] μ P) : AW M_X4_shameToCome 0 0 [some (aR 0 j), some (aI a1), none, none, none] [] μ P := by
  refine AW_iconst (v := 0) dX4_shameToCome_0 (by decide) ?_
  refine AW_istore_n (loc' := [some (aR 0 j), some (aI a1), some (aI 0), none, none]) dX4_shameToCome_1 (Nat.le_of_ble_eq_true rfl) rfl rfl ?_
  refine AW_iconst (v := 0) dX4_shameToCome_2 (by decide) ?_
  refine AW_istore_n (loc' := [some (aR 0 j), some (aI a1), some (aI 0), some (aI 0), none]) dX4_shameToCome_3 (Nat.le_of_ble_eq_true rfl) rfl rfl ?_
  exact h
set_option maxRecDepth 100000 in
theorem B_X4_shameToCome_4 {j : Nat} {a1 : Int32} {a2 : Int32} {a3 : Int32} {μ : Mem} {P : RES → Mem → Prop} (hj : j < 12) (h : ((μ 0 j 1) ≤ a3 → P (.inl (some (aI a2))) μ) ∧ (¬ (μ 0 j 1) ≤ a3 → AW M_X4_shameToCome 0 15 [some (aR 0 j), some (aI a1), some (aI a2), some (aI a3), some (aI 0)] [] μ P)) : AW M_X4_shameToCome 0 4 [some (aR 0 j), some (aI a1), some (aI a2), some (aI a3), none] [] μ P := by
  refine AW_iload_n dX4_shameToCome_4 rfl ?_
  refine AW_aload_n dX4_shameToCome_5 rfl ?_
  refine AW_getv (t := 0) (o := j) (k := 1) none (v := aI (μ 0 j 1)) dX4_shameToCome_6 ff_X4_46 rfl (decide_eq_true hj) rfl ?_
  refine AW_icmp_ge (tgt := 69) dX4_shameToCome_9 (by decide) (fun q3 => ?_) (fun q3 => ?_)
  · have h1 := h.1 q3
    refine AW_iload_n dX4_shameToCome_69 rfl ?_
    exact AW_ireturn (ty := .int) dX4_shameToCome_70 rfl rfl h1
  · have h2 := h.2 q3
    refine AW_iconst (v := 0) dX4_shameToCome_12 (by decide) ?_
    refine AW_istore (loc' := [some (aR 0 j), some (aI a1), some (aI a2), some (aI a3), some (aI 0)]) dX4_shameToCome_13 (Nat.le_of_ble_eq_true rfl) rfl rfl ?_
    exact h2
set_option maxRecDepth 100000 in
theorem B_X4_shameToCome_15 {j : Nat} {a1 : Int32} {a2 : Int32} {a3 : Int32} {a4 : Int32} {μ : Mem} {P : RES → Mem → Prop} (hj : j < 12) (h : vp_in a3 8 ∧ ((¬ (μ 4 j a3.toNatClampNeg) = a1 → AW M_X4_shameToCome 0 4 [some (aR 0 j), some (aI a1), some (aI a2), some (aI (a3 + 1)), none] [] μ P) ∧ ((μ 4 j a3.toNatClampNeg) = a1 → vp_in a3 8 ∧ (((μ 5 j a3.toNatClampNeg) ≤ a4 → AW M_X4_shameToCome 0 4 [some (aR 0 j), some (aI a1), some (aI a2), some (aI (a3 + 1)), none] [] μ P) ∧ (¬ (μ 5 j a3.toNatClampNeg) ≤ a4 → ∃ (r14 : Int32) (m11 : Mem), MetA M_X4_levelAt [aR 0 j, aI a3, aI a4] μ (rI r14 m11) ∧ ((¬ r14 = 2 → AW M_X4_shameToCome 0 15 [some (aR 0 j), some (aI a1), some (aI a2), some (aI a3), some (aI (a4 + 1))] [] m11 P) ∧ (r14 = 2 → ∃ (r21 : Int32) (m18 : Mem), MetA M_X4_howBad [aR 0 j, aI a3, aI a4] m11 (rI r21 m18) ∧ (AW M_X4_shameToCome 0 15 [some (aR 0 j), some (aI a1), some (aI (a2 + r21)), some (aI a3), some (aI (a4 + 1))] [] m18 P)))))))) : AW M_X4_shameToCome 0 15 [some (aR 0 j), some (aI a1), some (aI a2), some (aI a3), some (aI a4)] [] μ P := by
  refine AW_aload_n dX4_shameToCome_15 rfl ?_
  refine AW_getv (t := 0) (o := j) (k := 11) (some (4, none)) (v := aR 4 j) dX4_shameToCome_16 ff_X4_21 rfl (decide_eq_true hj) rfl ?_
  refine AW_iload_n dX4_shameToCome_19 rfl ?_
  obtain ⟨h1, h2⟩ := h
  refine AW_iaload dX4_shameToCome_20 rfl (decide_eq_true hj) h1 ?_
  refine AW_iload_n dX4_shameToCome_21 rfl ?_
  refine AW_icmp_ne (tgt := 63) dX4_shameToCome_22 (by decide) (fun q5 => ?_) (fun q5 => ?_)
  · have h3 := h2.1 q5
    refine AW_iinc (v := a3 + 1) (loc' := [some (aR 0 j), some (aI a1), some (aI a2), some (aI (a3 + 1)), some (aI a4)]) dX4_shameToCome_63 rfl rfl (Nat.le_of_ble_eq_true rfl) rfl rfl ?_
    refine AW_goto (tgt := 4) dX4_shameToCome_66 (by decide) ?_
    exact AW_mask [true, true, true, true, false] h3
  · have h4 := h2.2 q5
    refine AW_iload dX4_shameToCome_25 rfl ?_
    refine AW_aload_n dX4_shameToCome_27 rfl ?_
    refine AW_getv (t := 0) (o := j) (k := 12) (some (5, none)) (v := aR 5 j) dX4_shameToCome_28 ff_X4_24 rfl (decide_eq_true hj) rfl ?_
    refine AW_iload_n dX4_shameToCome_31 rfl ?_
    obtain ⟨h6, h7⟩ := h4
    refine AW_iaload dX4_shameToCome_32 rfl (decide_eq_true hj) h6 ?_
    refine AW_icmp_ge (tgt := 63) dX4_shameToCome_33 (by decide) (fun q10 => ?_) (fun q10 => ?_)
    · have h8 := h7.1 q10
      refine AW_iinc (v := a3 + 1) (loc' := [some (aR 0 j), some (aI a1), some (aI a2), some (aI (a3 + 1)), some (aI a4)]) dX4_shameToCome_63 rfl rfl (Nat.le_of_ble_eq_true rfl) rfl rfl ?_
      refine AW_goto (tgt := 4) dX4_shameToCome_66 (by decide) ?_
      exact AW_mask [true, true, true, true, false] h8
    · have h9 := h7.2 q10
      refine AW_aload_n dX4_shameToCome_36 rfl ?_
      refine AW_iload_n dX4_shameToCome_37 rfl ?_
      refine AW_iload dX4_shameToCome_38 rfl ?_
      obtain ⟨r14, m11, h13, h12⟩ := h9
      refine AW_callVI [aI a3, aI a4] dX4_shameToCome_40 cv_X4_118 rfl rfl (decide_eq_true hj) (by decide) rfl (by decide) (Nat.le_of_ble_eq_true rfl) h13 ?_
      refine AW_iconst (v := 2) dX4_shameToCome_43 (by decide) ?_
      refine AW_icmp_ne (tgt := 57) dX4_shameToCome_44 (by decide) (fun q17 => ?_) (fun q17 => ?_)
      · have h15 := h12.1 q17
        refine AW_iinc (v := a4 + 1) (loc' := [some (aR 0 j), some (aI a1), some (aI a2), some (aI a3), some (aI (a4 + 1))]) dX4_shameToCome_57 rfl rfl (Nat.le_of_ble_eq_true rfl) rfl rfl ?_
        refine AW_goto (tgt := 15) dX4_shameToCome_60 (by decide) ?_
        exact h15
      · have h16 := h12.2 q17
        refine AW_iload_n dX4_shameToCome_47 rfl ?_
        refine AW_aload_n dX4_shameToCome_48 rfl ?_
        refine AW_iload_n dX4_shameToCome_49 rfl ?_
        refine AW_iload dX4_shameToCome_50 rfl ?_
        obtain ⟨r21, m18, h20, h19⟩ := h16
        refine AW_callVI [aI a3, aI a4] dX4_shameToCome_52 cv_X4_93 rfl rfl (decide_eq_true hj) (by decide) rfl (by decide) (Nat.le_of_ble_eq_true rfl) h20 ?_
        refine AW_iadd dX4_shameToCome_55 ?_
        refine AW_istore_n (loc' := [some (aR 0 j), some (aI a1), some (aI (a2 + r21)), some (aI a3), some (aI a4)]) dX4_shameToCome_56 (Nat.le_of_ble_eq_true rfl) rfl rfl ?_
        refine AW_iinc (v := a4 + 1) (loc' := [some (aR 0 j), some (aI a1), some (aI (a2 + r21)), some (aI a3), some (aI (a4 + 1))]) dX4_shameToCome_57 rfl rfl (Nat.le_of_ble_eq_true rfl) rfl rfl ?_
        refine AW_goto (tgt := 15) dX4_shameToCome_60 (by decide) ?_
        exact h19
set_option maxRecDepth 100000 in
theorem B_X4_unlike_0 {j : Nat} {a1 : Int32} {a2 : Int32} {μ : Mem} {P : RES → Mem → Prop} (hj : j < 12) (h : vp_in a1 8 ∧ (vp_in a2 8 ∧ (∀ r5 : Int32, r5 = (if (μ 5 j a2.toNatClampNeg) < (μ 5 j a1.toNatClampNeg) then (μ 5 j a2.toNatClampNeg) else (μ 5 j a1.toNatClampNeg)) → vp_in a1 8 ∧ (vp_in a2 8 ∧ (∀ r11 : Int32, r11 = (if (μ 5 j a1.toNatClampNeg) < (μ 5 j a2.toNatClampNeg) then (μ 5 j a2.toNatClampNeg) else (μ 5 j a1.toNatClampNeg)) → AW M_X4_unlike 0 38 [some (aR 0 j), some (aI a1), some (aI a2), some (aI r5), some (aI (r11 - r5)), some (aI 0)] [] μ P))))) : AW M_X4_unlike 0 0 [some (aR 0 j), some (aI a1), some (aI a2), none, none, none] [] μ P := by
  refine AW_aload_n dX4_unlike_0 rfl ?_
  refine AW_getv (t := 0) (o := j) (k := 12) (some (5, none)) (v := aR 5 j) dX4_unlike_1 ff_X4_24 rfl (decide_eq_true hj) rfl ?_
  refine AW_iload_n dX4_unlike_4 rfl ?_
  obtain ⟨h1, h2⟩ := h
  refine AW_iaload dX4_unlike_5 rfl (decide_eq_true hj) h1 ?_
  refine AW_aload_n dX4_unlike_6 rfl ?_
  refine AW_getv (t := 0) (o := j) (k := 12) (some (5, none)) (v := aR 5 j) dX4_unlike_7 ff_X4_24 rfl (decide_eq_true hj) rfl ?_
  refine AW_iload_n dX4_unlike_10 rfl ?_
  obtain ⟨h3, h4⟩ := h2
  refine AW_iaload dX4_unlike_11 rfl (decide_eq_true hj) h3 ?_
  obtain ⟨r5, er5⟩ : ∃ z : Int32, z = (if (μ 5 j a2.toNatClampNeg) < (μ 5 j a1.toNatClampNeg) then (μ 5 j a2.toNatClampNeg) else (μ 5 j a1.toNatClampNeg)) := ⟨_, rfl⟩
  have h6 := h4 r5 er5
  refine AW_mmin dX4_unlike_12 w_780 (by decide) (Nat.le_of_ble_eq_true rfl) er5.symm ?_
  refine AW_istore_n (loc' := [some (aR 0 j), some (aI a1), some (aI a2), some (aI r5), none, none]) dX4_unlike_15 (Nat.le_of_ble_eq_true rfl) rfl rfl ?_
  refine AW_aload_n dX4_unlike_16 rfl ?_
  refine AW_getv (t := 0) (o := j) (k := 12) (some (5, none)) (v := aR 5 j) dX4_unlike_17 ff_X4_24 rfl (decide_eq_true hj) rfl ?_
  refine AW_iload_n dX4_unlike_20 rfl ?_
  obtain ⟨h7, h8⟩ := h6
  refine AW_iaload dX4_unlike_21 rfl (decide_eq_true hj) h7 ?_
  refine AW_aload_n dX4_unlike_22 rfl ?_
  refine AW_getv (t := 0) (o := j) (k := 12) (some (5, none)) (v := aR 5 j) dX4_unlike_23 ff_X4_24 rfl (decide_eq_true hj) rfl ?_
  refine AW_iload_n dX4_unlike_26 rfl ?_
  obtain ⟨h9, h10⟩ := h8
  refine AW_iaload dX4_unlike_27 rfl (decide_eq_true hj) h9 ?_
  obtain ⟨r11, er11⟩ : ∃ z : Int32, z = (if (μ 5 j a1.toNatClampNeg) < (μ 5 j a2.toNatClampNeg) then (μ 5 j a2.toNatClampNeg) else (μ 5 j a1.toNatClampNeg)) := ⟨_, rfl⟩
  have h12 := h10 r11 er11
  refine AW_mmax dX4_unlike_28 w_244 (by decide) (Nat.le_of_ble_eq_true rfl) er11.symm ?_
  refine AW_iload_n dX4_unlike_31 rfl ?_
  refine AW_isub dX4_unlike_32 ?_
  refine AW_istore (loc' := [some (aR 0 j), some (aI a1), some (aI a2), some (aI r5), some (aI (r11 - r5)), none]) dX4_unlike_33 (Nat.le_of_ble_eq_true rfl) rfl rfl ?_
  refine AW_iconst (v := 0) dX4_unlike_35 (by decide) ?_
  refine AW_istore (loc' := [some (aR 0 j), some (aI a1), some (aI a2), some (aI r5), some (aI (r11 - r5)), some (aI 0)]) dX4_unlike_36 (Nat.le_of_ble_eq_true rfl) rfl rfl ?_
  exact h12
set_option maxRecDepth 100000 in
theorem B_X4_unlike_38 {j : Nat} {a1 : Int32} {a2 : Int32} {a3 : Int32} {a4 : Int32} {a5 : Int32} {μ : Mem} {P : RES → Mem → Prop} (hj : j < 12) (h : (a3 ≤ a5 → P (.inl (some (aI a4))) μ) ∧ (¬ a3 ≤ a5 → ∃ (r7 : Int32) (m4 : Mem), MetA M_X4_placedAt [aR 0 j, aI a1, aI a5] μ (rI r7 m4) ∧ (∃ (r11 : Int32) (m8 : Mem), MetA M_X4_rightAt [aR 0 j, aI a2, aI a5] m4 (rI r11 m8) ∧ ((r7 = r11 → AW M_X4_unlike 0 38 [some (aR 0 j), some (aI a1), some (aI a2), some (aI a3), some (aI a4), some (aI (a5 + 1))] [] m8 P) ∧ (¬ r7 = r11 → AW M_X4_unlike 0 38 [some (aR 0 j), some (aI a1), some (aI a2), some (aI a3), some (aI (a4 + 1)), some (aI (a5 + 1))] [] m8 P))))) : AW M_X4_unlike 0 38 [some (aR 0 j), some (aI a1), some (aI a2), some (aI a3), some (aI a4), some (aI a5)] [] μ P := by
  refine AW_iload dX4_unlike_38 rfl ?_
  refine AW_iload_n dX4_unlike_40 rfl ?_
  refine AW_icmp_ge (tgt := 70) dX4_unlike_41 (by decide) (fun q3 => ?_) (fun q3 => ?_)
  · have h1 := h.1 q3
    refine AW_iload dX4_unlike_70 rfl ?_
    exact AW_ireturn (ty := .int) dX4_unlike_72 rfl rfl h1
  · have h2 := h.2 q3
    refine AW_aload_n dX4_unlike_44 rfl ?_
    refine AW_iload_n dX4_unlike_45 rfl ?_
    refine AW_iload dX4_unlike_46 rfl ?_
    obtain ⟨r7, m4, h6, h5⟩ := h2
    refine AW_callVI [aI a1, aI a5] dX4_unlike_48 cv_X4_77 rfl rfl (decide_eq_true hj) (by decide) rfl (by decide) (Nat.le_of_ble_eq_true rfl) h6 ?_
    refine AW_aload_n dX4_unlike_51 rfl ?_
    refine AW_iload_n dX4_unlike_52 rfl ?_
    refine AW_iload dX4_unlike_53 rfl ?_
    obtain ⟨r11, m8, h10, h9⟩ := h5
    refine AW_callVI [aI a2, aI a5] dX4_unlike_55 cv_X4_81 rfl rfl (decide_eq_true hj) (by decide) rfl (by decide) (Nat.le_of_ble_eq_true rfl) h10 ?_
    refine AW_icmp_eq (tgt := 64) dX4_unlike_58 (by decide) (fun q14 => ?_) (fun q14 => ?_)
    · have h12 := h9.1 q14
      refine AW_iinc (v := a5 + 1) (loc' := [some (aR 0 j), some (aI a1), some (aI a2), some (aI a3), some (aI a4), some (aI (a5 + 1))]) dX4_unlike_64 rfl rfl (Nat.le_of_ble_eq_true rfl) rfl rfl ?_
      refine AW_goto (tgt := 38) dX4_unlike_67 (by decide) ?_
      exact h12
    · have h13 := h9.2 q14
      refine AW_iinc (v := a4 + 1) (loc' := [some (aR 0 j), some (aI a1), some (aI a2), some (aI a3), some (aI (a4 + 1)), some (aI a5)]) dX4_unlike_61 rfl rfl (Nat.le_of_ble_eq_true rfl) rfl rfl ?_
      refine AW_iinc (v := a5 + 1) (loc' := [some (aR 0 j), some (aI a1), some (aI a2), some (aI a3), some (aI (a4 + 1)), some (aI (a5 + 1))]) dX4_unlike_64 rfl rfl (Nat.le_of_ble_eq_true rfl) rfl rfl ?_
      refine AW_goto (tgt := 38) dX4_unlike_67 (by decide) ?_
      exact h13
set_option maxRecDepth 100000 in
theorem B_X4_rankOfHouse_0 {j : Nat} {a1 : Int32} {μ : Mem} {P : RES → Mem → Prop} (hj : j < 12) (h : AW M_X4_rankOfHouse 0 4 [some (aR 0 j), some (aI a1), some (aI 0), some (aI 0)] [] μ P) : AW M_X4_rankOfHouse 0 0 [some (aR 0 j), some (aI a1), none, none] [] μ P := by
  refine AW_iconst (v := 0) dX4_rankOfHouse_0 (by decide) ?_
  refine AW_istore_n (loc' := [some (aR 0 j), some (aI a1), some (aI 0), none]) dX4_rankOfHouse_1 (Nat.le_of_ble_eq_true rfl) rfl rfl ?_
  refine AW_iconst (v := 0) dX4_rankOfHouse_2 (by decide) ?_
  refine AW_istore_n (loc' := [some (aR 0 j), some (aI a1), some (aI 0), some (aI 0)]) dX4_rankOfHouse_3 (Nat.le_of_ble_eq_true rfl) rfl rfl ?_
  exact h
set_option maxRecDepth 100000 in
theorem B_X4_rankOfHouse_4 {j : Nat} {a1 : Int32} {a2 : Int32} {a3 : Int32} {μ : Mem} {P : RES → Mem → Prop} (hj : j < 12) (h : ((μ 0 j 0) ≤ a3 → P (.inl (some (aI a2))) μ) ∧ (¬ (μ 0 j 0) ≤ a3 → ∃ (r7 : Int32) (m4 : Mem), MetA M_X4_isMoreAshamed [aR 0 j, aI a3, aI a1] μ (rI r7 m4) ∧ ((r7 = 0 → AW M_X4_rankOfHouse 0 4 [some (aR 0 j), some (aI a1), some (aI a2), some (aI (a3 + 1))] [] m4 P) ∧ (¬ r7 = 0 → AW M_X4_rankOfHouse 0 4 [some (aR 0 j), some (aI a1), some (aI (a2 + 1)), some (aI (a3 + 1))] [] m4 P)))) : AW M_X4_rankOfHouse 0 4 [some (aR 0 j), some (aI a1), some (aI a2), some (aI a3)] [] μ P := by
  refine AW_iload_n dX4_rankOfHouse_4 rfl ?_
  refine AW_aload_n dX4_rankOfHouse_5 rfl ?_
  refine AW_getv (t := 0) (o := j) (k := 0) none (v := aI (μ 0 j 0)) dX4_rankOfHouse_6 ff_X4_42 rfl (decide_eq_true hj) rfl ?_
  refine AW_icmp_ge (tgt := 30) dX4_rankOfHouse_9 (by decide) (fun q3 => ?_) (fun q3 => ?_)
  · have h1 := h.1 q3
    refine AW_iload_n dX4_rankOfHouse_30 rfl ?_
    exact AW_ireturn (ty := .int) dX4_rankOfHouse_31 rfl rfl h1
  · have h2 := h.2 q3
    refine AW_aload_n dX4_rankOfHouse_12 rfl ?_
    refine AW_iload_n dX4_rankOfHouse_13 rfl ?_
    refine AW_iload_n dX4_rankOfHouse_14 rfl ?_
    obtain ⟨r7, m4, h6, h5⟩ := h2
    refine AW_callVI [aI a3, aI a1] dX4_rankOfHouse_15 cv_X4_145 rfl rfl (decide_eq_true hj) (by decide) rfl (by decide) (Nat.le_of_ble_eq_true rfl) h6 ?_
    refine AW_if_eq (tgt := 24) dX4_rankOfHouse_18 (by decide) (fun q10 => ?_) (fun q10 => ?_)
    · have h8 := h5.1 q10
      refine AW_iinc (v := a3 + 1) (loc' := [some (aR 0 j), some (aI a1), some (aI a2), some (aI (a3 + 1))]) dX4_rankOfHouse_24 rfl rfl (Nat.le_of_ble_eq_true rfl) rfl rfl ?_
      refine AW_goto (tgt := 4) dX4_rankOfHouse_27 (by decide) ?_
      exact h8
    · have h9 := h5.2 q10
      refine AW_iinc (v := a2 + 1) (loc' := [some (aR 0 j), some (aI a1), some (aI (a2 + 1)), some (aI a3)]) dX4_rankOfHouse_21 rfl rfl (Nat.le_of_ble_eq_true rfl) rfl rfl ?_
      refine AW_iinc (v := a3 + 1) (loc' := [some (aR 0 j), some (aI a1), some (aI (a2 + 1)), some (aI (a3 + 1))]) dX4_rankOfHouse_24 rfl rfl (Nat.le_of_ble_eq_true rfl) rfl rfl ?_
      refine AW_goto (tgt := 4) dX4_rankOfHouse_27 (by decide) ?_
      exact h9
set_option maxRecDepth 100000 in
theorem B_X4_isMoreAshamed_0 {j : Nat} {a1 : Int32} {a2 : Int32} {μ : Mem} {P : RES → Mem → Prop} (hj : j < 12) (h : vp_in a1 4 ∧ (vp_in a2 4 ∧ (((μ 2 j a1.toNatClampNeg) = (μ 2 j a2.toNatClampNeg) → vp_in a1 4 ∧ (vp_in a2 4 ∧ (((μ 1 j a1.toNatClampNeg) = (μ 1 j a2.toNatClampNeg) → (a2 ≤ a1 → P (.inl (some (aI 0))) μ) ∧ (¬ a2 ≤ a1 → P (.inl (some (aI 1))) μ)) ∧ (¬ (μ 1 j a1.toNatClampNeg) = (μ 1 j a2.toNatClampNeg) → vp_in a1 4 ∧ (vp_in a2 4 ∧ (((μ 1 j a2.toNatClampNeg) ≤ (μ 1 j a1.toNatClampNeg) → P (.inl (some (aI 0))) μ) ∧ (¬ (μ 1 j a2.toNatClampNeg) ≤ (μ 1 j a1.toNatClampNeg) → P (.inl (some (aI 1))) μ))))))) ∧ (¬ (μ 2 j a1.toNatClampNeg) = (μ 2 j a2.toNatClampNeg) → vp_in a1 4 ∧ (vp_in a2 4 ∧ (((μ 2 j a1.toNatClampNeg) ≤ (μ 2 j a2.toNatClampNeg) → P (.inl (some (aI 0))) μ) ∧ (¬ (μ 2 j a1.toNatClampNeg) ≤ (μ 2 j a2.toNatClampNeg) → P (.inl (some (aI 1))) μ))))))) : AW M_X4_isMoreAshamed 0 0 [some (aR 0 j), some (aI a1), some (aI a2)] [] μ P := by
  refine AW_aload_n dX4_isMoreAshamed_0 rfl ?_
  refine AW_getv (t := 0) (o := j) (k := 9) (some (2, none)) (v := aR 2 j) dX4_isMoreAshamed_1 ff_X4_15 rfl (decide_eq_true hj) rfl ?_
  refine AW_iload_n dX4_isMoreAshamed_4 rfl ?_
  obtain ⟨h1, h2⟩ := h
  refine AW_iaload dX4_isMoreAshamed_5 rfl (decide_eq_true hj) h1 ?_
  refine AW_aload_n dX4_isMoreAshamed_6 rfl ?_
  refine AW_getv (t := 0) (o := j) (k := 9) (some (2, none)) (v := aR 2 j) dX4_isMoreAshamed_7 ff_X4_15 rfl (decide_eq_true hj) rfl ?_
  refine AW_iload_n dX4_isMoreAshamed_10 rfl ?_
  obtain ⟨h3, h4⟩ := h2
  refine AW_iaload dX4_isMoreAshamed_11 rfl (decide_eq_true hj) h3 ?_
  refine AW_icmp_eq (tgt := 36) dX4_isMoreAshamed_12 (by decide) (fun q7 => ?_) (fun q7 => ?_)
  · have h5 := h4.1 q7
    refine AW_aload_n dX4_isMoreAshamed_36 rfl ?_
    refine AW_getv (t := 0) (o := j) (k := 8) (some (1, none)) (v := aR 1 j) dX4_isMoreAshamed_37 ff_X4_9 rfl (decide_eq_true hj) rfl ?_
    refine AW_iload_n dX4_isMoreAshamed_40 rfl ?_
    obtain ⟨h8, h9⟩ := h5
    refine AW_iaload dX4_isMoreAshamed_41 rfl (decide_eq_true hj) h8 ?_
    refine AW_aload_n dX4_isMoreAshamed_42 rfl ?_
    refine AW_getv (t := 0) (o := j) (k := 8) (some (1, none)) (v := aR 1 j) dX4_isMoreAshamed_43 ff_X4_9 rfl (decide_eq_true hj) rfl ?_
    refine AW_iload_n dX4_isMoreAshamed_46 rfl ?_
    obtain ⟨h10, h11⟩ := h9
    refine AW_iaload dX4_isMoreAshamed_47 rfl (decide_eq_true hj) h10 ?_
    refine AW_icmp_eq (tgt := 72) dX4_isMoreAshamed_48 (by decide) (fun q14 => ?_) (fun q14 => ?_)
    · have h12 := h11.1 q14
      refine AW_iload_n dX4_isMoreAshamed_72 rfl ?_
      refine AW_iload_n dX4_isMoreAshamed_73 rfl ?_
      refine AW_icmp_ge (tgt := 81) dX4_isMoreAshamed_74 (by decide) (fun q17 => ?_) (fun q17 => ?_)
      · have h15 := h12.1 q17
        refine AW_iconst (v := 0) dX4_isMoreAshamed_81 (by decide) ?_
        exact AW_ireturn (ty := .boolean) dX4_isMoreAshamed_82 rfl rfl h15
      · have h16 := h12.2 q17
        refine AW_iconst (v := 1) dX4_isMoreAshamed_77 (by decide) ?_
        refine AW_goto (tgt := 82) dX4_isMoreAshamed_78 (by decide) ?_
        exact AW_ireturn (ty := .boolean) dX4_isMoreAshamed_82 rfl rfl h16
    · have h13 := h11.2 q14
      refine AW_aload_n dX4_isMoreAshamed_51 rfl ?_
      refine AW_getv (t := 0) (o := j) (k := 8) (some (1, none)) (v := aR 1 j) dX4_isMoreAshamed_52 ff_X4_9 rfl (decide_eq_true hj) rfl ?_
      refine AW_iload_n dX4_isMoreAshamed_55 rfl ?_
      obtain ⟨h18, h19⟩ := h13
      refine AW_iaload dX4_isMoreAshamed_56 rfl (decide_eq_true hj) h18 ?_
      refine AW_aload_n dX4_isMoreAshamed_57 rfl ?_
      refine AW_getv (t := 0) (o := j) (k := 8) (some (1, none)) (v := aR 1 j) dX4_isMoreAshamed_58 ff_X4_9 rfl (decide_eq_true hj) rfl ?_
      refine AW_iload_n dX4_isMoreAshamed_61 rfl ?_
      obtain ⟨h20, h21⟩ := h19
      refine AW_iaload dX4_isMoreAshamed_62 rfl (decide_eq_true hj) h20 ?_
      refine AW_icmp_ge (tgt := 70) dX4_isMoreAshamed_63 (by decide) (fun q24 => ?_) (fun q24 => ?_)
      · have h22 := h21.1 q24
        refine AW_iconst (v := 0) dX4_isMoreAshamed_70 (by decide) ?_
        exact AW_ireturn (ty := .boolean) dX4_isMoreAshamed_71 rfl rfl h22
      · have h23 := h21.2 q24
        refine AW_iconst (v := 1) dX4_isMoreAshamed_66 (by decide) ?_
        refine AW_goto (tgt := 71) dX4_isMoreAshamed_67 (by decide) ?_
        exact AW_ireturn (ty := .boolean) dX4_isMoreAshamed_71 rfl rfl h23
  · have h6 := h4.2 q7
    refine AW_aload_n dX4_isMoreAshamed_15 rfl ?_
    refine AW_getv (t := 0) (o := j) (k := 9) (some (2, none)) (v := aR 2 j) dX4_isMoreAshamed_16 ff_X4_15 rfl (decide_eq_true hj) rfl ?_
    refine AW_iload_n dX4_isMoreAshamed_19 rfl ?_
    obtain ⟨h25, h26⟩ := h6
    refine AW_iaload dX4_isMoreAshamed_20 rfl (decide_eq_true hj) h25 ?_
    refine AW_aload_n dX4_isMoreAshamed_21 rfl ?_
    refine AW_getv (t := 0) (o := j) (k := 9) (some (2, none)) (v := aR 2 j) dX4_isMoreAshamed_22 ff_X4_15 rfl (decide_eq_true hj) rfl ?_
    refine AW_iload_n dX4_isMoreAshamed_25 rfl ?_
    obtain ⟨h27, h28⟩ := h26
    refine AW_iaload dX4_isMoreAshamed_26 rfl (decide_eq_true hj) h27 ?_
    refine AW_icmp_le (tgt := 34) dX4_isMoreAshamed_27 (by decide) (fun q31 => ?_) (fun q31 => ?_)
    · have h29 := h28.1 q31
      refine AW_iconst (v := 0) dX4_isMoreAshamed_34 (by decide) ?_
      exact AW_ireturn (ty := .boolean) dX4_isMoreAshamed_35 rfl rfl h29
    · have h30 := h28.2 q31
      refine AW_iconst (v := 1) dX4_isMoreAshamed_30 (by decide) ?_
      refine AW_goto (tgt := 35) dX4_isMoreAshamed_31 (by decide) ?_
      exact AW_ireturn (ty := .boolean) dX4_isMoreAshamed_35 rfl rfl h30
set_option maxRecDepth 100000 in
theorem B_X4_rankOfSheet_0 {j : Nat} {a1 : Int32} {μ : Mem} {P : RES → Mem → Prop} (hj : j < 12) (h : AW M_X4_rankOfSheet 0 4 [some (aR 0 j), some (aI a1), some (aI 0), some (aI 0)] [] μ P) : AW M_X4_rankOfSheet 0 0 [some (aR 0 j), some (aI a1), none, none] [] μ P := by
  refine AW_iconst (v := 0) dX4_rankOfSheet_0 (by decide) ?_
  refine AW_istore_n (loc' := [some (aR 0 j), some (aI a1), some (aI 0), none]) dX4_rankOfSheet_1 (Nat.le_of_ble_eq_true rfl) rfl rfl ?_
  refine AW_iconst (v := 0) dX4_rankOfSheet_2 (by decide) ?_
  refine AW_istore_n (loc' := [some (aR 0 j), some (aI a1), some (aI 0), some (aI 0)]) dX4_rankOfSheet_3 (Nat.le_of_ble_eq_true rfl) rfl rfl ?_
  exact h
set_option maxRecDepth 100000 in
theorem B_X4_rankOfSheet_4 {j : Nat} {a1 : Int32} {a2 : Int32} {a3 : Int32} {μ : Mem} {P : RES → Mem → Prop} (hj : j < 12) (h : ((μ 0 j 1) ≤ a3 → P (.inl (some (aI a2))) μ) ∧ (¬ (μ 0 j 1) ≤ a3 → ∃ (r7 : Int32) (m4 : Mem), MetA M_X4_isWorse [aR 0 j, aI a3, aI a1] μ (rI r7 m4) ∧ ((r7 = 0 → AW M_X4_rankOfSheet 0 4 [some (aR 0 j), some (aI a1), some (aI a2), some (aI (a3 + 1))] [] m4 P) ∧ (¬ r7 = 0 → AW M_X4_rankOfSheet 0 4 [some (aR 0 j), some (aI a1), some (aI (a2 + 1)), some (aI (a3 + 1))] [] m4 P)))) : AW M_X4_rankOfSheet 0 4 [some (aR 0 j), some (aI a1), some (aI a2), some (aI a3)] [] μ P := by
  refine AW_iload_n dX4_rankOfSheet_4 rfl ?_
  refine AW_aload_n dX4_rankOfSheet_5 rfl ?_
  refine AW_getv (t := 0) (o := j) (k := 1) none (v := aI (μ 0 j 1)) dX4_rankOfSheet_6 ff_X4_46 rfl (decide_eq_true hj) rfl ?_
  refine AW_icmp_ge (tgt := 30) dX4_rankOfSheet_9 (by decide) (fun q3 => ?_) (fun q3 => ?_)
  · have h1 := h.1 q3
    refine AW_iload_n dX4_rankOfSheet_30 rfl ?_
    exact AW_ireturn (ty := .int) dX4_rankOfSheet_31 rfl rfl h1
  · have h2 := h.2 q3
    refine AW_aload_n dX4_rankOfSheet_12 rfl ?_
    refine AW_iload_n dX4_rankOfSheet_13 rfl ?_
    refine AW_iload_n dX4_rankOfSheet_14 rfl ?_
    obtain ⟨r7, m4, h6, h5⟩ := h2
    refine AW_callVI [aI a3, aI a1] dX4_rankOfSheet_15 cv_X4_149 rfl rfl (decide_eq_true hj) (by decide) rfl (by decide) (Nat.le_of_ble_eq_true rfl) h6 ?_
    refine AW_if_eq (tgt := 24) dX4_rankOfSheet_18 (by decide) (fun q10 => ?_) (fun q10 => ?_)
    · have h8 := h5.1 q10
      refine AW_iinc (v := a3 + 1) (loc' := [some (aR 0 j), some (aI a1), some (aI a2), some (aI (a3 + 1))]) dX4_rankOfSheet_24 rfl rfl (Nat.le_of_ble_eq_true rfl) rfl rfl ?_
      refine AW_goto (tgt := 4) dX4_rankOfSheet_27 (by decide) ?_
      exact h8
    · have h9 := h5.2 q10
      refine AW_iinc (v := a2 + 1) (loc' := [some (aR 0 j), some (aI a1), some (aI (a2 + 1)), some (aI a3)]) dX4_rankOfSheet_21 rfl rfl (Nat.le_of_ble_eq_true rfl) rfl rfl ?_
      refine AW_iinc (v := a3 + 1) (loc' := [some (aR 0 j), some (aI a1), some (aI (a2 + 1)), some (aI (a3 + 1))]) dX4_rankOfSheet_24 rfl rfl (Nat.le_of_ble_eq_true rfl) rfl rfl ?_
      refine AW_goto (tgt := 4) dX4_rankOfSheet_27 (by decide) ?_
      exact h9
set_option maxRecDepth 100000 in
theorem B_X4_isWorse_0 {j : Nat} {a1 : Int32} {a2 : Int32} {μ : Mem} {P : RES → Mem → Prop} (hj : j < 12) (h : ∃ (r4 : Int32) (m1 : Mem), MetA M_X4_badness [aR 0 j, aI a1] μ (rI r4 m1) ∧ (∃ (r8 : Int32) (m5 : Mem), MetA M_X4_badness [aR 0 j, aI a2] m1 (rI r8 m5) ∧ ((¬ (r4 - r8) = 0 → (0 < (r4 - r8) → P (.inl (some (aI 1))) m5) ∧ (¬ 0 < (r4 - r8) → (¬ (r4 - r8) = 0 → P (.inl (some (aI 0))) m5) ∧ ((r4 - r8) = 0 → (a2 ≤ a1 → P (.inl (some (aI 0))) m5) ∧ (¬ a2 ≤ a1 → P (.inl (some (aI 1))) m5)))) ∧ ((r4 - r8) = 0 → ∃ (r24 : Int32) (m21 : Mem), MetA M_X4_countOnSheet [aR 0 j, aI a1, aI 1] m5 (rI r24 m21) ∧ (∃ (r28 : Int32) (m25 : Mem), MetA M_X4_countOnSheet [aR 0 j, aI a2, aI 1] m21 (rI r28 m25) ∧ ((0 < (r24 - r28) → P (.inl (some (aI 1))) m25) ∧ (¬ 0 < (r24 - r28) → (¬ (r24 - r28) = 0 → P (.inl (some (aI 0))) m25) ∧ ((r24 - r28) = 0 → (a2 ≤ a1 → P (.inl (some (aI 0))) m25) ∧ (¬ a2 ≤ a1 → P (.inl (some (aI 1))) m25))))))))) : AW M_X4_isWorse 0 0 [some (aR 0 j), some (aI a1), some (aI a2), none] [] μ P := by
  refine AW_aload_n dX4_isWorse_0 rfl ?_
  refine AW_iload_n dX4_isWorse_1 rfl ?_
  obtain ⟨r4, m1, h3, h2⟩ := h
  refine AW_callVI [aI a1] dX4_isWorse_2 cv_X4_108 rfl rfl (decide_eq_true hj) (by decide) rfl (by decide) (Nat.le_of_ble_eq_true rfl) h3 ?_
  refine AW_aload_n dX4_isWorse_5 rfl ?_
  refine AW_iload_n dX4_isWorse_6 rfl ?_
  obtain ⟨r8, m5, h7, h6⟩ := h2
  refine AW_callVI [aI a2] dX4_isWorse_7 cv_X4_108 rfl rfl (decide_eq_true hj) (by decide) rfl (by decide) (Nat.le_of_ble_eq_true rfl) h7 ?_
  refine AW_isub dX4_isWorse_10 ?_
  refine AW_istore_n (loc' := [some (aR 0 j), some (aI a1), some (aI a2), some (aI (r4 - r8))]) dX4_isWorse_11 (Nat.le_of_ble_eq_true rfl) rfl rfl ?_
  refine AW_iload_n dX4_isWorse_12 rfl ?_
  refine AW_if_ne (tgt := 30) dX4_isWorse_13 (by decide) (fun q11 => ?_) (fun q11 => ?_)
  · have h9 := h6.1 q11
    refine AW_iload_n dX4_isWorse_30 rfl ?_
    refine AW_if_gt (tgt := 43) dX4_isWorse_31 (by decide) (fun q14 => ?_) (fun q14 => ?_)
    · have h12 := h9.1 q14
      refine AW_iconst (v := 1) dX4_isWorse_43 (by decide) ?_
      refine AW_goto (tgt := 48) dX4_isWorse_44 (by decide) ?_
      exact AW_ireturn (ty := .boolean) dX4_isWorse_48 rfl rfl h12
    · have h13 := h9.2 q14
      refine AW_iload_n dX4_isWorse_34 rfl ?_
      refine AW_if_ne (tgt := 47) dX4_isWorse_35 (by decide) (fun q17 => ?_) (fun q17 => ?_)
      · have h15 := h13.1 q17
        refine AW_iconst (v := 0) dX4_isWorse_47 (by decide) ?_
        exact AW_ireturn (ty := .boolean) dX4_isWorse_48 rfl rfl h15
      · have h16 := h13.2 q17
        refine AW_iload_n dX4_isWorse_38 rfl ?_
        refine AW_iload_n dX4_isWorse_39 rfl ?_
        refine AW_icmp_ge (tgt := 47) dX4_isWorse_40 (by decide) (fun q20 => ?_) (fun q20 => ?_)
        · have h18 := h16.1 q20
          refine AW_iconst (v := 0) dX4_isWorse_47 (by decide) ?_
          exact AW_ireturn (ty := .boolean) dX4_isWorse_48 rfl rfl h18
        · have h19 := h16.2 q20
          refine AW_iconst (v := 1) dX4_isWorse_43 (by decide) ?_
          refine AW_goto (tgt := 48) dX4_isWorse_44 (by decide) ?_
          exact AW_ireturn (ty := .boolean) dX4_isWorse_48 rfl rfl h19
  · have h10 := h6.2 q11
    refine AW_aload_n dX4_isWorse_16 rfl ?_
    refine AW_iload_n dX4_isWorse_17 rfl ?_
    refine AW_iconst (v := 1) dX4_isWorse_18 (by decide) ?_
    obtain ⟨r24, m21, h23, h22⟩ := h10
    refine AW_callVI [aI a1, aI 1] dX4_isWorse_19 cv_X4_90 rfl rfl (decide_eq_true hj) (by decide) rfl (by decide) (Nat.le_of_ble_eq_true rfl) h23 ?_
    refine AW_aload_n dX4_isWorse_22 rfl ?_
    refine AW_iload_n dX4_isWorse_23 rfl ?_
    refine AW_iconst (v := 1) dX4_isWorse_24 (by decide) ?_
    obtain ⟨r28, m25, h27, h26⟩ := h22
    refine AW_callVI [aI a2, aI 1] dX4_isWorse_25 cv_X4_90 rfl rfl (decide_eq_true hj) (by decide) rfl (by decide) (Nat.le_of_ble_eq_true rfl) h27 ?_
    refine AW_isub dX4_isWorse_28 ?_
    refine AW_istore_n (loc' := [some (aR 0 j), some (aI a1), some (aI a2), some (aI (r24 - r28))]) dX4_isWorse_29 (Nat.le_of_ble_eq_true rfl) rfl rfl ?_
    refine AW_iload_n dX4_isWorse_30 rfl ?_
    refine AW_if_gt (tgt := 43) dX4_isWorse_31 (by decide) (fun q31 => ?_) (fun q31 => ?_)
    · have h29 := h26.1 q31
      refine AW_iconst (v := 1) dX4_isWorse_43 (by decide) ?_
      refine AW_goto (tgt := 48) dX4_isWorse_44 (by decide) ?_
      exact AW_ireturn (ty := .boolean) dX4_isWorse_48 rfl rfl h29
    · have h30 := h26.2 q31
      refine AW_iload_n dX4_isWorse_34 rfl ?_
      refine AW_if_ne (tgt := 47) dX4_isWorse_35 (by decide) (fun q34 => ?_) (fun q34 => ?_)
      · have h32 := h30.1 q34
        refine AW_iconst (v := 0) dX4_isWorse_47 (by decide) ?_
        exact AW_ireturn (ty := .boolean) dX4_isWorse_48 rfl rfl h32
      · have h33 := h30.2 q34
        refine AW_iload_n dX4_isWorse_38 rfl ?_
        refine AW_iload_n dX4_isWorse_39 rfl ?_
        refine AW_icmp_ge (tgt := 47) dX4_isWorse_40 (by decide) (fun q37 => ?_) (fun q37 => ?_)
        · have h35 := h33.1 q37
          refine AW_iconst (v := 0) dX4_isWorse_47 (by decide) ?_
          exact AW_ireturn (ty := .boolean) dX4_isWorse_48 rfl rfl h35
        · have h36 := h33.2 q37
          refine AW_iconst (v := 1) dX4_isWorse_43 (by decide) ?_
          refine AW_goto (tgt := 48) dX4_isWorse_44 (by decide) ?_
          exact AW_ireturn (ty := .boolean) dX4_isWorse_48 rfl rfl h36
set_option maxRecDepth 100000 in
theorem B_X4_appendHouse_0 {j : Nat} {a1 : Int32} {μ : Mem} {P : RES → Mem → Prop} (hj : j < 12) (h : vp_in (μ 0 j 0) 4 ∧ (∀ m1 : Mem, m1 = mset μ 1 j (upd (μ 1 j) (μ 0 j 0).toNatClampNeg a1) → vp_in (m1 0 j 0) 4 ∧ (∀ m5 : Mem, m5 = mset m1 2 j (upd (m1 2 j) (m1 0 j 0).toNatClampNeg 0) → vp_in (m5 0 j 0) 4 ∧ (∀ m9 : Mem, m9 = mset m5 3 j (upd (m5 3 j) (m5 0 j 0).toNatClampNeg 0) → ∀ m13 : Mem, m13 = mset m9 0 j (upd (m9 0 j) 0 ((m9 0 j 0) + 1)) → P (.inl (some (aI ((m13 0 j 0) - 1)))) m13)))) : AW M_X4_appendHouse 0 0 [some (aR 0 j), some (aI a1)] [] μ P := by
  refine AW_aload_n dX4_appendHouse_0 rfl ?_
  refine AW_getv (t := 0) (o := j) (k := 8) (some (1, none)) (v := aR 1 j) dX4_appendHouse_1 ff_X4_9 rfl (decide_eq_true hj) rfl ?_
  refine AW_aload_n dX4_appendHouse_4 rfl ?_
  refine AW_getv (t := 0) (o := j) (k := 0) none (v := aI (μ 0 j 0)) dX4_appendHouse_5 ff_X4_42 rfl (decide_eq_true hj) rfl ?_
  refine AW_iload_n dX4_appendHouse_8 rfl ?_
  obtain ⟨h2, h4⟩ := h
  obtain ⟨m1, em1⟩ : ∃ z : Mem, z = mset μ 1 j (upd (μ 1 j) (μ 0 j 0).toNatClampNeg a1) := ⟨_, rfl⟩
  have h3 := h4 m1 em1
  refine AW_iastore dX4_appendHouse_9 rfl (decide_eq_true hj) h2 em1.symm ?_
  refine AW_aload_n dX4_appendHouse_10 rfl ?_
  refine AW_getv (t := 0) (o := j) (k := 9) (some (2, none)) (v := aR 2 j) dX4_appendHouse_11 ff_X4_15 rfl (decide_eq_true hj) rfl ?_
  refine AW_aload_n dX4_appendHouse_14 rfl ?_
  refine AW_getv (t := 0) (o := j) (k := 0) none (v := aI (m1 0 j 0)) dX4_appendHouse_15 ff_X4_42 rfl (decide_eq_true hj) rfl ?_
  refine AW_iconst (v := 0) dX4_appendHouse_18 (by decide) ?_
  obtain ⟨h6, h8⟩ := h3
  obtain ⟨m5, em5⟩ : ∃ z : Mem, z = mset m1 2 j (upd (m1 2 j) (m1 0 j 0).toNatClampNeg 0) := ⟨_, rfl⟩
  have h7 := h8 m5 em5
  refine AW_iastore dX4_appendHouse_19 rfl (decide_eq_true hj) h6 em5.symm ?_
  refine AW_aload_n dX4_appendHouse_20 rfl ?_
  refine AW_getv (t := 0) (o := j) (k := 10) (some (3, none)) (v := aR 3 j) dX4_appendHouse_21 ff_X4_18 rfl (decide_eq_true hj) rfl ?_
  refine AW_aload_n dX4_appendHouse_24 rfl ?_
  refine AW_getv (t := 0) (o := j) (k := 0) none (v := aI (m5 0 j 0)) dX4_appendHouse_25 ff_X4_42 rfl (decide_eq_true hj) rfl ?_
  refine AW_iconst (v := 0) dX4_appendHouse_28 (by decide) ?_
  obtain ⟨h10, h12⟩ := h7
  obtain ⟨m9, em9⟩ : ∃ z : Mem, z = mset m5 3 j (upd (m5 3 j) (m5 0 j 0).toNatClampNeg 0) := ⟨_, rfl⟩
  have h11 := h12 m9 em9
  refine AW_iastore dX4_appendHouse_29 rfl (decide_eq_true hj) h10 em9.symm ?_
  refine AW_aload_n dX4_appendHouse_30 rfl ?_
  refine AW_dup dX4_appendHouse_31 rfl ?_
  refine AW_getv (t := 0) (o := j) (k := 0) none (v := aI (m9 0 j 0)) dX4_appendHouse_32 ff_X4_42 rfl (decide_eq_true hj) rfl ?_
  refine AW_iconst (v := 1) dX4_appendHouse_35 (by decide) ?_
  refine AW_iadd dX4_appendHouse_36 ?_
  obtain ⟨m13, em13⟩ : ∃ z : Mem, z = mset m9 0 j (upd (m9 0 j) 0 ((m9 0 j 0) + 1)) := ⟨_, rfl⟩
  have h14 := h11 m13 em13
  refine AW_putf (t := 0) (o := j) (k := 0) dX4_appendHouse_37 fp_X4_42 rfl (decide_eq_true hj) rfl rfl em13.symm ?_
  refine AW_aload_n dX4_appendHouse_40 rfl ?_
  refine AW_getv (t := 0) (o := j) (k := 0) none (v := aI (m13 0 j 0)) dX4_appendHouse_41 ff_X4_42 rfl (decide_eq_true hj) rfl ?_
  refine AW_iconst (v := 1) dX4_appendHouse_44 (by decide) ?_
  refine AW_isub dX4_appendHouse_45 ?_
  exact AW_ireturn (ty := .int) dX4_appendHouse_46 rfl rfl h14
set_option maxRecDepth 100000 in
theorem B_X4_appendSheet_0 {j : Nat} {a1 : Int32} {a2 : Int32} {a3 : Int32} {μ : Mem} {P : RES → Mem → Prop} (hj : j < 12) (h : vp_in (μ 0 j 1) 8 ∧ (∀ m1 : Mem, m1 = mset μ 4 j (upd (μ 4 j) (μ 0 j 1).toNatClampNeg a1) → vp_in (m1 0 j 1) 8 ∧ (∀ m5 : Mem, m5 = mset m1 5 j (upd (m1 5 j) (m1 0 j 1).toNatClampNeg a3) → AW M_X4_appendSheet 0 28 [some (aR 0 j), some (aI a1), some (aI a2), some (aI a3), some (aI a2), some (aI (a3 - 1))] [] m5 P))) : AW M_X4_appendSheet 0 0 [some (aR 0 j), some (aI a1), some (aI a2), some (aI a3), none, none] [] μ P := by
  refine AW_iload_n dX4_appendSheet_0 rfl ?_
  refine AW_istore (loc' := [some (aR 0 j), some (aI a1), some (aI a2), some (aI a3), some (aI a2), none]) dX4_appendSheet_1 (Nat.le_of_ble_eq_true rfl) rfl rfl ?_
  refine AW_aload_n dX4_appendSheet_3 rfl ?_
  refine AW_getv (t := 0) (o := j) (k := 11) (some (4, none)) (v := aR 4 j) dX4_appendSheet_4 ff_X4_21 rfl (decide_eq_true hj) rfl ?_
  refine AW_aload_n dX4_appendSheet_7 rfl ?_
  refine AW_getv (t := 0) (o := j) (k := 1) none (v := aI (μ 0 j 1)) dX4_appendSheet_8 ff_X4_46 rfl (decide_eq_true hj) rfl ?_
  refine AW_iload_n dX4_appendSheet_11 rfl ?_
  obtain ⟨h2, h4⟩ := h
  obtain ⟨m1, em1⟩ : ∃ z : Mem, z = mset μ 4 j (upd (μ 4 j) (μ 0 j 1).toNatClampNeg a1) := ⟨_, rfl⟩
  have h3 := h4 m1 em1
  refine AW_iastore dX4_appendSheet_12 rfl (decide_eq_true hj) h2 em1.symm ?_
  refine AW_aload_n dX4_appendSheet_13 rfl ?_
  refine AW_getv (t := 0) (o := j) (k := 12) (some (5, none)) (v := aR 5 j) dX4_appendSheet_14 ff_X4_24 rfl (decide_eq_true hj) rfl ?_
  refine AW_aload_n dX4_appendSheet_17 rfl ?_
  refine AW_getv (t := 0) (o := j) (k := 1) none (v := aI (m1 0 j 1)) dX4_appendSheet_18 ff_X4_46 rfl (decide_eq_true hj) rfl ?_
  refine AW_iload_n dX4_appendSheet_21 rfl ?_
  obtain ⟨h6, h8⟩ := h3
  obtain ⟨m5, em5⟩ : ∃ z : Mem, z = mset m1 5 j (upd (m1 5 j) (m1 0 j 1).toNatClampNeg a3) := ⟨_, rfl⟩
  have h7 := h8 m5 em5
  refine AW_iastore dX4_appendSheet_22 rfl (decide_eq_true hj) h6 em5.symm ?_
  refine AW_iload_n dX4_appendSheet_23 rfl ?_
  refine AW_iconst (v := 1) dX4_appendSheet_24 (by decide) ?_
  refine AW_isub dX4_appendSheet_25 ?_
  refine AW_istore (loc' := [some (aR 0 j), some (aI a1), some (aI a2), some (aI a3), some (aI a2), some (aI (a3 - 1))]) dX4_appendSheet_26 (Nat.le_of_ble_eq_true rfl) rfl rfl ?_
  exact h7
set_option maxRecDepth 100000 in
theorem B_X4_appendSheet_28 {j : Nat} {a1 : Int32} {a2 : Int32} {a3 : Int32} {a4 : Int32} {a5 : Int32} {μ : Mem} {P : RES → Mem → Prop} (hj : j < 12) (h : (a5 < 0 → ∀ m4 : Mem, m4 = mset μ 0 j (upd (μ 0 j) 1 ((μ 0 j 1) + 1)) → P (.inl (some (aI ((m4 0 j 1) - 1)))) m4) ∧ (¬ a5 < 0 → vp_in (((μ 0 j 1) * 8) + a5) 64 ∧ (∀ m7 : Mem, m7 = mset μ 6 j (upd (μ 6 j) (((μ 0 j 1) * 8) + a5).toNatClampNeg (a4 - a4 / 10 * 10)) → ∃ m11 : Mem, MetA M_X4_putLetter [aR 0 j, aI (m7 0 j 1), aI a5, aI (a4 - a4 / 10 * 10)] m7 (rV m11) ∧ (AW M_X4_appendSheet 0 28 [some (aR 0 j), some (aI a1), some (aI a2), some (aI a3), some (aI (a4 / 10)), some (aI (a5 + (-1)))] [] m11 P)))) : AW M_X4_appendSheet 0 28 [some (aR 0 j), some (aI a1), some (aI a2), some (aI a3), some (aI a4), some (aI a5)] [] μ P := by
  refine AW_iload dX4_appendSheet_28 rfl ?_
  refine AW_if_lt (tgt := 81) dX4_appendSheet_30 (by decide) (fun q3 => ?_) (fun q3 => ?_)
  · have h1 := h.1 q3
    refine AW_aload_n dX4_appendSheet_81 rfl ?_
    refine AW_dup dX4_appendSheet_82 rfl ?_
    refine AW_getv (t := 0) (o := j) (k := 1) none (v := aI (μ 0 j 1)) dX4_appendSheet_83 ff_X4_46 rfl (decide_eq_true hj) rfl ?_
    refine AW_iconst (v := 1) dX4_appendSheet_86 (by decide) ?_
    refine AW_iadd dX4_appendSheet_87 ?_
    obtain ⟨m4, em4⟩ : ∃ z : Mem, z = mset μ 0 j (upd (μ 0 j) 1 ((μ 0 j 1) + 1)) := ⟨_, rfl⟩
    have h5 := h1 m4 em4
    refine AW_putf (t := 0) (o := j) (k := 1) dX4_appendSheet_88 fp_X4_46 rfl (decide_eq_true hj) rfl rfl em4.symm ?_
    refine AW_aload_n dX4_appendSheet_91 rfl ?_
    refine AW_getv (t := 0) (o := j) (k := 1) none (v := aI (m4 0 j 1)) dX4_appendSheet_92 ff_X4_46 rfl (decide_eq_true hj) rfl ?_
    refine AW_iconst (v := 1) dX4_appendSheet_95 (by decide) ?_
    refine AW_isub dX4_appendSheet_96 ?_
    exact AW_ireturn (ty := .int) dX4_appendSheet_97 rfl rfl h5
  · have h2 := h.2 q3
    refine AW_aload_n dX4_appendSheet_33 rfl ?_
    refine AW_getv (t := 0) (o := j) (k := 13) (some (6, none)) (v := aR 6 j) dX4_appendSheet_34 ff_X4_27 rfl (decide_eq_true hj) rfl ?_
    refine AW_aload_n dX4_appendSheet_37 rfl ?_
    refine AW_getv (t := 0) (o := j) (k := 1) none (v := aI (μ 0 j 1)) dX4_appendSheet_38 ff_X4_46 rfl (decide_eq_true hj) rfl ?_
    refine AW_bipush (v := 8) dX4_appendSheet_41 (by decide) ?_
    refine AW_imul dX4_appendSheet_43 ?_
    refine AW_iload dX4_appendSheet_44 rfl ?_
    refine AW_iadd dX4_appendSheet_46 ?_
    refine AW_iload dX4_appendSheet_47 rfl ?_
    refine AW_bipush (v := 10) dX4_appendSheet_49 (by decide) ?_
    refine AW_irem dX4_appendSheet_51 (by decide) ?_
    obtain ⟨h8, h10⟩ := h2
    obtain ⟨m7, em7⟩ : ∃ z : Mem, z = mset μ 6 j (upd (μ 6 j) (((μ 0 j 1) * 8) + a5).toNatClampNeg (a4 - a4 / 10 * 10)) := ⟨_, rfl⟩
    have h9 := h10 m7 em7
    refine AW_iastore dX4_appendSheet_52 rfl (decide_eq_true hj) h8 em7.symm ?_
    refine AW_aload_n dX4_appendSheet_53 rfl ?_
    refine AW_aload_n dX4_appendSheet_54 rfl ?_
    refine AW_getv (t := 0) (o := j) (k := 1) none (v := aI (m7 0 j 1)) dX4_appendSheet_55 ff_X4_46 rfl (decide_eq_true hj) rfl ?_
    refine AW_iload dX4_appendSheet_58 rfl ?_
    refine AW_iload dX4_appendSheet_60 rfl ?_
    refine AW_bipush (v := 10) dX4_appendSheet_62 (by decide) ?_
    refine AW_irem dX4_appendSheet_64 (by decide) ?_
    obtain ⟨m11, h13, h12⟩ := h9
    refine AW_callVV [aI (m7 0 j 1), aI a5, aI (a4 - a4 / 10 * 10)] dX4_appendSheet_65 cv_X4_152 rfl rfl (decide_eq_true hj) (by decide) rfl (by decide) (Nat.le_of_ble_eq_true rfl) h13 ?_
    refine AW_iload dX4_appendSheet_68 rfl ?_
    refine AW_bipush (v := 10) dX4_appendSheet_70 (by decide) ?_
    refine AW_idiv dX4_appendSheet_72 (by decide) ?_
    refine AW_istore (loc' := [some (aR 0 j), some (aI a1), some (aI a2), some (aI a3), some (aI (a4 / 10)), some (aI a5)]) dX4_appendSheet_73 (Nat.le_of_ble_eq_true rfl) rfl rfl ?_
    refine AW_iinc (v := a5 + (-1)) (loc' := [some (aR 0 j), some (aI a1), some (aI a2), some (aI a3), some (aI (a4 / 10)), some (aI (a5 + (-1)))]) dX4_appendSheet_75 rfl rfl (Nat.le_of_ble_eq_true rfl) rfl rfl ?_
    refine AW_goto (tgt := 28) dX4_appendSheet_78 (by decide) ?_
    exact h12
set_option maxRecDepth 100000 in
theorem B_X4_appendReader_0 {j : Nat} {a1 : Int32} {a2 : Int32} {μ : Mem} {P : RES → Mem → Prop} (hj : j < 12) (h : vp_in (μ 0 j 2) 5 ∧ (∀ m1 : Mem, m1 = mset μ 9 j (upd (μ 9 j) (μ 0 j 2).toNatClampNeg a1) → vp_in (m1 0 j 2) 5 ∧ (∀ m5 : Mem, m5 = mset m1 10 j (upd (m1 10 j) (m1 0 j 2).toNatClampNeg a2) → ∀ m9 : Mem, m9 = mset m5 0 j (upd (m5 0 j) 2 ((m5 0 j 2) + 1)) → P (.inl (some (aI ((m9 0 j 2) - 1)))) m9))) : AW M_X4_appendReader 0 0 [some (aR 0 j), some (aI a1), some (aI a2)] [] μ P := by
  refine AW_aload_n dX4_appendReader_0 rfl ?_
  refine AW_getv (t := 0) (o := j) (k := 16) (some (9, none)) (v := aR 9 j) dX4_appendReader_1 ff_X4_36 rfl (decide_eq_true hj) rfl ?_
  refine AW_aload_n dX4_appendReader_4 rfl ?_
  refine AW_getv (t := 0) (o := j) (k := 2) none (v := aI (μ 0 j 2)) dX4_appendReader_5 ff_X4_49 rfl (decide_eq_true hj) rfl ?_
  refine AW_iload_n dX4_appendReader_8 rfl ?_
  obtain ⟨h2, h4⟩ := h
  obtain ⟨m1, em1⟩ : ∃ z : Mem, z = mset μ 9 j (upd (μ 9 j) (μ 0 j 2).toNatClampNeg a1) := ⟨_, rfl⟩
  have h3 := h4 m1 em1
  refine AW_iastore dX4_appendReader_9 rfl (decide_eq_true hj) h2 em1.symm ?_
  refine AW_aload_n dX4_appendReader_10 rfl ?_
  refine AW_getv (t := 0) (o := j) (k := 17) (some (10, none)) (v := aR 10 j) dX4_appendReader_11 ff_X4_39 rfl (decide_eq_true hj) rfl ?_
  refine AW_aload_n dX4_appendReader_14 rfl ?_
  refine AW_getv (t := 0) (o := j) (k := 2) none (v := aI (m1 0 j 2)) dX4_appendReader_15 ff_X4_49 rfl (decide_eq_true hj) rfl ?_
  refine AW_iload_n dX4_appendReader_18 rfl ?_
  obtain ⟨h6, h8⟩ := h3
  obtain ⟨m5, em5⟩ : ∃ z : Mem, z = mset m1 10 j (upd (m1 10 j) (m1 0 j 2).toNatClampNeg a2) := ⟨_, rfl⟩
  have h7 := h8 m5 em5
  refine AW_iastore dX4_appendReader_19 rfl (decide_eq_true hj) h6 em5.symm ?_
  refine AW_aload_n dX4_appendReader_20 rfl ?_
  refine AW_dup dX4_appendReader_21 rfl ?_
  refine AW_getv (t := 0) (o := j) (k := 2) none (v := aI (m5 0 j 2)) dX4_appendReader_22 ff_X4_49 rfl (decide_eq_true hj) rfl ?_
  refine AW_iconst (v := 1) dX4_appendReader_25 (by decide) ?_
  refine AW_iadd dX4_appendReader_26 ?_
  obtain ⟨m9, em9⟩ : ∃ z : Mem, z = mset m5 0 j (upd (m5 0 j) 2 ((m5 0 j 2) + 1)) := ⟨_, rfl⟩
  have h10 := h7 m9 em9
  refine AW_putf (t := 0) (o := j) (k := 2) dX4_appendReader_27 fp_X4_49 rfl (decide_eq_true hj) rfl rfl em9.symm ?_
  refine AW_aload_n dX4_appendReader_30 rfl ?_
  refine AW_getv (t := 0) (o := j) (k := 2) none (v := aI (m9 0 j 2)) dX4_appendReader_31 ff_X4_49 rfl (decide_eq_true hj) rfl ?_
  refine AW_iconst (v := 1) dX4_appendReader_34 (by decide) ?_
  refine AW_isub dX4_appendReader_35 ?_
  exact AW_ireturn (ty := .int) dX4_appendReader_36 rfl rfl h10
set_option maxRecDepth 100000 in
theorem B_X4_removeSheet_0 {j : Nat} {a1 : Int32} {μ : Mem} {P : RES → Mem → Prop} (hj : j < 12) (h : ¬ (a1 + 1) < 0 ∧ ¬ a1 < 0 ∧ ¬ (((μ 0 j 1) - a1) - 1) < 0 ∧ (a1 + 1).toNatClampNeg + (((μ 0 j 1) - a1) - 1).toNatClampNeg ≤ 8 ∧ a1.toNatClampNeg + (((μ 0 j 1) - a1) - 1).toNatClampNeg ≤ 8 ∧ (∀ m1 : Mem, m1 = mset μ 4 j (va_cpy (μ 4 j) (μ 4 j) (a1 + 1).toNatClampNeg a1.toNatClampNeg (((μ 0 j 1) - a1) - 1).toNatClampNeg) → ¬ (a1 + 1) < 0 ∧ ¬ a1 < 0 ∧ ¬ (((μ 0 j 1) - a1) - 1) < 0 ∧ (a1 + 1).toNatClampNeg + (((μ 0 j 1) - a1) - 1).toNatClampNeg ≤ 8 ∧ a1.toNatClampNeg + (((μ 0 j 1) - a1) - 1).toNatClampNeg ≤ 8 ∧ (∀ m9 : Mem, m9 = mset m1 5 j (va_cpy (m1 5 j) (m1 5 j) (a1 + 1).toNatClampNeg a1.toNatClampNeg (((μ 0 j 1) - a1) - 1).toNatClampNeg) → ¬ ((a1 + 1) * 8) < 0 ∧ ¬ (a1 * 8) < 0 ∧ ¬ ((((μ 0 j 1) - a1) - 1) * 8) < 0 ∧ ((a1 + 1) * 8).toNatClampNeg + ((((μ 0 j 1) - a1) - 1) * 8).toNatClampNeg ≤ 64 ∧ (a1 * 8).toNatClampNeg + ((((μ 0 j 1) - a1) - 1) * 8).toNatClampNeg ≤ 64 ∧ (∀ m17 : Mem, m17 = mset m9 6 j (va_cpy (m9 6 j) (m9 6 j) ((a1 + 1) * 8).toNatClampNeg (a1 * 8).toNatClampNeg ((((μ 0 j 1) - a1) - 1) * 8).toNatClampNeg) → ¬ ((a1 + 1) * 8) < 0 ∧ ¬ (a1 * 8) < 0 ∧ ¬ ((((μ 0 j 1) - a1) - 1) * 8) < 0 ∧ ((a1 + 1) * 8).toNatClampNeg + ((((μ 0 j 1) - a1) - 1) * 8).toNatClampNeg ≤ 64 ∧ (a1 * 8).toNatClampNeg + ((((μ 0 j 1) - a1) - 1) * 8).toNatClampNeg ≤ 64 ∧ (∀ m25 : Mem, m25 = mset m17 7 j (va_cpy (m17 7 j) (m17 7 j) ((a1 + 1) * 8).toNatClampNeg (a1 * 8).toNatClampNeg ((((μ 0 j 1) - a1) - 1) * 8).toNatClampNeg) → ¬ ((a1 + 1) * 8) < 0 ∧ ¬ (a1 * 8) < 0 ∧ ¬ ((((μ 0 j 1) - a1) - 1) * 8) < 0 ∧ ((a1 + 1) * 8).toNatClampNeg + ((((μ 0 j 1) - a1) - 1) * 8).toNatClampNeg ≤ 64 ∧ (a1 * 8).toNatClampNeg + ((((μ 0 j 1) - a1) - 1) * 8).toNatClampNeg ≤ 64 ∧ (∀ m33 : Mem, m33 = mset m25 8 j (va_cpy (m25 8 j) (m25 8 j) ((a1 + 1) * 8).toNatClampNeg (a1 * 8).toNatClampNeg ((((μ 0 j 1) - a1) - 1) * 8).toNatClampNeg) → ∀ m41 : Mem, m41 = mset m33 0 j (upd (m33 0 j) 1 ((m33 0 j 1) - 1)) → P (.inl none) m41)))))) : AW M_X4_removeSheet 0 0 [some (aR 0 j), some (aI a1), none, none, none] [] μ P := by
  refine AW_aload_n dX4_removeSheet_0 rfl ?_
  refine AW_getv (t := 0) (o := j) (k := 1) none (v := aI (μ 0 j 1)) dX4_removeSheet_1 ff_X4_46 rfl (decide_eq_true hj) rfl ?_
  refine AW_iload_n dX4_removeSheet_4 rfl ?_
  refine AW_isub dX4_removeSheet_5 ?_
  refine AW_iconst (v := 1) dX4_removeSheet_6 (by decide) ?_
  refine AW_isub dX4_removeSheet_7 ?_
  refine AW_istore_n (loc' := [some (aR 0 j), some (aI a1), some (aI (((μ 0 j 1) - a1) - 1)), none, none]) dX4_removeSheet_8 (Nat.le_of_ble_eq_true rfl) rfl rfl ?_
  refine AW_iload_n dX4_removeSheet_9 rfl ?_
  refine AW_iconst (v := 1) dX4_removeSheet_10 (by decide) ?_
  refine AW_iadd dX4_removeSheet_11 ?_
  refine AW_bipush (v := 8) dX4_removeSheet_12 (by decide) ?_
  refine AW_imul dX4_removeSheet_14 ?_
  refine AW_istore_n (loc' := [some (aR 0 j), some (aI a1), some (aI (((μ 0 j 1) - a1) - 1)), some (aI ((a1 + 1) * 8)), none]) dX4_removeSheet_15 (Nat.le_of_ble_eq_true rfl) rfl rfl ?_
  refine AW_iload_n dX4_removeSheet_16 rfl ?_
  refine AW_bipush (v := 8) dX4_removeSheet_17 (by decide) ?_
  refine AW_imul dX4_removeSheet_19 ?_
  refine AW_istore (loc' := [some (aR 0 j), some (aI a1), some (aI (((μ 0 j 1) - a1) - 1)), some (aI ((a1 + 1) * 8)), some (aI (a1 * 8))]) dX4_removeSheet_20 (Nat.le_of_ble_eq_true rfl) rfl rfl ?_
  refine AW_aload_n dX4_removeSheet_22 rfl ?_
  refine AW_getv (t := 0) (o := j) (k := 11) (some (4, none)) (v := aR 4 j) dX4_removeSheet_23 ff_X4_21 rfl (decide_eq_true hj) rfl ?_
  refine AW_iload_n dX4_removeSheet_26 rfl ?_
  refine AW_iconst (v := 1) dX4_removeSheet_27 (by decide) ?_
  refine AW_iadd dX4_removeSheet_28 ?_
  refine AW_aload_n dX4_removeSheet_29 rfl ?_
  refine AW_getv (t := 0) (o := j) (k := 11) (some (4, none)) (v := aR 4 j) dX4_removeSheet_30 ff_X4_21 rfl (decide_eq_true hj) rfl ?_
  refine AW_iload_n dX4_removeSheet_33 rfl ?_
  refine AW_iload_n dX4_removeSheet_34 rfl ?_
  obtain ⟨h2, h3, h4, h5, h6, h7⟩ := h
  obtain ⟨m1, em1⟩ : ∃ z : Mem, z = mset μ 4 j (va_cpy (μ 4 j) (μ 4 j) (a1 + 1).toNatClampNeg a1.toNatClampNeg (((μ 0 j 1) - a1) - 1).toNatClampNeg) := ⟨_, rfl⟩
  have h8 := h7 m1 em1
  refine AW_copy dX4_removeSheet_35 w_237 rfl (decide_eq_true hj) rfl (decide_eq_true hj) h2 h3 h4 h5 h6 (by decide) (Nat.le_of_ble_eq_true rfl) em1.symm ?_
  refine AW_aload_n dX4_removeSheet_38 rfl ?_
  refine AW_getv (t := 0) (o := j) (k := 12) (some (5, none)) (v := aR 5 j) dX4_removeSheet_39 ff_X4_24 rfl (decide_eq_true hj) rfl ?_
  refine AW_iload_n dX4_removeSheet_42 rfl ?_
  refine AW_iconst (v := 1) dX4_removeSheet_43 (by decide) ?_
  refine AW_iadd dX4_removeSheet_44 ?_
  refine AW_aload_n dX4_removeSheet_45 rfl ?_
  refine AW_getv (t := 0) (o := j) (k := 12) (some (5, none)) (v := aR 5 j) dX4_removeSheet_46 ff_X4_24 rfl (decide_eq_true hj) rfl ?_
  refine AW_iload_n dX4_removeSheet_49 rfl ?_
  refine AW_iload_n dX4_removeSheet_50 rfl ?_
  obtain ⟨h10, h11, h12, h13, h14, h15⟩ := h8
  obtain ⟨m9, em9⟩ : ∃ z : Mem, z = mset m1 5 j (va_cpy (m1 5 j) (m1 5 j) (a1 + 1).toNatClampNeg a1.toNatClampNeg (((μ 0 j 1) - a1) - 1).toNatClampNeg) := ⟨_, rfl⟩
  have h16 := h15 m9 em9
  refine AW_copy dX4_removeSheet_51 w_237 rfl (decide_eq_true hj) rfl (decide_eq_true hj) h10 h11 h12 h13 h14 (by decide) (Nat.le_of_ble_eq_true rfl) em9.symm ?_
  refine AW_aload_n dX4_removeSheet_54 rfl ?_
  refine AW_getv (t := 0) (o := j) (k := 13) (some (6, none)) (v := aR 6 j) dX4_removeSheet_55 ff_X4_27 rfl (decide_eq_true hj) rfl ?_
  refine AW_iload_n dX4_removeSheet_58 rfl ?_
  refine AW_aload_n dX4_removeSheet_59 rfl ?_
  refine AW_getv (t := 0) (o := j) (k := 13) (some (6, none)) (v := aR 6 j) dX4_removeSheet_60 ff_X4_27 rfl (decide_eq_true hj) rfl ?_
  refine AW_iload dX4_removeSheet_63 rfl ?_
  refine AW_iload_n dX4_removeSheet_65 rfl ?_
  refine AW_bipush (v := 8) dX4_removeSheet_66 (by decide) ?_
  refine AW_imul dX4_removeSheet_68 ?_
  obtain ⟨h18, h19, h20, h21, h22, h23⟩ := h16
  obtain ⟨m17, em17⟩ : ∃ z : Mem, z = mset m9 6 j (va_cpy (m9 6 j) (m9 6 j) ((a1 + 1) * 8).toNatClampNeg (a1 * 8).toNatClampNeg ((((μ 0 j 1) - a1) - 1) * 8).toNatClampNeg) := ⟨_, rfl⟩
  have h24 := h23 m17 em17
  refine AW_copy dX4_removeSheet_69 w_237 rfl (decide_eq_true hj) rfl (decide_eq_true hj) h18 h19 h20 h21 h22 (by decide) (Nat.le_of_ble_eq_true rfl) em17.symm ?_
  refine AW_aload_n dX4_removeSheet_72 rfl ?_
  refine AW_getv (t := 0) (o := j) (k := 14) (some (7, none)) (v := aR 7 j) dX4_removeSheet_73 ff_X4_30 rfl (decide_eq_true hj) rfl ?_
  refine AW_iload_n dX4_removeSheet_76 rfl ?_
  refine AW_aload_n dX4_removeSheet_77 rfl ?_
  refine AW_getv (t := 0) (o := j) (k := 14) (some (7, none)) (v := aR 7 j) dX4_removeSheet_78 ff_X4_30 rfl (decide_eq_true hj) rfl ?_
  refine AW_iload dX4_removeSheet_81 rfl ?_
  refine AW_iload_n dX4_removeSheet_83 rfl ?_
  refine AW_bipush (v := 8) dX4_removeSheet_84 (by decide) ?_
  refine AW_imul dX4_removeSheet_86 ?_
  obtain ⟨h26, h27, h28, h29, h30, h31⟩ := h24
  obtain ⟨m25, em25⟩ : ∃ z : Mem, z = mset m17 7 j (va_cpy (m17 7 j) (m17 7 j) ((a1 + 1) * 8).toNatClampNeg (a1 * 8).toNatClampNeg ((((μ 0 j 1) - a1) - 1) * 8).toNatClampNeg) := ⟨_, rfl⟩
  have h32 := h31 m25 em25
  refine AW_copy dX4_removeSheet_87 w_237 rfl (decide_eq_true hj) rfl (decide_eq_true hj) h26 h27 h28 h29 h30 (by decide) (Nat.le_of_ble_eq_true rfl) em25.symm ?_
  refine AW_aload_n dX4_removeSheet_90 rfl ?_
  refine AW_getv (t := 0) (o := j) (k := 15) (some (8, none)) (v := aR 8 j) dX4_removeSheet_91 ff_X4_33 rfl (decide_eq_true hj) rfl ?_
  refine AW_iload_n dX4_removeSheet_94 rfl ?_
  refine AW_aload_n dX4_removeSheet_95 rfl ?_
  refine AW_getv (t := 0) (o := j) (k := 15) (some (8, none)) (v := aR 8 j) dX4_removeSheet_96 ff_X4_33 rfl (decide_eq_true hj) rfl ?_
  refine AW_iload dX4_removeSheet_99 rfl ?_
  refine AW_iload_n dX4_removeSheet_101 rfl ?_
  refine AW_bipush (v := 8) dX4_removeSheet_102 (by decide) ?_
  refine AW_imul dX4_removeSheet_104 ?_
  obtain ⟨h34, h35, h36, h37, h38, h39⟩ := h32
  obtain ⟨m33, em33⟩ : ∃ z : Mem, z = mset m25 8 j (va_cpy (m25 8 j) (m25 8 j) ((a1 + 1) * 8).toNatClampNeg (a1 * 8).toNatClampNeg ((((μ 0 j 1) - a1) - 1) * 8).toNatClampNeg) := ⟨_, rfl⟩
  have h40 := h39 m33 em33
  refine AW_copy dX4_removeSheet_105 w_237 rfl (decide_eq_true hj) rfl (decide_eq_true hj) h34 h35 h36 h37 h38 (by decide) (Nat.le_of_ble_eq_true rfl) em33.symm ?_
  refine AW_aload_n dX4_removeSheet_108 rfl ?_
  refine AW_dup dX4_removeSheet_109 rfl ?_
  refine AW_getv (t := 0) (o := j) (k := 1) none (v := aI (m33 0 j 1)) dX4_removeSheet_110 ff_X4_46 rfl (decide_eq_true hj) rfl ?_
  refine AW_iconst (v := 1) dX4_removeSheet_113 (by decide) ?_
  refine AW_isub dX4_removeSheet_114 ?_
  obtain ⟨m41, em41⟩ : ∃ z : Mem, z = mset m33 0 j (upd (m33 0 j) 1 ((m33 0 j 1) - 1)) := ⟨_, rfl⟩
  have h42 := h40 m41 em41
  refine AW_putf (t := 0) (o := j) (k := 1) dX4_removeSheet_115 fp_X4_46 rfl (decide_eq_true hj) rfl rfl em41.symm ?_
  exact AW_return dX4_removeSheet_118 rfl h42
set_option maxRecDepth 100000 in
theorem B_X4_putLetter_0 {j : Nat} {a1 : Int32} {a2 : Int32} {a3 : Int32} {μ : Mem} {P : RES → Mem → Prop} (hj : j < 12) (h : vp_in ((a1 * 8) + a2) 64 ∧ (∀ m1 : Mem, m1 = mset μ 7 j (upd (μ 7 j) ((a1 * 8) + a2).toNatClampNeg a3) → vp_in ((a1 * 8) + a2) 64 ∧ ((¬ a3 = (m1 6 j ((a1 * 8) + a2).toNatClampNeg) → vp_in ((a1 * 8) + a2) 64 ∧ (∀ m10 : Mem, m10 = mset m1 8 j (upd (m1 8 j) ((a1 * 8) + a2).toNatClampNeg 1) → P (.inl none) m10)) ∧ (a3 = (m1 6 j ((a1 * 8) + a2).toNatClampNeg) → vp_in ((a1 * 8) + a2) 64 ∧ (∀ m14 : Mem, m14 = mset m1 8 j (upd (m1 8 j) ((a1 * 8) + a2).toNatClampNeg 0) → P (.inl none) m14))))) : AW M_X4_putLetter 0 0 [some (aR 0 j), some (aI a1), some (aI a2), some (aI a3), none] [] μ P := by
  refine AW_iload_n dX4_putLetter_0 rfl ?_
  refine AW_bipush (v := 8) dX4_putLetter_1 (by decide) ?_
  refine AW_imul dX4_putLetter_3 ?_
  refine AW_iload_n dX4_putLetter_4 rfl ?_
  refine AW_iadd dX4_putLetter_5 ?_
  refine AW_istore (loc' := [some (aR 0 j), some (aI a1), some (aI a2), some (aI a3), some (aI ((a1 * 8) + a2))]) dX4_putLetter_6 (Nat.le_of_ble_eq_true rfl) rfl rfl ?_
  refine AW_aload_n dX4_putLetter_8 rfl ?_
  refine AW_getv (t := 0) (o := j) (k := 14) (some (7, none)) (v := aR 7 j) dX4_putLetter_9 ff_X4_30 rfl (decide_eq_true hj) rfl ?_
  refine AW_iload dX4_putLetter_12 rfl ?_
  refine AW_iload_n dX4_putLetter_14 rfl ?_
  obtain ⟨h2, h4⟩ := h
  obtain ⟨m1, em1⟩ : ∃ z : Mem, z = mset μ 7 j (upd (μ 7 j) ((a1 * 8) + a2).toNatClampNeg a3) := ⟨_, rfl⟩
  have h3 := h4 m1 em1
  refine AW_iastore dX4_putLetter_15 rfl (decide_eq_true hj) h2 em1.symm ?_
  refine AW_aload_n dX4_putLetter_16 rfl ?_
  refine AW_getv (t := 0) (o := j) (k := 15) (some (8, none)) (v := aR 8 j) dX4_putLetter_17 ff_X4_33 rfl (decide_eq_true hj) rfl ?_
  refine AW_iload dX4_putLetter_20 rfl ?_
  refine AW_iload_n dX4_putLetter_22 rfl ?_
  refine AW_aload_n dX4_putLetter_23 rfl ?_
  refine AW_getv (t := 0) (o := j) (k := 13) (some (6, none)) (v := aR 6 j) dX4_putLetter_24 ff_X4_27 rfl (decide_eq_true hj) rfl ?_
  refine AW_iload dX4_putLetter_27 rfl ?_
  obtain ⟨h5, h6⟩ := h3
  refine AW_iaload dX4_putLetter_29 rfl (decide_eq_true hj) h5 ?_
  refine AW_icmp_ne (tgt := 37) dX4_putLetter_30 (by decide) (fun q9 => ?_) (fun q9 => ?_)
  · have h7 := h6.1 q9
    refine AW_iconst (v := 1) dX4_putLetter_37 (by decide) ?_
    obtain ⟨h11, h13⟩ := h7
    obtain ⟨m10, em10⟩ : ∃ z : Mem, z = mset m1 8 j (upd (m1 8 j) ((a1 * 8) + a2).toNatClampNeg 1) := ⟨_, rfl⟩
    have h12 := h13 m10 em10
    refine AW_iastore dX4_putLetter_38 rfl (decide_eq_true hj) h11 em10.symm ?_
    exact AW_return dX4_putLetter_39 rfl h12
  · have h8 := h6.2 q9
    refine AW_iconst (v := 0) dX4_putLetter_33 (by decide) ?_
    refine AW_goto (tgt := 38) dX4_putLetter_34 (by decide) ?_
    obtain ⟨h15, h17⟩ := h8
    obtain ⟨m14, em14⟩ : ∃ z : Mem, z = mset m1 8 j (upd (m1 8 j) ((a1 * 8) + a2).toNatClampNeg 0) := ⟨_, rfl⟩
    have h16 := h17 m14 em14
    refine AW_iastore dX4_putLetter_38 rfl (decide_eq_true hj) h15 em14.symm ?_
    exact AW_return dX4_putLetter_39 rfl h16
set_option maxRecDepth 100000 in
theorem B_X4_printOne_0 {j : Nat} {a1 : Int32} {a2 : Int32} {μ : Mem} {P : RES → Mem → Prop} (hj : j < 12) (h : vp_in a1 8 ∧ (∃ (r6 : Int32) (m3 : Mem), MetA M_X4_laughersAt [aR 0 j, aI a1, aI a2] μ (rI r6 m3) ∧ (∃ (r10 : Int32) (m7 : Mem), MetA M_J6_bitCount_0f7a4 [aI r6] m3 (rI r10 m7) ∧ (vp_in (μ 4 j a1.toNatClampNeg) 4 ∧ (∃ (r16 : Int32) (m13 : Mem), MetA M_X4_howBad [aR 0 j, aI a1, aI a2] m7 (rI r16 m13) ∧ (∃ (r20 : Int32) (m17 : Mem), MetA M_X5_atMostKept [aI ((m7 2 j (μ 4 j a1.toNatClampNeg).toNatClampNeg) + r16)] m13 (rI r20 m17) ∧ (vp_in (μ 4 j a1.toNatClampNeg) 4 ∧ (∀ m21 : Mem, m21 = mset m17 2 j (upd (m17 2 j) (μ 4 j a1.toNatClampNeg).toNatClampNeg r20) → vp_in (μ 4 j a1.toNatClampNeg) 4 ∧ (∃ (r30 : Int32) (m27 : Mem), MetA M_X5_atMostKept [aI ((m21 1 j (μ 4 j a1.toNatClampNeg).toNatClampNeg) + r10)] m21 (rI r30 m27) ∧ (vp_in (μ 4 j a1.toNatClampNeg) 4 ∧ (∀ m31 : Mem, m31 = mset m27 1 j (upd (m27 1 j) (μ 4 j a1.toNatClampNeg).toNatClampNeg r30) → vp_in ((a1 * 8) + a2) 64 ∧ (∀ m35 : Mem, m35 = mset m31 8 j (upd (m31 8 j) ((a1 * 8) + a2).toNatClampNeg 3) → ∀ m39 : Mem, m39 = mset m35 0 j (upd (m35 0 j) 5 ((m35 0 j 5) + 1)) → P (.inl (some (aI r10))) m39)))))))))))) : AW M_X4_printOne 0 0 [some (aR 0 j), some (aI a1), some (aI a2), none, none] [] μ P := by
  refine AW_aload_n dX4_printOne_0 rfl ?_
  refine AW_getv (t := 0) (o := j) (k := 11) (some (4, none)) (v := aR 4 j) dX4_printOne_1 ff_X4_21 rfl (decide_eq_true hj) rfl ?_
  refine AW_iload_n dX4_printOne_4 rfl ?_
  obtain ⟨h1, h2⟩ := h
  refine AW_iaload dX4_printOne_5 rfl (decide_eq_true hj) h1 ?_
  refine AW_istore_n (loc' := [some (aR 0 j), some (aI a1), some (aI a2), some (aI (μ 4 j a1.toNatClampNeg)), none]) dX4_printOne_6 (Nat.le_of_ble_eq_true rfl) rfl rfl ?_
  refine AW_aload_n dX4_printOne_7 rfl ?_
  refine AW_iload_n dX4_printOne_8 rfl ?_
  refine AW_iload_n dX4_printOne_9 rfl ?_
  obtain ⟨r6, m3, h5, h4⟩ := h2
  refine AW_callVI [aI a1, aI a2] dX4_printOne_10 cv_X4_128 rfl rfl (decide_eq_true hj) (by decide) rfl (by decide) (Nat.le_of_ble_eq_true rfl) h5 ?_
  obtain ⟨r10, m7, h9, h8⟩ := h4
  refine AW_callSI [aI r6] dX4_printOne_13 cs_X4_131 rfl rfl (by decide) rfl (by decide) (Nat.le_of_ble_eq_true rfl) h9 ?_
  refine AW_istore (loc' := [some (aR 0 j), some (aI a1), some (aI a2), some (aI (μ 4 j a1.toNatClampNeg)), some (aI r10)]) dX4_printOne_16 (Nat.le_of_ble_eq_true rfl) rfl rfl ?_
  refine AW_aload_n dX4_printOne_18 rfl ?_
  refine AW_getv (t := 0) (o := j) (k := 9) (some (2, none)) (v := aR 2 j) dX4_printOne_19 ff_X4_15 rfl (decide_eq_true hj) rfl ?_
  refine AW_iload_n dX4_printOne_22 rfl ?_
  refine AW_aload_n dX4_printOne_23 rfl ?_
  refine AW_getv (t := 0) (o := j) (k := 9) (some (2, none)) (v := aR 2 j) dX4_printOne_24 ff_X4_15 rfl (decide_eq_true hj) rfl ?_
  refine AW_iload_n dX4_printOne_27 rfl ?_
  obtain ⟨h11, h12⟩ := h8
  refine AW_iaload dX4_printOne_28 rfl (decide_eq_true hj) h11 ?_
  refine AW_aload_n dX4_printOne_29 rfl ?_
  refine AW_iload_n dX4_printOne_30 rfl ?_
  refine AW_iload_n dX4_printOne_31 rfl ?_
  obtain ⟨r16, m13, h15, h14⟩ := h12
  refine AW_callVI [aI a1, aI a2] dX4_printOne_32 cv_X4_93 rfl rfl (decide_eq_true hj) (by decide) rfl (by decide) (Nat.le_of_ble_eq_true rfl) h15 ?_
  refine AW_iadd dX4_printOne_35 ?_
  obtain ⟨r20, m17, h19, h18⟩ := h14
  refine AW_callNI [aI ((m7 2 j (μ 4 j a1.toNatClampNeg).toNatClampNeg) + r16)] dX4_printOne_36 cn_X4_156 rfl rfl (by decide) rfl (by decide) (Nat.le_of_ble_eq_true rfl) h19 ?_
  obtain ⟨h22, h24⟩ := h18
  obtain ⟨m21, em21⟩ : ∃ z : Mem, z = mset m17 2 j (upd (m17 2 j) (μ 4 j a1.toNatClampNeg).toNatClampNeg r20) := ⟨_, rfl⟩
  have h23 := h24 m21 em21
  refine AW_iastore dX4_printOne_39 rfl (decide_eq_true hj) h22 em21.symm ?_
  refine AW_aload_n dX4_printOne_40 rfl ?_
  refine AW_getv (t := 0) (o := j) (k := 8) (some (1, none)) (v := aR 1 j) dX4_printOne_41 ff_X4_9 rfl (decide_eq_true hj) rfl ?_
  refine AW_iload_n dX4_printOne_44 rfl ?_
  refine AW_aload_n dX4_printOne_45 rfl ?_
  refine AW_getv (t := 0) (o := j) (k := 8) (some (1, none)) (v := aR 1 j) dX4_printOne_46 ff_X4_9 rfl (decide_eq_true hj) rfl ?_
  refine AW_iload_n dX4_printOne_49 rfl ?_
  obtain ⟨h25, h26⟩ := h23
  refine AW_iaload dX4_printOne_50 rfl (decide_eq_true hj) h25 ?_
  refine AW_iload dX4_printOne_51 rfl ?_
  refine AW_iadd dX4_printOne_53 ?_
  obtain ⟨r30, m27, h29, h28⟩ := h26
  refine AW_callNI [aI ((m21 1 j (μ 4 j a1.toNatClampNeg).toNatClampNeg) + r10)] dX4_printOne_54 cn_X4_156 rfl rfl (by decide) rfl (by decide) (Nat.le_of_ble_eq_true rfl) h29 ?_
  obtain ⟨h32, h34⟩ := h28
  obtain ⟨m31, em31⟩ : ∃ z : Mem, z = mset m27 1 j (upd (m27 1 j) (μ 4 j a1.toNatClampNeg).toNatClampNeg r30) := ⟨_, rfl⟩
  have h33 := h34 m31 em31
  refine AW_iastore dX4_printOne_57 rfl (decide_eq_true hj) h32 em31.symm ?_
  refine AW_aload_n dX4_printOne_58 rfl ?_
  refine AW_getv (t := 0) (o := j) (k := 15) (some (8, none)) (v := aR 8 j) dX4_printOne_59 ff_X4_33 rfl (decide_eq_true hj) rfl ?_
  refine AW_iload_n dX4_printOne_62 rfl ?_
  refine AW_bipush (v := 8) dX4_printOne_63 (by decide) ?_
  refine AW_imul dX4_printOne_65 ?_
  refine AW_iload_n dX4_printOne_66 rfl ?_
  refine AW_iadd dX4_printOne_67 ?_
  refine AW_iconst (v := 3) dX4_printOne_68 (by decide) ?_
  obtain ⟨h36, h38⟩ := h33
  obtain ⟨m35, em35⟩ : ∃ z : Mem, z = mset m31 8 j (upd (m31 8 j) ((a1 * 8) + a2).toNatClampNeg 3) := ⟨_, rfl⟩
  have h37 := h38 m35 em35
  refine AW_iastore dX4_printOne_69 rfl (decide_eq_true hj) h36 em35.symm ?_
  refine AW_aload_n dX4_printOne_70 rfl ?_
  refine AW_dup dX4_printOne_71 rfl ?_
  refine AW_getv (t := 0) (o := j) (k := 5) none (v := aI (m35 0 j 5)) dX4_printOne_72 ff_X4_58 rfl (decide_eq_true hj) rfl ?_
  refine AW_iconst (v := 1) dX4_printOne_75 (by decide) ?_
  refine AW_iadd dX4_printOne_76 ?_
  obtain ⟨m39, em39⟩ : ∃ z : Mem, z = mset m35 0 j (upd (m35 0 j) 5 ((m35 0 j 5) + 1)) := ⟨_, rfl⟩
  have h40 := h37 m39 em39
  refine AW_putf (t := 0) (o := j) (k := 5) dX4_printOne_77 fp_X4_58 rfl (decide_eq_true hj) rfl rfl em39.symm ?_
  refine AW_iload dX4_printOne_80 rfl ?_
  exact AW_ireturn (ty := .int) dX4_printOne_82 rfl rfl h40
set_option maxRecDepth 100000 in
theorem B_X4_passDay_0 {j : Nat} {μ : Mem} {P : RES → Mem → Prop} (hj : j < 12) (h : AW M_X4_passDay 0 2 [some (aR 0 j), some (aI 0)] [] μ P) : AW M_X4_passDay 0 0 [some (aR 0 j), none] [] μ P := by
  refine AW_iconst (v := 0) dX4_passDay_0 (by decide) ?_
  refine AW_istore_n (loc' := [some (aR 0 j), some (aI 0)]) dX4_passDay_1 (Nat.le_of_ble_eq_true rfl) rfl rfl ?_
  exact h
set_option maxRecDepth 100000 in
theorem B_X4_passDay_2 {j : Nat} {a1 : Int32} {μ : Mem} {P : RES → Mem → Prop} (hj : j < 12) (h : ((μ 0 j 0) ≤ a1 → ∀ m4 : Mem, m4 = mset μ 0 j (upd (μ 0 j) 3 ((μ 0 j 3) + 1)) → ∃ (r10 : Int32) (m7 : Mem), MetA M_X4_ashamedHouses [aR 0 j] m4 (rI r10 m7) ∧ (P (.inl (some (aI r10))) m7)) ∧ (¬ (μ 0 j 0) ≤ a1 → vp_in a1 4 ∧ (∀ r13 : Int32, r13 = (if 0 < ((μ 2 j a1.toNatClampNeg) - 1) then ((μ 2 j a1.toNatClampNeg) - 1) else 0) → vp_in a1 4 ∧ (∀ m15 : Mem, m15 = mset μ 2 j (upd (μ 2 j) a1.toNatClampNeg r13) → vp_in a1 4 ∧ (∃ (r24 : Int32) (m21 : Mem), MetA M_X5_atMostKept [aI ((m15 1 j a1.toNatClampNeg) + 1)] m15 (rI r24 m21) ∧ (vp_in a1 4 ∧ (∀ m25 : Mem, m25 = mset m21 1 j (upd (m21 1 j) a1.toNatClampNeg r24) → AW M_X4_passDay 0 2 [some (aR 0 j), some (aI (a1 + 1))] [] m25 P))))))) : AW M_X4_passDay 0 2 [some (aR 0 j), some (aI a1)] [] μ P := by
  refine AW_iload_n dX4_passDay_2 rfl ?_
  refine AW_aload_n dX4_passDay_3 rfl ?_
  refine AW_getv (t := 0) (o := j) (k := 0) none (v := aI (μ 0 j 0)) dX4_passDay_4 ff_X4_42 rfl (decide_eq_true hj) rfl ?_
  refine AW_icmp_ge (tgt := 51) dX4_passDay_7 (by decide) (fun q3 => ?_) (fun q3 => ?_)
  · have h1 := h.1 q3
    refine AW_aload_n dX4_passDay_51 rfl ?_
    refine AW_dup dX4_passDay_52 rfl ?_
    refine AW_getv (t := 0) (o := j) (k := 3) none (v := aI (μ 0 j 3)) dX4_passDay_53 ff_X4_52 rfl (decide_eq_true hj) rfl ?_
    refine AW_iconst (v := 1) dX4_passDay_56 (by decide) ?_
    refine AW_iadd dX4_passDay_57 ?_
    obtain ⟨m4, em4⟩ : ∃ z : Mem, z = mset μ 0 j (upd (μ 0 j) 3 ((μ 0 j 3) + 1)) := ⟨_, rfl⟩
    have h5 := h1 m4 em4
    refine AW_putf (t := 0) (o := j) (k := 3) dX4_passDay_58 fp_X4_52 rfl (decide_eq_true hj) rfl rfl em4.symm ?_
    refine AW_aload_n dX4_passDay_61 rfl ?_
    obtain ⟨r10, m7, h9, h8⟩ := h5
    refine AW_callVI [] dX4_passDay_62 cv_X4_159 rfl rfl (decide_eq_true hj) (by decide) rfl (by decide) (Nat.le_of_ble_eq_true rfl) h9 ?_
    exact AW_ireturn (ty := .int) dX4_passDay_65 rfl rfl h8
  · have h2 := h.2 q3
    refine AW_aload_n dX4_passDay_10 rfl ?_
    refine AW_getv (t := 0) (o := j) (k := 9) (some (2, none)) (v := aR 2 j) dX4_passDay_11 ff_X4_15 rfl (decide_eq_true hj) rfl ?_
    refine AW_iload_n dX4_passDay_14 rfl ?_
    refine AW_iconst (v := 0) dX4_passDay_15 (by decide) ?_
    refine AW_aload_n dX4_passDay_16 rfl ?_
    refine AW_getv (t := 0) (o := j) (k := 9) (some (2, none)) (v := aR 2 j) dX4_passDay_17 ff_X4_15 rfl (decide_eq_true hj) rfl ?_
    refine AW_iload_n dX4_passDay_20 rfl ?_
    obtain ⟨h11, h12⟩ := h2
    refine AW_iaload dX4_passDay_21 rfl (decide_eq_true hj) h11 ?_
    refine AW_iconst (v := 1) dX4_passDay_22 (by decide) ?_
    refine AW_isub dX4_passDay_23 ?_
    obtain ⟨r13, er13⟩ : ∃ z : Int32, z = (if 0 < ((μ 2 j a1.toNatClampNeg) - 1) then ((μ 2 j a1.toNatClampNeg) - 1) else 0) := ⟨_, rfl⟩
    have h14 := h12 r13 er13
    refine AW_mmax dX4_passDay_24 w_244 (by decide) (Nat.le_of_ble_eq_true rfl) er13.symm ?_
    obtain ⟨h16, h18⟩ := h14
    obtain ⟨m15, em15⟩ : ∃ z : Mem, z = mset μ 2 j (upd (μ 2 j) a1.toNatClampNeg r13) := ⟨_, rfl⟩
    have h17 := h18 m15 em15
    refine AW_iastore dX4_passDay_27 rfl (decide_eq_true hj) h16 em15.symm ?_
    refine AW_aload_n dX4_passDay_28 rfl ?_
    refine AW_getv (t := 0) (o := j) (k := 8) (some (1, none)) (v := aR 1 j) dX4_passDay_29 ff_X4_9 rfl (decide_eq_true hj) rfl ?_
    refine AW_iload_n dX4_passDay_32 rfl ?_
    refine AW_aload_n dX4_passDay_33 rfl ?_
    refine AW_getv (t := 0) (o := j) (k := 8) (some (1, none)) (v := aR 1 j) dX4_passDay_34 ff_X4_9 rfl (decide_eq_true hj) rfl ?_
    refine AW_iload_n dX4_passDay_37 rfl ?_
    obtain ⟨h19, h20⟩ := h17
    refine AW_iaload dX4_passDay_38 rfl (decide_eq_true hj) h19 ?_
    refine AW_iconst (v := 1) dX4_passDay_39 (by decide) ?_
    refine AW_iadd dX4_passDay_40 ?_
    obtain ⟨r24, m21, h23, h22⟩ := h20
    refine AW_callNI [aI ((m15 1 j a1.toNatClampNeg) + 1)] dX4_passDay_41 cn_X4_156 rfl rfl (by decide) rfl (by decide) (Nat.le_of_ble_eq_true rfl) h23 ?_
    obtain ⟨h26, h28⟩ := h22
    obtain ⟨m25, em25⟩ : ∃ z : Mem, z = mset m21 1 j (upd (m21 1 j) a1.toNatClampNeg r24) := ⟨_, rfl⟩
    have h27 := h28 m25 em25
    refine AW_iastore dX4_passDay_44 rfl (decide_eq_true hj) h26 em25.symm ?_
    refine AW_iinc (v := a1 + 1) (loc' := [some (aR 0 j), some (aI (a1 + 1))]) dX4_passDay_45 rfl rfl (Nat.le_of_ble_eq_true rfl) rfl rfl ?_
    refine AW_goto (tgt := 2) dX4_passDay_48 (by decide) ?_
    exact h27
