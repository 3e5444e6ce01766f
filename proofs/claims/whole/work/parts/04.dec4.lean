theorem dX4_init_0 : decode cX4_init 0 = .ok (.aload_n 0, 1) := by decide +kernel
theorem dX4_init_1 : decode cX4_init 1 = .ok (.invokespecial 3, 3) := by decide +kernel
theorem dX4_init_4 : decode cX4_init 4 = .ok (.aload_n 0, 1) := by decide +kernel
theorem dX4_init_5 : decode cX4_init 5 = .ok (.iconst 4, 1) := by decide +kernel
theorem dX4_init_6 : decode cX4_init 6 = .ok (.newarray .int, 2) := by decide +kernel
theorem dX4_init_8 : decode cX4_init 8 = .ok (.putfield 9, 3) := by decide +kernel
theorem dX4_init_11 : decode cX4_init 11 = .ok (.aload_n 0, 1) := by decide +kernel
theorem dX4_init_12 : decode cX4_init 12 = .ok (.iconst 4, 1) := by decide +kernel
theorem dX4_init_13 : decode cX4_init 13 = .ok (.newarray .int, 2) := by decide +kernel
theorem dX4_init_15 : decode cX4_init 15 = .ok (.putfield 15, 3) := by decide +kernel
theorem dX4_init_18 : decode cX4_init 18 = .ok (.aload_n 0, 1) := by decide +kernel
theorem dX4_init_19 : decode cX4_init 19 = .ok (.iconst 4, 1) := by decide +kernel
theorem dX4_init_20 : decode cX4_init 20 = .ok (.newarray .int, 2) := by decide +kernel
theorem dX4_init_22 : decode cX4_init 22 = .ok (.putfield 18, 3) := by decide +kernel
theorem dX4_init_25 : decode cX4_init 25 = .ok (.aload_n 0, 1) := by decide +kernel
theorem dX4_init_26 : decode cX4_init 26 = .ok (.bipush 8, 2) := by decide +kernel
theorem dX4_init_28 : decode cX4_init 28 = .ok (.newarray .int, 2) := by decide +kernel
theorem dX4_init_30 : decode cX4_init 30 = .ok (.putfield 21, 3) := by decide +kernel
theorem dX4_init_33 : decode cX4_init 33 = .ok (.aload_n 0, 1) := by decide +kernel
theorem dX4_init_34 : decode cX4_init 34 = .ok (.bipush 8, 2) := by decide +kernel
theorem dX4_init_36 : decode cX4_init 36 = .ok (.newarray .int, 2) := by decide +kernel
theorem dX4_init_38 : decode cX4_init 38 = .ok (.putfield 24, 3) := by decide +kernel
theorem dX4_init_41 : decode cX4_init 41 = .ok (.aload_n 0, 1) := by decide +kernel
theorem dX4_init_42 : decode cX4_init 42 = .ok (.bipush 64, 2) := by decide +kernel
theorem dX4_init_44 : decode cX4_init 44 = .ok (.newarray .int, 2) := by decide +kernel
theorem dX4_init_46 : decode cX4_init 46 = .ok (.putfield 27, 3) := by decide +kernel
theorem dX4_init_49 : decode cX4_init 49 = .ok (.aload_n 0, 1) := by decide +kernel
theorem dX4_init_50 : decode cX4_init 50 = .ok (.bipush 64, 2) := by decide +kernel
theorem dX4_init_52 : decode cX4_init 52 = .ok (.newarray .int, 2) := by decide +kernel
theorem dX4_init_54 : decode cX4_init 54 = .ok (.putfield 30, 3) := by decide +kernel
theorem dX4_init_57 : decode cX4_init 57 = .ok (.aload_n 0, 1) := by decide +kernel
theorem dX4_init_58 : decode cX4_init 58 = .ok (.bipush 64, 2) := by decide +kernel
theorem dX4_init_60 : decode cX4_init 60 = .ok (.newarray .int, 2) := by decide +kernel
theorem dX4_init_62 : decode cX4_init 62 = .ok (.putfield 33, 3) := by decide +kernel
theorem dX4_init_65 : decode cX4_init 65 = .ok (.aload_n 0, 1) := by decide +kernel
theorem dX4_init_66 : decode cX4_init 66 = .ok (.iconst 5, 1) := by decide +kernel
theorem dX4_init_67 : decode cX4_init 67 = .ok (.newarray .int, 2) := by decide +kernel
theorem dX4_init_69 : decode cX4_init 69 = .ok (.putfield 36, 3) := by decide +kernel
theorem dX4_init_72 : decode cX4_init 72 = .ok (.aload_n 0, 1) := by decide +kernel
theorem dX4_init_73 : decode cX4_init 73 = .ok (.iconst 5, 1) := by decide +kernel
theorem dX4_init_74 : decode cX4_init 74 = .ok (.newarray .int, 2) := by decide +kernel
theorem dX4_init_76 : decode cX4_init 76 = .ok (.putfield 39, 3) := by decide +kernel
theorem dX4_init_79 : decode cX4_init 79 = .ok (.return_, 1) := by decide +kernel
theorem dX4_copyFrom_0 : decode cX4_copyFrom 0 = .ok (.aload_n 0, 1) := by decide +kernel
theorem dX4_copyFrom_1 : decode cX4_copyFrom 1 = .ok (.aload_n 1, 1) := by decide +kernel
theorem dX4_copyFrom_2 : decode cX4_copyFrom 2 = .ok (.getfield 42, 3) := by decide +kernel
theorem dX4_copyFrom_5 : decode cX4_copyFrom 5 = .ok (.putfield 42, 3) := by decide +kernel
theorem dX4_copyFrom_8 : decode cX4_copyFrom 8 = .ok (.aload_n 0, 1) := by decide +kernel
theorem dX4_copyFrom_9 : decode cX4_copyFrom 9 = .ok (.aload_n 1, 1) := by decide +kernel
theorem dX4_copyFrom_10 : decode cX4_copyFrom 10 = .ok (.getfield 46, 3) := by decide +kernel
theorem dX4_copyFrom_13 : decode cX4_copyFrom 13 = .ok (.putfield 46, 3) := by decide +kernel
theorem dX4_copyFrom_16 : decode cX4_copyFrom 16 = .ok (.aload_n 0, 1) := by decide +kernel
theorem dX4_copyFrom_17 : decode cX4_copyFrom 17 = .ok (.aload_n 1, 1) := by decide +kernel
theorem dX4_copyFrom_18 : decode cX4_copyFrom 18 = .ok (.getfield 49, 3) := by decide +kernel
theorem dX4_copyFrom_21 : decode cX4_copyFrom 21 = .ok (.putfield 49, 3) := by decide +kernel
theorem dX4_copyFrom_24 : decode cX4_copyFrom 24 = .ok (.aload_n 0, 1) := by decide +kernel
theorem dX4_copyFrom_25 : decode cX4_copyFrom 25 = .ok (.aload_n 1, 1) := by decide +kernel
theorem dX4_copyFrom_26 : decode cX4_copyFrom 26 = .ok (.getfield 52, 3) := by decide +kernel
theorem dX4_copyFrom_29 : decode cX4_copyFrom 29 = .ok (.putfield 52, 3) := by decide +kernel
theorem dX4_copyFrom_32 : decode cX4_copyFrom 32 = .ok (.aload_n 0, 1) := by decide +kernel
theorem dX4_copyFrom_33 : decode cX4_copyFrom 33 = .ok (.aload_n 1, 1) := by decide +kernel
theorem dX4_copyFrom_34 : decode cX4_copyFrom 34 = .ok (.getfield 55, 3) := by decide +kernel
theorem dX4_copyFrom_37 : decode cX4_copyFrom 37 = .ok (.putfield 55, 3) := by decide +kernel
theorem dX4_copyFrom_40 : decode cX4_copyFrom 40 = .ok (.aload_n 0, 1) := by decide +kernel
theorem dX4_copyFrom_41 : decode cX4_copyFrom 41 = .ok (.aload_n 1, 1) := by decide +kernel
theorem dX4_copyFrom_42 : decode cX4_copyFrom 42 = .ok (.getfield 58, 3) := by decide +kernel
theorem dX4_copyFrom_45 : decode cX4_copyFrom 45 = .ok (.putfield 58, 3) := by decide +kernel
theorem dX4_copyFrom_48 : decode cX4_copyFrom 48 = .ok (.aload_n 0, 1) := by decide +kernel
theorem dX4_copyFrom_49 : decode cX4_copyFrom 49 = .ok (.aload_n 1, 1) := by decide +kernel
theorem dX4_copyFrom_50 : decode cX4_copyFrom 50 = .ok (.getfield 61, 3) := by decide +kernel
theorem dX4_copyFrom_53 : decode cX4_copyFrom 53 = .ok (.putfield 61, 3) := by decide +kernel
theorem dX4_copyFrom_56 : decode cX4_copyFrom 56 = .ok (.aload_n 0, 1) := by decide +kernel
theorem dX4_copyFrom_57 : decode cX4_copyFrom 57 = .ok (.aload_n 1, 1) := by decide +kernel
theorem dX4_copyFrom_58 : decode cX4_copyFrom 58 = .ok (.getfield 64, 3) := by decide +kernel
theorem dX4_copyFrom_61 : decode cX4_copyFrom 61 = .ok (.putfield 64, 3) := by decide +kernel
theorem dX4_copyFrom_64 : decode cX4_copyFrom 64 = .ok (.aload_n 1, 1) := by decide +kernel
theorem dX4_copyFrom_65 : decode cX4_copyFrom 65 = .ok (.getfield 9, 3) := by decide +kernel
theorem dX4_copyFrom_68 : decode cX4_copyFrom 68 = .ok (.iconst 0, 1) := by decide +kernel
theorem dX4_copyFrom_69 : decode cX4_copyFrom 69 = .ok (.aload_n 0, 1) := by decide +kernel
theorem dX4_copyFrom_70 : decode cX4_copyFrom 70 = .ok (.getfield 9, 3) := by decide +kernel
theorem dX4_copyFrom_73 : decode cX4_copyFrom 73 = .ok (.iconst 0, 1) := by decide +kernel
theorem dX4_copyFrom_74 : decode cX4_copyFrom 74 = .ok (.iconst 4, 1) := by decide +kernel
theorem dX4_copyFrom_75 : decode cX4_copyFrom 75 = .ok (.invokestatic 67, 3) := by decide +kernel
theorem dX4_copyFrom_78 : decode cX4_copyFrom 78 = .ok (.aload_n 1, 1) := by decide +kernel
theorem dX4_copyFrom_79 : decode cX4_copyFrom 79 = .ok (.getfield 15, 3) := by decide +kernel
theorem dX4_copyFrom_82 : decode cX4_copyFrom 82 = .ok (.iconst 0, 1) := by decide +kernel
theorem dX4_copyFrom_83 : decode cX4_copyFrom 83 = .ok (.aload_n 0, 1) := by decide +kernel
theorem dX4_copyFrom_84 : decode cX4_copyFrom 84 = .ok (.getfield 15, 3) := by decide +kernel
theorem dX4_copyFrom_87 : decode cX4_copyFrom 87 = .ok (.iconst 0, 1) := by decide +kernel
theorem dX4_copyFrom_88 : decode cX4_copyFrom 88 = .ok (.iconst 4, 1) := by decide +kernel
theorem dX4_copyFrom_89 : decode cX4_copyFrom 89 = .ok (.invokestatic 67, 3) := by decide +kernel
theorem dX4_copyFrom_92 : decode cX4_copyFrom 92 = .ok (.aload_n 1, 1) := by decide +kernel
theorem dX4_copyFrom_93 : decode cX4_copyFrom 93 = .ok (.getfield 18, 3) := by decide +kernel
theorem dX4_copyFrom_96 : decode cX4_copyFrom 96 = .ok (.iconst 0, 1) := by decide +kernel
theorem dX4_copyFrom_97 : decode cX4_copyFrom 97 = .ok (.aload_n 0, 1) := by decide +kernel
theorem dX4_copyFrom_98 : decode cX4_copyFrom 98 = .ok (.getfield 18, 3) := by decide +kernel
theorem dX4_copyFrom_101 : decode cX4_copyFrom 101 = .ok (.iconst 0, 1) := by decide +kernel
theorem dX4_copyFrom_102 : decode cX4_copyFrom 102 = .ok (.iconst 4, 1) := by decide +kernel
theorem dX4_copyFrom_103 : decode cX4_copyFrom 103 = .ok (.invokestatic 67, 3) := by decide +kernel
theorem dX4_copyFrom_106 : decode cX4_copyFrom 106 = .ok (.aload_n 1, 1) := by decide +kernel
theorem dX4_copyFrom_107 : decode cX4_copyFrom 107 = .ok (.getfield 21, 3) := by decide +kernel
theorem dX4_copyFrom_110 : decode cX4_copyFrom 110 = .ok (.iconst 0, 1) := by decide +kernel
theorem dX4_copyFrom_111 : decode cX4_copyFrom 111 = .ok (.aload_n 0, 1) := by decide +kernel
theorem dX4_copyFrom_112 : decode cX4_copyFrom 112 = .ok (.getfield 21, 3) := by decide +kernel
theorem dX4_copyFrom_115 : decode cX4_copyFrom 115 = .ok (.iconst 0, 1) := by decide +kernel
theorem dX4_copyFrom_116 : decode cX4_copyFrom 116 = .ok (.bipush 8, 2) := by decide +kernel
theorem dX4_copyFrom_118 : decode cX4_copyFrom 118 = .ok (.invokestatic 67, 3) := by decide +kernel
theorem dX4_copyFrom_121 : decode cX4_copyFrom 121 = .ok (.aload_n 1, 1) := by decide +kernel
theorem dX4_copyFrom_122 : decode cX4_copyFrom 122 = .ok (.getfield 24, 3) := by decide +kernel
theorem dX4_copyFrom_125 : decode cX4_copyFrom 125 = .ok (.iconst 0, 1) := by decide +kernel
theorem dX4_copyFrom_126 : decode cX4_copyFrom 126 = .ok (.aload_n 0, 1) := by decide +kernel
theorem dX4_copyFrom_127 : decode cX4_copyFrom 127 = .ok (.getfield 24, 3) := by decide +kernel
theorem dX4_copyFrom_130 : decode cX4_copyFrom 130 = .ok (.iconst 0, 1) := by decide +kernel
theorem dX4_copyFrom_131 : decode cX4_copyFrom 131 = .ok (.bipush 8, 2) := by decide +kernel
theorem dX4_copyFrom_133 : decode cX4_copyFrom 133 = .ok (.invokestatic 67, 3) := by decide +kernel
theorem dX4_copyFrom_136 : decode cX4_copyFrom 136 = .ok (.aload_n 1, 1) := by decide +kernel
theorem dX4_copyFrom_137 : decode cX4_copyFrom 137 = .ok (.getfield 27, 3) := by decide +kernel
theorem dX4_copyFrom_140 : decode cX4_copyFrom 140 = .ok (.iconst 0, 1) := by decide +kernel
theorem dX4_copyFrom_141 : decode cX4_copyFrom 141 = .ok (.aload_n 0, 1) := by decide +kernel
theorem dX4_copyFrom_142 : decode cX4_copyFrom 142 = .ok (.getfield 27, 3) := by decide +kernel
theorem dX4_copyFrom_145 : decode cX4_copyFrom 145 = .ok (.iconst 0, 1) := by decide +kernel
theorem dX4_copyFrom_146 : decode cX4_copyFrom 146 = .ok (.bipush 64, 2) := by decide +kernel
theorem dX4_copyFrom_148 : decode cX4_copyFrom 148 = .ok (.invokestatic 67, 3) := by decide +kernel
theorem dX4_copyFrom_151 : decode cX4_copyFrom 151 = .ok (.aload_n 1, 1) := by decide +kernel
theorem dX4_copyFrom_152 : decode cX4_copyFrom 152 = .ok (.getfield 30, 3) := by decide +kernel
theorem dX4_copyFrom_155 : decode cX4_copyFrom 155 = .ok (.iconst 0, 1) := by decide +kernel
theorem dX4_copyFrom_156 : decode cX4_copyFrom 156 = .ok (.aload_n 0, 1) := by decide +kernel
theorem dX4_copyFrom_157 : decode cX4_copyFrom 157 = .ok (.getfield 30, 3) := by decide +kernel
theorem dX4_copyFrom_160 : decode cX4_copyFrom 160 = .ok (.iconst 0, 1) := by decide +kernel
theorem dX4_copyFrom_161 : decode cX4_copyFrom 161 = .ok (.bipush 64, 2) := by decide +kernel
theorem dX4_copyFrom_163 : decode cX4_copyFrom 163 = .ok (.invokestatic 67, 3) := by decide +kernel
theorem dX4_copyFrom_166 : decode cX4_copyFrom 166 = .ok (.aload_n 1, 1) := by decide +kernel
theorem dX4_copyFrom_167 : decode cX4_copyFrom 167 = .ok (.getfield 33, 3) := by decide +kernel
theorem dX4_copyFrom_170 : decode cX4_copyFrom 170 = .ok (.iconst 0, 1) := by decide +kernel
theorem dX4_copyFrom_171 : decode cX4_copyFrom 171 = .ok (.aload_n 0, 1) := by decide +kernel
theorem dX4_copyFrom_172 : decode cX4_copyFrom 172 = .ok (.getfield 33, 3) := by decide +kernel
theorem dX4_copyFrom_175 : decode cX4_copyFrom 175 = .ok (.iconst 0, 1) := by decide +kernel
theorem dX4_copyFrom_176 : decode cX4_copyFrom 176 = .ok (.bipush 64, 2) := by decide +kernel
theorem dX4_copyFrom_178 : decode cX4_copyFrom 178 = .ok (.invokestatic 67, 3) := by decide +kernel
theorem dX4_copyFrom_181 : decode cX4_copyFrom 181 = .ok (.aload_n 1, 1) := by decide +kernel
theorem dX4_copyFrom_182 : decode cX4_copyFrom 182 = .ok (.getfield 36, 3) := by decide +kernel
theorem dX4_copyFrom_185 : decode cX4_copyFrom 185 = .ok (.iconst 0, 1) := by decide +kernel
theorem dX4_copyFrom_186 : decode cX4_copyFrom 186 = .ok (.aload_n 0, 1) := by decide +kernel
theorem dX4_copyFrom_187 : decode cX4_copyFrom 187 = .ok (.getfield 36, 3) := by decide +kernel
theorem dX4_copyFrom_190 : decode cX4_copyFrom 190 = .ok (.iconst 0, 1) := by decide +kernel
theorem dX4_copyFrom_191 : decode cX4_copyFrom 191 = .ok (.iconst 5, 1) := by decide +kernel
theorem dX4_copyFrom_192 : decode cX4_copyFrom 192 = .ok (.invokestatic 67, 3) := by decide +kernel
theorem dX4_copyFrom_195 : decode cX4_copyFrom 195 = .ok (.aload_n 1, 1) := by decide +kernel
theorem dX4_copyFrom_196 : decode cX4_copyFrom 196 = .ok (.getfield 39, 3) := by decide +kernel
theorem dX4_copyFrom_199 : decode cX4_copyFrom 199 = .ok (.iconst 0, 1) := by decide +kernel
theorem dX4_copyFrom_200 : decode cX4_copyFrom 200 = .ok (.aload_n 0, 1) := by decide +kernel
theorem dX4_copyFrom_201 : decode cX4_copyFrom 201 = .ok (.getfield 39, 3) := by decide +kernel
theorem dX4_copyFrom_204 : decode cX4_copyFrom 204 = .ok (.iconst 0, 1) := by decide +kernel
theorem dX4_copyFrom_205 : decode cX4_copyFrom 205 = .ok (.iconst 5, 1) := by decide +kernel
theorem dX4_copyFrom_206 : decode cX4_copyFrom 206 = .ok (.invokestatic 67, 3) := by decide +kernel
theorem dX4_copyFrom_209 : decode cX4_copyFrom 209 = .ok (.return_, 1) := by decide +kernel
theorem dX4_hasHouse_0 : decode cX4_hasHouse 0 = .ok (.iload_n 1, 1) := by decide +kernel
theorem dX4_hasHouse_1 : decode cX4_hasHouse 1 = .ok (.ifCond .lt 15, 3) := by decide +kernel
theorem dX4_hasHouse_4 : decode cX4_hasHouse 4 = .ok (.iload_n 1, 1) := by decide +kernel
theorem dX4_hasHouse_5 : decode cX4_hasHouse 5 = .ok (.aload_n 0, 1) := by decide +kernel
theorem dX4_hasHouse_6 : decode cX4_hasHouse 6 = .ok (.getfield 42, 3) := by decide +kernel
theorem dX4_hasHouse_9 : decode cX4_hasHouse 9 = .ok (.if_icmp .ge 7, 3) := by decide +kernel
theorem dX4_hasHouse_12 : decode cX4_hasHouse 12 = .ok (.iconst 1, 1) := by decide +kernel
theorem dX4_hasHouse_13 : decode cX4_hasHouse 13 = .ok (.goto 4, 3) := by decide +kernel
theorem dX4_hasHouse_16 : decode cX4_hasHouse 16 = .ok (.iconst 0, 1) := by decide +kernel
theorem dX4_hasHouse_17 : decode cX4_hasHouse 17 = .ok (.ireturn, 1) := by decide +kernel
theorem dX4_hasSheet_0 : decode cX4_hasSheet 0 = .ok (.iload_n 1, 1) := by decide +kernel
theorem dX4_hasSheet_1 : decode cX4_hasSheet 1 = .ok (.ifCond .lt 15, 3) := by decide +kernel
theorem dX4_hasSheet_4 : decode cX4_hasSheet 4 = .ok (.iload_n 1, 1) := by decide +kernel
theorem dX4_hasSheet_5 : decode cX4_hasSheet 5 = .ok (.aload_n 0, 1) := by decide +kernel
theorem dX4_hasSheet_6 : decode cX4_hasSheet 6 = .ok (.getfield 46, 3) := by decide +kernel
theorem dX4_hasSheet_9 : decode cX4_hasSheet 9 = .ok (.if_icmp .ge 7, 3) := by decide +kernel
theorem dX4_hasSheet_12 : decode cX4_hasSheet 12 = .ok (.iconst 1, 1) := by decide +kernel
theorem dX4_hasSheet_13 : decode cX4_hasSheet 13 = .ok (.goto 4, 3) := by decide +kernel
theorem dX4_hasSheet_16 : decode cX4_hasSheet 16 = .ok (.iconst 0, 1) := by decide +kernel
theorem dX4_hasSheet_17 : decode cX4_hasSheet 17 = .ok (.ireturn, 1) := by decide +kernel
theorem dX4_hasPlace_0 : decode cX4_hasPlace 0 = .ok (.aload_n 0, 1) := by decide +kernel
theorem dX4_hasPlace_1 : decode cX4_hasPlace 1 = .ok (.iload_n 1, 1) := by decide +kernel
theorem dX4_hasPlace_2 : decode cX4_hasPlace 2 = .ok (.invokevirtual 73, 3) := by decide +kernel
theorem dX4_hasPlace_5 : decode cX4_hasPlace 5 = .ok (.ifCond .eq 21, 3) := by decide +kernel
theorem dX4_hasPlace_8 : decode cX4_hasPlace 8 = .ok (.iload_n 2, 1) := by decide +kernel
theorem dX4_hasPlace_9 : decode cX4_hasPlace 9 = .ok (.ifCond .lt 17, 3) := by decide +kernel
theorem dX4_hasPlace_12 : decode cX4_hasPlace 12 = .ok (.iload_n 2, 1) := by decide +kernel
theorem dX4_hasPlace_13 : decode cX4_hasPlace 13 = .ok (.aload_n 0, 1) := by decide +kernel
theorem dX4_hasPlace_14 : decode cX4_hasPlace 14 = .ok (.getfield 24, 3) := by decide +kernel
theorem dX4_hasPlace_17 : decode cX4_hasPlace 17 = .ok (.iload_n 1, 1) := by decide +kernel
theorem dX4_hasPlace_18 : decode cX4_hasPlace 18 = .ok (.iaload, 1) := by decide +kernel
theorem dX4_hasPlace_19 : decode cX4_hasPlace 19 = .ok (.if_icmp .ge 7, 3) := by decide +kernel
theorem dX4_hasPlace_22 : decode cX4_hasPlace 22 = .ok (.iconst 1, 1) := by decide +kernel
theorem dX4_hasPlace_23 : decode cX4_hasPlace 23 = .ok (.goto 4, 3) := by decide +kernel
theorem dX4_hasPlace_26 : decode cX4_hasPlace 26 = .ok (.iconst 0, 1) := by decide +kernel
theorem dX4_hasPlace_27 : decode cX4_hasPlace 27 = .ok (.ireturn, 1) := by decide +kernel
theorem dX4_rightAt_0 : decode cX4_rightAt 0 = .ok (.aload_n 0, 1) := by decide +kernel
theorem dX4_rightAt_1 : decode cX4_rightAt 1 = .ok (.getfield 27, 3) := by decide +kernel
theorem dX4_rightAt_4 : decode cX4_rightAt 4 = .ok (.iload_n 1, 1) := by decide +kernel
theorem dX4_rightAt_5 : decode cX4_rightAt 5 = .ok (.bipush 8, 2) := by decide +kernel
theorem dX4_rightAt_7 : decode cX4_rightAt 7 = .ok (.imul, 1) := by decide +kernel
theorem dX4_rightAt_8 : decode cX4_rightAt 8 = .ok (.iload_n 2, 1) := by decide +kernel
theorem dX4_rightAt_9 : decode cX4_rightAt 9 = .ok (.iadd, 1) := by decide +kernel
theorem dX4_rightAt_10 : decode cX4_rightAt 10 = .ok (.iaload, 1) := by decide +kernel
theorem dX4_rightAt_11 : decode cX4_rightAt 11 = .ok (.ireturn, 1) := by decide +kernel
theorem dX4_placedAt_0 : decode cX4_placedAt 0 = .ok (.aload_n 0, 1) := by decide +kernel
theorem dX4_placedAt_1 : decode cX4_placedAt 1 = .ok (.getfield 30, 3) := by decide +kernel
theorem dX4_placedAt_4 : decode cX4_placedAt 4 = .ok (.iload_n 1, 1) := by decide +kernel
theorem dX4_placedAt_5 : decode cX4_placedAt 5 = .ok (.bipush 8, 2) := by decide +kernel
theorem dX4_placedAt_7 : decode cX4_placedAt 7 = .ok (.imul, 1) := by decide +kernel
theorem dX4_placedAt_8 : decode cX4_placedAt 8 = .ok (.iload_n 2, 1) := by decide +kernel
theorem dX4_placedAt_9 : decode cX4_placedAt 9 = .ok (.iadd, 1) := by decide +kernel
theorem dX4_placedAt_10 : decode cX4_placedAt 10 = .ok (.iaload, 1) := by decide +kernel
theorem dX4_placedAt_11 : decode cX4_placedAt 11 = .ok (.ireturn, 1) := by decide +kernel
theorem dX4_isMisprint_0 : decode cX4_isMisprint 0 = .ok (.aload_n 0, 1) := by decide +kernel
theorem dX4_isMisprint_1 : decode cX4_isMisprint 1 = .ok (.iload_n 1, 1) := by decide +kernel
theorem dX4_isMisprint_2 : decode cX4_isMisprint 2 = .ok (.iload_n 2, 1) := by decide +kernel
theorem dX4_isMisprint_3 : decode cX4_isMisprint 3 = .ok (.invokevirtual 77, 3) := by decide +kernel
theorem dX4_isMisprint_6 : decode cX4_isMisprint 6 = .ok (.aload_n 0, 1) := by decide +kernel
theorem dX4_isMisprint_7 : decode cX4_isMisprint 7 = .ok (.iload_n 1, 1) := by decide +kernel
theorem dX4_isMisprint_8 : decode cX4_isMisprint 8 = .ok (.iload_n 2, 1) := by decide +kernel
theorem dX4_isMisprint_9 : decode cX4_isMisprint 9 = .ok (.invokevirtual 81, 3) := by decide +kernel
theorem dX4_isMisprint_12 : decode cX4_isMisprint 12 = .ok (.if_icmp .eq 7, 3) := by decide +kernel
theorem dX4_isMisprint_15 : decode cX4_isMisprint 15 = .ok (.iconst 1, 1) := by decide +kernel
theorem dX4_isMisprint_16 : decode cX4_isMisprint 16 = .ok (.goto 4, 3) := by decide +kernel
theorem dX4_isMisprint_19 : decode cX4_isMisprint 19 = .ok (.iconst 0, 1) := by decide +kernel
theorem dX4_isMisprint_20 : decode cX4_isMisprint 20 = .ok (.ireturn, 1) := by decide +kernel
theorem dX4_levelAt_0 : decode cX4_levelAt 0 = .ok (.aload_n 0, 1) := by decide +kernel
theorem dX4_levelAt_1 : decode cX4_levelAt 1 = .ok (.getfield 33, 3) := by decide +kernel
theorem dX4_levelAt_4 : decode cX4_levelAt 4 = .ok (.iload_n 1, 1) := by decide +kernel
theorem dX4_levelAt_5 : decode cX4_levelAt 5 = .ok (.bipush 8, 2) := by decide +kernel
theorem dX4_levelAt_7 : decode cX4_levelAt 7 = .ok (.imul, 1) := by decide +kernel
theorem dX4_levelAt_8 : decode cX4_levelAt 8 = .ok (.iload_n 2, 1) := by decide +kernel
theorem dX4_levelAt_9 : decode cX4_levelAt 9 = .ok (.iadd, 1) := by decide +kernel
theorem dX4_levelAt_10 : decode cX4_levelAt 10 = .ok (.iaload, 1) := by decide +kernel
theorem dX4_levelAt_11 : decode cX4_levelAt 11 = .ok (.ireturn, 1) := by decide +kernel
theorem dX4_howBad_0 : decode cX4_howBad 0 = .ok (.iload_n 1, 1) := by decide +kernel
theorem dX4_howBad_1 : decode cX4_howBad 1 = .ok (.bipush 8, 2) := by decide +kernel
theorem dX4_howBad_3 : decode cX4_howBad 3 = .ok (.imul, 1) := by decide +kernel
theorem dX4_howBad_4 : decode cX4_howBad 4 = .ok (.iload_n 2, 1) := by decide +kernel
theorem dX4_howBad_5 : decode cX4_howBad 5 = .ok (.iadd, 1) := by decide +kernel
theorem dX4_howBad_6 : decode cX4_howBad 6 = .ok (.istore_n 3, 1) := by decide +kernel
theorem dX4_howBad_7 : decode cX4_howBad 7 = .ok (.aload_n 0, 1) := by decide +kernel
theorem dX4_howBad_8 : decode cX4_howBad 8 = .ok (.getfield 30, 3) := by decide +kernel
theorem dX4_howBad_11 : decode cX4_howBad 11 = .ok (.iload_n 3, 1) := by decide +kernel
theorem dX4_howBad_12 : decode cX4_howBad 12 = .ok (.iaload, 1) := by decide +kernel
theorem dX4_howBad_13 : decode cX4_howBad 13 = .ok (.aload_n 0, 1) := by decide +kernel
theorem dX4_howBad_14 : decode cX4_howBad 14 = .ok (.getfield 27, 3) := by decide +kernel
theorem dX4_howBad_17 : decode cX4_howBad 17 = .ok (.iload_n 3, 1) := by decide +kernel
theorem dX4_howBad_18 : decode cX4_howBad 18 = .ok (.iaload, 1) := by decide +kernel
theorem dX4_howBad_19 : decode cX4_howBad 19 = .ok (.isub, 1) := by decide +kernel
theorem dX4_howBad_20 : decode cX4_howBad 20 = .ok (.invokestatic 84, 3) := by decide +kernel
theorem dX4_howBad_23 : decode cX4_howBad 23 = .ok (.ireturn, 1) := by decide +kernel
theorem dX4_isAshamed_0 : decode cX4_isAshamed 0 = .ok (.aload_n 0, 1) := by decide +kernel
theorem dX4_isAshamed_1 : decode cX4_isAshamed 1 = .ok (.getfield 15, 3) := by decide +kernel
theorem dX4_isAshamed_4 : decode cX4_isAshamed 4 = .ok (.iload_n 1, 1) := by decide +kernel
theorem dX4_isAshamed_5 : decode cX4_isAshamed 5 = .ok (.iaload, 1) := by decide +kernel
theorem dX4_isAshamed_6 : decode cX4_isAshamed 6 = .ok (.bipush 20, 2) := by decide +kernel
theorem dX4_isAshamed_8 : decode cX4_isAshamed 8 = .ok (.if_icmp .le 7, 3) := by decide +kernel
theorem dX4_isAshamed_11 : decode cX4_isAshamed 11 = .ok (.iconst 1, 1) := by decide +kernel
theorem dX4_isAshamed_12 : decode cX4_isAshamed 12 = .ok (.goto 4, 3) := by decide +kernel
theorem dX4_isAshamed_15 : decode cX4_isAshamed 15 = .ok (.iconst 0, 1) := by decide +kernel
theorem dX4_isAshamed_16 : decode cX4_isAshamed 16 = .ok (.ireturn, 1) := by decide +kernel
theorem dX4_countOnSheet_0 : decode cX4_countOnSheet 0 = .ok (.iconst 0, 1) := by decide +kernel
theorem dX4_countOnSheet_1 : decode cX4_countOnSheet 1 = .ok (.istore_n 3, 1) := by decide +kernel
theorem dX4_countOnSheet_2 : decode cX4_countOnSheet 2 = .ok (.iconst 0, 1) := by decide +kernel
theorem dX4_countOnSheet_3 : decode cX4_countOnSheet 3 = .ok (.istore 4, 2) := by decide +kernel
theorem dX4_countOnSheet_5 : decode cX4_countOnSheet 5 = .ok (.iload 4, 2) := by decide +kernel
theorem dX4_countOnSheet_7 : decode cX4_countOnSheet 7 = .ok (.aload_n 0, 1) := by decide +kernel
theorem dX4_countOnSheet_8 : decode cX4_countOnSheet 8 = .ok (.getfield 24, 3) := by decide +kernel
theorem dX4_countOnSheet_11 : decode cX4_countOnSheet 11 = .ok (.iload_n 1, 1) := by decide +kernel
theorem dX4_countOnSheet_12 : decode cX4_countOnSheet 12 = .ok (.iaload, 1) := by decide +kernel
theorem dX4_countOnSheet_13 : decode cX4_countOnSheet 13 = .ok (.if_icmp .ge 28, 3) := by decide +kernel
theorem dX4_countOnSheet_16 : decode cX4_countOnSheet 16 = .ok (.aload_n 0, 1) := by decide +kernel
theorem dX4_countOnSheet_17 : decode cX4_countOnSheet 17 = .ok (.getfield 33, 3) := by decide +kernel
theorem dX4_countOnSheet_20 : decode cX4_countOnSheet 20 = .ok (.iload_n 1, 1) := by decide +kernel
theorem dX4_countOnSheet_21 : decode cX4_countOnSheet 21 = .ok (.bipush 8, 2) := by decide +kernel
theorem dX4_countOnSheet_23 : decode cX4_countOnSheet 23 = .ok (.imul, 1) := by decide +kernel
theorem dX4_countOnSheet_24 : decode cX4_countOnSheet 24 = .ok (.iload 4, 2) := by decide +kernel
theorem dX4_countOnSheet_26 : decode cX4_countOnSheet 26 = .ok (.iadd, 1) := by decide +kernel
theorem dX4_countOnSheet_27 : decode cX4_countOnSheet 27 = .ok (.iaload, 1) := by decide +kernel
theorem dX4_countOnSheet_28 : decode cX4_countOnSheet 28 = .ok (.iload_n 2, 1) := by decide +kernel
theorem dX4_countOnSheet_29 : decode cX4_countOnSheet 29 = .ok (.if_icmp .lt 6, 3) := by decide +kernel
theorem dX4_countOnSheet_32 : decode cX4_countOnSheet 32 = .ok (.iinc 3 1, 3) := by decide +kernel
theorem dX4_countOnSheet_35 : decode cX4_countOnSheet 35 = .ok (.iinc 4 1, 3) := by decide +kernel
theorem dX4_countOnSheet_38 : decode cX4_countOnSheet 38 = .ok (.goto (-33), 3) := by decide +kernel
theorem dX4_countOnSheet_41 : decode cX4_countOnSheet 41 = .ok (.iload_n 3, 1) := by decide +kernel
theorem dX4_countOnSheet_42 : decode cX4_countOnSheet 42 = .ok (.ireturn, 1) := by decide +kernel
theorem dX4_countOfHouse_0 : decode cX4_countOfHouse 0 = .ok (.iconst 0, 1) := by decide +kernel
theorem dX4_countOfHouse_1 : decode cX4_countOfHouse 1 = .ok (.istore_n 3, 1) := by decide +kernel
theorem dX4_countOfHouse_2 : decode cX4_countOfHouse 2 = .ok (.iconst 0, 1) := by decide +kernel
theorem dX4_countOfHouse_3 : decode cX4_countOfHouse 3 = .ok (.istore 4, 2) := by decide +kernel
theorem dX4_countOfHouse_5 : decode cX4_countOfHouse 5 = .ok (.iload 4, 2) := by decide +kernel
theorem dX4_countOfHouse_7 : decode cX4_countOfHouse 7 = .ok (.aload_n 0, 1) := by decide +kernel
theorem dX4_countOfHouse_8 : decode cX4_countOfHouse 8 = .ok (.getfield 46, 3) := by decide +kernel
theorem dX4_countOfHouse_11 : decode cX4_countOfHouse 11 = .ok (.if_icmp .ge 30, 3) := by decide +kernel
theorem dX4_countOfHouse_14 : decode cX4_countOfHouse 14 = .ok (.aload_n 0, 1) := by decide +kernel
theorem dX4_countOfHouse_15 : decode cX4_countOfHouse 15 = .ok (.getfield 21, 3) := by decide +kernel
theorem dX4_countOfHouse_18 : decode cX4_countOfHouse 18 = .ok (.iload 4, 2) := by decide +kernel
theorem dX4_countOfHouse_20 : decode cX4_countOfHouse 20 = .ok (.iaload, 1) := by decide +kernel
theorem dX4_countOfHouse_21 : decode cX4_countOfHouse 21 = .ok (.iload_n 1, 1) := by decide +kernel
theorem dX4_countOfHouse_22 : decode cX4_countOfHouse 22 = .ok (.if_icmp .ne 13, 3) := by decide +kernel
theorem dX4_countOfHouse_25 : decode cX4_countOfHouse 25 = .ok (.iload_n 3, 1) := by decide +kernel
theorem dX4_countOfHouse_26 : decode cX4_countOfHouse 26 = .ok (.aload_n 0, 1) := by decide +kernel
theorem dX4_countOfHouse_27 : decode cX4_countOfHouse 27 = .ok (.iload 4, 2) := by decide +kernel
theorem dX4_countOfHouse_29 : decode cX4_countOfHouse 29 = .ok (.iload_n 2, 1) := by decide +kernel
theorem dX4_countOfHouse_30 : decode cX4_countOfHouse 30 = .ok (.invokevirtual 90, 3) := by decide +kernel
theorem dX4_countOfHouse_33 : decode cX4_countOfHouse 33 = .ok (.iadd, 1) := by decide +kernel
theorem dX4_countOfHouse_34 : decode cX4_countOfHouse 34 = .ok (.istore_n 3, 1) := by decide +kernel
theorem dX4_countOfHouse_35 : decode cX4_countOfHouse 35 = .ok (.iinc 4 1, 3) := by decide +kernel
theorem dX4_countOfHouse_38 : decode cX4_countOfHouse 38 = .ok (.goto (-33), 3) := by decide +kernel
theorem dX4_countOfHouse_41 : decode cX4_countOfHouse 41 = .ok (.iload_n 3, 1) := by decide +kernel
theorem dX4_countOfHouse_42 : decode cX4_countOfHouse 42 = .ok (.ireturn, 1) := by decide +kernel
theorem dX4_countInAll_0 : decode cX4_countInAll 0 = .ok (.iconst 0, 1) := by decide +kernel
theorem dX4_countInAll_1 : decode cX4_countInAll 1 = .ok (.istore_n 2, 1) := by decide +kernel
theorem dX4_countInAll_2 : decode cX4_countInAll 2 = .ok (.iconst 0, 1) := by decide +kernel
theorem dX4_countInAll_3 : decode cX4_countInAll 3 = .ok (.istore_n 3, 1) := by decide +kernel
theorem dX4_countInAll_4 : decode cX4_countInAll 4 = .ok (.iload_n 3, 1) := by decide +kernel
theorem dX4_countInAll_5 : decode cX4_countInAll 5 = .ok (.aload_n 0, 1) := by decide +kernel
theorem dX4_countInAll_6 : decode cX4_countInAll 6 = .ok (.getfield 46, 3) := by decide +kernel
theorem dX4_countInAll_9 : decode cX4_countInAll 9 = .ok (.if_icmp .ge 18, 3) := by decide +kernel
theorem dX4_countInAll_12 : decode cX4_countInAll 12 = .ok (.iload_n 2, 1) := by decide +kernel
theorem dX4_countInAll_13 : decode cX4_countInAll 13 = .ok (.aload_n 0, 1) := by decide +kernel
theorem dX4_countInAll_14 : decode cX4_countInAll 14 = .ok (.iload_n 3, 1) := by decide +kernel
theorem dX4_countInAll_15 : decode cX4_countInAll 15 = .ok (.iload_n 1, 1) := by decide +kernel
theorem dX4_countInAll_16 : decode cX4_countInAll 16 = .ok (.invokevirtual 90, 3) := by decide +kernel
theorem dX4_countInAll_19 : decode cX4_countInAll 19 = .ok (.iadd, 1) := by decide +kernel
theorem dX4_countInAll_20 : decode cX4_countInAll 20 = .ok (.istore_n 2, 1) := by decide +kernel
theorem dX4_countInAll_21 : decode cX4_countInAll 21 = .ok (.iinc 3 1, 3) := by decide +kernel
theorem dX4_countInAll_24 : decode cX4_countInAll 24 = .ok (.goto (-20), 3) := by decide +kernel
theorem dX4_countInAll_27 : decode cX4_countInAll 27 = .ok (.iload_n 2, 1) := by decide +kernel
theorem dX4_countInAll_28 : decode cX4_countInAll 28 = .ok (.ireturn, 1) := by decide +kernel
theorem dX4_badness_0 : decode cX4_badness 0 = .ok (.iconst 0, 1) := by decide +kernel
theorem dX4_badness_1 : decode cX4_badness 1 = .ok (.istore_n 2, 1) := by decide +kernel
theorem dX4_badness_2 : decode cX4_badness 2 = .ok (.iconst 0, 1) := by decide +kernel
theorem dX4_badness_3 : decode cX4_badness 3 = .ok (.istore_n 3, 1) := by decide +kernel
theorem dX4_badness_4 : decode cX4_badness 4 = .ok (.iload_n 3, 1) := by decide +kernel
theorem dX4_badness_5 : decode cX4_badness 5 = .ok (.aload_n 0, 1) := by decide +kernel
theorem dX4_badness_6 : decode cX4_badness 6 = .ok (.getfield 24, 3) := by decide +kernel
theorem dX4_badness_9 : decode cX4_badness 9 = .ok (.iload_n 1, 1) := by decide +kernel
theorem dX4_badness_10 : decode cX4_badness 10 = .ok (.iaload, 1) := by decide +kernel
theorem dX4_badness_11 : decode cX4_badness 11 = .ok (.if_icmp .ge 18, 3) := by decide +kernel
theorem dX4_badness_14 : decode cX4_badness 14 = .ok (.iload_n 2, 1) := by decide +kernel
theorem dX4_badness_15 : decode cX4_badness 15 = .ok (.aload_n 0, 1) := by decide +kernel
theorem dX4_badness_16 : decode cX4_badness 16 = .ok (.iload_n 1, 1) := by decide +kernel
theorem dX4_badness_17 : decode cX4_badness 17 = .ok (.iload_n 3, 1) := by decide +kernel
theorem dX4_badness_18 : decode cX4_badness 18 = .ok (.invokevirtual 93, 3) := by decide +kernel
theorem dX4_badness_21 : decode cX4_badness 21 = .ok (.iadd, 1) := by decide +kernel
theorem dX4_badness_22 : decode cX4_badness 22 = .ok (.istore_n 2, 1) := by decide +kernel
theorem dX4_badness_23 : decode cX4_badness 23 = .ok (.iinc 3 1, 3) := by decide +kernel
theorem dX4_badness_26 : decode cX4_badness 26 = .ok (.goto (-22), 3) := by decide +kernel
theorem dX4_badness_29 : decode cX4_badness 29 = .ok (.iload_n 2, 1) := by decide +kernel
theorem dX4_badness_30 : decode cX4_badness 30 = .ok (.ireturn, 1) := by decide +kernel
theorem dX4_sheetsOf_0 : decode cX4_sheetsOf 0 = .ok (.iconst 0, 1) := by decide +kernel
theorem dX4_sheetsOf_1 : decode cX4_sheetsOf 1 = .ok (.istore_n 2, 1) := by decide +kernel
theorem dX4_sheetsOf_2 : decode cX4_sheetsOf 2 = .ok (.iconst 0, 1) := by decide +kernel
theorem dX4_sheetsOf_3 : decode cX4_sheetsOf 3 = .ok (.istore_n 3, 1) := by decide +kernel
theorem dX4_sheetsOf_4 : decode cX4_sheetsOf 4 = .ok (.iload_n 3, 1) := by decide +kernel
theorem dX4_sheetsOf_5 : decode cX4_sheetsOf 5 = .ok (.aload_n 0, 1) := by decide +kernel
theorem dX4_sheetsOf_6 : decode cX4_sheetsOf 6 = .ok (.getfield 46, 3) := by decide +kernel
theorem dX4_sheetsOf_9 : decode cX4_sheetsOf 9 = .ok (.if_icmp .ge 22, 3) := by decide +kernel
theorem dX4_sheetsOf_12 : decode cX4_sheetsOf 12 = .ok (.aload_n 0, 1) := by decide +kernel
theorem dX4_sheetsOf_13 : decode cX4_sheetsOf 13 = .ok (.getfield 21, 3) := by decide +kernel
theorem dX4_sheetsOf_16 : decode cX4_sheetsOf 16 = .ok (.iload_n 3, 1) := by decide +kernel
theorem dX4_sheetsOf_17 : decode cX4_sheetsOf 17 = .ok (.iaload, 1) := by decide +kernel
theorem dX4_sheetsOf_18 : decode cX4_sheetsOf 18 = .ok (.iload_n 1, 1) := by decide +kernel
theorem dX4_sheetsOf_19 : decode cX4_sheetsOf 19 = .ok (.if_icmp .ne 6, 3) := by decide +kernel
theorem dX4_sheetsOf_22 : decode cX4_sheetsOf 22 = .ok (.iinc 2 1, 3) := by decide +kernel
theorem dX4_sheetsOf_25 : decode cX4_sheetsOf 25 = .ok (.iinc 3 1, 3) := by decide +kernel
theorem dX4_sheetsOf_28 : decode cX4_sheetsOf 28 = .ok (.goto (-24), 3) := by decide +kernel
theorem dX4_sheetsOf_31 : decode cX4_sheetsOf 31 = .ok (.iload_n 2, 1) := by decide +kernel
theorem dX4_sheetsOf_32 : decode cX4_sheetsOf 32 = .ok (.ireturn, 1) := by decide +kernel
theorem dX4_ashamedHouses_0 : decode cX4_ashamedHouses 0 = .ok (.iconst 0, 1) := by decide +kernel
theorem dX4_ashamedHouses_1 : decode cX4_ashamedHouses 1 = .ok (.istore_n 1, 1) := by decide +kernel
theorem dX4_ashamedHouses_2 : decode cX4_ashamedHouses 2 = .ok (.iconst 0, 1) := by decide +kernel
theorem dX4_ashamedHouses_3 : decode cX4_ashamedHouses 3 = .ok (.istore_n 2, 1) := by decide +kernel
theorem dX4_ashamedHouses_4 : decode cX4_ashamedHouses 4 = .ok (.iload_n 2, 1) := by decide +kernel
theorem dX4_ashamedHouses_5 : decode cX4_ashamedHouses 5 = .ok (.aload_n 0, 1) := by decide +kernel
theorem dX4_ashamedHouses_6 : decode cX4_ashamedHouses 6 = .ok (.getfield 42, 3) := by decide +kernel
theorem dX4_ashamedHouses_9 : decode cX4_ashamedHouses 9 = .ok (.if_icmp .ge 20, 3) := by decide +kernel
theorem dX4_ashamedHouses_12 : decode cX4_ashamedHouses 12 = .ok (.aload_n 0, 1) := by decide +kernel
theorem dX4_ashamedHouses_13 : decode cX4_ashamedHouses 13 = .ok (.iload_n 2, 1) := by decide +kernel
theorem dX4_ashamedHouses_14 : decode cX4_ashamedHouses 14 = .ok (.invokevirtual 96, 3) := by decide +kernel
theorem dX4_ashamedHouses_17 : decode cX4_ashamedHouses 17 = .ok (.ifCond .eq 6, 3) := by decide +kernel
theorem dX4_ashamedHouses_20 : decode cX4_ashamedHouses 20 = .ok (.iinc 1 1, 3) := by decide +kernel
theorem dX4_ashamedHouses_23 : decode cX4_ashamedHouses 23 = .ok (.iinc 2 1, 3) := by decide +kernel
theorem dX4_ashamedHouses_26 : decode cX4_ashamedHouses 26 = .ok (.goto (-22), 3) := by decide +kernel
theorem dX4_ashamedHouses_29 : decode cX4_ashamedHouses 29 = .ok (.iload_n 1, 1) := by decide +kernel
theorem dX4_ashamedHouses_30 : decode cX4_ashamedHouses 30 = .ok (.ireturn, 1) := by decide +kernel
theorem dX4_numberOfHouse_0 : decode cX4_numberOfHouse 0 = .ok (.iload_n 2, 1) := by decide +kernel
theorem dX4_numberOfHouse_1 : decode cX4_numberOfHouse 1 = .ok (.tableswitch 79 0 5 #[39, 46, 53, 59, 66, 73], 39) := by decide +kernel
theorem dX4_numberOfHouse_40 : decode cX4_numberOfHouse 40 = .ok (.aload_n 0, 1) := by decide +kernel
theorem dX4_numberOfHouse_41 : decode cX4_numberOfHouse 41 = .ok (.getfield 9, 3) := by decide +kernel
theorem dX4_numberOfHouse_44 : decode cX4_numberOfHouse 44 = .ok (.iload_n 1, 1) := by decide +kernel
theorem dX4_numberOfHouse_45 : decode cX4_numberOfHouse 45 = .ok (.iaload, 1) := by decide +kernel
theorem dX4_numberOfHouse_46 : decode cX4_numberOfHouse 46 = .ok (.ireturn, 1) := by decide +kernel
theorem dX4_numberOfHouse_47 : decode cX4_numberOfHouse 47 = .ok (.aload_n 0, 1) := by decide +kernel
theorem dX4_numberOfHouse_48 : decode cX4_numberOfHouse 48 = .ok (.getfield 15, 3) := by decide +kernel
theorem dX4_numberOfHouse_51 : decode cX4_numberOfHouse 51 = .ok (.iload_n 1, 1) := by decide +kernel
theorem dX4_numberOfHouse_52 : decode cX4_numberOfHouse 52 = .ok (.iaload, 1) := by decide +kernel
theorem dX4_numberOfHouse_53 : decode cX4_numberOfHouse 53 = .ok (.ireturn, 1) := by decide +kernel
theorem dX4_numberOfHouse_54 : decode cX4_numberOfHouse 54 = .ok (.aload_n 0, 1) := by decide +kernel
theorem dX4_numberOfHouse_55 : decode cX4_numberOfHouse 55 = .ok (.iload_n 1, 1) := by decide +kernel
theorem dX4_numberOfHouse_56 : decode cX4_numberOfHouse 56 = .ok (.invokevirtual 99, 3) := by decide +kernel
theorem dX4_numberOfHouse_59 : decode cX4_numberOfHouse 59 = .ok (.ireturn, 1) := by decide +kernel
theorem dX4_numberOfHouse_60 : decode cX4_numberOfHouse 60 = .ok (.aload_n 0, 1) := by decide +kernel
theorem dX4_numberOfHouse_61 : decode cX4_numberOfHouse 61 = .ok (.iload_n 1, 1) := by decide +kernel
theorem dX4_numberOfHouse_62 : decode cX4_numberOfHouse 62 = .ok (.iconst 1, 1) := by decide +kernel
theorem dX4_numberOfHouse_63 : decode cX4_numberOfHouse 63 = .ok (.invokevirtual 102, 3) := by decide +kernel
theorem dX4_numberOfHouse_66 : decode cX4_numberOfHouse 66 = .ok (.ireturn, 1) := by decide +kernel
theorem dX4_numberOfHouse_67 : decode cX4_numberOfHouse 67 = .ok (.aload_n 0, 1) := by decide +kernel
theorem dX4_numberOfHouse_68 : decode cX4_numberOfHouse 68 = .ok (.iload_n 1, 1) := by decide +kernel
theorem dX4_numberOfHouse_69 : decode cX4_numberOfHouse 69 = .ok (.iconst 2, 1) := by decide +kernel
theorem dX4_numberOfHouse_70 : decode cX4_numberOfHouse 70 = .ok (.invokevirtual 102, 3) := by decide +kernel
theorem dX4_numberOfHouse_73 : decode cX4_numberOfHouse 73 = .ok (.ireturn, 1) := by decide +kernel
theorem dX4_numberOfHouse_74 : decode cX4_numberOfHouse 74 = .ok (.aload_n 0, 1) := by decide +kernel
theorem dX4_numberOfHouse_75 : decode cX4_numberOfHouse 75 = .ok (.iload_n 1, 1) := by decide +kernel
theorem dX4_numberOfHouse_76 : decode cX4_numberOfHouse 76 = .ok (.invokevirtual 105, 3) := by decide +kernel
theorem dX4_numberOfHouse_79 : decode cX4_numberOfHouse 79 = .ok (.ireturn, 1) := by decide +kernel
theorem dX4_numberOfHouse_80 : decode cX4_numberOfHouse 80 = .ok (.aload_n 0, 1) := by decide +kernel
theorem dX4_numberOfHouse_81 : decode cX4_numberOfHouse 81 = .ok (.getfield 18, 3) := by decide +kernel
theorem dX4_numberOfHouse_84 : decode cX4_numberOfHouse 84 = .ok (.iload_n 1, 1) := by decide +kernel
theorem dX4_numberOfHouse_85 : decode cX4_numberOfHouse 85 = .ok (.iaload, 1) := by decide +kernel
theorem dX4_numberOfHouse_86 : decode cX4_numberOfHouse 86 = .ok (.ireturn, 1) := by decide +kernel
theorem dX4_numberOfSheet_0 : decode cX4_numberOfSheet 0 = .ok (.iload_n 2, 1) := by decide +kernel
theorem dX4_numberOfSheet_1 : decode cX4_numberOfSheet 1 = .ok (.tableswitch 70 0 4 #[35, 42, 49, 56, 63], 35) := by decide +kernel
theorem dX4_numberOfSheet_36 : decode cX4_numberOfSheet 36 = .ok (.aload_n 0, 1) := by decide +kernel
theorem dX4_numberOfSheet_37 : decode cX4_numberOfSheet 37 = .ok (.getfield 21, 3) := by decide +kernel
theorem dX4_numberOfSheet_40 : decode cX4_numberOfSheet 40 = .ok (.iload_n 1, 1) := by decide +kernel
theorem dX4_numberOfSheet_41 : decode cX4_numberOfSheet 41 = .ok (.iaload, 1) := by decide +kernel
theorem dX4_numberOfSheet_42 : decode cX4_numberOfSheet 42 = .ok (.ireturn, 1) := by decide +kernel
theorem dX4_numberOfSheet_43 : decode cX4_numberOfSheet 43 = .ok (.aload_n 0, 1) := by decide +kernel
theorem dX4_numberOfSheet_44 : decode cX4_numberOfSheet 44 = .ok (.getfield 24, 3) := by decide +kernel
theorem dX4_numberOfSheet_47 : decode cX4_numberOfSheet 47 = .ok (.iload_n 1, 1) := by decide +kernel
theorem dX4_numberOfSheet_48 : decode cX4_numberOfSheet 48 = .ok (.iaload, 1) := by decide +kernel
theorem dX4_numberOfSheet_49 : decode cX4_numberOfSheet 49 = .ok (.ireturn, 1) := by decide +kernel
theorem dX4_numberOfSheet_50 : decode cX4_numberOfSheet 50 = .ok (.aload_n 0, 1) := by decide +kernel
theorem dX4_numberOfSheet_51 : decode cX4_numberOfSheet 51 = .ok (.iload_n 1, 1) := by decide +kernel
theorem dX4_numberOfSheet_52 : decode cX4_numberOfSheet 52 = .ok (.iconst 1, 1) := by decide +kernel
theorem dX4_numberOfSheet_53 : decode cX4_numberOfSheet 53 = .ok (.invokevirtual 90, 3) := by decide +kernel
theorem dX4_numberOfSheet_56 : decode cX4_numberOfSheet 56 = .ok (.ireturn, 1) := by decide +kernel
theorem dX4_numberOfSheet_57 : decode cX4_numberOfSheet 57 = .ok (.aload_n 0, 1) := by decide +kernel
theorem dX4_numberOfSheet_58 : decode cX4_numberOfSheet 58 = .ok (.iload_n 1, 1) := by decide +kernel
theorem dX4_numberOfSheet_59 : decode cX4_numberOfSheet 59 = .ok (.iconst 2, 1) := by decide +kernel
theorem dX4_numberOfSheet_60 : decode cX4_numberOfSheet 60 = .ok (.invokevirtual 90, 3) := by decide +kernel
theorem dX4_numberOfSheet_63 : decode cX4_numberOfSheet 63 = .ok (.ireturn, 1) := by decide +kernel
theorem dX4_numberOfSheet_64 : decode cX4_numberOfSheet 64 = .ok (.aload_n 0, 1) := by decide +kernel
theorem dX4_numberOfSheet_65 : decode cX4_numberOfSheet 65 = .ok (.iload_n 1, 1) := by decide +kernel
theorem dX4_numberOfSheet_66 : decode cX4_numberOfSheet 66 = .ok (.iconst 3, 1) := by decide +kernel
theorem dX4_numberOfSheet_67 : decode cX4_numberOfSheet 67 = .ok (.invokevirtual 90, 3) := by decide +kernel
theorem dX4_numberOfSheet_70 : decode cX4_numberOfSheet 70 = .ok (.ireturn, 1) := by decide +kernel
theorem dX4_numberOfSheet_71 : decode cX4_numberOfSheet 71 = .ok (.aload_n 0, 1) := by decide +kernel
theorem dX4_numberOfSheet_72 : decode cX4_numberOfSheet 72 = .ok (.iload_n 1, 1) := by decide +kernel
theorem dX4_numberOfSheet_73 : decode cX4_numberOfSheet 73 = .ok (.invokevirtual 108, 3) := by decide +kernel
theorem dX4_numberOfSheet_76 : decode cX4_numberOfSheet 76 = .ok (.ireturn, 1) := by decide +kernel
theorem dX4_sumUp_0 : decode cX4_sumUp 0 = .ok (.iload_n 1, 1) := by decide +kernel
theorem dX4_sumUp_1 : decode cX4_sumUp 1 = .ok (.tableswitch 130 0 11 #[63, 68, 73, 78, 83, 88, 94, 100, 106, 111, 116, 121], 63) := by decide +kernel
theorem dX4_sumUp_64 : decode cX4_sumUp 64 = .ok (.aload_n 0, 1) := by decide +kernel
theorem dX4_sumUp_65 : decode cX4_sumUp 65 = .ok (.getfield 42, 3) := by decide +kernel
theorem dX4_sumUp_68 : decode cX4_sumUp 68 = .ok (.ireturn, 1) := by decide +kernel
theorem dX4_sumUp_69 : decode cX4_sumUp 69 = .ok (.aload_n 0, 1) := by decide +kernel
theorem dX4_sumUp_70 : decode cX4_sumUp 70 = .ok (.getfield 46, 3) := by decide +kernel
theorem dX4_sumUp_73 : decode cX4_sumUp 73 = .ok (.ireturn, 1) := by decide +kernel
theorem dX4_sumUp_74 : decode cX4_sumUp 74 = .ok (.aload_n 0, 1) := by decide +kernel
theorem dX4_sumUp_75 : decode cX4_sumUp 75 = .ok (.getfield 49, 3) := by decide +kernel
theorem dX4_sumUp_78 : decode cX4_sumUp 78 = .ok (.ireturn, 1) := by decide +kernel
theorem dX4_sumUp_79 : decode cX4_sumUp 79 = .ok (.aload_n 0, 1) := by decide +kernel
theorem dX4_sumUp_80 : decode cX4_sumUp 80 = .ok (.getfield 52, 3) := by decide +kernel
theorem dX4_sumUp_83 : decode cX4_sumUp 83 = .ok (.ireturn, 1) := by decide +kernel
theorem dX4_sumUp_84 : decode cX4_sumUp 84 = .ok (.aload_n 0, 1) := by decide +kernel
theorem dX4_sumUp_85 : decode cX4_sumUp 85 = .ok (.getfield 55, 3) := by decide +kernel
theorem dX4_sumUp_88 : decode cX4_sumUp 88 = .ok (.ireturn, 1) := by decide +kernel
theorem dX4_sumUp_89 : decode cX4_sumUp 89 = .ok (.aload_n 0, 1) := by decide +kernel
theorem dX4_sumUp_90 : decode cX4_sumUp 90 = .ok (.iconst 1, 1) := by decide +kernel
theorem dX4_sumUp_91 : decode cX4_sumUp 91 = .ok (.invokevirtual 111, 3) := by decide +kernel
theorem dX4_sumUp_94 : decode cX4_sumUp 94 = .ok (.ireturn, 1) := by decide +kernel
theorem dX4_sumUp_95 : decode cX4_sumUp 95 = .ok (.aload_n 0, 1) := by decide +kernel
theorem dX4_sumUp_96 : decode cX4_sumUp 96 = .ok (.iconst 2, 1) := by decide +kernel
theorem dX4_sumUp_97 : decode cX4_sumUp 97 = .ok (.invokevirtual 111, 3) := by decide +kernel
theorem dX4_sumUp_100 : decode cX4_sumUp 100 = .ok (.ireturn, 1) := by decide +kernel
theorem dX4_sumUp_101 : decode cX4_sumUp 101 = .ok (.aload_n 0, 1) := by decide +kernel
theorem dX4_sumUp_102 : decode cX4_sumUp 102 = .ok (.iconst 3, 1) := by decide +kernel
theorem dX4_sumUp_103 : decode cX4_sumUp 103 = .ok (.invokevirtual 111, 3) := by decide +kernel
theorem dX4_sumUp_106 : decode cX4_sumUp 106 = .ok (.ireturn, 1) := by decide +kernel
theorem dX4_sumUp_107 : decode cX4_sumUp 107 = .ok (.aload_n 0, 1) := by decide +kernel
theorem dX4_sumUp_108 : decode cX4_sumUp 108 = .ok (.getfield 58, 3) := by decide +kernel
theorem dX4_sumUp_111 : decode cX4_sumUp 111 = .ok (.ireturn, 1) := by decide +kernel
theorem dX4_sumUp_112 : decode cX4_sumUp 112 = .ok (.aload_n 0, 1) := by decide +kernel
theorem dX4_sumUp_113 : decode cX4_sumUp 113 = .ok (.getfield 61, 3) := by decide +kernel
theorem dX4_sumUp_116 : decode cX4_sumUp 116 = .ok (.ireturn, 1) := by decide +kernel
theorem dX4_sumUp_117 : decode cX4_sumUp 117 = .ok (.aload_n 0, 1) := by decide +kernel
theorem dX4_sumUp_118 : decode cX4_sumUp 118 = .ok (.getfield 64, 3) := by decide +kernel
theorem dX4_sumUp_121 : decode cX4_sumUp 121 = .ok (.ireturn, 1) := by decide +kernel
theorem dX4_sumUp_122 : decode cX4_sumUp 122 = .ok (.aload_n 0, 1) := by decide +kernel
theorem dX4_sumUp_123 : decode cX4_sumUp 123 = .ok (.aload_n 0, 1) := by decide +kernel
theorem dX4_sumUp_124 : decode cX4_sumUp 124 = .ok (.getfield 18, 3) := by decide +kernel
theorem dX4_sumUp_127 : decode cX4_sumUp 127 = .ok (.invokevirtual 114, 3) := by decide +kernel
theorem dX4_sumUp_130 : decode cX4_sumUp 130 = .ok (.ireturn, 1) := by decide +kernel
theorem dX4_sumUp_131 : decode cX4_sumUp 131 = .ok (.aload_n 0, 1) := by decide +kernel
theorem dX4_sumUp_132 : decode cX4_sumUp 132 = .ok (.aload_n 0, 1) := by decide +kernel
theorem dX4_sumUp_133 : decode cX4_sumUp 133 = .ok (.getfield 9, 3) := by decide +kernel
theorem dX4_sumUp_136 : decode cX4_sumUp 136 = .ok (.invokevirtual 114, 3) := by decide +kernel
theorem dX4_sumUp_139 : decode cX4_sumUp 139 = .ok (.ireturn, 1) := by decide +kernel
theorem dX4_sumOfHouses_0 : decode cX4_sumOfHouses 0 = .ok (.iconst 0, 1) := by decide +kernel
theorem dX4_sumOfHouses_1 : decode cX4_sumOfHouses 1 = .ok (.istore_n 2, 1) := by decide +kernel
theorem dX4_sumOfHouses_2 : decode cX4_sumOfHouses 2 = .ok (.iconst 0, 1) := by decide +kernel
theorem dX4_sumOfHouses_3 : decode cX4_sumOfHouses 3 = .ok (.istore_n 3, 1) := by decide +kernel
theorem dX4_sumOfHouses_4 : decode cX4_sumOfHouses 4 = .ok (.iload_n 3, 1) := by decide +kernel
theorem dX4_sumOfHouses_5 : decode cX4_sumOfHouses 5 = .ok (.aload_n 0, 1) := by decide +kernel
theorem dX4_sumOfHouses_6 : decode cX4_sumOfHouses 6 = .ok (.getfield 42, 3) := by decide +kernel
theorem dX4_sumOfHouses_9 : decode cX4_sumOfHouses 9 = .ok (.if_icmp .ge 21, 3) := by decide +kernel
theorem dX4_sumOfHouses_12 : decode cX4_sumOfHouses 12 = .ok (.iload_n 3, 1) := by decide +kernel
theorem dX4_sumOfHouses_13 : decode cX4_sumOfHouses 13 = .ok (.aload_n 1, 1) := by decide +kernel
theorem dX4_sumOfHouses_14 : decode cX4_sumOfHouses 14 = .ok (.arraylength, 1) := by decide +kernel
theorem dX4_sumOfHouses_15 : decode cX4_sumOfHouses 15 = .ok (.if_icmp .ge 15, 3) := by decide +kernel
theorem dX4_sumOfHouses_18 : decode cX4_sumOfHouses 18 = .ok (.iload_n 2, 1) := by decide +kernel
theorem dX4_sumOfHouses_19 : decode cX4_sumOfHouses 19 = .ok (.aload_n 1, 1) := by decide +kernel
theorem dX4_sumOfHouses_20 : decode cX4_sumOfHouses 20 = .ok (.iload_n 3, 1) := by decide +kernel
theorem dX4_sumOfHouses_21 : decode cX4_sumOfHouses 21 = .ok (.iaload, 1) := by decide +kernel
theorem dX4_sumOfHouses_22 : decode cX4_sumOfHouses 22 = .ok (.iadd, 1) := by decide +kernel
theorem dX4_sumOfHouses_23 : decode cX4_sumOfHouses 23 = .ok (.istore_n 2, 1) := by decide +kernel
theorem dX4_sumOfHouses_24 : decode cX4_sumOfHouses 24 = .ok (.iinc 3 1, 3) := by decide +kernel
theorem dX4_sumOfHouses_27 : decode cX4_sumOfHouses 27 = .ok (.goto (-23), 3) := by decide +kernel
theorem dX4_sumOfHouses_30 : decode cX4_sumOfHouses 30 = .ok (.iload_n 2, 1) := by decide +kernel
theorem dX4_sumOfHouses_31 : decode cX4_sumOfHouses 31 = .ok (.ireturn, 1) := by decide +kernel
theorem dX4_licenceCost_0 : decode cX4_licenceCost 0 = .ok (.iconst 2, 1) := by decide +kernel
theorem dX4_licenceCost_1 : decode cX4_licenceCost 1 = .ok (.aload_n 0, 1) := by decide +kernel
theorem dX4_licenceCost_2 : decode cX4_licenceCost 2 = .ok (.iload_n 1, 1) := by decide +kernel
theorem dX4_licenceCost_3 : decode cX4_licenceCost 3 = .ok (.iconst 2, 1) := by decide +kernel
theorem dX4_licenceCost_4 : decode cX4_licenceCost 4 = .ok (.invokevirtual 102, 3) := by decide +kernel
theorem dX4_licenceCost_7 : decode cX4_licenceCost 7 = .ok (.iadd, 1) := by decide +kernel
theorem dX4_licenceCost_8 : decode cX4_licenceCost 8 = .ok (.ireturn, 1) := by decide +kernel
theorem dX4_canPayLicence_0 : decode cX4_canPayLicence 0 = .ok (.aload_n 0, 1) := by decide +kernel
theorem dX4_canPayLicence_1 : decode cX4_canPayLicence 1 = .ok (.iload_n 1, 1) := by decide +kernel
theorem dX4_canPayLicence_2 : decode cX4_canPayLicence 2 = .ok (.invokevirtual 96, 3) := by decide +kernel
theorem dX4_canPayLicence_5 : decode cX4_canPayLicence 5 = .ok (.ifCond .ne 21, 3) := by decide +kernel
theorem dX4_canPayLicence_8 : decode cX4_canPayLicence 8 = .ok (.aload_n 0, 1) := by decide +kernel
theorem dX4_canPayLicence_9 : decode cX4_canPayLicence 9 = .ok (.getfield 9, 3) := by decide +kernel
theorem dX4_canPayLicence_12 : decode cX4_canPayLicence 12 = .ok (.iload_n 1, 1) := by decide +kernel
theorem dX4_canPayLicence_13 : decode cX4_canPayLicence 13 = .ok (.iaload, 1) := by decide +kernel
theorem dX4_canPayLicence_14 : decode cX4_canPayLicence 14 = .ok (.aload_n 0, 1) := by decide +kernel
theorem dX4_canPayLicence_15 : decode cX4_canPayLicence 15 = .ok (.iload_n 1, 1) := by decide +kernel
theorem dX4_canPayLicence_16 : decode cX4_canPayLicence 16 = .ok (.invokevirtual 105, 3) := by decide +kernel
theorem dX4_canPayLicence_19 : decode cX4_canPayLicence 19 = .ok (.if_icmp .lt 7, 3) := by decide +kernel
theorem dX4_canPayLicence_22 : decode cX4_canPayLicence 22 = .ok (.iconst 1, 1) := by decide +kernel
theorem dX4_canPayLicence_23 : decode cX4_canPayLicence 23 = .ok (.goto 4, 3) := by decide +kernel
theorem dX4_canPayLicence_26 : decode cX4_canPayLicence 26 = .ok (.iconst 0, 1) := by decide +kernel
theorem dX4_canPayLicence_27 : decode cX4_canPayLicence 27 = .ok (.ireturn, 1) := by decide +kernel
theorem dX4_fineByRules_0 : decode cX4_fineByRules 0 = .ok (.aload_n 0, 1) := by decide +kernel
theorem dX4_fineByRules_1 : decode cX4_fineByRules 1 = .ok (.iload_n 1, 1) := by decide +kernel
theorem dX4_fineByRules_2 : decode cX4_fineByRules 2 = .ok (.iload_n 2, 1) := by decide +kernel
theorem dX4_fineByRules_3 : decode cX4_fineByRules 3 = .ok (.invokevirtual 118, 3) := by decide +kernel
theorem dX4_fineByRules_6 : decode cX4_fineByRules 6 = .ok (.istore_n 3, 1) := by decide +kernel
theorem dX4_fineByRules_7 : decode cX4_fineByRules 7 = .ok (.iload_n 3, 1) := by decide +kernel
theorem dX4_fineByRules_8 : decode cX4_fineByRules 8 = .ok (.ifCond .ne 5, 3) := by decide +kernel
theorem dX4_fineByRules_11 : decode cX4_fineByRules 11 = .ok (.iconst 0, 1) := by decide +kernel
theorem dX4_fineByRules_12 : decode cX4_fineByRules 12 = .ok (.ireturn, 1) := by decide +kernel
theorem dX4_fineByRules_13 : decode cX4_fineByRules 13 = .ok (.iconst 1, 1) := by decide +kernel
theorem dX4_fineByRules_14 : decode cX4_fineByRules 14 = .ok (.aload_n 0, 1) := by decide +kernel
theorem dX4_fineByRules_15 : decode cX4_fineByRules 15 = .ok (.iload_n 1, 1) := by decide +kernel
theorem dX4_fineByRules_16 : decode cX4_fineByRules 16 = .ok (.iload_n 2, 1) := by decide +kernel
theorem dX4_fineByRules_17 : decode cX4_fineByRules 17 = .ok (.invokevirtual 93, 3) := by decide +kernel
theorem dX4_fineByRules_20 : decode cX4_fineByRules 20 = .ok (.iadd, 1) := by decide +kernel
theorem dX4_fineByRules_21 : decode cX4_fineByRules 21 = .ok (.istore 4, 2) := by decide +kernel
theorem dX4_fineByRules_23 : decode cX4_fineByRules 23 = .ok (.iload_n 3, 1) := by decide +kernel
theorem dX4_fineByRules_24 : decode cX4_fineByRules 24 = .ok (.iconst 2, 1) := by decide +kernel
theorem dX4_fineByRules_25 : decode cX4_fineByRules 25 = .ok (.if_icmp .lt 6, 3) := by decide +kernel
theorem dX4_fineByRules_28 : decode cX4_fineByRules 28 = .ok (.iinc 4 2, 3) := by decide +kernel
theorem dX4_fineByRules_31 : decode cX4_fineByRules 31 = .ok (.iload_n 3, 1) := by decide +kernel
theorem dX4_fineByRules_32 : decode cX4_fineByRules 32 = .ok (.iconst 3, 1) := by decide +kernel
theorem dX4_fineByRules_33 : decode cX4_fineByRules 33 = .ok (.if_icmp .ne 9, 3) := by decide +kernel
theorem dX4_fineByRules_36 : decode cX4_fineByRules 36 = .ok (.iload 4, 2) := by decide +kernel
theorem dX4_fineByRules_38 : decode cX4_fineByRules 38 = .ok (.iconst 2, 1) := by decide +kernel
theorem dX4_fineByRules_39 : decode cX4_fineByRules 39 = .ok (.imul, 1) := by decide +kernel
theorem dX4_fineByRules_40 : decode cX4_fineByRules 40 = .ok (.istore 4, 2) := by decide +kernel
theorem dX4_fineByRules_42 : decode cX4_fineByRules 42 = .ok (.iload 4, 2) := by decide +kernel
theorem dX4_fineByRules_44 : decode cX4_fineByRules 44 = .ok (.ireturn, 1) := by decide +kernel
theorem dX4_fineAtOnce_0 : decode cX4_fineAtOnce 0 = .ok (.aload_n 0, 1) := by decide +kernel
theorem dX4_fineAtOnce_1 : decode cX4_fineAtOnce 1 = .ok (.iload_n 1, 1) := by decide +kernel
theorem dX4_fineAtOnce_2 : decode cX4_fineAtOnce 2 = .ok (.iload_n 2, 1) := by decide +kernel
theorem dX4_fineAtOnce_3 : decode cX4_fineAtOnce 3 = .ok (.invokevirtual 118, 3) := by decide +kernel
theorem dX4_fineAtOnce_6 : decode cX4_fineAtOnce 6 = .ok (.tableswitch 56 1 3 #[26, 35, 44], 26) := by decide +kernel
theorem dX4_fineAtOnce_32 : decode cX4_fineAtOnce 32 = .ok (.aload_n 0, 1) := by decide +kernel
theorem dX4_fineAtOnce_33 : decode cX4_fineAtOnce 33 = .ok (.iload_n 1, 1) := by decide +kernel
theorem dX4_fineAtOnce_34 : decode cX4_fineAtOnce 34 = .ok (.iload_n 2, 1) := by decide +kernel
theorem dX4_fineAtOnce_35 : decode cX4_fineAtOnce 35 = .ok (.invokevirtual 93, 3) := by decide +kernel
theorem dX4_fineAtOnce_38 : decode cX4_fineAtOnce 38 = .ok (.iconst 1, 1) := by decide +kernel
theorem dX4_fineAtOnce_39 : decode cX4_fineAtOnce 39 = .ok (.iadd, 1) := by decide +kernel
theorem dX4_fineAtOnce_40 : decode cX4_fineAtOnce 40 = .ok (.ireturn, 1) := by decide +kernel
theorem dX4_fineAtOnce_41 : decode cX4_fineAtOnce 41 = .ok (.aload_n 0, 1) := by decide +kernel
theorem dX4_fineAtOnce_42 : decode cX4_fineAtOnce 42 = .ok (.iload_n 1, 1) := by decide +kernel
theorem dX4_fineAtOnce_43 : decode cX4_fineAtOnce 43 = .ok (.iload_n 2, 1) := by decide +kernel
theorem dX4_fineAtOnce_44 : decode cX4_fineAtOnce 44 = .ok (.invokevirtual 93, 3) := by decide +kernel
theorem dX4_fineAtOnce_47 : decode cX4_fineAtOnce 47 = .ok (.iconst 3, 1) := by decide +kernel
theorem dX4_fineAtOnce_48 : decode cX4_fineAtOnce 48 = .ok (.iadd, 1) := by decide +kernel
theorem dX4_fineAtOnce_49 : decode cX4_fineAtOnce 49 = .ok (.ireturn, 1) := by decide +kernel
theorem dX4_fineAtOnce_50 : decode cX4_fineAtOnce 50 = .ok (.iconst 2, 1) := by decide +kernel
theorem dX4_fineAtOnce_51 : decode cX4_fineAtOnce 51 = .ok (.aload_n 0, 1) := by decide +kernel
theorem dX4_fineAtOnce_52 : decode cX4_fineAtOnce 52 = .ok (.iload_n 1, 1) := by decide +kernel
theorem dX4_fineAtOnce_53 : decode cX4_fineAtOnce 53 = .ok (.iload_n 2, 1) := by decide +kernel
theorem dX4_fineAtOnce_54 : decode cX4_fineAtOnce 54 = .ok (.invokevirtual 93, 3) := by decide +kernel
theorem dX4_fineAtOnce_57 : decode cX4_fineAtOnce 57 = .ok (.imul, 1) := by decide +kernel
theorem dX4_fineAtOnce_58 : decode cX4_fineAtOnce 58 = .ok (.bipush 6, 2) := by decide +kernel
theorem dX4_fineAtOnce_60 : decode cX4_fineAtOnce 60 = .ok (.iadd, 1) := by decide +kernel
theorem dX4_fineAtOnce_61 : decode cX4_fineAtOnce 61 = .ok (.ireturn, 1) := by decide +kernel
theorem dX4_fineAtOnce_62 : decode cX4_fineAtOnce 62 = .ok (.iconst 0, 1) := by decide +kernel
theorem dX4_fineAtOnce_63 : decode cX4_fineAtOnce 63 = .ok (.ireturn, 1) := by decide +kernel
theorem dX4_finesByPlace_0 : decode cX4_finesByPlace 0 = .ok (.iconst 0, 1) := by decide +kernel
theorem dX4_finesByPlace_1 : decode cX4_finesByPlace 1 = .ok (.istore_n 2, 1) := by decide +kernel
theorem dX4_finesByPlace_2 : decode cX4_finesByPlace 2 = .ok (.iconst 0, 1) := by decide +kernel
theorem dX4_finesByPlace_3 : decode cX4_finesByPlace 3 = .ok (.istore_n 3, 1) := by decide +kernel
theorem dX4_finesByPlace_4 : decode cX4_finesByPlace 4 = .ok (.iload_n 3, 1) := by decide +kernel
theorem dX4_finesByPlace_5 : decode cX4_finesByPlace 5 = .ok (.aload_n 0, 1) := by decide +kernel
theorem dX4_finesByPlace_6 : decode cX4_finesByPlace 6 = .ok (.getfield 24, 3) := by decide +kernel
theorem dX4_finesByPlace_9 : decode cX4_finesByPlace 9 = .ok (.iload_n 1, 1) := by decide +kernel
theorem dX4_finesByPlace_10 : decode cX4_finesByPlace 10 = .ok (.iaload, 1) := by decide +kernel
theorem dX4_finesByPlace_11 : decode cX4_finesByPlace 11 = .ok (.if_icmp .ge 18, 3) := by decide +kernel
theorem dX4_finesByPlace_14 : decode cX4_finesByPlace 14 = .ok (.iload_n 2, 1) := by decide +kernel
theorem dX4_finesByPlace_15 : decode cX4_finesByPlace 15 = .ok (.aload_n 0, 1) := by decide +kernel
theorem dX4_finesByPlace_16 : decode cX4_finesByPlace 16 = .ok (.iload_n 1, 1) := by decide +kernel
theorem dX4_finesByPlace_17 : decode cX4_finesByPlace 17 = .ok (.iload_n 3, 1) := by decide +kernel
theorem dX4_finesByPlace_18 : decode cX4_finesByPlace 18 = .ok (.invokevirtual 121, 3) := by decide +kernel
theorem dX4_finesByPlace_21 : decode cX4_finesByPlace 21 = .ok (.iadd, 1) := by decide +kernel
theorem dX4_finesByPlace_22 : decode cX4_finesByPlace 22 = .ok (.istore_n 2, 1) := by decide +kernel
theorem dX4_finesByPlace_23 : decode cX4_finesByPlace 23 = .ok (.iinc 3 1, 3) := by decide +kernel
theorem dX4_finesByPlace_26 : decode cX4_finesByPlace 26 = .ok (.goto (-22), 3) := by decide +kernel
theorem dX4_finesByPlace_29 : decode cX4_finesByPlace 29 = .ok (.iload_n 2, 1) := by decide +kernel
theorem dX4_finesByPlace_30 : decode cX4_finesByPlace 30 = .ok (.ireturn, 1) := by decide +kernel
theorem dX4_isLaughing_0 : decode cX4_isLaughing 0 = .ok (.aload_n 0, 1) := by decide +kernel
theorem dX4_isLaughing_1 : decode cX4_isLaughing 1 = .ok (.getfield 36, 3) := by decide +kernel
theorem dX4_isLaughing_4 : decode cX4_isLaughing 4 = .ok (.iload_n 1, 1) := by decide +kernel
theorem dX4_isLaughing_5 : decode cX4_isLaughing 5 = .ok (.iaload, 1) := by decide +kernel
theorem dX4_isLaughing_6 : decode cX4_isLaughing 6 = .ok (.ifCond .ne 21, 3) := by decide +kernel
theorem dX4_isLaughing_9 : decode cX4_isLaughing 9 = .ok (.iload_n 2, 1) := by decide +kernel
theorem dX4_isLaughing_10 : decode cX4_isLaughing 10 = .ok (.aload_n 0, 1) := by decide +kernel
theorem dX4_isLaughing_11 : decode cX4_isLaughing 11 = .ok (.getfield 39, 3) := by decide +kernel
theorem dX4_isLaughing_14 : decode cX4_isLaughing 14 = .ok (.iload_n 1, 1) := by decide +kernel
theorem dX4_isLaughing_15 : decode cX4_isLaughing 15 = .ok (.iaload, 1) := by decide +kernel
theorem dX4_isLaughing_16 : decode cX4_isLaughing 16 = .ok (.if_icmp .ne 7, 3) := by decide +kernel
theorem dX4_isLaughing_19 : decode cX4_isLaughing 19 = .ok (.iconst 1, 1) := by decide +kernel
theorem dX4_isLaughing_20 : decode cX4_isLaughing 20 = .ok (.goto 22, 3) := by decide +kernel
theorem dX4_isLaughing_23 : decode cX4_isLaughing 23 = .ok (.iconst 0, 1) := by decide +kernel
theorem dX4_isLaughing_24 : decode cX4_isLaughing 24 = .ok (.goto 18, 3) := by decide +kernel
theorem dX4_isLaughing_27 : decode cX4_isLaughing 27 = .ok (.iload_n 3, 1) := by decide +kernel
theorem dX4_isLaughing_28 : decode cX4_isLaughing 28 = .ok (.aload_n 0, 1) := by decide +kernel
theorem dX4_isLaughing_29 : decode cX4_isLaughing 29 = .ok (.getfield 39, 3) := by decide +kernel
theorem dX4_isLaughing_32 : decode cX4_isLaughing 32 = .ok (.iload_n 1, 1) := by decide +kernel
theorem dX4_isLaughing_33 : decode cX4_isLaughing 33 = .ok (.iaload, 1) := by decide +kernel
theorem dX4_isLaughing_34 : decode cX4_isLaughing 34 = .ok (.if_icmp .lt 7, 3) := by decide +kernel
theorem dX4_isLaughing_37 : decode cX4_isLaughing 37 = .ok (.iconst 1, 1) := by decide +kernel
theorem dX4_isLaughing_38 : decode cX4_isLaughing 38 = .ok (.goto 4, 3) := by decide +kernel
theorem dX4_isLaughing_41 : decode cX4_isLaughing 41 = .ok (.iconst 0, 1) := by decide +kernel
theorem dX4_isLaughing_42 : decode cX4_isLaughing 42 = .ok (.ireturn, 1) := by decide +kernel
theorem dX4_laughersAt_0 : decode cX4_laughersAt 0 = .ok (.aload_n 0, 1) := by decide +kernel
theorem dX4_laughersAt_1 : decode cX4_laughersAt 1 = .ok (.iload_n 1, 1) := by decide +kernel
theorem dX4_laughersAt_2 : decode cX4_laughersAt 2 = .ok (.iload_n 2, 1) := by decide +kernel
theorem dX4_laughersAt_3 : decode cX4_laughersAt 3 = .ok (.invokevirtual 77, 3) := by decide +kernel
theorem dX4_laughersAt_6 : decode cX4_laughersAt 6 = .ok (.istore_n 3, 1) := by decide +kernel
theorem dX4_laughersAt_7 : decode cX4_laughersAt 7 = .ok (.aload_n 0, 1) := by decide +kernel
theorem dX4_laughersAt_8 : decode cX4_laughersAt 8 = .ok (.iload_n 1, 1) := by decide +kernel
theorem dX4_laughersAt_9 : decode cX4_laughersAt 9 = .ok (.iload_n 2, 1) := by decide +kernel
theorem dX4_laughersAt_10 : decode cX4_laughersAt 10 = .ok (.invokevirtual 93, 3) := by decide +kernel
theorem dX4_laughersAt_13 : decode cX4_laughersAt 13 = .ok (.istore 4, 2) := by decide +kernel
theorem dX4_laughersAt_15 : decode cX4_laughersAt 15 = .ok (.iconst 0, 1) := by decide +kernel
theorem dX4_laughersAt_16 : decode cX4_laughersAt 16 = .ok (.istore 5, 2) := by decide +kernel
theorem dX4_laughersAt_18 : decode cX4_laughersAt 18 = .ok (.iconst 0, 1) := by decide +kernel
theorem dX4_laughersAt_19 : decode cX4_laughersAt 19 = .ok (.istore 6, 2) := by decide +kernel
theorem dX4_laughersAt_21 : decode cX4_laughersAt 21 = .ok (.iload 4, 2) := by decide +kernel
theorem dX4_laughersAt_23 : decode cX4_laughersAt 23 = .ok (.ifCond .le 39, 3) := by decide +kernel
theorem dX4_laughersAt_26 : decode cX4_laughersAt 26 = .ok (.iload 6, 2) := by decide +kernel
theorem dX4_laughersAt_28 : decode cX4_laughersAt 28 = .ok (.aload_n 0, 1) := by decide +kernel
theorem dX4_laughersAt_29 : decode cX4_laughersAt 29 = .ok (.getfield 49, 3) := by decide +kernel
theorem dX4_laughersAt_32 : decode cX4_laughersAt 32 = .ok (.if_icmp .ge 30, 3) := by decide +kernel
theorem dX4_laughersAt_35 : decode cX4_laughersAt 35 = .ok (.aload_n 0, 1) := by decide +kernel
theorem dX4_laughersAt_36 : decode cX4_laughersAt 36 = .ok (.iload 6, 2) := by decide +kernel
theorem dX4_laughersAt_38 : decode cX4_laughersAt 38 = .ok (.iload_n 3, 1) := by decide +kernel
theorem dX4_laughersAt_39 : decode cX4_laughersAt 39 = .ok (.iload 4, 2) := by decide +kernel
theorem dX4_laughersAt_41 : decode cX4_laughersAt 41 = .ok (.invokevirtual 124, 3) := by decide +kernel
theorem dX4_laughersAt_44 : decode cX4_laughersAt 44 = .ok (.ifCond .eq 12, 3) := by decide +kernel
theorem dX4_laughersAt_47 : decode cX4_laughersAt 47 = .ok (.iload 5, 2) := by decide +kernel
theorem dX4_laughersAt_49 : decode cX4_laughersAt 49 = .ok (.iconst 1, 1) := by decide +kernel
theorem dX4_laughersAt_50 : decode cX4_laughersAt 50 = .ok (.iload 6, 2) := by decide +kernel
theorem dX4_laughersAt_52 : decode cX4_laughersAt 52 = .ok (.ishl, 1) := by decide +kernel
theorem dX4_laughersAt_53 : decode cX4_laughersAt 53 = .ok (.ior, 1) := by decide +kernel
theorem dX4_laughersAt_54 : decode cX4_laughersAt 54 = .ok (.istore 5, 2) := by decide +kernel
theorem dX4_laughersAt_56 : decode cX4_laughersAt 56 = .ok (.iinc 6 1, 3) := by decide +kernel
theorem dX4_laughersAt_59 : decode cX4_laughersAt 59 = .ok (.goto (-38), 3) := by decide +kernel
theorem dX4_laughersAt_62 : decode cX4_laughersAt 62 = .ok (.iload 5, 2) := by decide +kernel
theorem dX4_laughersAt_64 : decode cX4_laughersAt 64 = .ok (.ireturn, 1) := by decide +kernel
theorem dX4_laughsByMisprint_0 : decode cX4_laughsByMisprint 0 = .ok (.iconst 0, 1) := by decide +kernel
theorem dX4_laughsByMisprint_1 : decode cX4_laughsByMisprint 1 = .ok (.istore_n 1, 1) := by decide +kernel
theorem dX4_laughsByMisprint_2 : decode cX4_laughsByMisprint 2 = .ok (.iconst 0, 1) := by decide +kernel
theorem dX4_laughsByMisprint_3 : decode cX4_laughsByMisprint 3 = .ok (.istore_n 2, 1) := by decide +kernel
theorem dX4_laughsByMisprint_4 : decode cX4_laughsByMisprint 4 = .ok (.iload_n 2, 1) := by decide +kernel
theorem dX4_laughsByMisprint_5 : decode cX4_laughsByMisprint 5 = .ok (.aload_n 0, 1) := by decide +kernel
theorem dX4_laughsByMisprint_6 : decode cX4_laughsByMisprint 6 = .ok (.getfield 46, 3) := by decide +kernel
theorem dX4_laughsByMisprint_9 : decode cX4_laughsByMisprint 9 = .ok (.if_icmp .ge 49, 3) := by decide +kernel
theorem dX4_laughsByMisprint_12 : decode cX4_laughsByMisprint 12 = .ok (.iconst 0, 1) := by decide +kernel
theorem dX4_laughsByMisprint_13 : decode cX4_laughsByMisprint 13 = .ok (.istore_n 3, 1) := by decide +kernel
theorem dX4_laughsByMisprint_14 : decode cX4_laughsByMisprint 14 = .ok (.iload_n 3, 1) := by decide +kernel
theorem dX4_laughsByMisprint_15 : decode cX4_laughsByMisprint 15 = .ok (.aload_n 0, 1) := by decide +kernel
theorem dX4_laughsByMisprint_16 : decode cX4_laughsByMisprint 16 = .ok (.getfield 24, 3) := by decide +kernel
theorem dX4_laughsByMisprint_19 : decode cX4_laughsByMisprint 19 = .ok (.iload_n 2, 1) := by decide +kernel
theorem dX4_laughsByMisprint_20 : decode cX4_laughsByMisprint 20 = .ok (.iaload, 1) := by decide +kernel
theorem dX4_laughsByMisprint_21 : decode cX4_laughsByMisprint 21 = .ok (.if_icmp .ge 31, 3) := by decide +kernel
theorem dX4_laughsByMisprint_24 : decode cX4_laughsByMisprint 24 = .ok (.aload_n 0, 1) := by decide +kernel
theorem dX4_laughsByMisprint_25 : decode cX4_laughsByMisprint 25 = .ok (.iload_n 2, 1) := by decide +kernel
theorem dX4_laughsByMisprint_26 : decode cX4_laughsByMisprint 26 = .ok (.iload_n 3, 1) := by decide +kernel
theorem dX4_laughsByMisprint_27 : decode cX4_laughsByMisprint 27 = .ok (.invokevirtual 118, 3) := by decide +kernel
theorem dX4_laughsByMisprint_30 : decode cX4_laughsByMisprint 30 = .ok (.iconst 2, 1) := by decide +kernel
theorem dX4_laughsByMisprint_31 : decode cX4_laughsByMisprint 31 = .ok (.if_icmp .ne 15, 3) := by decide +kernel
theorem dX4_laughsByMisprint_34 : decode cX4_laughsByMisprint 34 = .ok (.iload_n 1, 1) := by decide +kernel
theorem dX4_laughsByMisprint_35 : decode cX4_laughsByMisprint 35 = .ok (.aload_n 0, 1) := by decide +kernel
theorem dX4_laughsByMisprint_36 : decode cX4_laughsByMisprint 36 = .ok (.iload_n 2, 1) := by decide +kernel
theorem dX4_laughsByMisprint_37 : decode cX4_laughsByMisprint 37 = .ok (.iload_n 3, 1) := by decide +kernel
theorem dX4_laughsByMisprint_38 : decode cX4_laughsByMisprint 38 = .ok (.invokevirtual 128, 3) := by decide +kernel
theorem dX4_laughsByMisprint_41 : decode cX4_laughsByMisprint 41 = .ok (.invokestatic 131, 3) := by decide +kernel
theorem dX4_laughsByMisprint_44 : decode cX4_laughsByMisprint 44 = .ok (.iadd, 1) := by decide +kernel
theorem dX4_laughsByMisprint_45 : decode cX4_laughsByMisprint 45 = .ok (.istore_n 1, 1) := by decide +kernel
theorem dX4_laughsByMisprint_46 : decode cX4_laughsByMisprint 46 = .ok (.iinc 3 1, 3) := by decide +kernel
theorem dX4_laughsByMisprint_49 : decode cX4_laughsByMisprint 49 = .ok (.goto (-35), 3) := by decide +kernel
theorem dX4_laughsByMisprint_52 : decode cX4_laughsByMisprint 52 = .ok (.iinc 2 1, 3) := by decide +kernel
theorem dX4_laughsByMisprint_55 : decode cX4_laughsByMisprint 55 = .ok (.goto (-51), 3) := by decide +kernel
theorem dX4_laughsByMisprint_58 : decode cX4_laughsByMisprint 58 = .ok (.iload_n 1, 1) := by decide +kernel
theorem dX4_laughsByMisprint_59 : decode cX4_laughsByMisprint 59 = .ok (.ireturn, 1) := by decide +kernel
theorem dX4_laughsByReader_0 : decode cX4_laughsByReader 0 = .ok (.iconst 0, 1) := by decide +kernel
theorem dX4_laughsByReader_1 : decode cX4_laughsByReader 1 = .ok (.istore_n 1, 1) := by decide +kernel
theorem dX4_laughsByReader_2 : decode cX4_laughsByReader 2 = .ok (.iconst 0, 1) := by decide +kernel
theorem dX4_laughsByReader_3 : decode cX4_laughsByReader 3 = .ok (.istore_n 2, 1) := by decide +kernel
theorem dX4_laughsByReader_4 : decode cX4_laughsByReader 4 = .ok (.iload_n 2, 1) := by decide +kernel
theorem dX4_laughsByReader_5 : decode cX4_laughsByReader 5 = .ok (.aload_n 0, 1) := by decide +kernel
theorem dX4_laughsByReader_6 : decode cX4_laughsByReader 6 = .ok (.getfield 49, 3) := by decide +kernel
theorem dX4_laughsByReader_9 : decode cX4_laughsByReader 9 = .ok (.if_icmp .ge 17, 3) := by decide +kernel
theorem dX4_laughsByReader_12 : decode cX4_laughsByReader 12 = .ok (.iload_n 1, 1) := by decide +kernel
theorem dX4_laughsByReader_13 : decode cX4_laughsByReader 13 = .ok (.aload_n 0, 1) := by decide +kernel
theorem dX4_laughsByReader_14 : decode cX4_laughsByReader 14 = .ok (.iload_n 2, 1) := by decide +kernel
theorem dX4_laughsByReader_15 : decode cX4_laughsByReader 15 = .ok (.invokevirtual 136, 3) := by decide +kernel
theorem dX4_laughsByReader_18 : decode cX4_laughsByReader 18 = .ok (.iadd, 1) := by decide +kernel
theorem dX4_laughsByReader_19 : decode cX4_laughsByReader 19 = .ok (.istore_n 1, 1) := by decide +kernel
theorem dX4_laughsByReader_20 : decode cX4_laughsByReader 20 = .ok (.iinc 2 1, 3) := by decide +kernel
theorem dX4_laughsByReader_23 : decode cX4_laughsByReader 23 = .ok (.goto (-19), 3) := by decide +kernel
theorem dX4_laughsByReader_26 : decode cX4_laughsByReader 26 = .ok (.iload_n 1, 1) := by decide +kernel
theorem dX4_laughsByReader_27 : decode cX4_laughsByReader 27 = .ok (.ireturn, 1) := by decide +kernel
theorem dX4_laughsOf_0 : decode cX4_laughsOf 0 = .ok (.iconst 0, 1) := by decide +kernel
theorem dX4_laughsOf_1 : decode cX4_laughsOf 1 = .ok (.istore_n 2, 1) := by decide +kernel
theorem dX4_laughsOf_2 : decode cX4_laughsOf 2 = .ok (.iconst 0, 1) := by decide +kernel
theorem dX4_laughsOf_3 : decode cX4_laughsOf 3 = .ok (.istore_n 3, 1) := by decide +kernel
theorem dX4_laughsOf_4 : decode cX4_laughsOf 4 = .ok (.iload_n 3, 1) := by decide +kernel
theorem dX4_laughsOf_5 : decode cX4_laughsOf 5 = .ok (.aload_n 0, 1) := by decide +kernel
theorem dX4_laughsOf_6 : decode cX4_laughsOf 6 = .ok (.getfield 46, 3) := by decide +kernel
theorem dX4_laughsOf_9 : decode cX4_laughsOf 9 = .ok (.if_icmp .ge 77, 3) := by decide +kernel
theorem dX4_laughsOf_12 : decode cX4_laughsOf 12 = .ok (.iconst 0, 1) := by decide +kernel
theorem dX4_laughsOf_13 : decode cX4_laughsOf 13 = .ok (.istore 4, 2) := by decide +kernel
theorem dX4_laughsOf_15 : decode cX4_laughsOf 15 = .ok (.iload 4, 2) := by decide +kernel
theorem dX4_laughsOf_17 : decode cX4_laughsOf 17 = .ok (.aload_n 0, 1) := by decide +kernel
theorem dX4_laughsOf_18 : decode cX4_laughsOf 18 = .ok (.getfield 24, 3) := by decide +kernel
theorem dX4_laughsOf_21 : decode cX4_laughsOf 21 = .ok (.iload_n 3, 1) := by decide +kernel
theorem dX4_laughsOf_22 : decode cX4_laughsOf 22 = .ok (.iaload, 1) := by decide +kernel
theorem dX4_laughsOf_23 : decode cX4_laughsOf 23 = .ok (.if_icmp .ge 57, 3) := by decide +kernel
theorem dX4_laughsOf_26 : decode cX4_laughsOf 26 = .ok (.aload_n 0, 1) := by decide +kernel
theorem dX4_laughsOf_27 : decode cX4_laughsOf 27 = .ok (.iload_n 3, 1) := by decide +kernel
theorem dX4_laughsOf_28 : decode cX4_laughsOf 28 = .ok (.iload 4, 2) := by decide +kernel
theorem dX4_laughsOf_30 : decode cX4_laughsOf 30 = .ok (.invokevirtual 118, 3) := by decide +kernel
theorem dX4_laughsOf_33 : decode cX4_laughsOf 33 = .ok (.iconst 2, 1) := by decide +kernel
theorem dX4_laughsOf_34 : decode cX4_laughsOf 34 = .ok (.if_icmp .ne 7, 3) := by decide +kernel
theorem dX4_laughsOf_37 : decode cX4_laughsOf 37 = .ok (.iconst 1, 1) := by decide +kernel
theorem dX4_laughsOf_38 : decode cX4_laughsOf 38 = .ok (.goto 4, 3) := by decide +kernel
theorem dX4_laughsOf_41 : decode cX4_laughsOf 41 = .ok (.iconst 0, 1) := by decide +kernel
theorem dX4_laughsOf_42 : decode cX4_laughsOf 42 = .ok (.istore 5, 2) := by decide +kernel
theorem dX4_laughsOf_44 : decode cX4_laughsOf 44 = .ok (.iload 5, 2) := by decide +kernel
theorem dX4_laughsOf_46 : decode cX4_laughsOf 46 = .ok (.ifCond .eq 28, 3) := by decide +kernel
theorem dX4_laughsOf_49 : decode cX4_laughsOf 49 = .ok (.aload_n 0, 1) := by decide +kernel
theorem dX4_laughsOf_50 : decode cX4_laughsOf 50 = .ok (.iload_n 1, 1) := by decide +kernel
theorem dX4_laughsOf_51 : decode cX4_laughsOf 51 = .ok (.aload_n 0, 1) := by decide +kernel
theorem dX4_laughsOf_52 : decode cX4_laughsOf 52 = .ok (.iload_n 3, 1) := by decide +kernel
theorem dX4_laughsOf_53 : decode cX4_laughsOf 53 = .ok (.iload 4, 2) := by decide +kernel
theorem dX4_laughsOf_55 : decode cX4_laughsOf 55 = .ok (.invokevirtual 77, 3) := by decide +kernel
theorem dX4_laughsOf_58 : decode cX4_laughsOf 58 = .ok (.aload_n 0, 1) := by decide +kernel
theorem dX4_laughsOf_59 : decode cX4_laughsOf 59 = .ok (.iload_n 3, 1) := by decide +kernel
theorem dX4_laughsOf_60 : decode cX4_laughsOf 60 = .ok (.iload 4, 2) := by decide +kernel
theorem dX4_laughsOf_62 : decode cX4_laughsOf 62 = .ok (.invokevirtual 93, 3) := by decide +kernel
theorem dX4_laughsOf_65 : decode cX4_laughsOf 65 = .ok (.invokevirtual 124, 3) := by decide +kernel
theorem dX4_laughsOf_68 : decode cX4_laughsOf 68 = .ok (.ifCond .eq 6, 3) := by decide +kernel
theorem dX4_laughsOf_71 : decode cX4_laughsOf 71 = .ok (.iinc 2 1, 3) := by decide +kernel
theorem dX4_laughsOf_74 : decode cX4_laughsOf 74 = .ok (.iinc 4 1, 3) := by decide +kernel
theorem dX4_laughsOf_77 : decode cX4_laughsOf 77 = .ok (.goto (-62), 3) := by decide +kernel
theorem dX4_laughsOf_80 : decode cX4_laughsOf 80 = .ok (.iinc 3 1, 3) := by decide +kernel
theorem dX4_laughsOf_83 : decode cX4_laughsOf 83 = .ok (.goto (-79), 3) := by decide +kernel
theorem dX4_laughsOf_86 : decode cX4_laughsOf 86 = .ok (.iload_n 2, 1) := by decide +kernel
theorem dX4_laughsOf_87 : decode cX4_laughsOf 87 = .ok (.ireturn, 1) := by decide +kernel
theorem dX4_shameToCome_0 : decode cX4_shameToCome 0 = .ok (.iconst 0, 1) := by decide +kernel
theorem dX4_shameToCome_1 : decode cX4_shameToCome 1 = .ok (.istore_n 2, 1) := by decide +kernel
theorem dX4_shameToCome_2 : decode cX4_shameToCome 2 = .ok (.iconst 0, 1) := by decide +kernel
theorem dX4_shameToCome_3 : decode cX4_shameToCome 3 = .ok (.istore_n 3, 1) := by decide +kernel
theorem dX4_shameToCome_4 : decode cX4_shameToCome 4 = .ok (.iload_n 3, 1) := by decide +kernel
theorem dX4_shameToCome_5 : decode cX4_shameToCome 5 = .ok (.aload_n 0, 1) := by decide +kernel
theorem dX4_shameToCome_6 : decode cX4_shameToCome 6 = .ok (.getfield 46, 3) := by decide +kernel
theorem dX4_shameToCome_9 : decode cX4_shameToCome 9 = .ok (.if_icmp .ge 60, 3) := by decide +kernel
theorem dX4_shameToCome_12 : decode cX4_shameToCome 12 = .ok (.iconst 0, 1) := by decide +kernel
theorem dX4_shameToCome_13 : decode cX4_shameToCome 13 = .ok (.istore 4, 2) := by decide +kernel
theorem dX4_shameToCome_15 : decode cX4_shameToCome 15 = .ok (.aload_n 0, 1) := by decide +kernel
theorem dX4_shameToCome_16 : decode cX4_shameToCome 16 = .ok (.getfield 21, 3) := by decide +kernel
theorem dX4_shameToCome_19 : decode cX4_shameToCome 19 = .ok (.iload_n 3, 1) := by decide +kernel
theorem dX4_shameToCome_20 : decode cX4_shameToCome 20 = .ok (.iaload, 1) := by decide +kernel
theorem dX4_shameToCome_21 : decode cX4_shameToCome 21 = .ok (.iload_n 1, 1) := by decide +kernel
theorem dX4_shameToCome_22 : decode cX4_shameToCome 22 = .ok (.if_icmp .ne 41, 3) := by decide +kernel
theorem dX4_shameToCome_25 : decode cX4_shameToCome 25 = .ok (.iload 4, 2) := by decide +kernel
theorem dX4_shameToCome_27 : decode cX4_shameToCome 27 = .ok (.aload_n 0, 1) := by decide +kernel
theorem dX4_shameToCome_28 : decode cX4_shameToCome 28 = .ok (.getfield 24, 3) := by decide +kernel
theorem dX4_shameToCome_31 : decode cX4_shameToCome 31 = .ok (.iload_n 3, 1) := by decide +kernel
theorem dX4_shameToCome_32 : decode cX4_shameToCome 32 = .ok (.iaload, 1) := by decide +kernel
theorem dX4_shameToCome_33 : decode cX4_shameToCome 33 = .ok (.if_icmp .ge 30, 3) := by decide +kernel
theorem dX4_shameToCome_36 : decode cX4_shameToCome 36 = .ok (.aload_n 0, 1) := by decide +kernel
theorem dX4_shameToCome_37 : decode cX4_shameToCome 37 = .ok (.iload_n 3, 1) := by decide +kernel
theorem dX4_shameToCome_38 : decode cX4_shameToCome 38 = .ok (.iload 4, 2) := by decide +kernel
theorem dX4_shameToCome_40 : decode cX4_shameToCome 40 = .ok (.invokevirtual 118, 3) := by decide +kernel
theorem dX4_shameToCome_43 : decode cX4_shameToCome 43 = .ok (.iconst 2, 1) := by decide +kernel
theorem dX4_shameToCome_44 : decode cX4_shameToCome 44 = .ok (.if_icmp .ne 13, 3) := by decide +kernel
theorem dX4_shameToCome_47 : decode cX4_shameToCome 47 = .ok (.iload_n 2, 1) := by decide +kernel
theorem dX4_shameToCome_48 : decode cX4_shameToCome 48 = .ok (.aload_n 0, 1) := by decide +kernel
theorem dX4_shameToCome_49 : decode cX4_shameToCome 49 = .ok (.iload_n 3, 1) := by decide +kernel
theorem dX4_shameToCome_50 : decode cX4_shameToCome 50 = .ok (.iload 4, 2) := by decide +kernel
theorem dX4_shameToCome_52 : decode cX4_shameToCome 52 = .ok (.invokevirtual 93, 3) := by decide +kernel
theorem dX4_shameToCome_55 : decode cX4_shameToCome 55 = .ok (.iadd, 1) := by decide +kernel
theorem dX4_shameToCome_56 : decode cX4_shameToCome 56 = .ok (.istore_n 2, 1) := by decide +kernel
theorem dX4_shameToCome_57 : decode cX4_shameToCome 57 = .ok (.iinc 4 1, 3) := by decide +kernel
theorem dX4_shameToCome_60 : decode cX4_shameToCome 60 = .ok (.goto (-45), 3) := by decide +kernel
theorem dX4_shameToCome_63 : decode cX4_shameToCome 63 = .ok (.iinc 3 1, 3) := by decide +kernel
theorem dX4_shameToCome_66 : decode cX4_shameToCome 66 = .ok (.goto (-62), 3) := by decide +kernel
theorem dX4_shameToCome_69 : decode cX4_shameToCome 69 = .ok (.iload_n 2, 1) := by decide +kernel
theorem dX4_shameToCome_70 : decode cX4_shameToCome 70 = .ok (.ireturn, 1) := by decide +kernel
theorem dX4_unlike_0 : decode cX4_unlike 0 = .ok (.aload_n 0, 1) := by decide +kernel
theorem dX4_unlike_1 : decode cX4_unlike 1 = .ok (.getfield 24, 3) := by decide +kernel
theorem dX4_unlike_4 : decode cX4_unlike 4 = .ok (.iload_n 1, 1) := by decide +kernel
theorem dX4_unlike_5 : decode cX4_unlike 5 = .ok (.iaload, 1) := by decide +kernel
theorem dX4_unlike_6 : decode cX4_unlike 6 = .ok (.aload_n 0, 1) := by decide +kernel
theorem dX4_unlike_7 : decode cX4_unlike 7 = .ok (.getfield 24, 3) := by decide +kernel
theorem dX4_unlike_10 : decode cX4_unlike 10 = .ok (.iload_n 2, 1) := by decide +kernel
theorem dX4_unlike_11 : decode cX4_unlike 11 = .ok (.iaload, 1) := by decide +kernel
theorem dX4_unlike_12 : decode cX4_unlike 12 = .ok (.invokestatic 139, 3) := by decide +kernel
theorem dX4_unlike_15 : decode cX4_unlike 15 = .ok (.istore_n 3, 1) := by decide +kernel
theorem dX4_unlike_16 : decode cX4_unlike 16 = .ok (.aload_n 0, 1) := by decide +kernel
theorem dX4_unlike_17 : decode cX4_unlike 17 = .ok (.getfield 24, 3) := by decide +kernel
theorem dX4_unlike_20 : decode cX4_unlike 20 = .ok (.iload_n 1, 1) := by decide +kernel
theorem dX4_unlike_21 : decode cX4_unlike 21 = .ok (.iaload, 1) := by decide +kernel
theorem dX4_unlike_22 : decode cX4_unlike 22 = .ok (.aload_n 0, 1) := by decide +kernel
theorem dX4_unlike_23 : decode cX4_unlike 23 = .ok (.getfield 24, 3) := by decide +kernel
theorem dX4_unlike_26 : decode cX4_unlike 26 = .ok (.iload_n 2, 1) := by decide +kernel
theorem dX4_unlike_27 : decode cX4_unlike 27 = .ok (.iaload, 1) := by decide +kernel
theorem dX4_unlike_28 : decode cX4_unlike 28 = .ok (.invokestatic 142, 3) := by decide +kernel
theorem dX4_unlike_31 : decode cX4_unlike 31 = .ok (.iload_n 3, 1) := by decide +kernel
theorem dX4_unlike_32 : decode cX4_unlike 32 = .ok (.isub, 1) := by decide +kernel
theorem dX4_unlike_33 : decode cX4_unlike 33 = .ok (.istore 4, 2) := by decide +kernel
theorem dX4_unlike_35 : decode cX4_unlike 35 = .ok (.iconst 0, 1) := by decide +kernel
theorem dX4_unlike_36 : decode cX4_unlike 36 = .ok (.istore 5, 2) := by decide +kernel
theorem dX4_unlike_38 : decode cX4_unlike 38 = .ok (.iload 5, 2) := by decide +kernel
theorem dX4_unlike_40 : decode cX4_unlike 40 = .ok (.iload_n 3, 1) := by decide +kernel
theorem dX4_unlike_41 : decode cX4_unlike 41 = .ok (.if_icmp .ge 29, 3) := by decide +kernel
theorem dX4_unlike_44 : decode cX4_unlike 44 = .ok (.aload_n 0, 1) := by decide +kernel
theorem dX4_unlike_45 : decode cX4_unlike 45 = .ok (.iload_n 1, 1) := by decide +kernel
theorem dX4_unlike_46 : decode cX4_unlike 46 = .ok (.iload 5, 2) := by decide +kernel
theorem dX4_unlike_48 : decode cX4_unlike 48 = .ok (.invokevirtual 77, 3) := by decide +kernel
theorem dX4_unlike_51 : decode cX4_unlike 51 = .ok (.aload_n 0, 1) := by decide +kernel
theorem dX4_unlike_52 : decode cX4_unlike 52 = .ok (.iload_n 2, 1) := by decide +kernel
theorem dX4_unlike_53 : decode cX4_unlike 53 = .ok (.iload 5, 2) := by decide +kernel
theorem dX4_unlike_55 : decode cX4_unlike 55 = .ok (.invokevirtual 81, 3) := by decide +kernel
theorem dX4_unlike_58 : decode cX4_unlike 58 = .ok (.if_icmp .eq 6, 3) := by decide +kernel
theorem dX4_unlike_61 : decode cX4_unlike 61 = .ok (.iinc 4 1, 3) := by decide +kernel
theorem dX4_unlike_64 : decode cX4_unlike 64 = .ok (.iinc 5 1, 3) := by decide +kernel
theorem dX4_unlike_67 : decode cX4_unlike 67 = .ok (.goto (-29), 3) := by decide +kernel
theorem dX4_unlike_70 : decode cX4_unlike 70 = .ok (.iload 4, 2) := by decide +kernel
theorem dX4_unlike_72 : decode cX4_unlike 72 = .ok (.ireturn, 1) := by decide +kernel
theorem dX4_rankOfHouse_0 : decode cX4_rankOfHouse 0 = .ok (.iconst 0, 1) := by decide +kernel
theorem dX4_rankOfHouse_1 : decode cX4_rankOfHouse 1 = .ok (.istore_n 2, 1) := by decide +kernel
theorem dX4_rankOfHouse_2 : decode cX4_rankOfHouse 2 = .ok (.iconst 0, 1) := by decide +kernel
theorem dX4_rankOfHouse_3 : decode cX4_rankOfHouse 3 = .ok (.istore_n 3, 1) := by decide +kernel
theorem dX4_rankOfHouse_4 : decode cX4_rankOfHouse 4 = .ok (.iload_n 3, 1) := by decide +kernel
theorem dX4_rankOfHouse_5 : decode cX4_rankOfHouse 5 = .ok (.aload_n 0, 1) := by decide +kernel
theorem dX4_rankOfHouse_6 : decode cX4_rankOfHouse 6 = .ok (.getfield 42, 3) := by decide +kernel
theorem dX4_rankOfHouse_9 : decode cX4_rankOfHouse 9 = .ok (.if_icmp .ge 21, 3) := by decide +kernel
theorem dX4_rankOfHouse_12 : decode cX4_rankOfHouse 12 = .ok (.aload_n 0, 1) := by decide +kernel
theorem dX4_rankOfHouse_13 : decode cX4_rankOfHouse 13 = .ok (.iload_n 3, 1) := by decide +kernel
theorem dX4_rankOfHouse_14 : decode cX4_rankOfHouse 14 = .ok (.iload_n 1, 1) := by decide +kernel
theorem dX4_rankOfHouse_15 : decode cX4_rankOfHouse 15 = .ok (.invokevirtual 145, 3) := by decide +kernel
theorem dX4_rankOfHouse_18 : decode cX4_rankOfHouse 18 = .ok (.ifCond .eq 6, 3) := by decide +kernel
theorem dX4_rankOfHouse_21 : decode cX4_rankOfHouse 21 = .ok (.iinc 2 1, 3) := by decide +kernel
theorem dX4_rankOfHouse_24 : decode cX4_rankOfHouse 24 = .ok (.iinc 3 1, 3) := by decide +kernel
theorem dX4_rankOfHouse_27 : decode cX4_rankOfHouse 27 = .ok (.goto (-23), 3) := by decide +kernel
theorem dX4_rankOfHouse_30 : decode cX4_rankOfHouse 30 = .ok (.iload_n 2, 1) := by decide +kernel
theorem dX4_rankOfHouse_31 : decode cX4_rankOfHouse 31 = .ok (.ireturn, 1) := by decide +kernel
theorem dX4_isMoreAshamed_0 : decode cX4_isMoreAshamed 0 = .ok (.aload_n 0, 1) := by decide +kernel
theorem dX4_isMoreAshamed_1 : decode cX4_isMoreAshamed 1 = .ok (.getfield 15, 3) := by decide +kernel
theorem dX4_isMoreAshamed_4 : decode cX4_isMoreAshamed 4 = .ok (.iload_n 1, 1) := by decide +kernel
theorem dX4_isMoreAshamed_5 : decode cX4_isMoreAshamed 5 = .ok (.iaload, 1) := by decide +kernel
theorem dX4_isMoreAshamed_6 : decode cX4_isMoreAshamed 6 = .ok (.aload_n 0, 1) := by decide +kernel
theorem dX4_isMoreAshamed_7 : decode cX4_isMoreAshamed 7 = .ok (.getfield 15, 3) := by decide +kernel
theorem dX4_isMoreAshamed_10 : decode cX4_isMoreAshamed 10 = .ok (.iload_n 2, 1) := by decide +kernel
theorem dX4_isMoreAshamed_11 : decode cX4_isMoreAshamed 11 = .ok (.iaload, 1) := by decide +kernel
theorem dX4_isMoreAshamed_12 : decode cX4_isMoreAshamed 12 = .ok (.if_icmp .eq 24, 3) := by decide +kernel
theorem dX4_isMoreAshamed_15 : decode cX4_isMoreAshamed 15 = .ok (.aload_n 0, 1) := by decide +kernel
theorem dX4_isMoreAshamed_16 : decode cX4_isMoreAshamed 16 = .ok (.getfield 15, 3) := by decide +kernel
theorem dX4_isMoreAshamed_19 : decode cX4_isMoreAshamed 19 = .ok (.iload_n 1, 1) := by decide +kernel
theorem dX4_isMoreAshamed_20 : decode cX4_isMoreAshamed 20 = .ok (.iaload, 1) := by decide +kernel
theorem dX4_isMoreAshamed_21 : decode cX4_isMoreAshamed 21 = .ok (.aload_n 0, 1) := by decide +kernel
theorem dX4_isMoreAshamed_22 : decode cX4_isMoreAshamed 22 = .ok (.getfield 15, 3) := by decide +kernel
theorem dX4_isMoreAshamed_25 : decode cX4_isMoreAshamed 25 = .ok (.iload_n 2, 1) := by decide +kernel
theorem dX4_isMoreAshamed_26 : decode cX4_isMoreAshamed 26 = .ok (.iaload, 1) := by decide +kernel
theorem dX4_isMoreAshamed_27 : decode cX4_isMoreAshamed 27 = .ok (.if_icmp .le 7, 3) := by decide +kernel
theorem dX4_isMoreAshamed_30 : decode cX4_isMoreAshamed 30 = .ok (.iconst 1, 1) := by decide +kernel
theorem dX4_isMoreAshamed_31 : decode cX4_isMoreAshamed 31 = .ok (.goto 4, 3) := by decide +kernel
theorem dX4_isMoreAshamed_34 : decode cX4_isMoreAshamed 34 = .ok (.iconst 0, 1) := by decide +kernel
theorem dX4_isMoreAshamed_35 : decode cX4_isMoreAshamed 35 = .ok (.ireturn, 1) := by decide +kernel
theorem dX4_isMoreAshamed_36 : decode cX4_isMoreAshamed 36 = .ok (.aload_n 0, 1) := by decide +kernel
theorem dX4_isMoreAshamed_37 : decode cX4_isMoreAshamed 37 = .ok (.getfield 9, 3) := by decide +kernel
theorem dX4_isMoreAshamed_40 : decode cX4_isMoreAshamed 40 = .ok (.iload_n 1, 1) := by decide +kernel
theorem dX4_isMoreAshamed_41 : decode cX4_isMoreAshamed 41 = .ok (.iaload, 1) := by decide +kernel
theorem dX4_isMoreAshamed_42 : decode cX4_isMoreAshamed 42 = .ok (.aload_n 0, 1) := by decide +kernel
theorem dX4_isMoreAshamed_43 : decode cX4_isMoreAshamed 43 = .ok (.getfield 9, 3) := by decide +kernel
theorem dX4_isMoreAshamed_46 : decode cX4_isMoreAshamed 46 = .ok (.iload_n 2, 1) := by decide +kernel
theorem dX4_isMoreAshamed_47 : decode cX4_isMoreAshamed 47 = .ok (.iaload, 1) := by decide +kernel
theorem dX4_isMoreAshamed_48 : decode cX4_isMoreAshamed 48 = .ok (.if_icmp .eq 24, 3) := by decide +kernel
theorem dX4_isMoreAshamed_51 : decode cX4_isMoreAshamed 51 = .ok (.aload_n 0, 1) := by decide +kernel
theorem dX4_isMoreAshamed_52 : decode cX4_isMoreAshamed 52 = .ok (.getfield 9, 3) := by decide +kernel
theorem dX4_isMoreAshamed_55 : decode cX4_isMoreAshamed 55 = .ok (.iload_n 1, 1) := by decide +kernel
theorem dX4_isMoreAshamed_56 : decode cX4_isMoreAshamed 56 = .ok (.iaload, 1) := by decide +kernel
theorem dX4_isMoreAshamed_57 : decode cX4_isMoreAshamed 57 = .ok (.aload_n 0, 1) := by decide +kernel
theorem dX4_isMoreAshamed_58 : decode cX4_isMoreAshamed 58 = .ok (.getfield 9, 3) := by decide +kernel
theorem dX4_isMoreAshamed_61 : decode cX4_isMoreAshamed 61 = .ok (.iload_n 2, 1) := by decide +kernel
theorem dX4_isMoreAshamed_62 : decode cX4_isMoreAshamed 62 = .ok (.iaload, 1) := by decide +kernel
theorem dX4_isMoreAshamed_63 : decode cX4_isMoreAshamed 63 = .ok (.if_icmp .ge 7, 3) := by decide +kernel
theorem dX4_isMoreAshamed_66 : decode cX4_isMoreAshamed 66 = .ok (.iconst 1, 1) := by decide +kernel
theorem dX4_isMoreAshamed_67 : decode cX4_isMoreAshamed 67 = .ok (.goto 4, 3) := by decide +kernel
theorem dX4_isMoreAshamed_70 : decode cX4_isMoreAshamed 70 = .ok (.iconst 0, 1) := by decide +kernel
theorem dX4_isMoreAshamed_71 : decode cX4_isMoreAshamed 71 = .ok (.ireturn, 1) := by decide +kernel
theorem dX4_isMoreAshamed_72 : decode cX4_isMoreAshamed 72 = .ok (.iload_n 1, 1) := by decide +kernel
theorem dX4_isMoreAshamed_73 : decode cX4_isMoreAshamed 73 = .ok (.iload_n 2, 1) := by decide +kernel
theorem dX4_isMoreAshamed_74 : decode cX4_isMoreAshamed 74 = .ok (.if_icmp .ge 7, 3) := by decide +kernel
theorem dX4_isMoreAshamed_77 : decode cX4_isMoreAshamed 77 = .ok (.iconst 1, 1) := by decide +kernel
theorem dX4_isMoreAshamed_78 : decode cX4_isMoreAshamed 78 = .ok (.goto 4, 3) := by decide +kernel
theorem dX4_isMoreAshamed_81 : decode cX4_isMoreAshamed 81 = .ok (.iconst 0, 1) := by decide +kernel
theorem dX4_isMoreAshamed_82 : decode cX4_isMoreAshamed 82 = .ok (.ireturn, 1) := by decide +kernel
theorem dX4_rankOfSheet_0 : decode cX4_rankOfSheet 0 = .ok (.iconst 0, 1) := by decide +kernel
theorem dX4_rankOfSheet_1 : decode cX4_rankOfSheet 1 = .ok (.istore_n 2, 1) := by decide +kernel
theorem dX4_rankOfSheet_2 : decode cX4_rankOfSheet 2 = .ok (.iconst 0, 1) := by decide +kernel
theorem dX4_rankOfSheet_3 : decode cX4_rankOfSheet 3 = .ok (.istore_n 3, 1) := by decide +kernel
theorem dX4_rankOfSheet_4 : decode cX4_rankOfSheet 4 = .ok (.iload_n 3, 1) := by decide +kernel
theorem dX4_rankOfSheet_5 : decode cX4_rankOfSheet 5 = .ok (.aload_n 0, 1) := by decide +kernel
theorem dX4_rankOfSheet_6 : decode cX4_rankOfSheet 6 = .ok (.getfield 46, 3) := by decide +kernel
theorem dX4_rankOfSheet_9 : decode cX4_rankOfSheet 9 = .ok (.if_icmp .ge 21, 3) := by decide +kernel
theorem dX4_rankOfSheet_12 : decode cX4_rankOfSheet 12 = .ok (.aload_n 0, 1) := by decide +kernel
theorem dX4_rankOfSheet_13 : decode cX4_rankOfSheet 13 = .ok (.iload_n 3, 1) := by decide +kernel
theorem dX4_rankOfSheet_14 : decode cX4_rankOfSheet 14 = .ok (.iload_n 1, 1) := by decide +kernel
theorem dX4_rankOfSheet_15 : decode cX4_rankOfSheet 15 = .ok (.invokevirtual 149, 3) := by decide +kernel
theorem dX4_rankOfSheet_18 : decode cX4_rankOfSheet 18 = .ok (.ifCond .eq 6, 3) := by decide +kernel
theorem dX4_rankOfSheet_21 : decode cX4_rankOfSheet 21 = .ok (.iinc 2 1, 3) := by decide +kernel
theorem dX4_rankOfSheet_24 : decode cX4_rankOfSheet 24 = .ok (.iinc 3 1, 3) := by decide +kernel
theorem dX4_rankOfSheet_27 : decode cX4_rankOfSheet 27 = .ok (.goto (-23), 3) := by decide +kernel
theorem dX4_rankOfSheet_30 : decode cX4_rankOfSheet 30 = .ok (.iload_n 2, 1) := by decide +kernel
theorem dX4_rankOfSheet_31 : decode cX4_rankOfSheet 31 = .ok (.ireturn, 1) := by decide +kernel
theorem dX4_isWorse_0 : decode cX4_isWorse 0 = .ok (.aload_n 0, 1) := by decide +kernel
theorem dX4_isWorse_1 : decode cX4_isWorse 1 = .ok (.iload_n 1, 1) := by decide +kernel
theorem dX4_isWorse_2 : decode cX4_isWorse 2 = .ok (.invokevirtual 108, 3) := by decide +kernel
theorem dX4_isWorse_5 : decode cX4_isWorse 5 = .ok (.aload_n 0, 1) := by decide +kernel
theorem dX4_isWorse_6 : decode cX4_isWorse 6 = .ok (.iload_n 2, 1) := by decide +kernel
theorem dX4_isWorse_7 : decode cX4_isWorse 7 = .ok (.invokevirtual 108, 3) := by decide +kernel
theorem dX4_isWorse_10 : decode cX4_isWorse 10 = .ok (.isub, 1) := by decide +kernel
theorem dX4_isWorse_11 : decode cX4_isWorse 11 = .ok (.istore_n 3, 1) := by decide +kernel
theorem dX4_isWorse_12 : decode cX4_isWorse 12 = .ok (.iload_n 3, 1) := by decide +kernel
theorem dX4_isWorse_13 : decode cX4_isWorse 13 = .ok (.ifCond .ne 17, 3) := by decide +kernel
theorem dX4_isWorse_16 : decode cX4_isWorse 16 = .ok (.aload_n 0, 1) := by decide +kernel
theorem dX4_isWorse_17 : decode cX4_isWorse 17 = .ok (.iload_n 1, 1) := by decide +kernel
theorem dX4_isWorse_18 : decode cX4_isWorse 18 = .ok (.iconst 1, 1) := by decide +kernel
theorem dX4_isWorse_19 : decode cX4_isWorse 19 = .ok (.invokevirtual 90, 3) := by decide +kernel
theorem dX4_isWorse_22 : decode cX4_isWorse 22 = .ok (.aload_n 0, 1) := by decide +kernel
theorem dX4_isWorse_23 : decode cX4_isWorse 23 = .ok (.iload_n 2, 1) := by decide +kernel
theorem dX4_isWorse_24 : decode cX4_isWorse 24 = .ok (.iconst 1, 1) := by decide +kernel
theorem dX4_isWorse_25 : decode cX4_isWorse 25 = .ok (.invokevirtual 90, 3) := by decide +kernel
theorem dX4_isWorse_28 : decode cX4_isWorse 28 = .ok (.isub, 1) := by decide +kernel
theorem dX4_isWorse_29 : decode cX4_isWorse 29 = .ok (.istore_n 3, 1) := by decide +kernel
theorem dX4_isWorse_30 : decode cX4_isWorse 30 = .ok (.iload_n 3, 1) := by decide +kernel
theorem dX4_isWorse_31 : decode cX4_isWorse 31 = .ok (.ifCond .gt 12, 3) := by decide +kernel
theorem dX4_isWorse_34 : decode cX4_isWorse 34 = .ok (.iload_n 3, 1) := by decide +kernel
theorem dX4_isWorse_35 : decode cX4_isWorse 35 = .ok (.ifCond .ne 12, 3) := by decide +kernel
theorem dX4_isWorse_38 : decode cX4_isWorse 38 = .ok (.iload_n 1, 1) := by decide +kernel
theorem dX4_isWorse_39 : decode cX4_isWorse 39 = .ok (.iload_n 2, 1) := by decide +kernel
theorem dX4_isWorse_40 : decode cX4_isWorse 40 = .ok (.if_icmp .ge 7, 3) := by decide +kernel
theorem dX4_isWorse_43 : decode cX4_isWorse 43 = .ok (.iconst 1, 1) := by decide +kernel
theorem dX4_isWorse_44 : decode cX4_isWorse 44 = .ok (.goto 4, 3) := by decide +kernel
theorem dX4_isWorse_47 : decode cX4_isWorse 47 = .ok (.iconst 0, 1) := by decide +kernel
theorem dX4_isWorse_48 : decode cX4_isWorse 48 = .ok (.ireturn, 1) := by decide +kernel
theorem dX4_appendHouse_0 : decode cX4_appendHouse 0 = .ok (.aload_n 0, 1) := by decide +kernel
theorem dX4_appendHouse_1 : decode cX4_appendHouse 1 = .ok (.getfield 9, 3) := by decide +kernel
theorem dX4_appendHouse_4 : decode cX4_appendHouse 4 = .ok (.aload_n 0, 1) := by decide +kernel
theorem dX4_appendHouse_5 : decode cX4_appendHouse 5 = .ok (.getfield 42, 3) := by decide +kernel
theorem dX4_appendHouse_8 : decode cX4_appendHouse 8 = .ok (.iload_n 1, 1) := by decide +kernel
theorem dX4_appendHouse_9 : decode cX4_appendHouse 9 = .ok (.iastore, 1) := by decide +kernel
theorem dX4_appendHouse_10 : decode cX4_appendHouse 10 = .ok (.aload_n 0, 1) := by decide +kernel
theorem dX4_appendHouse_11 : decode cX4_appendHouse 11 = .ok (.getfield 15, 3) := by decide +kernel
theorem dX4_appendHouse_14 : decode cX4_appendHouse 14 = .ok (.aload_n 0, 1) := by decide +kernel
theorem dX4_appendHouse_15 : decode cX4_appendHouse 15 = .ok (.getfield 42, 3) := by decide +kernel
theorem dX4_appendHouse_18 : decode cX4_appendHouse 18 = .ok (.iconst 0, 1) := by decide +kernel
theorem dX4_appendHouse_19 : decode cX4_appendHouse 19 = .ok (.iastore, 1) := by decide +kernel
theorem dX4_appendHouse_20 : decode cX4_appendHouse 20 = .ok (.aload_n 0, 1) := by decide +kernel
theorem dX4_appendHouse_21 : decode cX4_appendHouse 21 = .ok (.getfield 18, 3) := by decide +kernel
theorem dX4_appendHouse_24 : decode cX4_appendHouse 24 = .ok (.aload_n 0, 1) := by decide +kernel
theorem dX4_appendHouse_25 : decode cX4_appendHouse 25 = .ok (.getfield 42, 3) := by decide +kernel
theorem dX4_appendHouse_28 : decode cX4_appendHouse 28 = .ok (.iconst 0, 1) := by decide +kernel
theorem dX4_appendHouse_29 : decode cX4_appendHouse 29 = .ok (.iastore, 1) := by decide +kernel
theorem dX4_appendHouse_30 : decode cX4_appendHouse 30 = .ok (.aload_n 0, 1) := by decide +kernel
theorem dX4_appendHouse_31 : decode cX4_appendHouse 31 = .ok (.dup, 1) := by decide +kernel
theorem dX4_appendHouse_32 : decode cX4_appendHouse 32 = .ok (.getfield 42, 3) := by decide +kernel
theorem dX4_appendHouse_35 : decode cX4_appendHouse 35 = .ok (.iconst 1, 1) := by decide +kernel
theorem dX4_appendHouse_36 : decode cX4_appendHouse 36 = .ok (.iadd, 1) := by decide +kernel
theorem dX4_appendHouse_37 : decode cX4_appendHouse 37 = .ok (.putfield 42, 3) := by decide +kernel
theorem dX4_appendHouse_40 : decode cX4_appendHouse 40 = .ok (.aload_n 0, 1) := by decide +kernel
theorem dX4_appendHouse_41 : decode cX4_appendHouse 41 = .ok (.getfield 42, 3) := by decide +kernel
theorem dX4_appendHouse_44 : decode cX4_appendHouse 44 = .ok (.iconst 1, 1) := by decide +kernel
theorem dX4_appendHouse_45 : decode cX4_appendHouse 45 = .ok (.isub, 1) := by decide +kernel
theorem dX4_appendHouse_46 : decode cX4_appendHouse 46 = .ok (.ireturn, 1) := by decide +kernel
theorem dX4_appendSheet_0 : decode cX4_appendSheet 0 = .ok (.iload_n 2, 1) := by decide +kernel
theorem dX4_appendSheet_1 : decode cX4_appendSheet 1 = .ok (.istore 4, 2) := by decide +kernel
theorem dX4_appendSheet_3 : decode cX4_appendSheet 3 = .ok (.aload_n 0, 1) := by decide +kernel
theorem dX4_appendSheet_4 : decode cX4_appendSheet 4 = .ok (.getfield 21, 3) := by decide +kernel
theorem dX4_appendSheet_7 : decode cX4_appendSheet 7 = .ok (.aload_n 0, 1) := by decide +kernel
theorem dX4_appendSheet_8 : decode cX4_appendSheet 8 = .ok (.getfield 46, 3) := by decide +kernel
theorem dX4_appendSheet_11 : decode cX4_appendSheet 11 = .ok (.iload_n 1, 1) := by decide +kernel
theorem dX4_appendSheet_12 : decode cX4_appendSheet 12 = .ok (.iastore, 1) := by decide +kernel
theorem dX4_appendSheet_13 : decode cX4_appendSheet 13 = .ok (.aload_n 0, 1) := by decide +kernel
theorem dX4_appendSheet_14 : decode cX4_appendSheet 14 = .ok (.getfield 24, 3) := by decide +kernel
theorem dX4_appendSheet_17 : decode cX4_appendSheet 17 = .ok (.aload_n 0, 1) := by decide +kernel
theorem dX4_appendSheet_18 : decode cX4_appendSheet 18 = .ok (.getfield 46, 3) := by decide +kernel
theorem dX4_appendSheet_21 : decode cX4_appendSheet 21 = .ok (.iload_n 3, 1) := by decide +kernel
theorem dX4_appendSheet_22 : decode cX4_appendSheet 22 = .ok (.iastore, 1) := by decide +kernel
theorem dX4_appendSheet_23 : decode cX4_appendSheet 23 = .ok (.iload_n 3, 1) := by decide +kernel
theorem dX4_appendSheet_24 : decode cX4_appendSheet 24 = .ok (.iconst 1, 1) := by decide +kernel
theorem dX4_appendSheet_25 : decode cX4_appendSheet 25 = .ok (.isub, 1) := by decide +kernel
theorem dX4_appendSheet_26 : decode cX4_appendSheet 26 = .ok (.istore 5, 2) := by decide +kernel
theorem dX4_appendSheet_28 : decode cX4_appendSheet 28 = .ok (.iload 5, 2) := by decide +kernel
theorem dX4_appendSheet_30 : decode cX4_appendSheet 30 = .ok (.ifCond .lt 51, 3) := by decide +kernel
theorem dX4_appendSheet_33 : decode cX4_appendSheet 33 = .ok (.aload_n 0, 1) := by decide +kernel
theorem dX4_appendSheet_34 : decode cX4_appendSheet 34 = .ok (.getfield 27, 3) := by decide +kernel
theorem dX4_appendSheet_37 : decode cX4_appendSheet 37 = .ok (.aload_n 0, 1) := by decide +kernel
theorem dX4_appendSheet_38 : decode cX4_appendSheet 38 = .ok (.getfield 46, 3) := by decide +kernel
theorem dX4_appendSheet_41 : decode cX4_appendSheet 41 = .ok (.bipush 8, 2) := by decide +kernel
theorem dX4_appendSheet_43 : decode cX4_appendSheet 43 = .ok (.imul, 1) := by decide +kernel
theorem dX4_appendSheet_44 : decode cX4_appendSheet 44 = .ok (.iload 5, 2) := by decide +kernel
theorem dX4_appendSheet_46 : decode cX4_appendSheet 46 = .ok (.iadd, 1) := by decide +kernel
theorem dX4_appendSheet_47 : decode cX4_appendSheet 47 = .ok (.iload 4, 2) := by decide +kernel
theorem dX4_appendSheet_49 : decode cX4_appendSheet 49 = .ok (.bipush 10, 2) := by decide +kernel
theorem dX4_appendSheet_51 : decode cX4_appendSheet 51 = .ok (.irem, 1) := by decide +kernel
theorem dX4_appendSheet_52 : decode cX4_appendSheet 52 = .ok (.iastore, 1) := by decide +kernel
theorem dX4_appendSheet_53 : decode cX4_appendSheet 53 = .ok (.aload_n 0, 1) := by decide +kernel
theorem dX4_appendSheet_54 : decode cX4_appendSheet 54 = .ok (.aload_n 0, 1) := by decide +kernel
theorem dX4_appendSheet_55 : decode cX4_appendSheet 55 = .ok (.getfield 46, 3) := by decide +kernel
theorem dX4_appendSheet_58 : decode cX4_appendSheet 58 = .ok (.iload 5, 2) := by decide +kernel
theorem dX4_appendSheet_60 : decode cX4_appendSheet 60 = .ok (.iload 4, 2) := by decide +kernel
theorem dX4_appendSheet_62 : decode cX4_appendSheet 62 = .ok (.bipush 10, 2) := by decide +kernel
theorem dX4_appendSheet_64 : decode cX4_appendSheet 64 = .ok (.irem, 1) := by decide +kernel
theorem dX4_appendSheet_65 : decode cX4_appendSheet 65 = .ok (.invokevirtual 152, 3) := by decide +kernel
theorem dX4_appendSheet_68 : decode cX4_appendSheet 68 = .ok (.iload 4, 2) := by decide +kernel
theorem dX4_appendSheet_70 : decode cX4_appendSheet 70 = .ok (.bipush 10, 2) := by decide +kernel
theorem dX4_appendSheet_72 : decode cX4_appendSheet 72 = .ok (.idiv, 1) := by decide +kernel
theorem dX4_appendSheet_73 : decode cX4_appendSheet 73 = .ok (.istore 4, 2) := by decide +kernel
theorem dX4_appendSheet_75 : decode cX4_appendSheet 75 = .ok (.iinc 5 (-1), 3) := by decide +kernel
theorem dX4_appendSheet_78 : decode cX4_appendSheet 78 = .ok (.goto (-50), 3) := by decide +kernel
theorem dX4_appendSheet_81 : decode cX4_appendSheet 81 = .ok (.aload_n 0, 1) := by decide +kernel
theorem dX4_appendSheet_82 : decode cX4_appendSheet 82 = .ok (.dup, 1) := by decide +kernel
theorem dX4_appendSheet_83 : decode cX4_appendSheet 83 = .ok (.getfield 46, 3) := by decide +kernel
theorem dX4_appendSheet_86 : decode cX4_appendSheet 86 = .ok (.iconst 1, 1) := by decide +kernel
theorem dX4_appendSheet_87 : decode cX4_appendSheet 87 = .ok (.iadd, 1) := by decide +kernel
theorem dX4_appendSheet_88 : decode cX4_appendSheet 88 = .ok (.putfield 46, 3) := by decide +kernel
theorem dX4_appendSheet_91 : decode cX4_appendSheet 91 = .ok (.aload_n 0, 1) := by decide +kernel
theorem dX4_appendSheet_92 : decode cX4_appendSheet 92 = .ok (.getfield 46, 3) := by decide +kernel
theorem dX4_appendSheet_95 : decode cX4_appendSheet 95 = .ok (.iconst 1, 1) := by decide +kernel
theorem dX4_appendSheet_96 : decode cX4_appendSheet 96 = .ok (.isub, 1) := by decide +kernel
theorem dX4_appendSheet_97 : decode cX4_appendSheet 97 = .ok (.ireturn, 1) := by decide +kernel
theorem dX4_appendReader_0 : decode cX4_appendReader 0 = .ok (.aload_n 0, 1) := by decide +kernel
theorem dX4_appendReader_1 : decode cX4_appendReader 1 = .ok (.getfield 36, 3) := by decide +kernel
theorem dX4_appendReader_4 : decode cX4_appendReader 4 = .ok (.aload_n 0, 1) := by decide +kernel
theorem dX4_appendReader_5 : decode cX4_appendReader 5 = .ok (.getfield 49, 3) := by decide +kernel
theorem dX4_appendReader_8 : decode cX4_appendReader 8 = .ok (.iload_n 1, 1) := by decide +kernel
theorem dX4_appendReader_9 : decode cX4_appendReader 9 = .ok (.iastore, 1) := by decide +kernel
theorem dX4_appendReader_10 : decode cX4_appendReader 10 = .ok (.aload_n 0, 1) := by decide +kernel
theorem dX4_appendReader_11 : decode cX4_appendReader 11 = .ok (.getfield 39, 3) := by decide +kernel
theorem dX4_appendReader_14 : decode cX4_appendReader 14 = .ok (.aload_n 0, 1) := by decide +kernel
theorem dX4_appendReader_15 : decode cX4_appendReader 15 = .ok (.getfield 49, 3) := by decide +kernel
theorem dX4_appendReader_18 : decode cX4_appendReader 18 = .ok (.iload_n 2, 1) := by decide +kernel
theorem dX4_appendReader_19 : decode cX4_appendReader 19 = .ok (.iastore, 1) := by decide +kernel
theorem dX4_appendReader_20 : decode cX4_appendReader 20 = .ok (.aload_n 0, 1) := by decide +kernel
theorem dX4_appendReader_21 : decode cX4_appendReader 21 = .ok (.dup, 1) := by decide +kernel
theorem dX4_appendReader_22 : decode cX4_appendReader 22 = .ok (.getfield 49, 3) := by decide +kernel
theorem dX4_appendReader_25 : decode cX4_appendReader 25 = .ok (.iconst 1, 1) := by decide +kernel
theorem dX4_appendReader_26 : decode cX4_appendReader 26 = .ok (.iadd, 1) := by decide +kernel
theorem dX4_appendReader_27 : decode cX4_appendReader 27 = .ok (.putfield 49, 3) := by decide +kernel
theorem dX4_appendReader_30 : decode cX4_appendReader 30 = .ok (.aload_n 0, 1) := by decide +kernel
theorem dX4_appendReader_31 : decode cX4_appendReader 31 = .ok (.getfield 49, 3) := by decide +kernel
theorem dX4_appendReader_34 : decode cX4_appendReader 34 = .ok (.iconst 1, 1) := by decide +kernel
theorem dX4_appendReader_35 : decode cX4_appendReader 35 = .ok (.isub, 1) := by decide +kernel
theorem dX4_appendReader_36 : decode cX4_appendReader 36 = .ok (.ireturn, 1) := by decide +kernel
theorem dX4_removeSheet_0 : decode cX4_removeSheet 0 = .ok (.aload_n 0, 1) := by decide +kernel
theorem dX4_removeSheet_1 : decode cX4_removeSheet 1 = .ok (.getfield 46, 3) := by decide +kernel
theorem dX4_removeSheet_4 : decode cX4_removeSheet 4 = .ok (.iload_n 1, 1) := by decide +kernel
theorem dX4_removeSheet_5 : decode cX4_removeSheet 5 = .ok (.isub, 1) := by decide +kernel
theorem dX4_removeSheet_6 : decode cX4_removeSheet 6 = .ok (.iconst 1, 1) := by decide +kernel
theorem dX4_removeSheet_7 : decode cX4_removeSheet 7 = .ok (.isub, 1) := by decide +kernel
theorem dX4_removeSheet_8 : decode cX4_removeSheet 8 = .ok (.istore_n 2, 1) := by decide +kernel
theorem dX4_removeSheet_9 : decode cX4_removeSheet 9 = .ok (.iload_n 1, 1) := by decide +kernel
theorem dX4_removeSheet_10 : decode cX4_removeSheet 10 = .ok (.iconst 1, 1) := by decide +kernel
theorem dX4_removeSheet_11 : decode cX4_removeSheet 11 = .ok (.iadd, 1) := by decide +kernel
theorem dX4_removeSheet_12 : decode cX4_removeSheet 12 = .ok (.bipush 8, 2) := by decide +kernel
theorem dX4_removeSheet_14 : decode cX4_removeSheet 14 = .ok (.imul, 1) := by decide +kernel
theorem dX4_removeSheet_15 : decode cX4_removeSheet 15 = .ok (.istore_n 3, 1) := by decide +kernel
theorem dX4_removeSheet_16 : decode cX4_removeSheet 16 = .ok (.iload_n 1, 1) := by decide +kernel
theorem dX4_removeSheet_17 : decode cX4_removeSheet 17 = .ok (.bipush 8, 2) := by decide +kernel
theorem dX4_removeSheet_19 : decode cX4_removeSheet 19 = .ok (.imul, 1) := by decide +kernel
theorem dX4_removeSheet_20 : decode cX4_removeSheet 20 = .ok (.istore 4, 2) := by decide +kernel
theorem dX4_removeSheet_22 : decode cX4_removeSheet 22 = .ok (.aload_n 0, 1) := by decide +kernel
theorem dX4_removeSheet_23 : decode cX4_removeSheet 23 = .ok (.getfield 21, 3) := by decide +kernel
theorem dX4_removeSheet_26 : decode cX4_removeSheet 26 = .ok (.iload_n 1, 1) := by decide +kernel
theorem dX4_removeSheet_27 : decode cX4_removeSheet 27 = .ok (.iconst 1, 1) := by decide +kernel
theorem dX4_removeSheet_28 : decode cX4_removeSheet 28 = .ok (.iadd, 1) := by decide +kernel
theorem dX4_removeSheet_29 : decode cX4_removeSheet 29 = .ok (.aload_n 0, 1) := by decide +kernel
theorem dX4_removeSheet_30 : decode cX4_removeSheet 30 = .ok (.getfield 21, 3) := by decide +kernel
theorem dX4_removeSheet_33 : decode cX4_removeSheet 33 = .ok (.iload_n 1, 1) := by decide +kernel
theorem dX4_removeSheet_34 : decode cX4_removeSheet 34 = .ok (.iload_n 2, 1) := by decide +kernel
theorem dX4_removeSheet_35 : decode cX4_removeSheet 35 = .ok (.invokestatic 67, 3) := by decide +kernel
theorem dX4_removeSheet_38 : decode cX4_removeSheet 38 = .ok (.aload_n 0, 1) := by decide +kernel
theorem dX4_removeSheet_39 : decode cX4_removeSheet 39 = .ok (.getfield 24, 3) := by decide +kernel
theorem dX4_removeSheet_42 : decode cX4_removeSheet 42 = .ok (.iload_n 1, 1) := by decide +kernel
theorem dX4_removeSheet_43 : decode cX4_removeSheet 43 = .ok (.iconst 1, 1) := by decide +kernel
theorem dX4_removeSheet_44 : decode cX4_removeSheet 44 = .ok (.iadd, 1) := by decide +kernel
theorem dX4_removeSheet_45 : decode cX4_removeSheet 45 = .ok (.aload_n 0, 1) := by decide +kernel
theorem dX4_removeSheet_46 : decode cX4_removeSheet 46 = .ok (.getfield 24, 3) := by decide +kernel
theorem dX4_removeSheet_49 : decode cX4_removeSheet 49 = .ok (.iload_n 1, 1) := by decide +kernel
theorem dX4_removeSheet_50 : decode cX4_removeSheet 50 = .ok (.iload_n 2, 1) := by decide +kernel
theorem dX4_removeSheet_51 : decode cX4_removeSheet 51 = .ok (.invokestatic 67, 3) := by decide +kernel
theorem dX4_removeSheet_54 : decode cX4_removeSheet 54 = .ok (.aload_n 0, 1) := by decide +kernel
theorem dX4_removeSheet_55 : decode cX4_removeSheet 55 = .ok (.getfield 27, 3) := by decide +kernel
theorem dX4_removeSheet_58 : decode cX4_removeSheet 58 = .ok (.iload_n 3, 1) := by decide +kernel
theorem dX4_removeSheet_59 : decode cX4_removeSheet 59 = .ok (.aload_n 0, 1) := by decide +kernel
theorem dX4_removeSheet_60 : decode cX4_removeSheet 60 = .ok (.getfield 27, 3) := by decide +kernel
theorem dX4_removeSheet_63 : decode cX4_removeSheet 63 = .ok (.iload 4, 2) := by decide +kernel
theorem dX4_removeSheet_65 : decode cX4_removeSheet 65 = .ok (.iload_n 2, 1) := by decide +kernel
theorem dX4_removeSheet_66 : decode cX4_removeSheet 66 = .ok (.bipush 8, 2) := by decide +kernel
theorem dX4_removeSheet_68 : decode cX4_removeSheet 68 = .ok (.imul, 1) := by decide +kernel
theorem dX4_removeSheet_69 : decode cX4_removeSheet 69 = .ok (.invokestatic 67, 3) := by decide +kernel
theorem dX4_removeSheet_72 : decode cX4_removeSheet 72 = .ok (.aload_n 0, 1) := by decide +kernel
theorem dX4_removeSheet_73 : decode cX4_removeSheet 73 = .ok (.getfield 30, 3) := by decide +kernel
theorem dX4_removeSheet_76 : decode cX4_removeSheet 76 = .ok (.iload_n 3, 1) := by decide +kernel
theorem dX4_removeSheet_77 : decode cX4_removeSheet 77 = .ok (.aload_n 0, 1) := by decide +kernel
theorem dX4_removeSheet_78 : decode cX4_removeSheet 78 = .ok (.getfield 30, 3) := by decide +kernel
theorem dX4_removeSheet_81 : decode cX4_removeSheet 81 = .ok (.iload 4, 2) := by decide +kernel
theorem dX4_removeSheet_83 : decode cX4_removeSheet 83 = .ok (.iload_n 2, 1) := by decide +kernel
theorem dX4_removeSheet_84 : decode cX4_removeSheet 84 = .ok (.bipush 8, 2) := by decide +kernel
theorem dX4_removeSheet_86 : decode cX4_removeSheet 86 = .ok (.imul, 1) := by decide +kernel
theorem dX4_removeSheet_87 : decode cX4_removeSheet 87 = .ok (.invokestatic 67, 3) := by decide +kernel
theorem dX4_removeSheet_90 : decode cX4_removeSheet 90 = .ok (.aload_n 0, 1) := by decide +kernel
theorem dX4_removeSheet_91 : decode cX4_removeSheet 91 = .ok (.getfield 33, 3) := by decide +kernel
theorem dX4_removeSheet_94 : decode cX4_removeSheet 94 = .ok (.iload_n 3, 1) := by decide +kernel
theorem dX4_removeSheet_95 : decode cX4_removeSheet 95 = .ok (.aload_n 0, 1) := by decide +kernel
theorem dX4_removeSheet_96 : decode cX4_removeSheet 96 = .ok (.getfield 33, 3) := by decide +kernel
theorem dX4_removeSheet_99 : decode cX4_removeSheet 99 = .ok (.iload 4, 2) := by decide +kernel
theorem dX4_removeSheet_101 : decode cX4_removeSheet 101 = .ok (.iload_n 2, 1) := by decide +kernel
theorem dX4_removeSheet_102 : decode cX4_removeSheet 102 = .ok (.bipush 8, 2) := by decide +kernel
theorem dX4_removeSheet_104 : decode cX4_removeSheet 104 = .ok (.imul, 1) := by decide +kernel
theorem dX4_removeSheet_105 : decode cX4_removeSheet 105 = .ok (.invokestatic 67, 3) := by decide +kernel
theorem dX4_removeSheet_108 : decode cX4_removeSheet 108 = .ok (.aload_n 0, 1) := by decide +kernel
theorem dX4_removeSheet_109 : decode cX4_removeSheet 109 = .ok (.dup, 1) := by decide +kernel
theorem dX4_removeSheet_110 : decode cX4_removeSheet 110 = .ok (.getfield 46, 3) := by decide +kernel
theorem dX4_removeSheet_113 : decode cX4_removeSheet 113 = .ok (.iconst 1, 1) := by decide +kernel
theorem dX4_removeSheet_114 : decode cX4_removeSheet 114 = .ok (.isub, 1) := by decide +kernel
theorem dX4_removeSheet_115 : decode cX4_removeSheet 115 = .ok (.putfield 46, 3) := by decide +kernel
theorem dX4_removeSheet_118 : decode cX4_removeSheet 118 = .ok (.return_, 1) := by decide +kernel
theorem dX4_putLetter_0 : decode cX4_putLetter 0 = .ok (.iload_n 1, 1) := by decide +kernel
theorem dX4_putLetter_1 : decode cX4_putLetter 1 = .ok (.bipush 8, 2) := by decide +kernel
theorem dX4_putLetter_3 : decode cX4_putLetter 3 = .ok (.imul, 1) := by decide +kernel
theorem dX4_putLetter_4 : decode cX4_putLetter 4 = .ok (.iload_n 2, 1) := by decide +kernel
theorem dX4_putLetter_5 : decode cX4_putLetter 5 = .ok (.iadd, 1) := by decide +kernel
theorem dX4_putLetter_6 : decode cX4_putLetter 6 = .ok (.istore 4, 2) := by decide +kernel
theorem dX4_putLetter_8 : decode cX4_putLetter 8 = .ok (.aload_n 0, 1) := by decide +kernel
theorem dX4_putLetter_9 : decode cX4_putLetter 9 = .ok (.getfield 30, 3) := by decide +kernel
theorem dX4_putLetter_12 : decode cX4_putLetter 12 = .ok (.iload 4, 2) := by decide +kernel
theorem dX4_putLetter_14 : decode cX4_putLetter 14 = .ok (.iload_n 3, 1) := by decide +kernel
theorem dX4_putLetter_15 : decode cX4_putLetter 15 = .ok (.iastore, 1) := by decide +kernel
theorem dX4_putLetter_16 : decode cX4_putLetter 16 = .ok (.aload_n 0, 1) := by decide +kernel
theorem dX4_putLetter_17 : decode cX4_putLetter 17 = .ok (.getfield 33, 3) := by decide +kernel
theorem dX4_putLetter_20 : decode cX4_putLetter 20 = .ok (.iload 4, 2) := by decide +kernel
theorem dX4_putLetter_22 : decode cX4_putLetter 22 = .ok (.iload_n 3, 1) := by decide +kernel
theorem dX4_putLetter_23 : decode cX4_putLetter 23 = .ok (.aload_n 0, 1) := by decide +kernel
theorem dX4_putLetter_24 : decode cX4_putLetter 24 = .ok (.getfield 27, 3) := by decide +kernel
theorem dX4_putLetter_27 : decode cX4_putLetter 27 = .ok (.iload 4, 2) := by decide +kernel
theorem dX4_putLetter_29 : decode cX4_putLetter 29 = .ok (.iaload, 1) := by decide +kernel
theorem dX4_putLetter_30 : decode cX4_putLetter 30 = .ok (.if_icmp .ne 7, 3) := by decide +kernel
theorem dX4_putLetter_33 : decode cX4_putLetter 33 = .ok (.iconst 0, 1) := by decide +kernel
theorem dX4_putLetter_34 : decode cX4_putLetter 34 = .ok (.goto 4, 3) := by decide +kernel
theorem dX4_putLetter_37 : decode cX4_putLetter 37 = .ok (.iconst 1, 1) := by decide +kernel
theorem dX4_putLetter_38 : decode cX4_putLetter 38 = .ok (.iastore, 1) := by decide +kernel
theorem dX4_putLetter_39 : decode cX4_putLetter 39 = .ok (.return_, 1) := by decide +kernel
theorem dX4_printOne_0 : decode cX4_printOne 0 = .ok (.aload_n 0, 1) := by decide +kernel
theorem dX4_printOne_1 : decode cX4_printOne 1 = .ok (.getfield 21, 3) := by decide +kernel
theorem dX4_printOne_4 : decode cX4_printOne 4 = .ok (.iload_n 1, 1) := by decide +kernel
theorem dX4_printOne_5 : decode cX4_printOne 5 = .ok (.iaload, 1) := by decide +kernel
theorem dX4_printOne_6 : decode cX4_printOne 6 = .ok (.istore_n 3, 1) := by decide +kernel
theorem dX4_printOne_7 : decode cX4_printOne 7 = .ok (.aload_n 0, 1) := by decide +kernel
theorem dX4_printOne_8 : decode cX4_printOne 8 = .ok (.iload_n 1, 1) := by decide +kernel
theorem dX4_printOne_9 : decode cX4_printOne 9 = .ok (.iload_n 2, 1) := by decide +kernel
theorem dX4_printOne_10 : decode cX4_printOne 10 = .ok (.invokevirtual 128, 3) := by decide +kernel
theorem dX4_printOne_13 : decode cX4_printOne 13 = .ok (.invokestatic 131, 3) := by decide +kernel
theorem dX4_printOne_16 : decode cX4_printOne 16 = .ok (.istore 4, 2) := by decide +kernel
theorem dX4_printOne_18 : decode cX4_printOne 18 = .ok (.aload_n 0, 1) := by decide +kernel
theorem dX4_printOne_19 : decode cX4_printOne 19 = .ok (.getfield 15, 3) := by decide +kernel
theorem dX4_printOne_22 : decode cX4_printOne 22 = .ok (.iload_n 3, 1) := by decide +kernel
theorem dX4_printOne_23 : decode cX4_printOne 23 = .ok (.aload_n 0, 1) := by decide +kernel
theorem dX4_printOne_24 : decode cX4_printOne 24 = .ok (.getfield 15, 3) := by decide +kernel
theorem dX4_printOne_27 : decode cX4_printOne 27 = .ok (.iload_n 3, 1) := by decide +kernel
theorem dX4_printOne_28 : decode cX4_printOne 28 = .ok (.iaload, 1) := by decide +kernel
theorem dX4_printOne_29 : decode cX4_printOne 29 = .ok (.aload_n 0, 1) := by decide +kernel
theorem dX4_printOne_30 : decode cX4_printOne 30 = .ok (.iload_n 1, 1) := by decide +kernel
theorem dX4_printOne_31 : decode cX4_printOne 31 = .ok (.iload_n 2, 1) := by decide +kernel
theorem dX4_printOne_32 : decode cX4_printOne 32 = .ok (.invokevirtual 93, 3) := by decide +kernel
theorem dX4_printOne_35 : decode cX4_printOne 35 = .ok (.iadd, 1) := by decide +kernel
theorem dX4_printOne_36 : decode cX4_printOne 36 = .ok (.invokestatic 156, 3) := by decide +kernel
theorem dX4_printOne_39 : decode cX4_printOne 39 = .ok (.iastore, 1) := by decide +kernel
theorem dX4_printOne_40 : decode cX4_printOne 40 = .ok (.aload_n 0, 1) := by decide +kernel
theorem dX4_printOne_41 : decode cX4_printOne 41 = .ok (.getfield 9, 3) := by decide +kernel
theorem dX4_printOne_44 : decode cX4_printOne 44 = .ok (.iload_n 3, 1) := by decide +kernel
theorem dX4_printOne_45 : decode cX4_printOne 45 = .ok (.aload_n 0, 1) := by decide +kernel
theorem dX4_printOne_46 : decode cX4_printOne 46 = .ok (.getfield 9, 3) := by decide +kernel
theorem dX4_printOne_49 : decode cX4_printOne 49 = .ok (.iload_n 3, 1) := by decide +kernel
theorem dX4_printOne_50 : decode cX4_printOne 50 = .ok (.iaload, 1) := by decide +kernel
theorem dX4_printOne_51 : decode cX4_printOne 51 = .ok (.iload 4, 2) := by decide +kernel
theorem dX4_printOne_53 : decode cX4_printOne 53 = .ok (.iadd, 1) := by decide +kernel
theorem dX4_printOne_54 : decode cX4_printOne 54 = .ok (.invokestatic 156, 3) := by decide +kernel
theorem dX4_printOne_57 : decode cX4_printOne 57 = .ok (.iastore, 1) := by decide +kernel
theorem dX4_printOne_58 : decode cX4_printOne 58 = .ok (.aload_n 0, 1) := by decide +kernel
theorem dX4_printOne_59 : decode cX4_printOne 59 = .ok (.getfield 33, 3) := by decide +kernel
theorem dX4_printOne_62 : decode cX4_printOne 62 = .ok (.iload_n 1, 1) := by decide +kernel
theorem dX4_printOne_63 : decode cX4_printOne 63 = .ok (.bipush 8, 2) := by decide +kernel
theorem dX4_printOne_65 : decode cX4_printOne 65 = .ok (.imul, 1) := by decide +kernel
theorem dX4_printOne_66 : decode cX4_printOne 66 = .ok (.iload_n 2, 1) := by decide +kernel
theorem dX4_printOne_67 : decode cX4_printOne 67 = .ok (.iadd, 1) := by decide +kernel
theorem dX4_printOne_68 : decode cX4_printOne 68 = .ok (.iconst 3, 1) := by decide +kernel
theorem dX4_printOne_69 : decode cX4_printOne 69 = .ok (.iastore, 1) := by decide +kernel
theorem dX4_printOne_70 : decode cX4_printOne 70 = .ok (.aload_n 0, 1) := by decide +kernel
theorem dX4_printOne_71 : decode cX4_printOne 71 = .ok (.dup, 1) := by decide +kernel
theorem dX4_printOne_72 : decode cX4_printOne 72 = .ok (.getfield 58, 3) := by decide +kernel
theorem dX4_printOne_75 : decode cX4_printOne 75 = .ok (.iconst 1, 1) := by decide +kernel
theorem dX4_printOne_76 : decode cX4_printOne 76 = .ok (.iadd, 1) := by decide +kernel
theorem dX4_printOne_77 : decode cX4_printOne 77 = .ok (.putfield 58, 3) := by decide +kernel
theorem dX4_printOne_80 : decode cX4_printOne 80 = .ok (.iload 4, 2) := by decide +kernel
theorem dX4_printOne_82 : decode cX4_printOne 82 = .ok (.ireturn, 1) := by decide +kernel
theorem dX4_passDay_0 : decode cX4_passDay 0 = .ok (.iconst 0, 1) := by decide +kernel
theorem dX4_passDay_1 : decode cX4_passDay 1 = .ok (.istore_n 1, 1) := by decide +kernel
theorem dX4_passDay_2 : decode cX4_passDay 2 = .ok (.iload_n 1, 1) := by decide +kernel
theorem dX4_passDay_3 : decode cX4_passDay 3 = .ok (.aload_n 0, 1) := by decide +kernel
theorem dX4_passDay_4 : decode cX4_passDay 4 = .ok (.getfield 42, 3) := by decide +kernel
theorem dX4_passDay_7 : decode cX4_passDay 7 = .ok (.if_icmp .ge 44, 3) := by decide +kernel
theorem dX4_passDay_10 : decode cX4_passDay 10 = .ok (.aload_n 0, 1) := by decide +kernel
theorem dX4_passDay_11 : decode cX4_passDay 11 = .ok (.getfield 15, 3) := by decide +kernel
theorem dX4_passDay_14 : decode cX4_passDay 14 = .ok (.iload_n 1, 1) := by decide +kernel
theorem dX4_passDay_15 : decode cX4_passDay 15 = .ok (.iconst 0, 1) := by decide +kernel
theorem dX4_passDay_16 : decode cX4_passDay 16 = .ok (.aload_n 0, 1) := by decide +kernel
theorem dX4_passDay_17 : decode cX4_passDay 17 = .ok (.getfield 15, 3) := by decide +kernel
theorem dX4_passDay_20 : decode cX4_passDay 20 = .ok (.iload_n 1, 1) := by decide +kernel
theorem dX4_passDay_21 : decode cX4_passDay 21 = .ok (.iaload, 1) := by decide +kernel
theorem dX4_passDay_22 : decode cX4_passDay 22 = .ok (.iconst 1, 1) := by decide +kernel
theorem dX4_passDay_23 : decode cX4_passDay 23 = .ok (.isub, 1) := by decide +kernel
theorem dX4_passDay_24 : decode cX4_passDay 24 = .ok (.invokestatic 142, 3) := by decide +kernel
theorem dX4_passDay_27 : decode cX4_passDay 27 = .ok (.iastore, 1) := by decide +kernel
theorem dX4_passDay_28 : decode cX4_passDay 28 = .ok (.aload_n 0, 1) := by decide +kernel
theorem dX4_passDay_29 : decode cX4_passDay 29 = .ok (.getfield 9, 3) := by decide +kernel
theorem dX4_passDay_32 : decode cX4_passDay 32 = .ok (.iload_n 1, 1) := by decide +kernel
theorem dX4_passDay_33 : decode cX4_passDay 33 = .ok (.aload_n 0, 1) := by decide +kernel
theorem dX4_passDay_34 : decode cX4_passDay 34 = .ok (.getfield 9, 3) := by decide +kernel
theorem dX4_passDay_37 : decode cX4_passDay 37 = .ok (.iload_n 1, 1) := by decide +kernel
theorem dX4_passDay_38 : decode cX4_passDay 38 = .ok (.iaload, 1) := by decide +kernel
theorem dX4_passDay_39 : decode cX4_passDay 39 = .ok (.iconst 1, 1) := by decide +kernel
theorem dX4_passDay_40 : decode cX4_passDay 40 = .ok (.iadd, 1) := by decide +kernel
theorem dX4_passDay_41 : decode cX4_passDay 41 = .ok (.invokestatic 156, 3) := by decide +kernel
theorem dX4_passDay_44 : decode cX4_passDay 44 = .ok (.iastore, 1) := by decide +kernel
theorem dX4_passDay_45 : decode cX4_passDay 45 = .ok (.iinc 1 1, 3) := by decide +kernel
theorem dX4_passDay_48 : decode cX4_passDay 48 = .ok (.goto (-46), 3) := by decide +kernel
theorem dX4_passDay_51 : decode cX4_passDay 51 = .ok (.aload_n 0, 1) := by decide +kernel
theorem dX4_passDay_52 : decode cX4_passDay 52 = .ok (.dup, 1) := by decide +kernel
theorem dX4_passDay_53 : decode cX4_passDay 53 = .ok (.getfield 52, 3) := by decide +kernel
theorem dX4_passDay_56 : decode cX4_passDay 56 = .ok (.iconst 1, 1) := by decide +kernel
theorem dX4_passDay_57 : decode cX4_passDay 57 = .ok (.iadd, 1) := by decide +kernel
theorem dX4_passDay_58 : decode cX4_passDay 58 = .ok (.putfield 52, 3) := by decide +kernel
theorem dX4_passDay_61 : decode cX4_passDay 61 = .ok (.aload_n 0, 1) := by decide +kernel
theorem dX4_passDay_62 : decode cX4_passDay 62 = .ok (.invokevirtual 159, 3) := by decide +kernel
theorem dX4_passDay_65 : decode cX4_passDay 65 = .ok (.ireturn, 1) := by decide +kernel
