theorem dX0_init_0 : decode cX0_init 0 = .ok (.aload_n 0, 1) := by decide +kernel
theorem dX0_init_1 : decode cX0_init 1 = .ok (.invokespecial 3, 3) := by decide +kernel
theorem dX0_init_4 : decode cX0_init 4 = .ok (.aload_n 0, 1) := by decide +kernel
theorem dX0_init_5 : decode cX0_init 5 = .ok (.bipush 8, 2) := by decide +kernel
theorem dX0_init_7 : decode cX0_init 7 = .ok (.anewarray 9, 3) := by decide +kernel
theorem dX0_init_10 : decode cX0_init 10 = .ok (.putfield 11, 3) := by decide +kernel
theorem dX0_init_13 : decode cX0_init 13 = .ok (.iconst 0, 1) := by decide +kernel
theorem dX0_init_14 : decode cX0_init 14 = .ok (.istore_n 1, 1) := by decide +kernel
theorem dX0_init_15 : decode cX0_init 15 = .ok (.iload_n 1, 1) := by decide +kernel
theorem dX0_init_16 : decode cX0_init 16 = .ok (.bipush 8, 2) := by decide +kernel
theorem dX0_init_18 : decode cX0_init 18 = .ok (.if_icmp .ge 22, 3) := by decide +kernel
theorem dX0_init_21 : decode cX0_init 21 = .ok (.aload_n 0, 1) := by decide +kernel
theorem dX0_init_22 : decode cX0_init 22 = .ok (.getfield 11, 3) := by decide +kernel
theorem dX0_init_25 : decode cX0_init 25 = .ok (.iload_n 1, 1) := by decide +kernel
theorem dX0_init_26 : decode cX0_init 26 = .ok (.new 9, 3) := by decide +kernel
theorem dX0_init_29 : decode cX0_init 29 = .ok (.dup, 1) := by decide +kernel
theorem dX0_init_30 : decode cX0_init 30 = .ok (.invokespecial 17, 3) := by decide +kernel
theorem dX0_init_33 : decode cX0_init 33 = .ok (.aastore, 1) := by decide +kernel
theorem dX0_init_34 : decode cX0_init 34 = .ok (.iinc 1 1, 3) := by decide +kernel
theorem dX0_init_37 : decode cX0_init 37 = .ok (.goto (-22), 3) := by decide +kernel
theorem dX0_init_40 : decode cX0_init 40 = .ok (.return_, 1) := by decide +kernel
theorem dX0_keep_0 : decode cX0_keep 0 = .ok (.aload_n 0, 1) := by decide +kernel
theorem dX0_keep_1 : decode cX0_keep 1 = .ok (.getfield 11, 3) := by decide +kernel
theorem dX0_keep_4 : decode cX0_keep 4 = .ok (.aload_n 0, 1) := by decide +kernel
theorem dX0_keep_5 : decode cX0_keep 5 = .ok (.getfield 18, 3) := by decide +kernel
theorem dX0_keep_8 : decode cX0_keep 8 = .ok (.aaload, 1) := by decide +kernel
theorem dX0_keep_9 : decode cX0_keep 9 = .ok (.aload_n 1, 1) := by decide +kernel
theorem dX0_keep_10 : decode cX0_keep 10 = .ok (.invokevirtual 22, 3) := by decide +kernel
theorem dX0_keep_13 : decode cX0_keep 13 = .ok (.aload_n 0, 1) := by decide +kernel
theorem dX0_keep_14 : decode cX0_keep 14 = .ok (.aload_n 0, 1) := by decide +kernel
theorem dX0_keep_15 : decode cX0_keep 15 = .ok (.getfield 18, 3) := by decide +kernel
theorem dX0_keep_18 : decode cX0_keep 18 = .ok (.iconst 1, 1) := by decide +kernel
theorem dX0_keep_19 : decode cX0_keep 19 = .ok (.iadd, 1) := by decide +kernel
theorem dX0_keep_20 : decode cX0_keep 20 = .ok (.bipush 8, 2) := by decide +kernel
theorem dX0_keep_22 : decode cX0_keep 22 = .ok (.irem, 1) := by decide +kernel
theorem dX0_keep_23 : decode cX0_keep 23 = .ok (.putfield 18, 3) := by decide +kernel
theorem dX0_keep_26 : decode cX0_keep 26 = .ok (.aload_n 0, 1) := by decide +kernel
theorem dX0_keep_27 : decode cX0_keep 27 = .ok (.bipush 8, 2) := by decide +kernel
theorem dX0_keep_29 : decode cX0_keep 29 = .ok (.aload_n 0, 1) := by decide +kernel
theorem dX0_keep_30 : decode cX0_keep 30 = .ok (.getfield 26, 3) := by decide +kernel
theorem dX0_keep_33 : decode cX0_keep 33 = .ok (.iconst 1, 1) := by decide +kernel
theorem dX0_keep_34 : decode cX0_keep 34 = .ok (.iadd, 1) := by decide +kernel
theorem dX0_keep_35 : decode cX0_keep 35 = .ok (.invokestatic 29, 3) := by decide +kernel
theorem dX0_keep_38 : decode cX0_keep 38 = .ok (.putfield 26, 3) := by decide +kernel
theorem dX0_keep_41 : decode cX0_keep 41 = .ok (.return_, 1) := by decide +kernel
theorem dX0_takeBack_0 : decode cX0_takeBack 0 = .ok (.aload_n 0, 1) := by decide +kernel
theorem dX0_takeBack_1 : decode cX0_takeBack 1 = .ok (.aload_n 0, 1) := by decide +kernel
theorem dX0_takeBack_2 : decode cX0_takeBack 2 = .ok (.getfield 18, 3) := by decide +kernel
theorem dX0_takeBack_5 : decode cX0_takeBack 5 = .ok (.bipush 8, 2) := by decide +kernel
theorem dX0_takeBack_7 : decode cX0_takeBack 7 = .ok (.iadd, 1) := by decide +kernel
theorem dX0_takeBack_8 : decode cX0_takeBack 8 = .ok (.iconst 1, 1) := by decide +kernel
theorem dX0_takeBack_9 : decode cX0_takeBack 9 = .ok (.isub, 1) := by decide +kernel
theorem dX0_takeBack_10 : decode cX0_takeBack 10 = .ok (.bipush 8, 2) := by decide +kernel
theorem dX0_takeBack_12 : decode cX0_takeBack 12 = .ok (.irem, 1) := by decide +kernel
theorem dX0_takeBack_13 : decode cX0_takeBack 13 = .ok (.putfield 18, 3) := by decide +kernel
theorem dX0_takeBack_16 : decode cX0_takeBack 16 = .ok (.aload_n 1, 1) := by decide +kernel
theorem dX0_takeBack_17 : decode cX0_takeBack 17 = .ok (.aload_n 0, 1) := by decide +kernel
theorem dX0_takeBack_18 : decode cX0_takeBack 18 = .ok (.getfield 11, 3) := by decide +kernel
theorem dX0_takeBack_21 : decode cX0_takeBack 21 = .ok (.aload_n 0, 1) := by decide +kernel
theorem dX0_takeBack_22 : decode cX0_takeBack 22 = .ok (.getfield 18, 3) := by decide +kernel
theorem dX0_takeBack_25 : decode cX0_takeBack 25 = .ok (.aaload, 1) := by decide +kernel
theorem dX0_takeBack_26 : decode cX0_takeBack 26 = .ok (.invokevirtual 22, 3) := by decide +kernel
theorem dX0_takeBack_29 : decode cX0_takeBack 29 = .ok (.aload_n 0, 1) := by decide +kernel
theorem dX0_takeBack_30 : decode cX0_takeBack 30 = .ok (.dup, 1) := by decide +kernel
theorem dX0_takeBack_31 : decode cX0_takeBack 31 = .ok (.getfield 26, 3) := by decide +kernel
theorem dX0_takeBack_34 : decode cX0_takeBack 34 = .ok (.iconst 1, 1) := by decide +kernel
theorem dX0_takeBack_35 : decode cX0_takeBack 35 = .ok (.isub, 1) := by decide +kernel
theorem dX0_takeBack_36 : decode cX0_takeBack 36 = .ok (.putfield 26, 3) := by decide +kernel
theorem dX0_takeBack_39 : decode cX0_takeBack 39 = .ok (.return_, 1) := by decide +kernel
theorem dX1_init_0 : decode cX1_init 0 = .ok (.aload_n 0, 1) := by decide +kernel
theorem dX1_init_1 : decode cX1_init 1 = .ok (.invokespecial 3, 3) := by decide +kernel
theorem dX1_init_4 : decode cX1_init 4 = .ok (.aload_n 0, 1) := by decide +kernel
theorem dX1_init_5 : decode cX1_init 5 = .ok (.bipush 18, 2) := by decide +kernel
theorem dX1_init_7 : decode cX1_init 7 = .ok (.newarray .char, 2) := by decide +kernel
theorem dX1_init_9 : decode cX1_init 9 = .ok (.putfield 9, 3) := by decide +kernel
theorem dX1_init_12 : decode cX1_init 12 = .ok (.return_, 1) := by decide +kernel
theorem dX1_put_0 : decode cX1_put 0 = .ok (.aload_n 0, 1) := by decide +kernel
theorem dX1_put_1 : decode cX1_put 1 = .ok (.getfield 15, 3) := by decide +kernel
theorem dX1_put_4 : decode cX1_put 4 = .ok (.bipush 18, 2) := by decide +kernel
theorem dX1_put_6 : decode cX1_put 6 = .ok (.if_icmp .ge 23, 3) := by decide +kernel
theorem dX1_put_9 : decode cX1_put 9 = .ok (.aload_n 0, 1) := by decide +kernel
theorem dX1_put_10 : decode cX1_put 10 = .ok (.getfield 9, 3) := by decide +kernel
theorem dX1_put_13 : decode cX1_put 13 = .ok (.aload_n 0, 1) := by decide +kernel
theorem dX1_put_14 : decode cX1_put 14 = .ok (.getfield 15, 3) := by decide +kernel
theorem dX1_put_17 : decode cX1_put 17 = .ok (.iload_n 1, 1) := by decide +kernel
theorem dX1_put_18 : decode cX1_put 18 = .ok (.castore, 1) := by decide +kernel
theorem dX1_put_19 : decode cX1_put 19 = .ok (.aload_n 0, 1) := by decide +kernel
theorem dX1_put_20 : decode cX1_put 20 = .ok (.dup, 1) := by decide +kernel
theorem dX1_put_21 : decode cX1_put 21 = .ok (.getfield 15, 3) := by decide +kernel
theorem dX1_put_24 : decode cX1_put 24 = .ok (.iconst 1, 1) := by decide +kernel
theorem dX1_put_25 : decode cX1_put 25 = .ok (.iadd, 1) := by decide +kernel
theorem dX1_put_26 : decode cX1_put 26 = .ok (.putfield 15, 3) := by decide +kernel
theorem dX1_put_29 : decode cX1_put 29 = .ok (.return_, 1) := by decide +kernel
theorem dX1_putNumber_0 : decode cX1_putNumber 0 = .ok (.iload_n 1, 1) := by decide +kernel
theorem dX1_putNumber_1 : decode cX1_putNumber 1 = .ok (.bipush 10, 2) := by decide +kernel
theorem dX1_putNumber_3 : decode cX1_putNumber 3 = .ok (.if_icmp .lt 15, 3) := by decide +kernel
theorem dX1_putNumber_6 : decode cX1_putNumber 6 = .ok (.aload_n 0, 1) := by decide +kernel
theorem dX1_putNumber_7 : decode cX1_putNumber 7 = .ok (.bipush 48, 2) := by decide +kernel
theorem dX1_putNumber_9 : decode cX1_putNumber 9 = .ok (.iload_n 1, 1) := by decide +kernel
theorem dX1_putNumber_10 : decode cX1_putNumber 10 = .ok (.bipush 10, 2) := by decide +kernel
theorem dX1_putNumber_12 : decode cX1_putNumber 12 = .ok (.idiv, 1) := by decide +kernel
theorem dX1_putNumber_13 : decode cX1_putNumber 13 = .ok (.iadd, 1) := by decide +kernel
theorem dX1_putNumber_14 : decode cX1_putNumber 14 = .ok (.i2c, 1) := by decide +kernel
theorem dX1_putNumber_15 : decode cX1_putNumber 15 = .ok (.invokevirtual 19, 3) := by decide +kernel
theorem dX1_putNumber_18 : decode cX1_putNumber 18 = .ok (.aload_n 0, 1) := by decide +kernel
theorem dX1_putNumber_19 : decode cX1_putNumber 19 = .ok (.bipush 48, 2) := by decide +kernel
theorem dX1_putNumber_21 : decode cX1_putNumber 21 = .ok (.iload_n 1, 1) := by decide +kernel
theorem dX1_putNumber_22 : decode cX1_putNumber 22 = .ok (.bipush 10, 2) := by decide +kernel
theorem dX1_putNumber_24 : decode cX1_putNumber 24 = .ok (.irem, 1) := by decide +kernel
theorem dX1_putNumber_25 : decode cX1_putNumber 25 = .ok (.iadd, 1) := by decide +kernel
theorem dX1_putNumber_26 : decode cX1_putNumber 26 = .ok (.i2c, 1) := by decide +kernel
theorem dX1_putNumber_27 : decode cX1_putNumber 27 = .ok (.invokevirtual 19, 3) := by decide +kernel
theorem dX1_putNumber_30 : decode cX1_putNumber 30 = .ok (.return_, 1) := by decide +kernel
theorem dX2_init_0 : decode cX2_init 0 = .ok (.aload_n 0, 1) := by decide +kernel
theorem dX2_init_1 : decode cX2_init 1 = .ok (.invokespecial 3, 3) := by decide +kernel
theorem dX2_init_4 : decode cX2_init 4 = .ok (.aload_n 0, 1) := by decide +kernel
theorem dX2_init_5 : decode cX2_init 5 = .ok (.bipush 60, 2) := by decide +kernel
theorem dX2_init_7 : decode cX2_init 7 = .ok (.newarray .char, 2) := by decide +kernel
theorem dX2_init_9 : decode cX2_init 9 = .ok (.putfield 9, 3) := by decide +kernel
theorem dX2_init_12 : decode cX2_init 12 = .ok (.return_, 1) := by decide +kernel
theorem dX2_findError_0 : decode cX2_findError 0 = .ok (.aload_n 0, 1) := by decide +kernel
theorem dX2_findError_1 : decode cX2_findError 1 = .ok (.iconst 0, 1) := by decide +kernel
theorem dX2_findError_2 : decode cX2_findError 2 = .ok (.putfield 15, 3) := by decide +kernel
theorem dX2_findError_5 : decode cX2_findError 5 = .ok (.iconst 0, 1) := by decide +kernel
theorem dX2_findError_6 : decode cX2_findError 6 = .ok (.istore_n 1, 1) := by decide +kernel
theorem dX2_findError_7 : decode cX2_findError 7 = .ok (.iload_n 1, 1) := by decide +kernel
theorem dX2_findError_8 : decode cX2_findError 8 = .ok (.bipush 60, 2) := by decide +kernel
theorem dX2_findError_10 : decode cX2_findError 10 = .ok (.if_icmp .ge 34, 3) := by decide +kernel
theorem dX2_findError_13 : decode cX2_findError 13 = .ok (.aload_n 0, 1) := by decide +kernel
theorem dX2_findError_14 : decode cX2_findError 14 = .ok (.invokevirtual 19, 3) := by decide +kernel
theorem dX2_findError_17 : decode cX2_findError 17 = .ok (.ifCond .ne 8, 3) := by decide +kernel
theorem dX2_findError_20 : decode cX2_findError 20 = .ok (.aload_n 0, 1) := by decide +kernel
theorem dX2_findError_21 : decode cX2_findError 21 = .ok (.getfield 15, 3) := by decide +kernel
theorem dX2_findError_24 : decode cX2_findError 24 = .ok (.ireturn, 1) := by decide +kernel
theorem dX2_findError_25 : decode cX2_findError 25 = .ok (.aload_n 0, 1) := by decide +kernel
theorem dX2_findError_26 : decode cX2_findError 26 = .ok (.getfield 15, 3) := by decide +kernel
theorem dX2_findError_29 : decode cX2_findError 29 = .ok (.aload_n 0, 1) := by decide +kernel
theorem dX2_findError_30 : decode cX2_findError 30 = .ok (.getfield 23, 3) := by decide +kernel
theorem dX2_findError_33 : decode cX2_findError 33 = .ok (.if_icmp .lt 5, 3) := by decide +kernel
theorem dX2_findError_36 : decode cX2_findError 36 = .ok (.iconst (-1), 1) := by decide +kernel
theorem dX2_findError_37 : decode cX2_findError 37 = .ok (.ireturn, 1) := by decide +kernel
theorem dX2_findError_38 : decode cX2_findError 38 = .ok (.iinc 1 1, 3) := by decide +kernel
theorem dX2_findError_41 : decode cX2_findError 41 = .ok (.goto (-34), 3) := by decide +kernel
theorem dX2_findError_44 : decode cX2_findError 44 = .ok (.aload_n 0, 1) := by decide +kernel
theorem dX2_findError_45 : decode cX2_findError 45 = .ok (.getfield 15, 3) := by decide +kernel
theorem dX2_findError_48 : decode cX2_findError 48 = .ok (.ireturn, 1) := by decide +kernel
theorem dX2_readNext_0 : decode cX2_readNext 0 = .ok (.aload_n 0, 1) := by decide +kernel
theorem dX2_readNext_1 : decode cX2_readNext 1 = .ok (.getfield 15, 3) := by decide +kernel
theorem dX2_readNext_4 : decode cX2_readNext 4 = .ok (.ifCond .le 14, 3) := by decide +kernel
theorem dX2_readNext_7 : decode cX2_readNext 7 = .ok (.aload_n 0, 1) := by decide +kernel
theorem dX2_readNext_8 : decode cX2_readNext 8 = .ok (.bipush 59, 2) := by decide +kernel
theorem dX2_readNext_10 : decode cX2_readNext 10 = .ok (.invokevirtual 26, 3) := by decide +kernel
theorem dX2_readNext_13 : decode cX2_readNext 13 = .ok (.ifCond .ne 5, 3) := by decide +kernel
theorem dX2_readNext_16 : decode cX2_readNext 16 = .ok (.iconst 0, 1) := by decide +kernel
theorem dX2_readNext_17 : decode cX2_readNext 17 = .ok (.ireturn, 1) := by decide +kernel
theorem dX2_readNext_18 : decode cX2_readNext 18 = .ok (.aload_n 0, 1) := by decide +kernel
theorem dX2_readNext_19 : decode cX2_readNext 19 = .ok (.getfield 15, 3) := by decide +kernel
theorem dX2_readNext_22 : decode cX2_readNext 22 = .ok (.aload_n 0, 1) := by decide +kernel
theorem dX2_readNext_23 : decode cX2_readNext 23 = .ok (.getfield 23, 3) := by decide +kernel
theorem dX2_readNext_26 : decode cX2_readNext 26 = .ok (.if_icmp .ge 12, 3) := by decide +kernel
theorem dX2_readNext_29 : decode cX2_readNext 29 = .ok (.aload_n 0, 1) := by decide +kernel
theorem dX2_readNext_30 : decode cX2_readNext 30 = .ok (.getfield 15, 3) := by decide +kernel
theorem dX2_readNext_33 : decode cX2_readNext 33 = .ok (.bipush 60, 2) := by decide +kernel
theorem dX2_readNext_35 : decode cX2_readNext 35 = .ok (.if_icmp .lt 5, 3) := by decide +kernel
theorem dX2_readNext_38 : decode cX2_readNext 38 = .ok (.iconst 0, 1) := by decide +kernel
theorem dX2_readNext_39 : decode cX2_readNext 39 = .ok (.ireturn, 1) := by decide +kernel
theorem dX2_readNext_40 : decode cX2_readNext 40 = .ok (.aload_n 0, 1) := by decide +kernel
theorem dX2_readNext_41 : decode cX2_readNext 41 = .ok (.aload_n 0, 1) := by decide +kernel
theorem dX2_readNext_42 : decode cX2_readNext 42 = .ok (.getfield 9, 3) := by decide +kernel
theorem dX2_readNext_45 : decode cX2_readNext 45 = .ok (.aload_n 0, 1) := by decide +kernel
theorem dX2_readNext_46 : decode cX2_readNext 46 = .ok (.getfield 15, 3) := by decide +kernel
theorem dX2_readNext_49 : decode cX2_readNext 49 = .ok (.caload, 1) := by decide +kernel
theorem dX2_readNext_50 : decode cX2_readNext 50 = .ok (.putfield 30, 3) := by decide +kernel
theorem dX2_readNext_53 : decode cX2_readNext 53 = .ok (.aload_n 0, 1) := by decide +kernel
theorem dX2_readNext_54 : decode cX2_readNext 54 = .ok (.invokevirtual 34, 3) := by decide +kernel
theorem dX2_readNext_57 : decode cX2_readNext 57 = .ok (.ireturn, 1) := by decide +kernel
theorem dX2_readOrder_0 : decode cX2_readOrder 0 = .ok (.aload_n 0, 1) := by decide +kernel
theorem dX2_readOrder_1 : decode cX2_readOrder 1 = .ok (.getfield 30, 3) := by decide +kernel
theorem dX2_readOrder_4 : decode cX2_readOrder 4 = .ok (.tableswitch 252 99 120 #[195, 240, 240, 252, 252, 104, 252, 252, 252, 195, 158, 252, 252, 252, 252, 195, 119, 252, 252, 252, 252, 225], 104) := by decide +kernel
theorem dX2_readOrder_108 : decode cX2_readOrder 108 = .ok (.aload_n 0, 1) := by decide +kernel
theorem dX2_readOrder_109 : decode cX2_readOrder 109 = .ok (.dup, 1) := by decide +kernel
theorem dX2_readOrder_110 : decode cX2_readOrder 110 = .ok (.getfield 15, 3) := by decide +kernel
theorem dX2_readOrder_113 : decode cX2_readOrder 113 = .ok (.iconst 1, 1) := by decide +kernel
theorem dX2_readOrder_114 : decode cX2_readOrder 114 = .ok (.iadd, 1) := by decide +kernel
theorem dX2_readOrder_115 : decode cX2_readOrder 115 = .ok (.putfield 15, 3) := by decide +kernel
theorem dX2_readOrder_118 : decode cX2_readOrder 118 = .ok (.aload_n 0, 1) := by decide +kernel
theorem dX2_readOrder_119 : decode cX2_readOrder 119 = .ok (.invokevirtual 37, 3) := by decide +kernel
theorem dX2_readOrder_122 : decode cX2_readOrder 122 = .ok (.ireturn, 1) := by decide +kernel
theorem dX2_readOrder_123 : decode cX2_readOrder 123 = .ok (.aload_n 0, 1) := by decide +kernel
theorem dX2_readOrder_124 : decode cX2_readOrder 124 = .ok (.dup, 1) := by decide +kernel
theorem dX2_readOrder_125 : decode cX2_readOrder 125 = .ok (.getfield 15, 3) := by decide +kernel
theorem dX2_readOrder_128 : decode cX2_readOrder 128 = .ok (.iconst 1, 1) := by decide +kernel
theorem dX2_readOrder_129 : decode cX2_readOrder 129 = .ok (.iadd, 1) := by decide +kernel
theorem dX2_readOrder_130 : decode cX2_readOrder 130 = .ok (.putfield 15, 3) := by decide +kernel
theorem dX2_readOrder_133 : decode cX2_readOrder 133 = .ok (.aload_n 0, 1) := by decide +kernel
theorem dX2_readOrder_134 : decode cX2_readOrder 134 = .ok (.invokevirtual 40, 3) := by decide +kernel
theorem dX2_readOrder_137 : decode cX2_readOrder 137 = .ok (.ifCond .eq 23, 3) := by decide +kernel
theorem dX2_readOrder_140 : decode cX2_readOrder 140 = .ok (.aload_n 0, 1) := by decide +kernel
theorem dX2_readOrder_141 : decode cX2_readOrder 141 = .ok (.bipush 61, 2) := by decide +kernel
theorem dX2_readOrder_143 : decode cX2_readOrder 143 = .ok (.invokevirtual 26, 3) := by decide +kernel
theorem dX2_readOrder_146 : decode cX2_readOrder 146 = .ok (.ifCond .eq 14, 3) := by decide +kernel
theorem dX2_readOrder_149 : decode cX2_readOrder 149 = .ok (.aload_n 0, 1) := by decide +kernel
theorem dX2_readOrder_150 : decode cX2_readOrder 150 = .ok (.invokevirtual 43, 3) := by decide +kernel
theorem dX2_readOrder_153 : decode cX2_readOrder 153 = .ok (.ifCond .eq 7, 3) := by decide +kernel
theorem dX2_readOrder_156 : decode cX2_readOrder 156 = .ok (.iconst 1, 1) := by decide +kernel
theorem dX2_readOrder_157 : decode cX2_readOrder 157 = .ok (.goto 4, 3) := by decide +kernel
theorem dX2_readOrder_160 : decode cX2_readOrder 160 = .ok (.iconst 0, 1) := by decide +kernel
theorem dX2_readOrder_161 : decode cX2_readOrder 161 = .ok (.ireturn, 1) := by decide +kernel
theorem dX2_readOrder_162 : decode cX2_readOrder 162 = .ok (.aload_n 0, 1) := by decide +kernel
theorem dX2_readOrder_163 : decode cX2_readOrder 163 = .ok (.dup, 1) := by decide +kernel
theorem dX2_readOrder_164 : decode cX2_readOrder 164 = .ok (.getfield 15, 3) := by decide +kernel
theorem dX2_readOrder_167 : decode cX2_readOrder 167 = .ok (.iconst 1, 1) := by decide +kernel
theorem dX2_readOrder_168 : decode cX2_readOrder 168 = .ok (.iadd, 1) := by decide +kernel
theorem dX2_readOrder_169 : decode cX2_readOrder 169 = .ok (.putfield 15, 3) := by decide +kernel
theorem dX2_readOrder_172 : decode cX2_readOrder 172 = .ok (.aload_n 0, 1) := by decide +kernel
theorem dX2_readOrder_173 : decode cX2_readOrder 173 = .ok (.invokevirtual 40, 3) := by decide +kernel
theorem dX2_readOrder_176 : decode cX2_readOrder 176 = .ok (.ifCond .eq 21, 3) := by decide +kernel
theorem dX2_readOrder_179 : decode cX2_readOrder 179 = .ok (.aload_n 0, 1) := by decide +kernel
theorem dX2_readOrder_180 : decode cX2_readOrder 180 = .ok (.invokevirtual 46, 3) := by decide +kernel
theorem dX2_readOrder_183 : decode cX2_readOrder 183 = .ok (.ifCond .eq 14, 3) := by decide +kernel
theorem dX2_readOrder_186 : decode cX2_readOrder 186 = .ok (.aload_n 0, 1) := by decide +kernel
theorem dX2_readOrder_187 : decode cX2_readOrder 187 = .ok (.invokevirtual 49, 3) := by decide +kernel
theorem dX2_readOrder_190 : decode cX2_readOrder 190 = .ok (.ifCond .eq 7, 3) := by decide +kernel
theorem dX2_readOrder_193 : decode cX2_readOrder 193 = .ok (.iconst 1, 1) := by decide +kernel
theorem dX2_readOrder_194 : decode cX2_readOrder 194 = .ok (.goto 4, 3) := by decide +kernel
theorem dX2_readOrder_197 : decode cX2_readOrder 197 = .ok (.iconst 0, 1) := by decide +kernel
theorem dX2_readOrder_198 : decode cX2_readOrder 198 = .ok (.ireturn, 1) := by decide +kernel
theorem dX2_readOrder_199 : decode cX2_readOrder 199 = .ok (.aload_n 0, 1) := by decide +kernel
theorem dX2_readOrder_200 : decode cX2_readOrder 200 = .ok (.dup, 1) := by decide +kernel
theorem dX2_readOrder_201 : decode cX2_readOrder 201 = .ok (.getfield 15, 3) := by decide +kernel
theorem dX2_readOrder_204 : decode cX2_readOrder 204 = .ok (.iconst 1, 1) := by decide +kernel
theorem dX2_readOrder_205 : decode cX2_readOrder 205 = .ok (.iadd, 1) := by decide +kernel
theorem dX2_readOrder_206 : decode cX2_readOrder 206 = .ok (.putfield 15, 3) := by decide +kernel
theorem dX2_readOrder_209 : decode cX2_readOrder 209 = .ok (.aload_n 0, 1) := by decide +kernel
theorem dX2_readOrder_210 : decode cX2_readOrder 210 = .ok (.invokevirtual 40, 3) := by decide +kernel
theorem dX2_readOrder_213 : decode cX2_readOrder 213 = .ok (.ifCond .eq 14, 3) := by decide +kernel
theorem dX2_readOrder_216 : decode cX2_readOrder 216 = .ok (.aload_n 0, 1) := by decide +kernel
theorem dX2_readOrder_217 : decode cX2_readOrder 217 = .ok (.invokevirtual 46, 3) := by decide +kernel
theorem dX2_readOrder_220 : decode cX2_readOrder 220 = .ok (.ifCond .eq 7, 3) := by decide +kernel
theorem dX2_readOrder_223 : decode cX2_readOrder 223 = .ok (.iconst 1, 1) := by decide +kernel
theorem dX2_readOrder_224 : decode cX2_readOrder 224 = .ok (.goto 4, 3) := by decide +kernel
theorem dX2_readOrder_227 : decode cX2_readOrder 227 = .ok (.iconst 0, 1) := by decide +kernel
theorem dX2_readOrder_228 : decode cX2_readOrder 228 = .ok (.ireturn, 1) := by decide +kernel
theorem dX2_readOrder_229 : decode cX2_readOrder 229 = .ok (.aload_n 0, 1) := by decide +kernel
theorem dX2_readOrder_230 : decode cX2_readOrder 230 = .ok (.dup, 1) := by decide +kernel
theorem dX2_readOrder_231 : decode cX2_readOrder 231 = .ok (.getfield 15, 3) := by decide +kernel
theorem dX2_readOrder_234 : decode cX2_readOrder 234 = .ok (.iconst 1, 1) := by decide +kernel
theorem dX2_readOrder_235 : decode cX2_readOrder 235 = .ok (.iadd, 1) := by decide +kernel
theorem dX2_readOrder_236 : decode cX2_readOrder 236 = .ok (.putfield 15, 3) := by decide +kernel
theorem dX2_readOrder_239 : decode cX2_readOrder 239 = .ok (.aload_n 0, 1) := by decide +kernel
theorem dX2_readOrder_240 : decode cX2_readOrder 240 = .ok (.invokevirtual 40, 3) := by decide +kernel
theorem dX2_readOrder_243 : decode cX2_readOrder 243 = .ok (.ireturn, 1) := by decide +kernel
theorem dX2_readOrder_244 : decode cX2_readOrder 244 = .ok (.aload_n 0, 1) := by decide +kernel
theorem dX2_readOrder_245 : decode cX2_readOrder 245 = .ok (.dup, 1) := by decide +kernel
theorem dX2_readOrder_246 : decode cX2_readOrder 246 = .ok (.getfield 15, 3) := by decide +kernel
theorem dX2_readOrder_249 : decode cX2_readOrder 249 = .ok (.iconst 1, 1) := by decide +kernel
theorem dX2_readOrder_250 : decode cX2_readOrder 250 = .ok (.iadd, 1) := by decide +kernel
theorem dX2_readOrder_251 : decode cX2_readOrder 251 = .ok (.putfield 15, 3) := by decide +kernel
theorem dX2_readOrder_254 : decode cX2_readOrder 254 = .ok (.iconst 1, 1) := by decide +kernel
theorem dX2_readOrder_255 : decode cX2_readOrder 255 = .ok (.ireturn, 1) := by decide +kernel
theorem dX2_readOrder_256 : decode cX2_readOrder 256 = .ok (.iconst 0, 1) := by decide +kernel
theorem dX2_readOrder_257 : decode cX2_readOrder 257 = .ok (.ireturn, 1) := by decide +kernel
theorem dX2_isAhead_0 : decode cX2_isAhead 0 = .ok (.aload_n 0, 1) := by decide +kernel
theorem dX2_isAhead_1 : decode cX2_isAhead 1 = .ok (.getfield 15, 3) := by decide +kernel
theorem dX2_isAhead_4 : decode cX2_isAhead 4 = .ok (.aload_n 0, 1) := by decide +kernel
theorem dX2_isAhead_5 : decode cX2_isAhead 5 = .ok (.getfield 23, 3) := by decide +kernel
theorem dX2_isAhead_8 : decode cX2_isAhead 8 = .ok (.if_icmp .ge 42, 3) := by decide +kernel
theorem dX2_isAhead_11 : decode cX2_isAhead 11 = .ok (.aload_n 0, 1) := by decide +kernel
theorem dX2_isAhead_12 : decode cX2_isAhead 12 = .ok (.getfield 15, 3) := by decide +kernel
theorem dX2_isAhead_15 : decode cX2_isAhead 15 = .ok (.bipush 60, 2) := by decide +kernel
theorem dX2_isAhead_17 : decode cX2_isAhead 17 = .ok (.if_icmp .ge 33, 3) := by decide +kernel
theorem dX2_isAhead_20 : decode cX2_isAhead 20 = .ok (.aload_n 0, 1) := by decide +kernel
theorem dX2_isAhead_21 : decode cX2_isAhead 21 = .ok (.getfield 9, 3) := by decide +kernel
theorem dX2_isAhead_24 : decode cX2_isAhead 24 = .ok (.aload_n 0, 1) := by decide +kernel
theorem dX2_isAhead_25 : decode cX2_isAhead 25 = .ok (.getfield 15, 3) := by decide +kernel
theorem dX2_isAhead_28 : decode cX2_isAhead 28 = .ok (.caload, 1) := by decide +kernel
theorem dX2_isAhead_29 : decode cX2_isAhead 29 = .ok (.iload_n 1, 1) := by decide +kernel
theorem dX2_isAhead_30 : decode cX2_isAhead 30 = .ok (.if_icmp .lt 20, 3) := by decide +kernel
theorem dX2_isAhead_33 : decode cX2_isAhead 33 = .ok (.aload_n 0, 1) := by decide +kernel
theorem dX2_isAhead_34 : decode cX2_isAhead 34 = .ok (.getfield 9, 3) := by decide +kernel
theorem dX2_isAhead_37 : decode cX2_isAhead 37 = .ok (.aload_n 0, 1) := by decide +kernel
theorem dX2_isAhead_38 : decode cX2_isAhead 38 = .ok (.getfield 15, 3) := by decide +kernel
theorem dX2_isAhead_41 : decode cX2_isAhead 41 = .ok (.caload, 1) := by decide +kernel
theorem dX2_isAhead_42 : decode cX2_isAhead 42 = .ok (.iload_n 2, 1) := by decide +kernel
theorem dX2_isAhead_43 : decode cX2_isAhead 43 = .ok (.if_icmp .gt 7, 3) := by decide +kernel
theorem dX2_isAhead_46 : decode cX2_isAhead 46 = .ok (.iconst 1, 1) := by decide +kernel
theorem dX2_isAhead_47 : decode cX2_isAhead 47 = .ok (.goto 4, 3) := by decide +kernel
theorem dX2_isAhead_50 : decode cX2_isAhead 50 = .ok (.iconst 0, 1) := by decide +kernel
theorem dX2_isAhead_51 : decode cX2_isAhead 51 = .ok (.ireturn, 1) := by decide +kernel
theorem dX2_readSign_0 : decode cX2_readSign 0 = .ok (.aload_n 0, 1) := by decide +kernel
theorem dX2_readSign_1 : decode cX2_readSign 1 = .ok (.iload_n 1, 1) := by decide +kernel
theorem dX2_readSign_2 : decode cX2_readSign 2 = .ok (.iload_n 1, 1) := by decide +kernel
theorem dX2_readSign_3 : decode cX2_readSign 3 = .ok (.invokevirtual 52, 3) := by decide +kernel
theorem dX2_readSign_6 : decode cX2_readSign 6 = .ok (.ifCond .ne 5, 3) := by decide +kernel
theorem dX2_readSign_9 : decode cX2_readSign 9 = .ok (.iconst 0, 1) := by decide +kernel
theorem dX2_readSign_10 : decode cX2_readSign 10 = .ok (.ireturn, 1) := by decide +kernel
theorem dX2_readSign_11 : decode cX2_readSign 11 = .ok (.aload_n 0, 1) := by decide +kernel
theorem dX2_readSign_12 : decode cX2_readSign 12 = .ok (.dup, 1) := by decide +kernel
theorem dX2_readSign_13 : decode cX2_readSign 13 = .ok (.getfield 15, 3) := by decide +kernel
theorem dX2_readSign_16 : decode cX2_readSign 16 = .ok (.iconst 1, 1) := by decide +kernel
theorem dX2_readSign_17 : decode cX2_readSign 17 = .ok (.iadd, 1) := by decide +kernel
theorem dX2_readSign_18 : decode cX2_readSign 18 = .ok (.putfield 15, 3) := by decide +kernel
theorem dX2_readSign_21 : decode cX2_readSign 21 = .ok (.iconst 1, 1) := by decide +kernel
theorem dX2_readSign_22 : decode cX2_readSign 22 = .ok (.ireturn, 1) := by decide +kernel
theorem dX2_readFirst_0 : decode cX2_readFirst 0 = .ok (.aload_n 0, 1) := by decide +kernel
theorem dX2_readFirst_1 : decode cX2_readFirst 1 = .ok (.aload_n 0, 1) := by decide +kernel
theorem dX2_readFirst_2 : decode cX2_readFirst 2 = .ok (.invokevirtual 56, 3) := by decide +kernel
theorem dX2_readFirst_5 : decode cX2_readFirst 5 = .ok (.putfield 60, 3) := by decide +kernel
theorem dX2_readFirst_8 : decode cX2_readFirst 8 = .ok (.aload_n 0, 1) := by decide +kernel
theorem dX2_readFirst_9 : decode cX2_readFirst 9 = .ok (.getfield 60, 3) := by decide +kernel
theorem dX2_readFirst_12 : decode cX2_readFirst 12 = .ok (.iconst (-1), 1) := by decide +kernel
theorem dX2_readFirst_13 : decode cX2_readFirst 13 = .ok (.if_icmp .eq 7, 3) := by decide +kernel
theorem dX2_readFirst_16 : decode cX2_readFirst 16 = .ok (.iconst 1, 1) := by decide +kernel
theorem dX2_readFirst_17 : decode cX2_readFirst 17 = .ok (.goto 4, 3) := by decide +kernel
theorem dX2_readFirst_20 : decode cX2_readFirst 20 = .ok (.iconst 0, 1) := by decide +kernel
theorem dX2_readFirst_21 : decode cX2_readFirst 21 = .ok (.ireturn, 1) := by decide +kernel
theorem dX2_readSecond_0 : decode cX2_readSecond 0 = .ok (.aload_n 0, 1) := by decide +kernel
theorem dX2_readSecond_1 : decode cX2_readSecond 1 = .ok (.aload_n 0, 1) := by decide +kernel
theorem dX2_readSecond_2 : decode cX2_readSecond 2 = .ok (.invokevirtual 56, 3) := by decide +kernel
theorem dX2_readSecond_5 : decode cX2_readSecond 5 = .ok (.putfield 63, 3) := by decide +kernel
theorem dX2_readSecond_8 : decode cX2_readSecond 8 = .ok (.aload_n 0, 1) := by decide +kernel
theorem dX2_readSecond_9 : decode cX2_readSecond 9 = .ok (.getfield 63, 3) := by decide +kernel
theorem dX2_readSecond_12 : decode cX2_readSecond 12 = .ok (.iconst (-1), 1) := by decide +kernel
theorem dX2_readSecond_13 : decode cX2_readSecond 13 = .ok (.if_icmp .eq 7, 3) := by decide +kernel
theorem dX2_readSecond_16 : decode cX2_readSecond 16 = .ok (.iconst 1, 1) := by decide +kernel
theorem dX2_readSecond_17 : decode cX2_readSecond 17 = .ok (.goto 4, 3) := by decide +kernel
theorem dX2_readSecond_20 : decode cX2_readSecond 20 = .ok (.iconst 0, 1) := by decide +kernel
theorem dX2_readSecond_21 : decode cX2_readSecond 21 = .ok (.ireturn, 1) := by decide +kernel
theorem dX2_readDigit_0 : decode cX2_readDigit 0 = .ok (.aload_n 0, 1) := by decide +kernel
theorem dX2_readDigit_1 : decode cX2_readDigit 1 = .ok (.bipush 48, 2) := by decide +kernel
theorem dX2_readDigit_3 : decode cX2_readDigit 3 = .ok (.bipush 57, 2) := by decide +kernel
theorem dX2_readDigit_5 : decode cX2_readDigit 5 = .ok (.invokevirtual 52, 3) := by decide +kernel
theorem dX2_readDigit_8 : decode cX2_readDigit 8 = .ok (.ifCond .ne 5, 3) := by decide +kernel
theorem dX2_readDigit_11 : decode cX2_readDigit 11 = .ok (.iconst (-1), 1) := by decide +kernel
theorem dX2_readDigit_12 : decode cX2_readDigit 12 = .ok (.ireturn, 1) := by decide +kernel
theorem dX2_readDigit_13 : decode cX2_readDigit 13 = .ok (.aload_n 0, 1) := by decide +kernel
theorem dX2_readDigit_14 : decode cX2_readDigit 14 = .ok (.getfield 9, 3) := by decide +kernel
theorem dX2_readDigit_17 : decode cX2_readDigit 17 = .ok (.aload_n 0, 1) := by decide +kernel
theorem dX2_readDigit_18 : decode cX2_readDigit 18 = .ok (.getfield 15, 3) := by decide +kernel
theorem dX2_readDigit_21 : decode cX2_readDigit 21 = .ok (.caload, 1) := by decide +kernel
theorem dX2_readDigit_22 : decode cX2_readDigit 22 = .ok (.bipush 48, 2) := by decide +kernel
theorem dX2_readDigit_24 : decode cX2_readDigit 24 = .ok (.isub, 1) := by decide +kernel
theorem dX2_readDigit_25 : decode cX2_readDigit 25 = .ok (.istore_n 1, 1) := by decide +kernel
theorem dX2_readDigit_26 : decode cX2_readDigit 26 = .ok (.aload_n 0, 1) := by decide +kernel
theorem dX2_readDigit_27 : decode cX2_readDigit 27 = .ok (.dup, 1) := by decide +kernel
theorem dX2_readDigit_28 : decode cX2_readDigit 28 = .ok (.getfield 15, 3) := by decide +kernel
theorem dX2_readDigit_31 : decode cX2_readDigit 31 = .ok (.iconst 1, 1) := by decide +kernel
theorem dX2_readDigit_32 : decode cX2_readDigit 32 = .ok (.iadd, 1) := by decide +kernel
theorem dX2_readDigit_33 : decode cX2_readDigit 33 = .ok (.putfield 15, 3) := by decide +kernel
theorem dX2_readDigit_36 : decode cX2_readDigit 36 = .ok (.iload_n 1, 1) := by decide +kernel
theorem dX2_readDigit_37 : decode cX2_readDigit 37 = .ok (.ireturn, 1) := by decide +kernel
theorem dX2_readCoins_0 : decode cX2_readCoins 0 = .ok (.aload_n 0, 1) := by decide +kernel
theorem dX2_readCoins_1 : decode cX2_readCoins 1 = .ok (.aload_n 0, 1) := by decide +kernel
theorem dX2_readCoins_2 : decode cX2_readCoins 2 = .ok (.invokevirtual 56, 3) := by decide +kernel
theorem dX2_readCoins_5 : decode cX2_readCoins 5 = .ok (.putfield 60, 3) := by decide +kernel
theorem dX2_readCoins_8 : decode cX2_readCoins 8 = .ok (.aload_n 0, 1) := by decide +kernel
theorem dX2_readCoins_9 : decode cX2_readCoins 9 = .ok (.getfield 60, 3) := by decide +kernel
theorem dX2_readCoins_12 : decode cX2_readCoins 12 = .ok (.iconst (-1), 1) := by decide +kernel
theorem dX2_readCoins_13 : decode cX2_readCoins 13 = .ok (.if_icmp .eq 30, 3) := by decide +kernel
theorem dX2_readCoins_16 : decode cX2_readCoins 16 = .ok (.aload_n 0, 1) := by decide +kernel
theorem dX2_readCoins_17 : decode cX2_readCoins 17 = .ok (.bipush 48, 2) := by decide +kernel
theorem dX2_readCoins_19 : decode cX2_readCoins 19 = .ok (.bipush 57, 2) := by decide +kernel
theorem dX2_readCoins_21 : decode cX2_readCoins 21 = .ok (.invokevirtual 52, 3) := by decide +kernel
theorem dX2_readCoins_24 : decode cX2_readCoins 24 = .ok (.ifCond .eq 19, 3) := by decide +kernel
theorem dX2_readCoins_27 : decode cX2_readCoins 27 = .ok (.aload_n 0, 1) := by decide +kernel
theorem dX2_readCoins_28 : decode cX2_readCoins 28 = .ok (.aload_n 0, 1) := by decide +kernel
theorem dX2_readCoins_29 : decode cX2_readCoins 29 = .ok (.getfield 60, 3) := by decide +kernel
theorem dX2_readCoins_32 : decode cX2_readCoins 32 = .ok (.bipush 10, 2) := by decide +kernel
theorem dX2_readCoins_34 : decode cX2_readCoins 34 = .ok (.imul, 1) := by decide +kernel
theorem dX2_readCoins_35 : decode cX2_readCoins 35 = .ok (.aload_n 0, 1) := by decide +kernel
theorem dX2_readCoins_36 : decode cX2_readCoins 36 = .ok (.invokevirtual 56, 3) := by decide +kernel
theorem dX2_readCoins_39 : decode cX2_readCoins 39 = .ok (.iadd, 1) := by decide +kernel
theorem dX2_readCoins_40 : decode cX2_readCoins 40 = .ok (.putfield 60, 3) := by decide +kernel
theorem dX2_readCoins_43 : decode cX2_readCoins 43 = .ok (.aload_n 0, 1) := by decide +kernel
theorem dX2_readCoins_44 : decode cX2_readCoins 44 = .ok (.getfield 60, 3) := by decide +kernel
theorem dX2_readCoins_47 : decode cX2_readCoins 47 = .ok (.iconst (-1), 1) := by decide +kernel
theorem dX2_readCoins_48 : decode cX2_readCoins 48 = .ok (.if_icmp .eq 7, 3) := by decide +kernel
theorem dX2_readCoins_51 : decode cX2_readCoins 51 = .ok (.iconst 1, 1) := by decide +kernel
theorem dX2_readCoins_52 : decode cX2_readCoins 52 = .ok (.goto 4, 3) := by decide +kernel
theorem dX2_readCoins_55 : decode cX2_readCoins 55 = .ok (.iconst 0, 1) := by decide +kernel
theorem dX2_readCoins_56 : decode cX2_readCoins 56 = .ok (.ireturn, 1) := by decide +kernel
theorem dX2_readLetter_0 : decode cX2_readLetter 0 = .ok (.aload_n 0, 1) := by decide +kernel
theorem dX2_readLetter_1 : decode cX2_readLetter 1 = .ok (.bipush 97, 2) := by decide +kernel
theorem dX2_readLetter_3 : decode cX2_readLetter 3 = .ok (.bipush 102, 2) := by decide +kernel
theorem dX2_readLetter_5 : decode cX2_readLetter 5 = .ok (.invokevirtual 52, 3) := by decide +kernel
theorem dX2_readLetter_8 : decode cX2_readLetter 8 = .ok (.ifCond .ne 5, 3) := by decide +kernel
theorem dX2_readLetter_11 : decode cX2_readLetter 11 = .ok (.iconst 0, 1) := by decide +kernel
theorem dX2_readLetter_12 : decode cX2_readLetter 12 = .ok (.ireturn, 1) := by decide +kernel
theorem dX2_readLetter_13 : decode cX2_readLetter 13 = .ok (.aload_n 0, 1) := by decide +kernel
theorem dX2_readLetter_14 : decode cX2_readLetter 14 = .ok (.aload_n 0, 1) := by decide +kernel
theorem dX2_readLetter_15 : decode cX2_readLetter 15 = .ok (.getfield 9, 3) := by decide +kernel
theorem dX2_readLetter_18 : decode cX2_readLetter 18 = .ok (.aload_n 0, 1) := by decide +kernel
theorem dX2_readLetter_19 : decode cX2_readLetter 19 = .ok (.getfield 15, 3) := by decide +kernel
theorem dX2_readLetter_22 : decode cX2_readLetter 22 = .ok (.caload, 1) := by decide +kernel
theorem dX2_readLetter_23 : decode cX2_readLetter 23 = .ok (.putfield 66, 3) := by decide +kernel
theorem dX2_readLetter_26 : decode cX2_readLetter 26 = .ok (.aload_n 0, 1) := by decide +kernel
theorem dX2_readLetter_27 : decode cX2_readLetter 27 = .ok (.dup, 1) := by decide +kernel
theorem dX2_readLetter_28 : decode cX2_readLetter 28 = .ok (.getfield 15, 3) := by decide +kernel
theorem dX2_readLetter_31 : decode cX2_readLetter 31 = .ok (.iconst 1, 1) := by decide +kernel
theorem dX2_readLetter_32 : decode cX2_readLetter 32 = .ok (.iadd, 1) := by decide +kernel
theorem dX2_readLetter_33 : decode cX2_readLetter 33 = .ok (.putfield 15, 3) := by decide +kernel
theorem dX2_readLetter_36 : decode cX2_readLetter 36 = .ok (.iconst 1, 1) := by decide +kernel
theorem dX2_readLetter_37 : decode cX2_readLetter 37 = .ok (.ireturn, 1) := by decide +kernel
theorem dX2_readWord_0 : decode cX2_readWord 0 = .ok (.iconst 0, 1) := by decide +kernel
theorem dX2_readWord_1 : decode cX2_readWord 1 = .ok (.istore_n 1, 1) := by decide +kernel
theorem dX2_readWord_2 : decode cX2_readWord 2 = .ok (.aload_n 0, 1) := by decide +kernel
theorem dX2_readWord_3 : decode cX2_readWord 3 = .ok (.iconst 0, 1) := by decide +kernel
theorem dX2_readWord_4 : decode cX2_readWord 4 = .ok (.putfield 63, 3) := by decide +kernel
theorem dX2_readWord_7 : decode cX2_readWord 7 = .ok (.iload_n 1, 1) := by decide +kernel
theorem dX2_readWord_8 : decode cX2_readWord 8 = .ok (.bipush 8, 2) := by decide +kernel
theorem dX2_readWord_10 : decode cX2_readWord 10 = .ok (.if_icmp .ge 37, 3) := by decide +kernel
theorem dX2_readWord_13 : decode cX2_readWord 13 = .ok (.aload_n 0, 1) := by decide +kernel
theorem dX2_readWord_14 : decode cX2_readWord 14 = .ok (.invokevirtual 49, 3) := by decide +kernel
theorem dX2_readWord_17 : decode cX2_readWord 17 = .ok (.ifCond .eq 30, 3) := by decide +kernel
theorem dX2_readWord_20 : decode cX2_readWord 20 = .ok (.aload_n 0, 1) := by decide +kernel
theorem dX2_readWord_21 : decode cX2_readWord 21 = .ok (.aload_n 0, 1) := by decide +kernel
theorem dX2_readWord_22 : decode cX2_readWord 22 = .ok (.getfield 63, 3) := by decide +kernel
theorem dX2_readWord_25 : decode cX2_readWord 25 = .ok (.bipush 10, 2) := by decide +kernel
theorem dX2_readWord_27 : decode cX2_readWord 27 = .ok (.imul, 1) := by decide +kernel
theorem dX2_readWord_28 : decode cX2_readWord 28 = .ok (.aload_n 0, 1) := by decide +kernel
theorem dX2_readWord_29 : decode cX2_readWord 29 = .ok (.getfield 66, 3) := by decide +kernel
theorem dX2_readWord_32 : decode cX2_readWord 32 = .ok (.iadd, 1) := by decide +kernel
theorem dX2_readWord_33 : decode cX2_readWord 33 = .ok (.bipush 97, 2) := by decide +kernel
theorem dX2_readWord_35 : decode cX2_readWord 35 = .ok (.isub, 1) := by decide +kernel
theorem dX2_readWord_36 : decode cX2_readWord 36 = .ok (.iconst 1, 1) := by decide +kernel
theorem dX2_readWord_37 : decode cX2_readWord 37 = .ok (.iadd, 1) := by decide +kernel
theorem dX2_readWord_38 : decode cX2_readWord 38 = .ok (.putfield 63, 3) := by decide +kernel
theorem dX2_readWord_41 : decode cX2_readWord 41 = .ok (.iinc 1 1, 3) := by decide +kernel
theorem dX2_readWord_44 : decode cX2_readWord 44 = .ok (.goto (-37), 3) := by decide +kernel
theorem dX2_readWord_47 : decode cX2_readWord 47 = .ok (.iload_n 1, 1) := by decide +kernel
theorem dX2_readWord_48 : decode cX2_readWord 48 = .ok (.iconst 3, 1) := by decide +kernel
theorem dX2_readWord_49 : decode cX2_readWord 49 = .ok (.if_icmp .lt 7, 3) := by decide +kernel
theorem dX2_readWord_52 : decode cX2_readWord 52 = .ok (.iconst 1, 1) := by decide +kernel
theorem dX2_readWord_53 : decode cX2_readWord 53 = .ok (.goto 4, 3) := by decide +kernel
theorem dX2_readWord_56 : decode cX2_readWord 56 = .ok (.iconst 0, 1) := by decide +kernel
theorem dX2_readWord_57 : decode cX2_readWord 57 = .ok (.ireturn, 1) := by decide +kernel
theorem dX3_init_0 : decode cX3_init 0 = .ok (.aload_n 0, 1) := by decide +kernel
theorem dX3_init_1 : decode cX3_init 1 = .ok (.invokespecial 3, 3) := by decide +kernel
theorem dX3_init_4 : decode cX3_init 4 = .ok (.aload_n 0, 1) := by decide +kernel
theorem dX3_init_5 : decode cX3_init 5 = .ok (.iconst 0, 1) := by decide +kernel
theorem dX3_init_6 : decode cX3_init 6 = .ok (.putfield 9, 3) := by decide +kernel
theorem dX3_init_9 : decode cX3_init 9 = .ok (.aload_n 0, 1) := by decide +kernel
theorem dX3_init_10 : decode cX3_init 10 = .ok (.iconst 0, 1) := by decide +kernel
theorem dX3_init_11 : decode cX3_init 11 = .ok (.putfield 15, 3) := by decide +kernel
theorem dX3_init_14 : decode cX3_init 14 = .ok (.return_, 1) := by decide +kernel
theorem dX3_become_0 : decode cX3_become 0 = .ok (.aload_n 0, 1) := by decide +kernel
theorem dX3_become_1 : decode cX3_become 1 = .ok (.iload_n 1, 1) := by decide +kernel
theorem dX3_become_2 : decode cX3_become 2 = .ok (.putfield 9, 3) := by decide +kernel
theorem dX3_become_5 : decode cX3_become 5 = .ok (.aload_n 0, 1) := by decide +kernel
theorem dX3_become_6 : decode cX3_become 6 = .ok (.iload_n 2, 1) := by decide +kernel
theorem dX3_become_7 : decode cX3_become 7 = .ok (.putfield 18, 3) := by decide +kernel
theorem dX3_become_10 : decode cX3_become 10 = .ok (.aload_n 0, 1) := by decide +kernel
theorem dX3_become_11 : decode cX3_become 11 = .ok (.iconst 0, 1) := by decide +kernel
theorem dX3_become_12 : decode cX3_become 12 = .ok (.putfield 15, 3) := by decide +kernel
theorem dX3_become_15 : decode cX3_become 15 = .ok (.aload_n 0, 1) := by decide +kernel
theorem dX3_become_16 : decode cX3_become 16 = .ok (.iconst 0, 1) := by decide +kernel
theorem dX3_become_17 : decode cX3_become 17 = .ok (.putfield 21, 3) := by decide +kernel
theorem dX3_become_20 : decode cX3_become 20 = .ok (.return_, 1) := by decide +kernel
theorem dX3_standBehind_0 : decode cX3_standBehind 0 = .ok (.aload_n 0, 1) := by decide +kernel
theorem dX3_standBehind_1 : decode cX3_standBehind 1 = .ok (.aload_n 0, 1) := by decide +kernel
theorem dX3_standBehind_2 : decode cX3_standBehind 2 = .ok (.getfield 9, 3) := by decide +kernel
theorem dX3_standBehind_5 : decode cX3_standBehind 5 = .ok (.putfield 15, 3) := by decide +kernel
theorem dX3_standBehind_8 : decode cX3_standBehind 8 = .ok (.aload_n 0, 1) := by decide +kernel
theorem dX3_standBehind_9 : decode cX3_standBehind 9 = .ok (.aload_n 0, 1) := by decide +kernel
theorem dX3_standBehind_10 : decode cX3_standBehind 10 = .ok (.getfield 18, 3) := by decide +kernel
theorem dX3_standBehind_13 : decode cX3_standBehind 13 = .ok (.putfield 21, 3) := by decide +kernel
theorem dX3_standBehind_16 : decode cX3_standBehind 16 = .ok (.aload_n 0, 1) := by decide +kernel
theorem dX3_standBehind_17 : decode cX3_standBehind 17 = .ok (.iload_n 1, 1) := by decide +kernel
theorem dX3_standBehind_18 : decode cX3_standBehind 18 = .ok (.putfield 9, 3) := by decide +kernel
theorem dX3_standBehind_21 : decode cX3_standBehind 21 = .ok (.aload_n 0, 1) := by decide +kernel
theorem dX3_standBehind_22 : decode cX3_standBehind 22 = .ok (.iload_n 2, 1) := by decide +kernel
theorem dX3_standBehind_23 : decode cX3_standBehind 23 = .ok (.putfield 18, 3) := by decide +kernel
theorem dX3_standBehind_26 : decode cX3_standBehind 26 = .ok (.return_, 1) := by decide +kernel
theorem dJx00060_init_a7421_0 : decode cJx00060_init_a7421 0 = .ok (.aload_n 0, 1) := by decide +kernel
theorem dJx00060_init_a7421_1 : decode cJx00060_init_a7421 1 = .ok (.aload_n 1, 1) := by decide +kernel
theorem dJx00060_init_a7421_2 : decode cJx00060_init_a7421 2 = .ok (.invokespecial 7, 3) := by decide +kernel
theorem dJx00060_init_a7421_5 : decode cJx00060_init_a7421 5 = .ok (.return_, 1) := by decide +kernel
theorem dJ6_bitCount_0f7a4_0 : decode cJ6_bitCount_0f7a4 0 = .ok (.iload_n 0, 1) := by decide +kernel
theorem dJ6_bitCount_0f7a4_1 : decode cJ6_bitCount_0f7a4 1 = .ok (.iload_n 0, 1) := by decide +kernel
theorem dJ6_bitCount_0f7a4_2 : decode cJ6_bitCount_0f7a4 2 = .ok (.iconst 1, 1) := by decide +kernel
theorem dJ6_bitCount_0f7a4_3 : decode cJ6_bitCount_0f7a4 3 = .ok (.iushr, 1) := by decide +kernel
theorem dJ6_bitCount_0f7a4_4 : decode cJ6_bitCount_0f7a4 4 = .ok (.ldc_w 265, 3) := by decide +kernel
theorem dJ6_bitCount_0f7a4_7 : decode cJ6_bitCount_0f7a4 7 = .ok (.iand, 1) := by decide +kernel
theorem dJ6_bitCount_0f7a4_8 : decode cJ6_bitCount_0f7a4 8 = .ok (.isub, 1) := by decide +kernel
theorem dJ6_bitCount_0f7a4_9 : decode cJ6_bitCount_0f7a4 9 = .ok (.istore_n 0, 1) := by decide +kernel
theorem dJ6_bitCount_0f7a4_10 : decode cJ6_bitCount_0f7a4 10 = .ok (.iload_n 0, 1) := by decide +kernel
theorem dJ6_bitCount_0f7a4_11 : decode cJ6_bitCount_0f7a4 11 = .ok (.ldc_w 266, 3) := by decide +kernel
theorem dJ6_bitCount_0f7a4_14 : decode cJ6_bitCount_0f7a4 14 = .ok (.iand, 1) := by decide +kernel
theorem dJ6_bitCount_0f7a4_15 : decode cJ6_bitCount_0f7a4 15 = .ok (.iload_n 0, 1) := by decide +kernel
theorem dJ6_bitCount_0f7a4_16 : decode cJ6_bitCount_0f7a4 16 = .ok (.iconst 2, 1) := by decide +kernel
theorem dJ6_bitCount_0f7a4_17 : decode cJ6_bitCount_0f7a4 17 = .ok (.iushr, 1) := by decide +kernel
theorem dJ6_bitCount_0f7a4_18 : decode cJ6_bitCount_0f7a4 18 = .ok (.ldc_w 266, 3) := by decide +kernel
theorem dJ6_bitCount_0f7a4_21 : decode cJ6_bitCount_0f7a4 21 = .ok (.iand, 1) := by decide +kernel
theorem dJ6_bitCount_0f7a4_22 : decode cJ6_bitCount_0f7a4 22 = .ok (.iadd, 1) := by decide +kernel
theorem dJ6_bitCount_0f7a4_23 : decode cJ6_bitCount_0f7a4 23 = .ok (.istore_n 0, 1) := by decide +kernel
theorem dJ6_bitCount_0f7a4_24 : decode cJ6_bitCount_0f7a4 24 = .ok (.iload_n 0, 1) := by decide +kernel
theorem dJ6_bitCount_0f7a4_25 : decode cJ6_bitCount_0f7a4 25 = .ok (.iload_n 0, 1) := by decide +kernel
theorem dJ6_bitCount_0f7a4_26 : decode cJ6_bitCount_0f7a4 26 = .ok (.iconst 4, 1) := by decide +kernel
theorem dJ6_bitCount_0f7a4_27 : decode cJ6_bitCount_0f7a4 27 = .ok (.iushr, 1) := by decide +kernel
theorem dJ6_bitCount_0f7a4_28 : decode cJ6_bitCount_0f7a4 28 = .ok (.iadd, 1) := by decide +kernel
theorem dJ6_bitCount_0f7a4_29 : decode cJ6_bitCount_0f7a4 29 = .ok (.ldc_w 267, 3) := by decide +kernel
theorem dJ6_bitCount_0f7a4_32 : decode cJ6_bitCount_0f7a4 32 = .ok (.iand, 1) := by decide +kernel
theorem dJ6_bitCount_0f7a4_33 : decode cJ6_bitCount_0f7a4 33 = .ok (.istore_n 0, 1) := by decide +kernel
theorem dJ6_bitCount_0f7a4_34 : decode cJ6_bitCount_0f7a4 34 = .ok (.iload_n 0, 1) := by decide +kernel
theorem dJ6_bitCount_0f7a4_35 : decode cJ6_bitCount_0f7a4 35 = .ok (.iload_n 0, 1) := by decide +kernel
theorem dJ6_bitCount_0f7a4_36 : decode cJ6_bitCount_0f7a4 36 = .ok (.bipush 8, 2) := by decide +kernel
theorem dJ6_bitCount_0f7a4_38 : decode cJ6_bitCount_0f7a4 38 = .ok (.iushr, 1) := by decide +kernel
theorem dJ6_bitCount_0f7a4_39 : decode cJ6_bitCount_0f7a4 39 = .ok (.iadd, 1) := by decide +kernel
theorem dJ6_bitCount_0f7a4_40 : decode cJ6_bitCount_0f7a4 40 = .ok (.istore_n 0, 1) := by decide +kernel
theorem dJ6_bitCount_0f7a4_41 : decode cJ6_bitCount_0f7a4 41 = .ok (.iload_n 0, 1) := by decide +kernel
theorem dJ6_bitCount_0f7a4_42 : decode cJ6_bitCount_0f7a4 42 = .ok (.iload_n 0, 1) := by decide +kernel
theorem dJ6_bitCount_0f7a4_43 : decode cJ6_bitCount_0f7a4 43 = .ok (.bipush 16, 2) := by decide +kernel
theorem dJ6_bitCount_0f7a4_45 : decode cJ6_bitCount_0f7a4 45 = .ok (.iushr, 1) := by decide +kernel
theorem dJ6_bitCount_0f7a4_46 : decode cJ6_bitCount_0f7a4 46 = .ok (.iadd, 1) := by decide +kernel
theorem dJ6_bitCount_0f7a4_47 : decode cJ6_bitCount_0f7a4 47 = .ok (.istore_n 0, 1) := by decide +kernel
theorem dJ6_bitCount_0f7a4_48 : decode cJ6_bitCount_0f7a4 48 = .ok (.iload_n 0, 1) := by decide +kernel
theorem dJ6_bitCount_0f7a4_49 : decode cJ6_bitCount_0f7a4 49 = .ok (.bipush 63, 2) := by decide +kernel
theorem dJ6_bitCount_0f7a4_51 : decode cJ6_bitCount_0f7a4 51 = .ok (.iand, 1) := by decide +kernel
theorem dJ6_bitCount_0f7a4_52 : decode cJ6_bitCount_0f7a4 52 = .ok (.ireturn, 1) := by decide +kernel
theorem dJ9_abs_0f7a4_0 : decode cJ9_abs_0f7a4 0 = .ok (.iload_n 0, 1) := by decide +kernel
theorem dJ9_abs_0f7a4_1 : decode cJ9_abs_0f7a4 1 = .ok (.ifCond .ge 8, 3) := by decide +kernel
theorem dJ9_abs_0f7a4_4 : decode cJ9_abs_0f7a4 4 = .ok (.iload_n 0, 1) := by decide +kernel
theorem dJ9_abs_0f7a4_5 : decode cJ9_abs_0f7a4 5 = .ok (.ineg, 1) := by decide +kernel
theorem dJ9_abs_0f7a4_6 : decode cJ9_abs_0f7a4 6 = .ok (.goto 4, 3) := by decide +kernel
theorem dJ9_abs_0f7a4_9 : decode cJ9_abs_0f7a4 9 = .ok (.iload_n 0, 1) := by decide +kernel
theorem dJ9_abs_0f7a4_10 : decode cJ9_abs_0f7a4 10 = .ok (.ireturn, 1) := by decide +kernel
theorem dJ9_max_7cf53_0 : decode cJ9_max_7cf53 0 = .ok (.iload_n 0, 1) := by decide +kernel
theorem dJ9_max_7cf53_1 : decode cJ9_max_7cf53 1 = .ok (.iload_n 1, 1) := by decide +kernel
theorem dJ9_max_7cf53_2 : decode cJ9_max_7cf53 2 = .ok (.if_icmp .lt 7, 3) := by decide +kernel
theorem dJ9_max_7cf53_5 : decode cJ9_max_7cf53 5 = .ok (.iload_n 0, 1) := by decide +kernel
theorem dJ9_max_7cf53_6 : decode cJ9_max_7cf53 6 = .ok (.goto 4, 3) := by decide +kernel
theorem dJ9_max_7cf53_9 : decode cJ9_max_7cf53 9 = .ok (.iload_n 1, 1) := by decide +kernel
theorem dJ9_max_7cf53_10 : decode cJ9_max_7cf53 10 = .ok (.ireturn, 1) := by decide +kernel
theorem dJ9_min_7cf53_0 : decode cJ9_min_7cf53 0 = .ok (.iload_n 0, 1) := by decide +kernel
theorem dJ9_min_7cf53_1 : decode cJ9_min_7cf53 1 = .ok (.iload_n 1, 1) := by decide +kernel
theorem dJ9_min_7cf53_2 : decode cJ9_min_7cf53 2 = .ok (.if_icmp .gt 7, 3) := by decide +kernel
theorem dJ9_min_7cf53_5 : decode cJ9_min_7cf53 5 = .ok (.iload_n 0, 1) := by decide +kernel
theorem dJ9_min_7cf53_6 : decode cJ9_min_7cf53 6 = .ok (.goto 4, 3) := by decide +kernel
theorem dJ9_min_7cf53_9 : decode cJ9_min_7cf53 9 = .ok (.iload_n 1, 1) := by decide +kernel
theorem dJ9_min_7cf53_10 : decode cJ9_min_7cf53 10 = .ok (.ireturn, 1) := by decide +kernel
